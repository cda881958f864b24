/-! put off: what both seek -/
section
variable {nr nt g : Nat} {fa T : Nat → Nat → Int32} {rk : Nat → Nat} {σ σ' : Sg}
theorem inj_surj : ∀ (n : Nat) (f : Nat → Nat), (∀ i, i < n → f i < n) → (∀ i j, i < n → j < n → f i = f j → i = j) → ∀ p, p < n → ∃ i, i < n ∧ f i = p := by
  intro n
  induction n with
  | zero => intro f _ _ p hp; omega
  | succ n ih =>
    intro f h1 h2 p hp
    have hq := h1 n (by omega)
    have hne : ∀ i, i < n → ¬ f i = f n := fun i hi e => by have := h2 i n (by omega) (by omega) e; omega
    have s1 : ∀ i, i < n → (if f i = n then f n else f i) < n := fun i hi => by
      have a := h1 i (by omega)
      have b := hne i hi
      split <;> omega
    have s2 : ∀ i j, i < n → j < n → (if f i = n then f n else f i) = (if f j = n then f n else f j) → i = j := fun i j hi hj e => by
      have a := hne i hi
      have b := hne j hj
      apply h2 i j (by omega) (by omega)
      split at e <;> split at e <;> omega
    have ih' := ih (fun i => if f i = n then f n else f i) s1 s2
    by_cases c : p = f n
    · exact ⟨n, by omega, c.symm⟩
    by_cases c2 : p = n
    · obtain ⟨i, hi, e⟩ := ih' (f n) (by omega)
      have b := hne i hi
      refine ⟨i, by omega, ?_⟩
      split at e <;> omega
    · obtain ⟨i, hi, e⟩ := ih' p (by omega)
      refine ⟨i, by omega, ?_⟩
      split at e <;> omega
theorem ranked_k (hc : CV nr fa rk σ) {p : Nat} (hp : p < nr) : ∃ r, r < nr ∧ rk r = p ∧ f_Rs_ranked σ (nI p) = nI r := by
  have h8 := hc.1
  obtain ⟨r, hr, e⟩ := inj_surj nr rk (fun r hr => (hc.2.2 r hr).2.2.2.2.1) (fun i j hi hj e => rk_inj hc hi hj e) p hp
  refine ⟨r, hr, e, ?_⟩
  unfold f_Rs_ranked
  rw [if_neg (n10 (below_yes (n := 8) (by omega) (by decide) (by decide))), nI_clamp (by omega), ← e]
  exact (hc.2.2 r hr).2.2.2.2.2
theorem col_up (hin : ∀ r k, r < nr → k < 6 → ∃ j : Nat, j < hiN k ∧ fa r k = nI j) (hg : g ≤ 9) {ra da x rb db y : Nat} (hrb : rb < nr) (hdb : db < 2) (h : colP fa g ra da x rb db y) : x < y + 40 := by
  obtain ⟨-, -, h3⟩ := min_k hin hrb hdb
  unfold colP at h
  by_cases c : ra = rb
  · rw [if_pos c] at h
    omega
  · rw [if_neg c] at h
    obtain ⟨-, h, -⟩ := h
    unfold moN at h
    rw [spN_comm fa rb ra] at h
    have a1 : apN fa rb ra db ≤ spN fa ra rb := by
      rw [apN_comm]
      unfold spN
      rcases (show db = 0 ∨ db = 1 by omega) with rfl | rfl <;> omega
    have a2 : mnN fa rb db * apN fa rb ra db ≤ 30 * spN fa ra rb := Nat.mul_le_mul h3 a1
    have a3 : g * spN fa ra rb ≤ 9 * spN fa ra rb := Nat.mul_le_mul hg (Nat.le_refl _)
    have a4 : x * spN fa ra rb < (y + 40) * spN fa ra rb := by
      rw [Nat.add_mul]
      generalize x * spN fa ra rb = X at h ⊢
      generalize y * spN fa ra rb = Y at h ⊢
      generalize mnN fa rb db * apN fa rb ra db = U at h a2
      generalize g * spN fa ra rb = V at h a3
      generalize mnN fa ra da * apN fa ra rb da = Z at h
      omega
    exact Nat.lt_of_mul_lt_mul_right a4
def rpT (T : Nat → Nat → Int32) (t : Nat) : Nat := (T t 0).toNatClampNeg
def sdT (T : Nat → Nat → Int32) (t : Nat) : Nat := (T t 1).toNatClampNeg
/-- trip t beginning at x collides with a that has begun -/
def hit1 (nr : Nat) (fa T : Nat → Nat → Int32) (g : Nat) (B : Nat → Nat) (dn : Nat → Prop) (t x a : Nat) : Prop := cntT nr T a ∧ dn a ∧ colP fa g (rpT T t) (sdT T t) x (rpT T a) (sdT T a) (B a)
def hit (nr nt : Nat) (fa T : Nat → Nat → Int32) (g : Nat) (B : Nat → Nat) (dn : Nat → Prop) (t x : Nat) : Prop := ∃ a, a < nt ∧ a ≠ t ∧ hit1 nr fa T g B dn t x a
theorem hit_up {B : Nat → Nat} {dn : Nat → Prop} {t x M : Nat} (hin : ∀ r k, r < nr → k < 6 → ∃ j : Nat, j < hiN k ∧ fa r k = nI j) (h8 : nr ≤ 8) (hI : ∀ t, t < nt → tOk (T t)) (hg : g ≤ 9) (hB : ∀ a, B a ≤ M) (h : hit nr nt fa T g B dn t x) : x < M + 40 := by
  obtain ⟨a, ha, -, c, -, h⟩ := h
  obtain ⟨a1, -, a3, -⟩ := cnt_rd h8 hI ha c
  have := col_up hin hg a1 a3 h
  have := hB a
  omega
theorem free_uniq {P : Nat → Prop} {x y z : Nat} (hy : x ≤ y) (h1 : ¬ P y) (h2 : ∀ w, x ≤ w → w < y → P w) (hz : x ≤ z) (h3 : ¬ P z) (h4 : ∀ w, x ≤ w → w < z → P w) : y = z := by
  rcases Nat.lt_trichotomy y z with h | h | h
  · exact absurd (h4 y hy h) h1
  · exact h
  · exact absurd (h2 z hz h) h3
/-- the first in the way -/
theorem fiw {t nt : Nat} {v : Int32} {P : Nat → Prop} (h20 : nt ≤ 20) (ht : t < nt) (hn : σ.1 18 2 = nI nt) (hP : ∀ o, o < nt → o ≠ t → (P o ∧ f_Tt_collide σ (nI t) (nI o) v = 1) ∨ (¬ P o ∧ f_Tt_collide σ (nI t) (nI o) v = 0)) : ∀ (d f i : Nat), i + d = nt → d < f → (∃ o, o < nt ∧ o ≠ t ∧ P o ∧ f_Tt_firstInWay_3 f σ (nI t) v (nI i) = some (nI o)) ∨ ((∀ o, i ≤ o → o < nt → o ≠ t → ¬ P o) ∧ f_Tt_firstInWay_3 f σ (nI t) v (nI i) = some (-1)) := by
  intro d
  induction d with
  | zero =>
    intro f i hi hf
    obtain ⟨m, rfl⟩ : ∃ m, f = m + 1 := ⟨f - 1, by omega⟩
    exact Or.inr ⟨fun o h1 h2 => by omega, by rw [f_Tt_firstInWay_3_s, hn, if_pos (nI_le (by omega) (by omega))]⟩
  | succ d ih =>
    intro f i hi hf
    obtain ⟨m, rfl⟩ : ∃ m, f = m + 1 := ⟨f - 1, by omega⟩
    rw [f_Tt_firstInWay_3_s, hn, if_neg (nI_ge (by omega) (by omega))]
    unfold f_Tt_firstInWay_35
    rw [nI_1]
    have h := ih m (i + 1) (by omega) (by omega)
    by_cases c : i = t
    · rw [if_pos (show nI i = nI t by rw [c])]
      rcases h with h | ⟨h, e⟩
      · exact Or.inl h
      · exact Or.inr ⟨fun o h1 h2 h3 => h o (by omega) h2 h3, e⟩
    · rw [if_neg (fun q => c ((nI_eq (by omega) (by omega)).mp q))]
      rcases hP i (by omega) c with ⟨p1, p2⟩ | ⟨p1, p2⟩
      · rw [if_neg (show ¬ f_Tt_collide σ (nI t) (nI i) v = 0 by rw [p2]; decide)]
        exact Or.inl ⟨i, by omega, c, p1, rfl⟩
      · rw [if_pos p2]
        rcases h with h | ⟨h, e⟩
        · exact Or.inl h
        · exact Or.inr ⟨fun o h1 h2 h3 => by
            by_cases q : o = i
            · subst q; exact p1
            · exact h o (by omega) h2 h3, e⟩
/-- which trips have begun in the class's timetable, t at x -/
def CS (nr nt : Nat) (T : Nat → Nat → Int32) (B : Nat → Nat) (dn : Nat → Prop) (t : Nat) (σ : Sg) : Prop := ∀ a, a < nt → a ≠ t → (cntT nr T a ∧ dn a → σ.1 42 a = nI (B a)) ∧ (¬ (cntT nr T a ∧ dn a) → σ.1 42 a = -1)
theorem cs_col {B : Nat → Nat} {dn : Nat → Prop} {t x M : Nat} (hc : CV nr fa rk σ) (hin : ∀ r k, r < nr → k < 6 → ∃ j : Nat, j < hiN k ∧ fa r k = nI j) (hC : TC nt T σ) (hI : ∀ t, t < nt → tOk (T t)) (hg : g ≤ 9) (hB : ∀ a, B a ≤ M) (hM : M < 10000) (ht : t < nt) (ct : cntT nr T t) (hx : x < 2 ^ 20) (h : CS nr nt T B dn t σ) (hs : σ.1 42 t = nI x) : ∀ o, o < nt → o ≠ t → (hit1 nr fa T g B dn t x o ∧ f_Tt_collide σ (nI t) (nI o) (nI g) = 1) ∨ (¬ hit1 nr fa T g B dn t x o ∧ f_Tt_collide σ (nI t) (nI o) (nI g) = 0) := by
  intro o ho hot
  have h20 := hC.1
  by_cases c : cntT nr T o ∧ dn o
  · obtain ⟨a1, a2, a3, a4⟩ := cnt_rd hc.1 hI ht ct
    obtain ⟨b1, b2, b3, b4⟩ := cnt_rd hc.1 hI ho c.1
    have hb := hB o
    have k := collide_k hc hin hC hg ht ho a1 b1 a3 b3 hx (y := B o) (by omega) a2 a4 b2 b4 hs ((h o ho hot).1 c)
    by_cases q : colP fa g (rpT T t) (sdT T t) x (rpT T o) (sdT T o) (B o)
    · exact Or.inl ⟨⟨c.1, c.2, q⟩, k.1 q⟩
    · exact Or.inr ⟨fun w => q w.2.2, k.2 q⟩
  · refine Or.inr ⟨fun w => c ⟨w.1, w.2.1⟩, ?_⟩
    unfold f_Tt_collide
    rw [st_at (show t < 20 by omega), st_at (show o < 20 by omega), (h o ho hot).2 c, if_pos (rfl : (-1 : Int32) = -1), ite_self]
end
