/-! put off: one trip -/
section
variable {nr nt g : Nat} {fa T : Nat → Nat → Int32} {rk : Nat → Nat}
theorem next_k {σ : Sg} {B : Nat → Nat} {t x o : Nat} (hc : CV nr fa rk σ) (hin : ∀ r k, r < nr → k < 6 → ∃ j : Nat, j < hiN k ∧ fa r k = nI j) (hC : TC nt T σ) (hI : ∀ t, t < nt → tOk (T t)) (ht : t < nt) (ho : o < nt) (ct : cntT nr T t) (co : cntT nr T o) (hs : σ.1 42 t = nI x) (hso : σ.1 42 o = nI (B o)) : (rpT T t = rpT T o → f_Tt_nextMinute σ (nI t) (nI o) = nI (B o + mnN fa (rpT T o) (sdT T o))) ∧ (¬ rpT T t = rpT T o → f_Tt_nextMinute σ (nI t) (nI o) = nI (x + 1)) := by
  have h20 := hC.1
  have h8 := hc.1
  obtain ⟨a1, a2, a3, a4⟩ := cnt_rd hc.1 hI ht ct
  obtain ⟨b1, b2, b3, b4⟩ := cnt_rd hc.1 hI ho co
  unfold f_Tt_nextMinute
  rw [ts_at (show t < 20 by omega), ts_at (show o < 20 by omega), hC.2.2 t 0 ht (by omega), hC.2.2 o 0 ho (by omega), hC.2.2 o 1 ho (by omega), st_at (show t < 20 by omega), st_at (show o < 20 by omega), hs, hso, nI_1]
  constructor
  · intro e
    have e' : T t 0 = T o 0 := by rw [a2, b2]; exact congrArg nI e
    rw [if_pos e', b2, b4, rs_at (by omega), minutes_k hc b1 b3, (min_k hin b1 b3).1, nI_add]
    rfl
  · intro e
    rw [if_neg (fun q => e (congrArg Int32.toNatClampNeg q))]
theorem delay_k {B : Nat → Nat} {dn : Nat → Prop} {t M : Nat} (hin : ∀ r k, r < nr → k < 6 → ∃ j : Nat, j < hiN k ∧ fa r k = nI j) (hI : ∀ t, t < nt → tOk (T t)) (hg : g ≤ 9) (hB : ∀ a, B a ≤ M) (hM : M < 10000) (ht : t < nt) (ct : cntT nr T t) : ∀ (d f j x : Nat) (σ : Sg), CV nr fa rk σ → TC nt T σ → CS nr nt T B dn t σ → σ.1 42 t = nI x → M + 40 ≤ x + d → x ≤ M + 40 → d < f → j + d < 100000 → ∃ y σ', f_Tt_delay_16 f σ (nI t) (nI g) (nI j) = some σ' ∧ x ≤ y ∧ y ≤ M + 40 ∧ ¬ hit nr nt fa T g B dn t y ∧ (∀ w, x ≤ w → w < y → hit nr nt fa T g B dn t w) ∧ σ'.1 42 t = nI y ∧ (∀ a b, ¬ (a = 42 ∧ b = t) → σ'.1 a b = σ.1 a b) := by
  intro d
  induction d with
  | zero =>
    intro f j x σ hc hC hS hs hL hx hf hj
    obtain ⟨m, rfl⟩ : ∃ m, f = m + 1 := ⟨f - 1, by omega⟩
    have h20 := hC.1
    have hw := fiw h20 ht hC.2.1 (cs_col hc hin hC hI hg hB hM ht ct (x := x) (by omega) hS hs) nt FU 0 (by omega) (by unfold FU; omega)
    rw [f_Tt_delay_16_s, if_neg (show ¬ (100000 : Int32) ≤ nI j from nI_ge (b := 100000) (by omega) (by omega))]
    rcases hw with ⟨o, o1, o2, o3, -⟩ | ⟨w1, w2⟩
    · have := hit_up hin hc.1 hI hg hB ⟨o, o1, o2, o3⟩
      omega
    · have w2' : f_Tt_firstInWay σ (nI t) (nI g) = some (-1) := w2
      rw [w2', Option.bind_some, if_pos rfl]
      exact ⟨x, σ, rfl, Nat.le_refl _, hx, fun ⟨a, a1, a2, a3⟩ => w1 a (by omega) a1 a2 a3, fun w q1 q2 => by omega, hs, fun _ _ _ => rfl⟩
  | succ d ih =>
    intro f j x σ hc hC hS hs hL hx hf hj
    obtain ⟨m, rfl⟩ : ∃ m, f = m + 1 := ⟨f - 1, by omega⟩
    have h20 := hC.1
    have hw := fiw h20 ht hC.2.1 (cs_col hc hin hC hI hg hB hM ht ct (x := x) (by omega) hS hs) nt FU 0 (by omega) (by unfold FU; omega)
    rw [f_Tt_delay_16_s, if_neg (show ¬ (100000 : Int32) ≤ nI j from nI_ge (b := 100000) (by omega) (by omega))]
    rcases hw with ⟨o, o1, o2, o3, w2⟩ | ⟨w1, w2⟩
    · have hx2 := hit_up hin hc.1 hI hg hB ⟨o, o1, o2, o3⟩
      have w2' : f_Tt_firstInWay σ (nI t) (nI g) = some (nI o) := w2
      obtain ⟨b1, b2, b3, b4⟩ := cnt_rd hc.1 hI o1 o3.1
      have nk := next_k (B := B) hc hin hC hI ht o1 ct o3.1 hs ((hS o o1 o2).1 ⟨o3.1, o3.2.1⟩)
      have key : ∃ x', f_Tt_nextMinute σ (nI t) (nI o) = nI x' ∧ x < x' ∧ x' ≤ M + 40 ∧ ∀ w, x ≤ w → w < x' → hit nr nt fa T g B dn t w := by
        by_cases c : rpT T t = rpT T o
        · refine ⟨_, nk.1 c, ?_, ?_, fun w q1 q2 => ⟨o, o1, o2, o3.1, o3.2.1, ?_⟩⟩
          · have q := o3.2.2
            unfold colP at q
            rw [if_pos c] at q
            exact q.1
          · have := (min_k hin b1 b3).2.2
            have := hB o
            unfold rpT sdT
            omega
          · have q := o3.2.2
            unfold colP at q ⊢
            rw [if_pos c] at q ⊢
            omega
        · refine ⟨_, nk.2 c, by omega, by omega, fun w q1 q2 => ?_⟩
          have : w = x := by omega
          subst this
          exact ⟨o, o1, o2, o3⟩
      obtain ⟨x', e1, e2, e3, e4⟩ := key
      have hk : K42 σ (pI σ 42 t (nI x')) := fun a b q => pI_ne (by omega)
      obtain ⟨y, σ', y1, y2, y3, y4, y5, y6, y7⟩ := ih m (j + 1) x' (pI σ 42 t (nI x')) (hk.cv hc) (hC.of hk.kp) (fun a ha hat => by rw [pI_ne (by omega)]; exact hS a ha hat) pI_eq (by omega) e3 (by omega) (by omega)
      rw [w2', Option.bind_some, if_neg (nI_m1 (by omega)), e1, begin_k (by omega), Option.bind_some, nI_1]
      refine ⟨y, σ', y1, by omega, y3, y4, fun w q1 q2 => ?_, y6, fun a b q => (y7 a b q).trans (pI_ne q)⟩
      by_cases c : w < x'
      · exact e4 w q1 c
      · exact y5 w (by omega) q2
    · have w2' : f_Tt_firstInWay σ (nI t) (nI g) = some (-1) := w2
      rw [w2', Option.bind_some, if_pos rfl]
      exact ⟨x, σ, rfl, Nat.le_refl _, hx, fun ⟨a, a1, a2, a3⟩ => w1 a (by omega) a1 a2 a3, fun w q1 q2 => by omega, hs, fun _ _ _ => rfl⟩
/-- one goes ahead of another one -/
def ahd (rk : Nat → Nat) (T : Nat → Nat → Int32) (a t : Nat) : Prop := rk (rpT T a) < rk (rpT T t) ∨ (rk (rpT T a) = rk (rpT T t) ∧ a < t)
theorem ahead_k {σ : Sg} (hm : MV' nr fa rk σ) (hM : TM nt T σ) (hI : ∀ t, t < nt → tOk (T t)) (hrk : ∀ r, r < nr → rk r < nr) {a t : Nat} (ha : a < nt) (ht : t < nt) (ca : cntT nr T a) (ct : cntT nr T t) : (ahd rk T a t → f_Md_isAhead σ (nI a) (nI t) = some 1) ∧ (¬ ahd rk T a t → f_Md_isAhead σ (nI a) (nI t) = some 0) := by
  have h20 := hM.1
  have h8 := hm.1
  obtain ⟨a1, a2, -, -⟩ := cnt_rd hm.1 hI ha ca
  obtain ⟨b1, b2, -, -⟩ := cnt_rd hm.1 hI ht ct
  have y0 := hM.get (t := a) (k := 0) ha (by omega)
  have y1 := hM.get (t := t) (k := 0) ht (by omega)
  have ra := hrk _ a1
  have rb := hrk _ b1
  unfold f_Md_isAhead ahd rpT
  rw [five_0, five_0, gd_of y0.1, gd_of y1.1, y0.2, y1.2, gd_of (show vin (T a 0) 8 = true by rw [a2]; exact vin_nI (by omega) (by decide)), gd_of (show vin (T t 0) 8 = true by rw [b2]; exact vin_nI (by omega) (by decide)), hm.2.2.2 _ a1, hm.2.2.2 _ b1]
  generalize rk (T a 0).toNatClampNeg = u at *
  generalize rk (T t 0).toNatClampNeg = w at *
  constructor
  · rintro (h | ⟨h1, h2⟩)
    · rw [if_pos (nI_lt h (by omega))]
    · rw [if_neg (nI_nlt (by omega) (by omega)), if_pos (show nI u = nI w by rw [h1]), if_neg (nI_ge h2 (by omega))]
  · intro h
    rw [if_neg (nI_nlt (by omega) (by omega))]
    by_cases c : u = w
    · rw [if_pos (show nI u = nI w by rw [c]), if_pos (nI_le (by omega) (by omega))]
    · rw [if_neg (fun q => c ((nI_eq (by omega) (by omega)).mp q))]
theorem cah {t : Nat} {P : Nat → Prop} {σ0 : Sg} (hm0 : MV' nr fa rk σ0) (hM0 : TM nt T σ0) (hI : ∀ t, t < nt → tOk (T t)) (hrk : ∀ r, r < nr → rk r < nr) (ht : t < nt) (ct : cntT nr T t) (hP : ∀ σ a, KPl σ0 σ → a < nt → a ≠ t → ∃ v σ', f_Md_doClash σ (nI a) (nI t) = some (v, σ') ∧ ((P a ∧ v = 1) ∨ (¬ P a ∧ v = 0)) ∧ KPl σ0 σ') : ∀ (d f i : Nat) (w : Int32) (σ : Sg), KPl σ0 σ → i + d = nt → d < f → (w = 0 ∨ w = 1) → ∃ v σ', f_Md_clashesAhead_4 f σ (nI t) w (nI i) = some (v, σ') ∧ KPl σ0 σ' ∧ ((v = 1 ∧ (w = 1 ∨ ∃ a, a < nt ∧ a ≠ t ∧ cntT nr T a ∧ ahd rk T a t ∧ P a)) ∨ (v = 0 ∧ w = 0 ∧ ∀ a, i ≤ a → a < nt → a ≠ t → cntT nr T a → ahd rk T a t → ¬ P a)) := by
  have h20 := hM0.1
  intro d
  induction d with
  | zero =>
    intro f i w σ hk hi hf hw
    obtain ⟨m, rfl⟩ : ∃ m, f = m + 1 := ⟨f - 1, by omega⟩
    have hM : TM nt T σ := hM0.of hk.kp
    rw [f_Md_clashesAhead_4_s, hM.2.1, if_pos (nI_le (by omega) (by omega))]
    rcases hw with rfl | rfl
    · exact ⟨_, σ, rfl, hk, Or.inr ⟨zb0, rfl, fun a q1 q2 => by omega⟩⟩
    · exact ⟨_, σ, rfl, hk, Or.inl ⟨zb1, Or.inl rfl⟩⟩
  | succ d ih =>
    intro f i w σ hk hi hf hw
    obtain ⟨m, rfl⟩ : ∃ m, f = m + 1 := ⟨f - 1, by omega⟩
    have hM : TM nt T σ := hM0.of hk.kp
    have hm : MV' nr fa rk σ := hm0.of (hk _ _ (by omega)) (fun k => hk _ _ (by omega)) (fun k => hk _ _ (by omega))
    rw [f_Md_clashesAhead_4_s, hM.2.1, if_neg (nI_ge (by omega) (by omega))]
    unfold f_Md_clashesAhead_51 f_Md_clashesAhead_47 f_Md_clashesAhead_52
    rw [nI_1]
    rcases hw with rfl | rfl
    · rw [if_pos rfl]
      have skip : (i ≠ t → cntT nr T i → ahd rk T i t → ¬ P i) → ∀ σ1, KPl σ0 σ1 → ∃ v σ', f_Md_clashesAhead_4 m σ1 (nI t) 0 (nI (i + 1)) = some (v, σ') ∧ KPl σ0 σ' ∧ ((v = 1 ∧ ((0 : Int32) = 1 ∨ ∃ a, a < nt ∧ a ≠ t ∧ cntT nr T a ∧ ahd rk T a t ∧ P a)) ∨ (v = 0 ∧ (0 : Int32) = 0 ∧ ∀ a, i ≤ a → a < nt → a ≠ t → cntT nr T a → ahd rk T a t → ¬ P a)) := fun hn σ1 hk1 => by
        obtain ⟨v, σ', e1, e2, e3⟩ := ih m (i + 1) 0 σ1 hk1 (by omega) (by omega) (Or.inl rfl)
        refine ⟨v, σ', e1, e2, ?_⟩
        rcases e3 with e3 | ⟨e3, -, e4⟩
        · exact Or.inl e3
        · exact Or.inr ⟨e3, rfl, fun a q1 q2 q3 q4 q5 => by
            by_cases c : a = i
            · subst c; exact hn q3 q4 q5
            · exact e4 a (by omega) q2 q3 q4 q5⟩
      by_cases c : i = t
      · rw [if_pos (show nI i = nI t by rw [c])]
        exact skip (fun q => absurd c q) σ hk
      rw [if_neg (fun q => c ((nI_eq (by omega) (by omega)).mp q)), counts_k hm hM (by omega), Option.bind_some]
      by_cases ci : isR nr (T i 0) = true
      · rw [if_pos ci, if_neg (show ¬ (1 : Int32) = 0 by decide)]
        have ak := ahead_k hm hM hI hrk (a := i) (t := t) (by omega) ht ci ct
        by_cases ca : ahd rk T i t
        · rw [ak.1 ca, Option.bind_some, if_neg (show ¬ (1 : Int32) = 0 by decide)]
          obtain ⟨v, σ1, d1, d2, d3⟩ := hP σ i hk (by omega) c
          rw [d1, bd_s]
          rcases d2 with ⟨p1, p2⟩ | ⟨p1, p2⟩
          · rw [if_neg (show ¬ v = 0 by rw [p2]; decide)]
            obtain ⟨u, σ', e1, e2, e3⟩ := ih m (i + 1) 1 σ1 d3 (by omega) (by omega) (Or.inr rfl)
            refine ⟨u, σ', e1, e2, ?_⟩
            rcases e3 with ⟨e3, -⟩ | ⟨-, e3, -⟩
            · exact Or.inl ⟨e3, Or.inr ⟨i, by omega, c, ci, ca, p1⟩⟩
            · exact absurd e3 (by decide)
          · rw [if_pos p2]
            exact skip (fun _ _ _ => p1) σ1 d3
        · rw [ak.2 ca, Option.bind_some, if_pos rfl]
          exact skip (fun _ _ q => absurd q ca) σ hk
      · rw [if_neg ci, if_pos rfl]
        exact skip (fun _ q => absurd q ci) σ hk
    · rw [if_neg (show ¬ (1 : Int32) = 0 by decide)]
      obtain ⟨v, σ', e1, e2, e3⟩ := ih m (i + 1) 1 σ hk (by omega) (by omega) (Or.inr rfl)
      refine ⟨v, σ', e1, e2, ?_⟩
      rcases e3 with ⟨e3, -⟩ | ⟨-, e3, -⟩
      · exact Or.inl ⟨e3, Or.inl rfl⟩
      · exact absurd e3 (by decide)
end
