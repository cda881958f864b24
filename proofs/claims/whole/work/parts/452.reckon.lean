/-! the mill: least keys, the class -/
theorem mk_and : ∀ X S : Fin 32, ((nI X.val &&& nI S.val) = nI X.val) ↔ sbB X.val S.val = true := by decide +kernel
theorem mk_sub : ∀ S X : Fin 32, sbB X.val S.val = true → S.val - X.val = dfB S.val X.val := by decide +kernel
section
variable {np lim : Nat} {W K : Nat → Nat} {ls av : Nat → Nat}
theorem av_le {a : Nat → Nat} {num : Nat} (ha : ∀ k, k < 5 → a k < 10) (hw : ∀ p, W p < 10) (hn : num ≤ 7) (h : AP a W K lim num av) (X : Nat) : av X ≤ NW := by
  have nwv : NW = 268435456 := rfl
  by_cases c : okA a W K lim X
  · rw [(h X).1 c]
    have := fsk_lt (X := X) ha hw hn
    omega
  · rw [(h X).2 c]
    omega
theorem lj_loop {σ : Sg} {S : Nat} (hS : S < 32) (hl : ∀ X, X ≤ S → σ.1 46 X = nI (ls X) ∧ ls X ≤ NW) (ha : ∀ X, X ≤ S → σ.1 47 X = nI (av X) ∧ av X ≤ NW) : ∀ (d f X b : Nat), 0 < X → X + d = S + 1 → d < f → b ≤ ls S → (∀ Y, 0 < Y → Y < X → sbB Y S = true → b ≤ ls (dfB S Y) + av Y) → (b = ls S ∨ ∃ Y, 0 < Y ∧ Y < 32 ∧ sbB Y S = true ∧ b = ls (dfB S Y) + av Y) → ∃ b', f_Mi_leastJoined_21 f σ (nI S) (nI b) (nI X) = some (nI b') ∧ LJ ls av S b' := by
  have nwv : NW = 268435456 := rfl
  intro d
  induction d with
  | zero =>
    intro f X b h0 hX hf h1 h2 h3
    obtain ⟨m, rfl⟩ : ∃ m, f = m + 1 := ⟨f - 1, by omega⟩
    refine ⟨b, by rw [f_Mi_leastJoined_21_s, if_pos (nI_lt (by omega) (by omega))], h1, fun Y y0 _ ys => h2 Y y0 (by have := sb_le ys; omega) ys, h3⟩
  | succ d ih =>
    intro f X b h0 hX hf h1 h2 h3
    obtain ⟨m, rfl⟩ : ∃ m, f = m + 1 := ⟨f - 1, by omega⟩
    have ea : ((nI X &&& nI S) = nI X) ↔ sbB X S = true := mk_and ⟨X, by omega⟩ ⟨S, hS⟩
    rw [f_Mi_leastJoined_21_s, if_neg (nI_nlt (by omega) (by omega))]
    unfold f_Mi_leastJoined_53
    rw [nI_1]
    by_cases c : sbB X S = true
    · have es : S - X = dfB S X := mk_sub ⟨S, hS⟩ ⟨X, by omega⟩ c
      have dl : dfB S X ≤ S := Nat.and_le_left
      have bs := (hl S (Nat.le_refl _)).2
      obtain ⟨l1, l2⟩ := hl _ dl
      obtain ⟨a1, a2⟩ := ha X (by omega)
      rw [if_pos (ea.mpr c), pk_sub (by omega), es, gd_of (vin_nI (by omega) (by decide)), gd_of (vin_nI (by omega) (by decide)), nI_clamp (by omega), nI_clamp (by omega), l1, a1, nI_add]
      unfold f_JM_min
      by_cases q : ls (dfB S X) + av X < b
      · rw [if_pos (nI_lt q (by omega))]
        exact ih m (X + 1) _ (by omega) (by omega) (by omega) (by omega) (fun Y y0 y1 ys => by
          by_cases z : Y = X
          · subst z; exact Nat.le_refl _
          · have := h2 Y y0 (by omega) ys; omega) (Or.inr ⟨X, h0, by omega, c, rfl⟩)
      · rw [if_neg (nI_nlt (by omega) (by omega))]
        exact ih m (X + 1) b (by omega) (by omega) (by omega) h1 (fun Y y0 y1 ys => by
          by_cases z : Y = X
          · subst z; omega
          · exact h2 Y y0 (by omega) ys) h3
    · rw [if_neg (fun q => c (ea.mp q))]
      exact ih m (X + 1) b (by omega) (by omega) (by omega) h1 (fun Y y0 y1 ys => by
        by_cases z : Y = X
        · subst z; exact absurd ys c
        · exact h2 Y y0 (by omega) ys) h3
theorem lj_k {σ : Sg} {S : Nat} (hS : S < 32) (hl : ∀ X, X ≤ S → σ.1 46 X = nI (ls X) ∧ ls X ≤ NW) (ha : ∀ X, X ≤ S → σ.1 47 X = nI (av X) ∧ av X ≤ NW) : ∃ b, f_Mi_leastJoined σ (nI S) = some (nI b) ∧ LJ ls av S b := by
  unfold f_Mi_leastJoined
  rw [if_neg (n10 (below_yes (n := 32) hS (by decide) (by decide))), nI_clamp (by omega), (hl S (Nat.le_refl _)).1]
  exact lj_loop hS hl ha S FU 1 (ls S) (by omega) (by omega) (by unfold FU; omega) (Nat.le_refl _) (fun Y y0 y1 => by omega) (Or.inl rfl)
def K46 (σ σ' : Sg) : Prop := ∀ i k, i ≠ 46 → σ'.1 i k = σ.1 i k
theorem join_loop {N : Nat} (hN : N ≤ 32) (hls : ∀ X, X < N → ls X ≤ NW) : ∀ (S f : Nat) (σ : Sg) (l2 : Nat → Nat), S < N → S < f → (∀ X, X < N → σ.1 46 X = nI (l2 X)) → (∀ X, X ≤ S → l2 X = ls X) → (∀ X, S < X → X < N → LJ ls av X (l2 X)) → (∀ X, X < N → σ.1 47 X = nI (av X) ∧ av X ≤ NW) → ∃ (l3 : Nat → Nat) (σ' : Sg), f_Mi_join_5 f σ (nI S) = some σ' ∧ K46 σ σ' ∧ (∀ X, X < N → σ'.1 46 X = nI (l3 X)) ∧ l3 0 = ls 0 ∧ ∀ X, 0 < X → X < N → LJ ls av X (l3 X) := by
  intro S
  induction S with
  | zero =>
    intro f σ l2 hS hf h1 h2 h3 h4
    obtain ⟨m, rfl⟩ : ∃ m, f = m + 1 := ⟨f - 1, by omega⟩
    exact ⟨l2, σ, by rw [f_Mi_join_5_s, if_pos (show nI 0 < 1 by decide)], fun _ _ _ => rfl, h1, h2 0 (by omega), fun X x0 x1 => h3 X x0 x1⟩
  | succ S ih =>
    intro f σ l2 hS hf h1 h2 h3 h4
    obtain ⟨m, rfl⟩ : ∃ m, f = m + 1 := ⟨f - 1, by omega⟩
    obtain ⟨b, e1, e2⟩ := lj_k (σ := σ) (S := S + 1) (ls := ls) (av := av) (by omega) (fun X hX => ⟨by rw [h1 X (by omega), h2 X hX], hls X (by omega)⟩) (fun X hX => h4 X (by omega))
    obtain ⟨l3, lt, ln⟩ : ∃ l3 : Nat → Nat, l3 (S + 1) = b ∧ ∀ a, a ≠ S + 1 → l3 a = l2 a := ⟨fun a => if a = S + 1 then b else l2 a, if_pos rfl, fun a q => if_neg q⟩
    have hk : K46 σ (pI σ 46 (S + 1) (nI b)) := fun x y q => pI_ne (by omega)
    obtain ⟨l4, σ', k1, k2, k3, k4, k5⟩ := ih m (pI σ 46 (S + 1) (nI b)) l3 (by omega) (by omega) (fun X hX => by
      by_cases z : X = S + 1
      · subst z; rw [pI_eq, lt]
      · rw [pI_ne (by omega), ln X z]; exact h1 X hX) (fun X hX => by rw [ln X (by omega)]; exact h2 X (by omega)) (fun X x0 x1 => by
      by_cases z : X = S + 1
      · subst z; rw [lt]; exact e2
      · rw [ln X z]; exact h3 X (by omega) x1) (fun X hX => by rw [pI_ne (by omega)]; exact h4 X hX)
    refine ⟨l4, σ', ?_, fun x y q => (k2 x y q).trans (hk x y q), k3, k4, k5⟩
    rw [f_Mi_join_5_s, if_neg (show ¬ nI (S + 1) < 1 from nI_nlt (b := 1) (by omega) (by omega)), e1, Option.bind_some, gd_of (vin_nI (by omega) (by decide)), nI_clamp (by omega), pk_m1]
    exact k1
theorem all_k {σ : Sg} (h : CM np W K σ) : f_Mi_all σ = nI (2 ^ np - 1) := by
  have h5 := h.1
  have sh : ((1 : Int32) <<< (nI np &&& 31)) = nI (2 ^ np) := mk_sh1 ⟨np, by omega⟩
  unfold f_Mi_all
  rw [min5 h, sh]
  exact pk_sub (b := 1) Nat.one_le_two_pow
end
section
variable {nr np lim : Nat} {F : Nat → Nat → Nat} {W K : Nat → Nat} {wo : Int32}
/-- ropes and parts as the class holds them -/
def CW (nr : Nat) (F : Nat → Nat → Nat) (np : Nat) (W K : Nat → Nat) (σ : Sg) : Prop := nr ≤ 8 ∧ σ.1 5 3 = nI nr ∧ (∀ r, r < nr → RC (9 + r) (F r) σ) ∧ CM np W K σ
def K67 (σ σ' : Sg) : Prop := ∀ i k, i ≠ 46 → i ≠ 47 → σ'.1 i k = σ.1 i k
theorem K67.tr {σ σ' σ'' : Sg} (h1 : K67 σ σ') (h2 : K67 σ' σ'') : K67 σ σ'' := fun i k a b => (h2 i k a b).trans (h1 i k a b)
theorem CW.of {σ σ' : Sg} (h : CW nr F np W K σ) (e : K67 σ σ') : CW nr F np W K σ' := ⟨h.1, (e _ _ (by omega) (by omega)).trans h.2.1, fun r hr => (h.2.2.1 r hr).of (fun k => e _ _ (by have := h.1; omega) (by have := h.1; omega)), h.2.2.2.of (e _ _ (by omega) (by omega)) (fun _ => e _ _ (by omega) (by omega)) (fun _ => e _ _ (by omega) (by omega))⟩
theorem K67.kp {σ σ' : Sg} (h : K67 σ σ') : Kp σ σ' := fun i k w _ => h i k (by unfold scC at w; omega) (by unfold scC at w; omega)
theorem reckon_35 (hl : lim ≤ 999) : ∀ (d f j : Nat) (ls : Nat → Nat) (σ : Sg), CW nr F np W K σ → LPk F W K wo lim (fun r => r) (2 ^ np) j ls → (∀ X, X < 2 ^ np → σ.1 46 X = nI (ls X)) → j + d = nr → d < f → ∃ (l2 : Nat → Nat) (σ' : Sg), f_Mi_reckon_35 f σ wo (nI lim) (nI j) = some σ' ∧ K67 σ σ' ∧ LPk F W K wo lim (fun r => r) (2 ^ np) nr l2 ∧ ∀ X, X < 2 ^ np → σ'.1 46 X = nI (l2 X) := by
  intro d
  induction d with
  | zero =>
    intro f j ls σ hc hL h6 hj hf
    have h8 := hc.1
    obtain ⟨m, rfl⟩ : ∃ m, f = m + 1 := ⟨f - 1, by omega⟩
    have : j = nr := by omega
    subst this
    exact ⟨ls, σ, by rw [f_Mi_reckon_35_s, hc.2.1, if_pos (nI_le (Nat.le_refl _) (by omega))], fun _ _ _ _ => rfl, hL, h6⟩
  | succ d ih =>
    intro f j ls σ hc hL h6 hj hf
    have h8 := hc.1
    have hm := hc.2.2.2
    have n5 := hm.1
    have p32 : 2 ^ np ≤ 32 := p2_32 ⟨np, by omega⟩
    have p1 : 1 ≤ 2 ^ np := Nat.one_le_two_pow
    obtain ⟨m, rfl⟩ : ∃ m, f = m + 1 := ⟨f - 1, by omega⟩
    rw [f_Mi_reckon_35_s, hc.2.1, if_neg (nI_ge (by omega) (by omega))]
    unfold f_Mi_reckon_67
    rw [nI_1]
    by_cases cw : nI j = wo
    · rw [if_pos cw]
      exact ih m (j + 1) ls σ hc (LP_skip hL cw) h6 (by omega) (by omega)
    · rw [if_neg cw, rs_at (by omega)]
      have hr := hc.2.2.1 j (by omega)
      obtain ⟨av, hav⟩ := AP_ex (F j) W K lim j
      obtain ⟨σ1, e1, e2, e3⟩ := alone_k hav (show 9 + j ≠ 47 by omega) (show j ≤ 7 by omega) hl hr hm
      have k1 : K67 σ σ1 := fun x y _ q => e2 x y q
      have hc1 := hc.of k1
      obtain ⟨l2, σ2, g1, g2, g3, g4, g5⟩ := join_loop (ls := ls) (av := av) p32 (fun X hX => (hL X hX).1) (2 ^ np - 1) FU σ1 ls (by omega) (by unfold FU; omega) (fun X hX => by rw [e2 _ _ (by omega)]; exact h6 X hX) (fun X _ => rfl) (fun X x0 x1 => by omega) (fun X hX => ⟨e3 X hX, av_le hr.1 (fun p => (hm.2.1 p).1) (show j ≤ 7 by omega) hav X⟩)
      have k2 : K67 σ1 σ2 := fun x y q _ => g2 x y q
      have hL2 := LP_join (F := F) (num := fun r => r) p32 (fun S X hS => Nat.lt_of_le_of_lt Nat.and_le_left hS) hL hav cw g4 g5
      obtain ⟨l3, σ3, w1, w2, w3, w4⟩ := ih m (j + 1) l2 σ2 (hc1.of k2) hL2 g3 (by omega) (by omega)
      refine ⟨l3, σ3, ?_, (k1.tr k2).tr w2, w3, w4⟩
      have g1' : f_Mi_join σ1 = some σ2 := by
        unfold f_Mi_join
        rw [all_k hc1.2.2.2]
        exact g1
      rw [e1, Option.bind_some, g1', Option.bind_some]
      exact w1
theorem reckon_3 {v : Int32} : ∀ (d f i : Nat) (σ : Sg), (∀ X, 0 < X → X < i → σ.1 46 X = nI NW) → 0 < i → i + d = 32 → d < f → ∃ σ', f_Mi_reckon_3 f σ wo v (nI i) = f_Mi_reckon_35 FU (pI σ' 46 0 0) wo v 0 ∧ K46 σ σ' ∧ ∀ X, 0 < X → X < 32 → σ'.1 46 X = nI NW := by
  intro d
  induction d with
  | zero =>
    intro f i σ h h0 hi hf
    obtain ⟨m, rfl⟩ : ∃ m, f = m + 1 := ⟨f - 1, by omega⟩
    have : i = 32 := by omega
    subst this
    exact ⟨σ, by rw [f_Mi_reckon_3_s, if_pos (show (32 : Int32) ≤ nI 32 by decide)], fun _ _ _ => rfl, h⟩
  | succ d ih =>
    intro f i σ h h0 hi hf
    obtain ⟨m, rfl⟩ : ∃ m, f = m + 1 := ⟨f - 1, by omega⟩
    have hk : K46 σ (pI σ 46 i (nI NW)) := fun x y q => pI_ne (by omega)
    obtain ⟨σ', e1, e2, e3⟩ := ih m (i + 1) (pI σ 46 i (nI NW)) (fun X x0 x1 => by
      by_cases q : X = i
      · subst q; exact pI_eq
      · rw [pI_ne (by omega)]; exact h X x0 (by omega)) (by omega) (by omega) (by omega)
    refine ⟨σ', ?_, fun x y q => (e2 x y q).trans (hk x y q), e3⟩
    rw [f_Mi_reckon_3_s, if_neg (show ¬ (32 : Int32) ≤ nI i from nI_ge (b := 32) (by omega) (by omega)), gd_of (vin_nI (by omega) (by decide)), nI_clamp (by omega), nI_1]
    exact e1
theorem reckon_k {σ : Sg} (hl : lim ≤ 999) (hc : CW nr F np W K σ) : ∃ (ls : Nat → Nat) (σ' : Sg), f_Mi_reckon σ wo (nI lim) = some σ' ∧ K67 σ σ' ∧ LPk F W K wo lim (fun r => r) (2 ^ np) nr ls ∧ ∀ X, X < 2 ^ np → σ'.1 46 X = nI (ls X) := by
  have h8 := hc.1
  have n5 := hc.2.2.2.1
  have p32 : 2 ^ np ≤ 32 := p2_32 ⟨np, by omega⟩
  obtain ⟨σ1, e1, e2, e3⟩ := reckon_3 (wo := wo) (v := nI lim) 31 FU 1 σ (fun X x0 x1 => by omega) (by omega) (by omega) (by unfold FU; omega)
  have k1 : K67 σ (pI σ1 46 0 0) := fun x y q _ => by rw [pI_ne (by omega), e2 x y q]
  have z : ∀ q, ¬ (0 : Nat).testBit q = true := fun q => by rw [Nat.zero_testBit]; decide
  obtain ⟨ls, l0, ln⟩ : ∃ ls : Nat → Nat, ls 0 = 0 ∧ ∀ X, X ≠ 0 → ls X = NW := ⟨fun X => if X = 0 then 0 else NW, if_pos rfl, fun X q => if_neg q⟩
  obtain ⟨l2, σ2, g1, g2, g3, g4⟩ := reckon_35 (F := F) (wo := wo) hl nr FU 0 ls (pI σ1 46 0 0) (hc.of k1) (fun S hS => by
    by_cases s0 : S = 0
    · subst s0
      rw [l0]
      exact ⟨Nat.zero_le _, Or.inr ⟨fun _ => 0, ⟨fun p _ b => absurd b (z p), fun r hr => by omega⟩, (fs_zero (fun p _ b => absurd b (z p))).symm⟩, fun f _ => Nat.zero_le _⟩
    · rw [ln S s0]
      refine ⟨Nat.le_refl _, Or.inl rfl, fun f hf => ?_⟩
      obtain ⟨o, o1, o2⟩ := b_ex (show S < 32 by omega) (by omega)
      have := (hf.1 o o1 o2).1
      omega) (fun X hX => by
    by_cases x0 : X = 0
    · subst x0; rw [pI_eq, l0]; rfl
    · rw [pI_ne (by omega), ln X x0]; exact e3 X (by omega) (by omega)) (by omega) (by unfold FU; omega)
  exact ⟨l2, σ2, e1.trans g1, k1.tr g2, g3, g4⟩
theorem key_k {σ : Sg} {ls : Nat → Nat} (hc : CW nr F np W K σ) (h : ∀ X, X < 2 ^ np → σ.1 46 X = nI (ls X)) : f_Mi_leastKey σ = some (nI (ls (2 ^ np - 1))) := by
  have n5 := hc.2.2.2.1
  have p32 : 2 ^ np ≤ 32 := p2_32 ⟨np, by omega⟩
  have p1 : 1 ≤ 2 ^ np := Nat.one_le_two_pow
  unfold f_Mi_leastKey
  rw [all_k hc.2.2.2, gd_of (vin_nI (by omega) (by decide)), nI_clamp (by omega), h _ (by omega)]
end
