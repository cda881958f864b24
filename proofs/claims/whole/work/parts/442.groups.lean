/-! settled: the class's groups -/
section
variable {M : Nat → Int32}
theorem cg_in {k2 : Sg → Int32 → Option (Int32 × Sg)} {c : Nat → Nat} {A : Nat} (hA0 : 0 < A) (hA : A < 32) : ∀ (d f i mo : Nat) (σ : Sg), (∀ o, o < 5 → σ.1 50 o = M o) → (∀ X, X < A → σ.1 51 X = sS M X ∧ σ.1 52 X = nI (c X) ∧ c X ≤ X) → i + d = 5 → d < f → (∀ o, o < i → A.testBit o = true → σ.1 51 A = sS M A) → (∀ o, o < i → A.testBit o = true → c (rmB A o) ≤ mo) → (mo = 0 ∨ ∃ o, o < i ∧ A.testBit o = true ∧ mo = c (rmB A o)) → ∃ v σ', f_Fe_mostGroups_12 k2 f σ (nI A) (nI mo) (nI i) = k2 σ' (nI (A + 1)) ∧ (∀ a b, ¬ ((a = 51 ∨ a = 52) ∧ b = A) → σ'.1 a b = σ.1 a b) ∧ σ'.1 51 A = sS M A ∧ σ'.1 52 A = nI v ∧ v ≤ A ∧ (∀ o, o < 5 → A.testBit o = true → c (rmB A o) + eS M A ≤ v) ∧ ∃ o, o < 5 ∧ A.testBit o = true ∧ v = c (rmB A o) + eS M A := by
  intro d
  induction d with
  | zero =>
    intro f i mo σ hM hX hi hf h1 h2 h3
    obtain ⟨m, rfl⟩ : ∃ m, f = m + 1 := ⟨f - 1, by omega⟩
    have : i = 5 := by omega
    subst this
    obtain ⟨o, o1, o2⟩ := b_ex hA hA0
    have hs := h1 o o1 o2
    obtain ⟨q, q1, q2, q3⟩ : ∃ o, o < 5 ∧ A.testBit o = true ∧ mo = c (rmB A o) := by
      rcases h3 with h3 | h3
      · exact ⟨o, o1, o2, by have := h2 o o1 o2; omega⟩
      · exact h3
    have ql := rm_l hA q1 q2
    have qc := (hX _ ql).2.2
    have e : f_Fe_mostGroups_12 k2 (m + 1) σ (nI A) (nI mo) (nI 5) = k2 (pI σ 52 A (nI (mo + eS M A))) (nI (A + 1)) := by
      rw [f_Fe_mostGroups_12_s, if_pos (show (5 : Int32) ≤ nI 5 by decide)]
      unfold f_Fe_mostGroups_91
      rw [gd_of (vin_nI hA (by decide)), gd_of (vin_nI hA (by decide)), gd_of (vin_nI hA (by decide)), nI_clamp (by omega), hs, nI_1, nI_1]
      unfold eS
      by_cases z : sS M A = 0
      · rw [if_pos z, if_pos z]
      · rw [if_neg z, if_neg z]; rfl
    refine ⟨mo + eS M A, _, e, fun a b g => pI_ne (by omega), by rw [pI_ne (by omega)]; exact hs, pI_eq, ?_, fun o o1 o2 => by have := h2 o o1 o2; omega, q, q1, q2, by omega⟩
    unfold eS
    split <;> omega
  | succ d ih =>
    intro f i mo σ hM hX hi hf h1 h2 h3
    obtain ⟨m, rfl⟩ : ∃ m, f = m + 1 := ⟨f - 1, by omega⟩
    have er : (nI A &&& (((1 : Int32) <<< (nI i &&& 31)) ^^^ (-1))) = nI (rmB A i) := mk_rm ⟨A, hA⟩ ⟨i, by omega⟩
    rw [f_Fe_mostGroups_12_s, if_neg (show ¬ (5 : Int32) ≤ nI i from nI_ge (b := 5) (by omega) (by omega)), er]
    unfold f_Fe_mostGroups_64
    rw [nI_1 i]
    by_cases b : A.testBit i = true
    · have l := rm_l hA (by omega) b
      obtain ⟨x1, x2, x3⟩ := hX _ l
      rw [if_neg (fun q => by have := (nI_eq (by omega) (by omega)).mp q; omega), gd_of (vin_nI (show rmB A i < 32 by omega) (by decide)), gd_of (vin_nI (show i < 5 by omega) (by decide)), gd_of (vin_nI hA (by decide)), gd_of (vin_nI (show rmB A i < 32 by omega) (by decide)), nI_clamp (show A < 2 ^ 31 by omega), nI_clamp (show i < 2 ^ 31 by omega), nI_clamp (show rmB A i < 2 ^ 31 by omega), pI_ne (show ¬ (52 = 51 ∧ rmB A i = A) by omega), x1, x2, hM i (by omega), ← sS_rm hA (by omega) b]
      obtain ⟨mo', e1, e2, e3, e4⟩ : ∃ mo', f_JM_max (nI mo) (nI (c (rmB A i))) = nI mo' ∧ mo ≤ mo' ∧ c (rmB A i) ≤ mo' ∧ (mo' = mo ∨ mo' = c (rmB A i)) := by
        have hmo : mo ≤ 32 := by
          rcases h3 with h3 | ⟨o, o1, o2, o3⟩
          · omega
          · have l2 := rm_l hA (show o < 5 by omega) o2
            have := (hX _ l2).2.2
            omega
        unfold f_JM_max
        by_cases q : mo < c (rmB A i)
        · rw [if_pos (nI_lt q (by omega))]
          exact ⟨_, rfl, by omega, by omega, Or.inr rfl⟩
        · rw [if_neg (nI_nlt (by omega) (by omega))]
          exact ⟨_, rfl, by omega, by omega, Or.inl rfl⟩
      rw [e1]
      obtain ⟨v, σ', k1, k2', k3⟩ := ih m (i + 1) mo' (pI σ 51 A (sS M A)) (fun o ho => by rw [pI_ne (by omega)]; exact hM o ho) (fun X hXA => by rw [pI_ne (by omega), pI_ne (by omega)]; exact hX X hXA) (by omega) (by omega) (fun o _ _ => pI_eq) (fun o o1 o2 => by
        by_cases q : o = i
        · subst q; exact e3
        · have := h2 o (by omega) o2; omega) (by
        rcases e4 with e4 | e4
        · rcases h3 with h3 | ⟨o, o1, o2, o3⟩
          · exact Or.inl (by omega)
          · exact Or.inr ⟨o, by omega, o2, by omega⟩
        · exact Or.inr ⟨i, by omega, b, e4⟩)
      exact ⟨v, σ', k1, fun a z g => (k2' a z g).trans (pI_ne (by omega)), k3⟩
    · have e : rmB A i = A := mk_rmn ⟨A, hA⟩ ⟨i, by omega⟩ b
      rw [if_pos (show nI (rmB A i) = nI A by rw [e])]
      exact ih m (i + 1) mo σ hM hX (by omega) (by omega) (fun o o1 o2 => by
        by_cases q : o = i
        · subst q; exact absurd o2 b
        · exact h1 o (by omega) o2) (fun o o1 o2 => by
        by_cases q : o = i
        · subst q; exact absurd o2 b
        · exact h2 o (by omega) o2) (by
        rcases h3 with h3 | ⟨o, o1, o2, o3⟩
        · exact Or.inl h3
        · exact Or.inr ⟨o, by omega, o2, o3⟩)
theorem cg_out : ∀ (d f A : Nat) (c : Nat → Nat) (σ : Sg), (∀ o, o < 5 → σ.1 50 o = M o) → (∀ X, X < A → σ.1 51 X = sS M X ∧ σ.1 52 X = nI (c X) ∧ c X ≤ X) → CP M c A → 0 < A → A + d = 32 → d < f → ∃ c' σ', f_Fe_mostGroups_2 f σ (nI A) = some (nI (c' 31), σ') ∧ CP M c' 32 ∧ c' 31 ≤ 31 ∧ (∀ a b, ¬ ((a = 51 ∨ a = 52) ∧ 0 < b) → σ'.1 a b = σ.1 a b) := by
  intro d
  induction d with
  | zero =>
    intro f A c σ hM hX hC hA0 hA hf
    obtain ⟨m, rfl⟩ : ∃ m, f = m + 1 := ⟨f - 1, by omega⟩
    have : A = 32 := by omega
    subst this
    obtain ⟨-, x2, x3⟩ := hX 31 (by omega)
    refine ⟨c, σ, ?_, hC, x3, fun _ _ _ => rfl⟩
    rw [f_Fe_mostGroups_2_s, if_pos (show (32 : Int32) ≤ nI 32 by decide), x2]
  | succ d ih =>
    intro f A c σ hM hX hC hA0 hA hf
    obtain ⟨m, rfl⟩ : ∃ m, f = m + 1 := ⟨f - 1, by omega⟩
    obtain ⟨v, σ1, e1, e2, e3, e4, e5, e6, e7⟩ := cg_in (M := M) (k2 := f_Fe_mostGroups_2 m) (c := c) (A := A) hA0 (by omega) 5 FU 0 0 σ hM hX (by omega) (by unfold FU; omega) (fun o ho => by omega) (fun o ho => by omega) (Or.inl rfl)
    obtain ⟨c2, ct, cn⟩ : ∃ c2 : Nat → Nat, c2 A = v ∧ ∀ a, a ≠ A → c2 a = c a := ⟨fun a => if a = A then v else c a, if_pos rfl, fun a q => if_neg q⟩
    have rn : ∀ X o, 0 < X → X < A + 1 → o < 5 → X.testBit o = true → c2 (rmB X o) = c (rmB X o) := fun X o x0 x1 o1 o2 => cn _ (by have := rm_l (show X < 32 by omega) o1 o2; omega)
    obtain ⟨c', σ', k1, k2, k3, k4⟩ := ih m (A + 1) c2 σ1 (fun o ho => by rw [e2 _ _ (by omega)]; exact hM o ho) (fun X hXA => by
      by_cases q : X = A
      · subst q
        rw [e3, e4, ct]
        exact ⟨rfl, rfl, e5⟩
      · rw [e2 _ _ (by omega), e2 _ _ (by omega), cn X q]
        exact hX X (by omega)) ⟨by rw [cn 0 (by omega)]; exact hC.1, fun X x0 x1 => by
      by_cases q : X = A
      · subst q
        rw [ct]
        refine ⟨fun o o1 o2 => by rw [rn X o x0 x1 o1 o2]; exact e6 o o1 o2, ?_⟩
        obtain ⟨o, o1, o2, o3⟩ := e7
        exact ⟨o, o1, o2, by rw [rn X o x0 x1 o1 o2]; exact o3⟩
      · rw [cn X q]
        obtain ⟨y1, o, o1, o2, o3⟩ := hC.2 X x0 (by omega)
        exact ⟨fun o o1 o2 => by rw [rn X o x0 x1 o1 o2]; exact y1 o o1 o2, o, o1, o2, by rw [rn X o x0 x1 o1 o2]; exact o3⟩⟩ (by omega) (by omega) (by omega)
    refine ⟨c', σ', ?_, k2, k3, fun a b g => (k4 a b g).trans (e2 a b (by omega))⟩
    rw [f_Fe_mostGroups_2_s, if_neg (show ¬ (32 : Int32) ≤ nI A from nI_ge (b := 32) (by omega) (by omega))]
    exact e1.trans k1
def moT (nr : Nat) (fa T : Nat → Nat → Int32) (nt : Nat) (o : Nat) : Int32 := balT nr fa T (nI o) nt
def K50 (σ σ' : Sg) : Prop := ∀ i k, i ≠ 50 → σ'.1 i k = σ.1 i k
theorem K50.kp {σ σ' : Sg} (h : K50 σ σ') : Kp σ σ' := fun i k w _ => h i k (by unfold scC at w; omega)
theorem pay_k {nr nt : Nat} {fa T : Nat → Nat → Int32} {rk : Nat → Nat} (hI : ∀ t, t < nt → tOk (T t)) : ∀ (d f i : Nat) (σ : Sg), CV nr fa rk σ → TC nt T σ → (∀ o, o < i → σ.1 50 o = moT nr fa T nt o) → i + d = 5 → d < f → ∃ σ', f_Fe_payments_2 f σ (nI i) = (bd (f_Fe_mostGroups σ') fun r4 σ3 => some (5 - r4, σ3)) ∧ K50 σ σ' ∧ ∀ o, o < 5 → σ'.1 50 o = moT nr fa T nt o := by
  intro d
  induction d with
  | zero =>
    intro f i σ hc hC h hi hf
    obtain ⟨m, rfl⟩ : ∃ m, f = m + 1 := ⟨f - 1, by omega⟩
    have : i = 5 := by omega
    subst this
    exact ⟨σ, by rw [f_Fe_payments_2_s, if_pos (show (5 : Int32) ≤ nI 5 by decide)], fun _ _ _ => rfl, h⟩
  | succ d ih =>
    intro f i σ hc hC h hi hf
    obtain ⟨m, rfl⟩ : ∃ m, f = m + 1 := ⟨f - 1, by omega⟩
    have hk : K50 σ (pI σ 50 i (moT nr fa T nt i)) := fun a b q => pI_ne (by omega)
    obtain ⟨σ', e1, e2, e3⟩ := ih m (i + 1) (pI σ 50 i (moT nr fa T nt i)) (hk.kp.cv hc) (hC.of hk.kp) (fun o ho => by
      by_cases q : o = i
      · subst q; exact pI_eq
      · rw [pI_ne (by omega)]; exact h o (by omega)) (by omega) (by omega)
    refine ⟨σ', ?_, fun a b q => (e2 a b q).trans (hk a b q), e3⟩
    rw [f_Fe_payments_2_s, if_neg (show ¬ (5 : Int32) ≤ nI i from nI_ge (b := 5) (by omega) (by omega)), bal_k hc hC hI, Option.bind_some, gd_of (vin_nI (by omega) (by decide)), nI_clamp (by omega), nI_1]
    exact e1
end
