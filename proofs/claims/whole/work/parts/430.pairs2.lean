/-! pairs: the loops -/
theorem cp_in {p : Nat → Nat → Nat} {σ : Sg} {v : Int32} {nt : Nat} {k6 : Sg → Int32 → Int32 → Int32 → Option Int32} (h20 : nt ≤ 20) (hn : σ.1 18 2 = nI nt) {a : Nat} (ha : a < nt) (hp : ∀ b, b < nt → (p a b = 0 ∧ f_Tt_collide σ (nI a) (nI b) v = 0) ∨ (p a b = 1 ∧ f_Tt_collide σ (nI a) (nI b) v = 1)) (C : Nat) : ∀ (d f j : Nat), a + 1 + j + d = nt → d < f → f_Tt_pairs_21 k6 f σ v (nI (C + upR p a j)) (nI a) (nI (a + 1 + j)) = k6 σ v (nI (C + upR p a (nt - a - 1))) (nI a + 1) := by
  intro d
  induction d with
  | zero =>
    intro f j hj hf
    obtain ⟨m, rfl⟩ : ∃ m, f = m + 1 := ⟨f - 1, by omega⟩
    rw [f_Tt_pairs_21_s, hn, if_pos (nI_le (by omega) (by omega)), show nt - a - 1 = j by omega]
  | succ d ih =>
    intro f j hj hf
    obtain ⟨m, rfl⟩ : ∃ m, f = m + 1 := ⟨f - 1, by omega⟩
    have h := ih m (j + 1) (by omega) (by omega)
    rw [f_Tt_pairs_21_s, hn, if_neg (nI_ge (by omega) (by omega))]
    unfold f_Tt_pairs_47
    rcases hp (a + 1 + j) (by omega) with ⟨q1, q2⟩ | ⟨q1, q2⟩
    · rw [if_pos q2, nI_1 (a + 1 + j)]
      have e : upR p a (j + 1) = upR p a j := by show upR p a j + p a (a + 1 + j) = _; rw [q1, Nat.add_zero]
      rw [e] at h
      exact h
    · rw [if_neg (show ¬ f_Tt_collide σ (nI a) (nI (a + 1 + j)) v = 0 by rw [q2]; decide), nI_1 (a + 1 + j), nI_1]
      have e : C + upR p a (j + 1) = C + upR p a j + 1 := by show C + (upR p a j + p a (a + 1 + j)) = _; rw [q1]; omega
      rw [e] at h
      exact h
theorem cp_out {p : Nat → Nat → Nat} {σ : Sg} {v : Int32} {nt : Nat} (h20 : nt ≤ 20) (hn : σ.1 18 2 = nI nt) (hp : ∀ a b, a < nt → b < nt → (p a b = 0 ∧ f_Tt_collide σ (nI a) (nI b) v = 0) ∨ (p a b = 1 ∧ f_Tt_collide σ (nI a) (nI b) v = 1)) : ∀ (d f i : Nat), i + d = nt → d < f → f_Tt_pairs_6 f σ v (nI (smN (fun a => upR p a (nt - a - 1)) i)) (nI i) = some (nI (smN (fun a => upR p a (nt - a - 1)) nt)) := by
  intro d
  induction d with
  | zero =>
    intro f i hi hf
    obtain ⟨m, rfl⟩ : ∃ m, f = m + 1 := ⟨f - 1, by omega⟩
    have : i = nt := by omega
    subst this
    rw [f_Tt_pairs_6_s, hn, if_pos (nI_le (Nat.le_refl _) (by omega))]
  | succ d ih =>
    intro f i hi hf
    obtain ⟨m, rfl⟩ : ∃ m, f = m + 1 := ⟨f - 1, by omega⟩
    have h := ih m (i + 1) (by omega) (by omega)
    have h1 := cp_in (k6 := f_Tt_pairs_6 m) (p := p) h20 hn (a := i) (by omega) (fun b hb => hp i b (by omega) hb) (smN (fun a => upR p a (nt - a - 1)) i) d FU 0 (by omega) (by unfold FU; omega)
    rw [f_Tt_pairs_6_s, hn, if_neg (nI_ge (by omega) (by omega)), nI_1]
    refine Eq.trans h1 ?_
    rw [nI_1]
    exact h
theorem mp_in {p : Nat → Nat → Nat} {σ0 : Sg} {nt : Nat} {k4 : Sg → Int32 → Int32 → Option (Int32 × Sg)} (h20 : nt ≤ 20) {a : Nat} (ha : a < nt) (hp : ∀ σ b, KPl σ0 σ → b < nt → ∃ v σ', f_Md_doClash σ (nI a) (nI b) = some (v, σ') ∧ ((p a b = 0 ∧ v = 0) ∨ (p a b = 1 ∧ v = 1)) ∧ KPl σ0 σ') (C : Nat) : ∀ (d f j : Nat) (σ : Sg), KPl σ0 σ → j + d = a → d < f → ∃ σ', f_Md_clashesNow_14 k4 f σ (nI (C + smN (p a) j)) (nI a) (nI j) = k4 σ' (nI (C + smN (p a) a)) (nI a + 1) ∧ KPl σ0 σ' := by
  intro d
  induction d with
  | zero =>
    intro f j σ hk hj hf
    obtain ⟨m, rfl⟩ : ∃ m, f = m + 1 := ⟨f - 1, by omega⟩
    have : j = a := by omega
    subst this
    exact ⟨σ, by rw [f_Md_clashesNow_14_s, if_pos (nI_le (Nat.le_refl _) (by omega))], hk⟩
  | succ d ih =>
    intro f j σ hk hj hf
    obtain ⟨m, rfl⟩ : ∃ m, f = m + 1 := ⟨f - 1, by omega⟩
    obtain ⟨v, σ1, e1, e2, e3⟩ := hp σ j hk (by omega)
    obtain ⟨σ2, w1, w2⟩ := ih m (j + 1) σ1 e3 (by omega) (by omega)
    refine ⟨σ2, ?_, w2⟩
    rw [f_Md_clashesNow_14_s, if_neg (nI_ge (by omega) (by omega)), e1, bd_s]
    unfold f_Md_clashesNow_34
    rcases e2 with ⟨q1, q2⟩ | ⟨q1, q2⟩
    · rw [if_pos q2, Int32.add_zero, nI_1 j]
      have e : smN (p a) (j + 1) = smN (p a) j := by show smN (p a) j + p a j = _; rw [q1, Nat.add_zero]
      rw [e] at w1
      exact w1
    · rw [if_neg (show ¬ v = 0 by rw [q2]; decide), nI_1 j, nI_1]
      have e : C + smN (p a) (j + 1) = C + smN (p a) j + 1 := by show C + (smN (p a) j + p a j) = _; rw [q1]; omega
      rw [e] at w1
      exact w1
