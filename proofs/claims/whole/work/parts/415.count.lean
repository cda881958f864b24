/-! count -/
theorem cnt4 {nr : Nat} {fa : Nat → Nat → Int32} {rk : Nat → Nat} {nt : Nat} {T : Nat → Nat → Int32} {σ σ' : Sg} (hc : CV nr fa rk σ) (hm : MV' nr fa rk σ') (hC : TC nt T σ) (hM : TM nt T σ') : ∀ (d f1 f2 i : Nat) (v : Int32), i + d = nt → d < f1 → d < f2 → ∃ x, f_GR_tripsThatCount_4 f1 σ v (nI i) = some x ∧ f_Md_count_81 f2 σ' v (nI i) = some (x, σ') := by
  have h20 := hC.1
  intro d
  induction d with
  | zero =>
    intro f1 f2 i v hi h1 h2
    obtain ⟨m1, rfl⟩ : ∃ m, f1 = m + 1 := ⟨f1 - 1, by omega⟩
    obtain ⟨m2, rfl⟩ : ∃ m, f2 = m + 1 := ⟨f2 - 1, by omega⟩
    have : i = nt := by omega
    subst this
    refine ⟨v, ?_, ?_⟩
    · rw [f_GR_tripsThatCount_4_s, hC.2.1, if_pos (nI_le (Nat.le_refl _) (by omega))]
    · rw [f_Md_count_81_s, hM.2.1, if_pos (nI_le (Nat.le_refl _) (by omega))]
  | succ d ih =>
    intro f1 f2 i v hi h1 h2
    obtain ⟨m1, rfl⟩ : ∃ m, f1 = m + 1 := ⟨f1 - 1, by omega⟩
    obtain ⟨m2, rfl⟩ : ∃ m, f2 = m + 1 := ⟨f2 - 1, by omega⟩
    rw [f_GR_tripsThatCount_4_s, hC.2.1, if_neg (nI_ge (by omega) (by omega)), ts_at (by omega), hC.2.2 i 0 (by omega) (by omega), rs_has hc.2.1 hc.1]
    rw [f_Md_count_81_s, hM.2.1, if_neg (nI_ge (by omega) (by omega)), counts_k hm hM (by omega), Option.bind_some]
    unfold f_GR_tripsThatCount_39 f_Md_count_103
    rw [nI_1]
    by_cases c : isR nr (T i 0) = true
    · rw [if_pos c, if_neg (show ¬ (1 : Int32) = 0 by decide), if_neg (show ¬ (1 : Int32) = 0 by decide)]
      exact ih m1 m2 (i + 1) _ (by omega) (by omega) (by omega)
    · rw [if_neg c, if_pos rfl, if_pos rfl, Int32.add_zero]
      exact ih m1 m2 (i + 1) _ (by omega) (by omega) (by omega)
theorem cnt6 {nr : Nat} {fa : Nat → Nat → Int32} {rk : Nat → Nat} {σ σ' : Sg} (hc : CV nr fa rk σ) (hm : MV' nr fa rk σ') (hin : ∀ r k, r < nr → k < 6 → ∃ j : Nat, j < hiN k ∧ fa r k = nI j) : ∀ (d f1 f2 i : Nat) (v : Int32), i + d = nr → d < f1 → d < f2 → ∃ x, f_Rs_pairsThatMeet_4 f1 σ v (nI i) = some x ∧ f_Md_count_120 f2 σ' v (nI i) = some (x, σ') := by
  have h8 := hc.1
  intro d
  induction d with
  | zero =>
    intro f1 f2 i v hi h1 h2
    obtain ⟨m1, rfl⟩ : ∃ m, f1 = m + 1 := ⟨f1 - 1, by omega⟩
    obtain ⟨m2, rfl⟩ : ∃ m, f2 = m + 1 := ⟨f2 - 1, by omega⟩
    have : i = nr := by omega
    subst this
    refine ⟨v / 2, ?_, ?_⟩
    · rw [f_Rs_pairsThatMeet_4_s, hc.2.1, if_pos (nI_le (Nat.le_refl _) (by omega))]
    · rw [f_Md_count_120_s, hm.2.1, if_pos (nI_le (Nat.le_refl _) (by omega))]
  | succ d ih =>
    intro f1 f2 i v hi h1 h2
    obtain ⟨m1, rfl⟩ : ∃ m, f1 = m + 1 := ⟨f1 - 1, by omega⟩
    obtain ⟨m2, rfl⟩ : ∃ m, f2 = m + 1 := ⟨f2 - 1, by omega⟩
    rw [f_Rs_pairsThatMeet_4_s, hc.2.1, if_neg (nI_ge (by omega) (by omega)), rs_at (by omega), metBy_k hc.2.1 hc.1 (f := crs fa i) (fun q hq => meets_k hc (by omega) hq), Option.bind_some]
    rw [f_Md_count_120_s, hm.2.1, if_neg (nI_ge (by omega) (by omega)), crWith_k hm hin (by omega), Option.bind_some, nI_1]
    exact ih m1 m2 (i + 1) _ (by omega) (by omega) (by omega)
theorem cnt7 {nr : Nat} {fa : Nat → Nat → Int32} {rk : Nat → Nat} {nt : Nat} {T : Nat → Nat → Int32} {σ σ' : Sg} (hc : CV nr fa rk σ) (hm : MV' nr fa rk σ') (hC : TC nt T σ) (hM : TM nt T σ') (hI : ∀ t, t < nt → tOk (T t)) : ∀ (d f1 f2 i : Nat) (v : Int32), i + d = nt → d < f1 → d < f2 → ∃ x, f_Fe_allFares_5 f1 σ v (nI i) = some x ∧ f_Md_count_148 f2 σ' v (nI i) = some (x, σ') := by
  have h20 := hC.1
  intro d
  induction d with
  | zero =>
    intro f1 f2 i v hi h1 h2
    obtain ⟨m1, rfl⟩ : ∃ m, f1 = m + 1 := ⟨f1 - 1, by omega⟩
    obtain ⟨m2, rfl⟩ : ∃ m, f2 = m + 1 := ⟨f2 - 1, by omega⟩
    have : i = nt := by omega
    subst this
    refine ⟨v, ?_, ?_⟩
    · rw [f_Fe_allFares_5_s, hC.2.1, if_pos (nI_le (Nat.le_refl _) (by omega))]
    · rw [f_Md_count_148_s, hM.2.1, if_pos (nI_le (Nat.le_refl _) (by omega))]
  | succ d ih =>
    intro f1 f2 i v hi h1 h2
    obtain ⟨m1, rfl⟩ : ∃ m, f1 = m + 1 := ⟨f1 - 1, by omega⟩
    obtain ⟨m2, rfl⟩ : ∃ m, f2 = m + 1 := ⟨f2 - 1, by omega⟩
    rw [f_Fe_allFares_5_s, hC.2.1, if_neg (nI_ge (by omega) (by omega)), ts_at (by omega), fareOf_k hc hC hI (by omega)]
    rw [f_Md_count_148_s, hM.2.1, if_neg (nI_ge (by omega) (by omega)), counts_k hm hM (by omega), Option.bind_some]
    unfold f_Md_count_201
    rw [nI_1]
    by_cases c : isR nr (T i 0) = true
    · have g0 := hM.get (t := i) (k := 0) (by omega) (by omega)
      have g1 := hM.get (t := i) (k := 1) (by omega) (by omega)
      have g3 := hM.get (t := i) (k := 3) (by omega) (by omega)
      have x1 : (5 * nI i + 1 : Int32) = nI (5 * i + 1) := five_k (k := 1)
      have x3 : (5 * nI i + 3 : Int32) = nI (5 * i + 3) := five_k (k := 3)
      rw [if_pos c, if_neg (show ¬ (1 : Int32) = 0 by decide), x1, x3, five_0, gd_of g0.1, gd_of g1.1, gd_of g3.1, g0.2, g1.2, g3.2, cost_k hm hI (by omega) c, Option.bind_some]
      exact ih m1 m2 (i + 1) _ (by omega) (by omega) (by omega)
    · have ef : frT nr fa T i = 0 := by unfold frT; rw [if_neg c]
      rw [if_neg c, if_pos rfl, ef]
      exact ih m1 m2 (i + 1) _ (by omega) (by omega) (by omega)
theorem count_k {nr : Nat} {fa : Nat → Nat → Int32} {rk : Nat → Nat} {σ σm σ' : Sg} {v : Int32} (hR : Rel σ) (em : Kp σ σm) (e1 : f_Md_find σm = some (v, σ')) (e3' : Kp σm σ') (hc : CV nr fa rk σ) (hm : MV' nr fa rk σ') (hin : ∀ r k, r < nr → k < 6 → ∃ j : Nat, j < hiN k ∧ fa r k = nI j) (a : Int32) : ∃ x, f_GR_count σ a = some x ∧ f_Md_count σm a = some (x, σ') := by
  have e3 : Kp σ σ' := em.tr e3'
  obtain ⟨nt, T, hC, hM, hI⟩ := hR.trips
  obtain ⟨⟨n0, b0, n1, b1, hX⟩, -, -, ⟨np, hP⟩, -, hL⟩ := hR
  have h20 := hC.1
  have h8 := hc.1
  have hM' := hM.of e3
  have k72 : ∀ k, σ'.1 72 k = σ.1 72 k := fun k => e3 72 k (by unfold scC; omega) (by unfold scM; omega)
  unfold f_GR_count f_Md_count
  rw [e1, bd_s]
  by_cases c0 : a = 0
  · rw [if_pos c0, if_pos c0, hc.2.1, hm.2.1]
    exact ⟨_, rfl, rfl⟩
  rw [if_neg c0, if_neg c0]
  by_cases c1 : a = 1
  · subst c1
    rw [if_pos rfl, if_pos rfl, hX.1.2.1]
    refine ⟨_, rfl, ?_⟩
    unfold f_Md_count_65
    rw [gd_of (show vin ((1 : Int32) - 1) 2 = true from rfl), show ((1 : Int32) - 1).toNatClampNeg = 0 from rfl, k72, hX.2.2.1.2.1]
  rw [if_neg c1, if_neg c1]
  by_cases c2 : a = 2
  · subst c2
    rw [if_pos rfl, if_pos rfl, hX.2.1.2.1]
    refine ⟨_, rfl, ?_⟩
    unfold f_Md_count_65
    rw [gd_of (show vin ((2 : Int32) - 1) 2 = true from rfl), show ((2 : Int32) - 1).toNatClampNeg = 1 from rfl, k72, hX.2.2.2.1.2.1]
  rw [if_neg c2, if_neg c2]
  by_cases c3 : a = 3
  · rw [if_pos c3, if_pos c3, hC.2.1, hM'.2.1]
    exact ⟨_, rfl, rfl⟩
  rw [if_neg c3, if_neg c3]
  by_cases c4 : a = 4
  · rw [if_pos c4, if_pos c4]
    obtain ⟨x, x1, x2⟩ := cnt4 hc hm hC hM' nt FU FU 0 0 (by omega) (by unfold FU; omega) (by unfold FU; omega)
    have x1' : f_GR_tripsThatCount σ = some x := x1
    rw [x1']
    exact ⟨x, rfl, x2⟩
  rw [if_neg c4, if_neg c4]
  by_cases c5 : a = 5
  · rw [if_pos c5, if_pos c5, hP.2.1, e3 66 18 (by unfold scC; omega) (by unfold scM; omega), hP.2.2.1]
    exact ⟨_, rfl, rfl⟩
  rw [if_neg c5, if_neg c5]
  by_cases c6 : a = 6
  · rw [if_pos c6, if_pos c6]
    obtain ⟨x, x1, x2⟩ := cnt6 hc hm hin nr FU FU 0 0 (by omega) (by unfold FU; omega) (by unfold FU; omega)
    have x1' : f_Rs_pairsThatMeet σ = some x := x1
    rw [x1']
    exact ⟨x, rfl, x2⟩
  rw [if_neg c6, if_neg c6]
  by_cases c7 : a = 7
  · rw [if_pos c7, if_pos c7]
    obtain ⟨x, x1, x2⟩ := cnt7 hc hm hC hM' hI nt FU FU 0 0 (by omega) (by unfold FU; omega) (by unfold FU; omega)
    have x1' : f_Fe_allFares σ = some x := x1
    rw [x1']
    exact ⟨x, rfl, x2⟩
  rw [if_neg c7, if_neg c7]
  by_cases c8 : a = 8
  · rw [if_pos c8, if_pos c8, e3 66 4 (by unfold scC; omega) (by unfold scM; omega), hL.1]
    exact ⟨_, rfl, rfl⟩
  rw [if_neg c8, if_neg c8]
  exact ⟨_, rfl, rfl⟩
theorem e_count : E_count Rel := by
  intro σ a hR
  obtain ⟨nr, fa, rk, fv, σ', e1, e2, e3, hc, hm, hin, -⟩ := hR.find
  obtain ⟨x, x1, x2⟩ := count_k hR Kp.rf e1 e3 hc hm hin a
  exact ⟨x, σ', x1, x2, hR.of e3⟩
