/-! clash, the case -/
theorem gap_k {σ : Sg} (hR : Rel σ) : ∃ g : Nat, 1 ≤ g ∧ g ≤ 9 ∧ σ.1 17 0 = nI g := by
  obtain ⟨-, ⟨-, h, -⟩, -⟩ := hR
  exact ⟨(σ.1 17 0).toInt.toNat, by omega, by omega, of_toInt (by omega) (by omega)⟩
/-- the same ropes after the class's timetable has changed -/
theorem again {nr : Nat} {fa : Nat → Nat → Int32} {rk : Nat → Nat} {σ1 : Sg} (h1 : Rel σ1) (hc1 : CV nr fa rk σ1) : ∃ fa2 rk2 v σ', f_Md_find σ1 = some (v, σ') ∧ Kp σ1 σ' ∧ CV nr fa2 rk2 σ1 ∧ MV' nr fa2 rk2 σ' ∧ (∀ r k, r < nr → k < 6 → ∃ j : Nat, j < hiN k ∧ fa2 r k = nI j) := by
  obtain ⟨nr', fa', rk', fv', σ2, u1, u2, u3, hc', hm', hin', -⟩ := h1.find
  have en : nr' = nr := by
    have := hc'.2.1.symm.trans hc1.2.1
    exact (nI_eq (by have := hc'.1; omega) (by have := hc1.1; omega)).mp this
  subst en
  exact ⟨fa', rk', fv', σ2, u1, u3, hc', hm', hin'⟩
set_option maxHeartbeats 1000000 in
theorem e_clash : E_clash Rel := by
  intro σ a1 a2 a3 hR
  obtain ⟨nr, fa0, rk0, fv, σf, -, -, -, hc, -, -, -⟩ := hR.find
  obtain ⟨nt, T, hC, hM, hI⟩ := hR.trips
  have h20 := hC.1
  have no : ¬ (isR nt a1 = true ∧ isR nt a2 = true ∧ ¬ a1 = a2 ∧ f_GR_isBelow a3 2 = 1) → ∃ r σ1 σ2, f_GR_clash σ a1 a2 a3 = some (r, σ1) ∧ f_Md_clash σ1 a1 a2 a3 = some (r, σ2) ∧ Rel σ2 := fun h => by
    refine ⟨-2, σ, σ, ?_, ?_, hR⟩
    · unfold f_GR_clash
      rw [has_k hC, has_k hC]
      by_cases c1 : isR nt a1 = true
      · rw [if_pos c1, if_neg (show ¬ (1 : Int32) = 0 by decide)]
        by_cases c2 : isR nt a2 = true
        · rw [if_pos c2, if_neg (show ¬ (1 : Int32) = 0 by decide)]
          by_cases c3 : a1 = a2
          · rw [if_pos c3]
          · rw [if_neg c3, if_pos]
            rcases arg_in a3 2 (by decide) with g | ⟨j, hj, rfl⟩
            · exact (two_no g).1
            · exact absurd ⟨c1, c2, c3, (two_yes hj).1⟩ h
        · rw [if_neg c2, if_pos rfl]
      · rw [if_neg c1, if_pos rfl]
    · unfold f_Md_clash
      rw [isTrip_k hM, isTrip_k hM]
      by_cases c1 : isR nt a1 = true
      · rw [if_pos c1, if_neg (show ¬ (1 : Int32) = 0 by decide)]
        by_cases c2 : isR nt a2 = true
        · rw [if_pos c2, if_neg (show ¬ (1 : Int32) = 0 by decide)]
          by_cases c3 : a1 = a2
          · rw [if_pos c3]
          · rw [if_neg c3, if_pos]
            rcases arg_in a3 2 (by decide) with g | ⟨j, hj, rfl⟩
            · exact (two_no g).2
            · exact absurd ⟨c1, c2, c3, (two_yes hj).1⟩ h
        · rw [if_neg c2, if_pos rfl]
      · rw [if_neg c1, if_pos rfl]
  by_cases ok : isR nt a1 = true ∧ isR nt a2 = true ∧ ¬ a1 = a2 ∧ f_GR_isBelow a3 2 = 1
  case neg => exact no ok
  obtain ⟨c1, c2, c3, c4⟩ := ok
  rcases arg_in a3 2 (by decide) with g | ⟨k, hk, rfl⟩
  · rw [(two_no g).1] at c4
    exact absurd c4 (by decide)
  obtain ⟨g, hg1, hg, eg⟩ := gap_k hR
  obtain ⟨σ1, k1, k2, k3⟩ := casTold_k hI hc hC
  have hR1 : Rel σ1 := hR.of k2.kp
  obtain ⟨fa, rk, v, σ', u1, u3, hc1, hm, hin⟩ := again hR1 (k2.cv hc)
  have hC1 := hC.of k2.kp
  have hM1 := (hM.of k2.kp).of u3
  obtain ⟨σ2, w1, w2, w3⟩ := masTold_k (nr := nr) u1 hI hM1
  have hm2 := w2.mv hm
  have hM2 := hM1.of w2.kp
  obtain ⟨a, ha, rfl⟩ := isR_nI' c1 h20
  obtain ⟨b, hb, rfl⟩ := isR_nI' c2 h20
  have hB : ∀ t, B0 T t < 2 ^ 20 := fun t => by have := B0_lt T t; omega
  have g1 : σ1.1 17 0 = nI g := by rw [k2 _ _ (by omega)]; exact eg
  have g2 : σ2.1 75 0 = nI g := by rw [w2 _ _ (by omega), hR1.setK u3 (k := 0) (by omega)]; exact g1
  have hcc := col_c hc1 hin hC1 hI hg k3 hB ha hb
  obtain ⟨r, σ3, d1, d2, d3, d4⟩ := col_m hc1 hm2 hin hM2 hI hg g2 w3 hB ha hb
  have hR3 : Rel σ3 := hR1.of ((u3.tr w2.kp).tr d4.kp)
  have eC : f_GR_clash σ (nI a) (nI b) (nI k) = if nI k = 0 then (if f_Tt_collide σ1 (nI a) (nI b) (nI g) = 0 then some (0, σ1) else some (1, σ1)) else (if f_Tt_collide σ1 (nI a) (nI b) (nI g) = 0 then some (-1, σ1) else some (f_GR_guilty σ1 (nI a) (nI b), σ1)) := by
    unfold f_GR_clash
    rw [has_k hC, has_k hC, if_pos c1, if_pos c2, if_neg (show ¬ (1 : Int32) = 0 by decide), if_neg (show ¬ (1 : Int32) = 0 by decide), if_neg c3, if_neg (n10 c4), k1, Option.bind_some, g1]
  have hMs : TM nt T σ1 := hM.of k2.kp
  have eM : f_Md_clash σ1 (nI a) (nI b) (nI k) = bd (some (r, σ3)) fun r9 σ8 => if r9 = 0 then (if nI k = 0 then some (0, σ8) else some ((-1), σ8)) else gd (vin (5 * nI a) 100) (gd (vin (σ8.1 76 (5 * nI a).toNatClampNeg) 8) (gd (vin (5 * nI b) 100) (gd (vin (σ8.1 76 (5 * nI b).toNatClampNeg) 8) (if nI k = 0 then some (1, σ8) else if (σ8.1 74 (σ8.1 76 (5 * nI a).toNatClampNeg).toNatClampNeg) = (σ8.1 74 (σ8.1 76 (5 * nI b).toNatClampNeg).toNatClampNeg) then (if nI b ≤ nI a then some (nI a, σ8) else some (nI b, σ8)) else if (σ8.1 74 (σ8.1 76 (5 * nI b).toNatClampNeg).toNatClampNeg) ≤ (σ8.1 74 (σ8.1 76 (5 * nI a).toNatClampNeg).toNatClampNeg) then some (nI a, σ8) else some (nI b, σ8))))) := by
    unfold f_Md_clash
    rw [isTrip_k hMs, isTrip_k hMs, if_pos c1, if_pos c2, if_neg (show ¬ (1 : Int32) = 0 by decide), if_neg (show ¬ (1 : Int32) = 0 by decide), if_neg c3, if_neg (n10 (two_yes hk).2), w1, Option.bind_some, d1]
  rw [eC]
  by_cases cc : colT nr fa T g (B0 T) a b
  case neg =>
    rw [hcc.2 cc, if_pos rfl, if_pos rfl]
    have e0 := d3 cc
    by_cases q : nI k = 0
    · rw [if_pos q]
      refine ⟨0, σ1, σ3, rfl, ?_, hR3⟩
      rw [eM, bd_s, if_pos e0, if_pos q]
    · rw [if_neg q]
      refine ⟨-1, σ1, σ3, rfl, ?_, hR3⟩
      rw [eM, bd_s, if_pos e0, if_neg q]
  rw [hcc.1 cc, if_neg (show ¬ (1 : Int32) = 0 by decide), if_neg (show ¬ (1 : Int32) = 0 by decide)]
  have e1 := d2 cc
  obtain ⟨ra1, ra2, -, -⟩ := cnt_rd hc1.1 hI ha cc.1
  obtain ⟨rb1, rb2, -, -⟩ := cnt_rd hc1.1 hI hb cc.2.1
  have h8 := hc1.1
  have hM3 : TM nt T σ3 := hM2.of d4.kp
  have hm3 : MV' nr fa rk σ3 := hm2.of (d4 _ _ (by omega)) (fun k => d4 _ _ (by omega)) (fun k => d4 _ _ (by omega))
  have y0 := hM3.get (t := a) (k := 0) ha (by omega)
  have y1 := hM3.get (t := b) (k := 0) hb (by omega)
  have fin : f_Md_clash σ1 (nI a) (nI b) (nI k) = if nI k = 0 then some (1, σ3) else some (f_GR_guilty σ1 (nI a) (nI b), σ3) := by
    rw [eM, bd_s, if_neg (show ¬ r = 0 by rw [e1]; decide), guilty_k hc1 hC1 ha hb ra1 rb1 ra2 rb2, five_0, five_0, gd_of y0.1, gd_of y1.1, y0.2, y1.2, gd_of (show vin (T a 0) 8 = true by rw [ra2]; exact vin_nI (by omega) (by decide)), gd_of (show vin (T b 0) 8 = true by rw [rb2]; exact vin_nI (by omega) (by decide)), hm3.2.2.2 _ ra1, hm3.2.2.2 _ rb1]
    by_cases q : nI k = 0
    · rw [if_pos q, if_pos q]
    · rw [if_neg q, if_neg q]
      split
      · split <;> rfl
      · split <;> rfl
  by_cases q : nI k = 0
  · rw [if_pos q] at fin ⊢
    exact ⟨1, σ1, σ3, rfl, fin, hR3⟩
  · rw [if_neg q] at fin ⊢
    exact ⟨_, σ1, σ3, rfl, fin, hR3⟩
