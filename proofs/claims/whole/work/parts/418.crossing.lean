/-! crossing -/
theorem crossing_k {nr : Nat} {fa : Nat → Nat → Int32} {rk : Nat → Nat} {σ σ' : Sg} (hc : CV nr fa rk σ) (hm : MV' nr fa rk σ') (hin : ∀ r k, r < nr → k < 6 → ∃ j : Nat, j < hiN k ∧ fa r k = nI j) {r s k : Nat} (hr : r < nr) (hs : s < nr) (hk : k < 2) (w : Int32) : ∃ x σ2, f_GR_crossingAsTold σ (nI r) (nI s) (nI k) w = some x ∧ f_Md_crossingOf σ' (nI r) (nI s) (nI k) w = some (x, σ2) ∧ Kp σ' σ2 := by
  have h8 := hc.1
  unfold f_GR_crossingAsTold f_Md_crossingOf
  rw [rs_at (show r < 8 by omega), rs_at (show s < 8 by omega), meets_k hc hr hs, doCross_k hm hin hr hs, Option.bind_some]
  by_cases c : crs fa r s = 0
  · rw [if_pos c, if_pos c]
    exact ⟨_, σ', rfl, rfl, Kp.rf⟩
  rw [if_neg c, if_neg c]
  obtain ⟨p, q, hp, hq, hpq, a0, sp, fp⟩ := place_k hc hm hin hr hs c
  obtain ⟨a, ha, ea⟩ := hin r 0 hr (by omega)
  obtain ⟨b, hb, eb⟩ := hin r 1 hr (by omega)
  have ha : a < 10 := ha
  have hb : b < 10 := hb
  have e6 : (6 * nI r : Int32) = nI (6 * r + 0) := by rw [show (6 : Int32) = nI 6 from rfl, pk_mul, Nat.add_zero]
  have e61 : (nI (6 * r + 0) + 1 : Int32) = nI (6 * r + 1) := nI_add (6 * r) 1
  rw [fp, Option.bind_some, e6, e61, gd_of (vin_nI (by omega) (by decide)), gd_of (vin_nI (by omega) (by decide)), gd_of (vin_nI (by omega) (by decide)), nI_clamp (show 6 * r + 0 < 2 ^ 31 by omega), nI_clamp (show 6 * r + 1 < 2 ^ 31 by omega), a0, sp, (hc.2.2 r hr).1 0 (by omega), (hc.2.2 r hr).1 1 (by omega), ea, eb]
  unfold f_GR_crossingAsTold_85 f_Md_crossingOf_79
  rw [pI_eq, pI_ne (by omega : ¬ (66 = 66 ∧ 12 = 13)), pI_eq, pI_ne (by omega), pI_ne (by omega), pI_ne (by omega), pI_ne (by omega), hm.2.2.1 r 0 hr (by omega), hm.2.2.1 r 1 hr (by omega), ea, eb, num_k rfl]
  have kp : Kp σ' (pI (pI σ' 66 12 (nI p)) 66 13 (nI (p + q))) := fun i j _ w => by unfold scM at w; rw [pI_ne (by omega), pI_ne (by omega)]
  have aq : a * q ≤ 9 * 9 := Nat.mul_le_mul (by omega) (by omega)
  have bp : b * p ≤ 9 * 9 := Nat.mul_le_mul (by omega) (by omega)
  rcases (show k = 0 ∨ k = 1 by omega) with rfl | rfl
  · rw [if_neg (show ¬ nI 0 = 1 by decide), if_pos (show nI 0 = 0 from rfl), low_k (by omega) (by omega) hpq, share_k (by omega) (by omega) hpq]
    exact ⟨_, _, rfl, rfl, kp⟩
  · rw [if_pos (show nI 1 = 1 from rfl), if_neg (show ¬ nI 1 = 0 by decide), low_k (by omega) (by omega) hpq, share_k (by omega) (by omega) hpq]
    exact ⟨_, _, rfl, rfl, kp⟩
theorem e_crossing : E_crossing Rel := by
  intro σ a1 a2 a3 a4 hR
  obtain ⟨nr, fa, rk, fv, σ', e1, e2, e3, hc, hm, hin, -⟩ := hR.find
  unfold f_GR_crossing f_Md_crossing
  rw [hasTwo_k hc, areTwo_k e1 hm, bd_s]
  have no : ∃ (r : Int64) (σ2 : Sg), f_GR_crossing_29 σ = some r ∧ f_Md_crossing_36 σ' = some (r, σ2) ∧ Rel σ2 := ⟨_, σ', rfl, rfl, hR.of e3⟩
  by_cases c : isR nr a1 = true ∧ isR nr a2 = true ∧ a1 ≠ a2
  case neg =>
    rw [if_neg c, if_pos rfl, if_pos rfl]
    exact no
  rw [if_pos c, if_neg (show ¬ (1 : Int32) = 0 by decide), if_neg (show ¬ (1 : Int32) = 0 by decide)]
  obtain ⟨c1, c2, -⟩ := c
  obtain ⟨r, hr, rfl⟩ := isR_nI c1 hc.1
  obtain ⟨s, hs, rfl⟩ := isR_nI c2 hc.1
  rcases arg_in a3 2 (by decide) with h | ⟨k, hk, rfl⟩
  · rw [if_pos (two_no h).1, if_pos (two_no h).2]
    exact no
  rw [if_neg (n10 (two_yes hk).1), if_neg (n10 (two_yes hk).2)]
  rcases arg_in a4 2 (by decide) with h | ⟨w, hw, rfl⟩
  · rw [if_pos (two_no h).1, if_pos (two_no h).2]
    exact no
  rw [if_neg (n10 (two_yes hw).1), if_neg (n10 (two_yes hw).2)]
  obtain ⟨x, σ2, x1, x2, x3⟩ := crossing_k hc hm hin hr hs hk (nI w)
  rw [x1, x2, bd_s]
  exact ⟨x, σ2, rfl, rfl, hR.of (e3.tr x3)⟩
