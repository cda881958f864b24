/-! takes, set, trip, undo, part, gone -/
theorem Rel.setG {σ σ' : Sg} (h : Rel σ) (e : ∀ i j, ¬ gSet i j → σ'.1 i j = σ.1 i j) (hs : RSet σ') : Rel σ' := by
  obtain ⟨⟨n0, b0, n1, b1, hX⟩, h2, ⟨nt, h3⟩, ⟨np, h4⟩, h5, h6⟩ := h
  refine ⟨⟨n0, b0, n1, b1, hX.of (fun i k q => e i k ?_)⟩, hs, ⟨nt, h3.of (fun i k q => e i k ?_)⟩, ⟨np, h4.of (fun i k q => e i k ?_)⟩, h5.of (fun i k q => e i k ?_), h6.of (fun i k q => e i k ?_)⟩
  · unfold gX at q; unfold gSet; omega
  · unfold gT at q; unfold gSet; omega
  · unfold gP at q; unfold gSet; omega
  · unfold gS at q; unfold gSet; omega
  · unfold gL at q; unfold gSet; omega
theorem Rel.tripG {σ σ' : Sg} (h : Rel σ) (e : ∀ i j, ¬ gT i j → σ'.1 i j = σ.1 i j) (hs : ∃ nt, RT nt σ') : Rel σ' := by
  obtain ⟨⟨n0, b0, n1, b1, hX⟩, h2, ⟨nt, h3⟩, ⟨np, h4⟩, h5, h6⟩ := h
  refine ⟨⟨n0, b0, n1, b1, hX.of (fun i k q => e i k ?_)⟩, h2.of (fun i k q => e i k ?_), hs, ⟨np, h4.of (fun i k q => e i k ?_)⟩, h5.of (fun i k q => e i k ?_), h6.of (fun i k q => e i k ?_)⟩
  · unfold gX at q; unfold gT; omega
  · unfold gSet at q; unfold gT; omega
  · unfold gP at q; unfold gT; omega
  · unfold gS at q; unfold gT; omega
  · unfold gL at q; unfold gT; omega
theorem Rel.partG {σ σ' : Sg} (h : Rel σ) (e : ∀ i j, ¬ gP i j → σ'.1 i j = σ.1 i j) (hs : ∃ np, RP np σ') : Rel σ' := by
  obtain ⟨⟨n0, b0, n1, b1, hX⟩, h2, ⟨nt, h3⟩, ⟨np, h4⟩, h5, h6⟩ := h
  refine ⟨⟨n0, b0, n1, b1, hX.of (fun i k q => e i k ?_)⟩, h2.of (fun i k q => e i k ?_), ⟨nt, h3.of (fun i k q => e i k ?_)⟩, hs, h5.of (fun i k q => e i k ?_), h6.of (fun i k q => e i k ?_)⟩
  · unfold gX at q; unfold gP; omega
  · unfold gSet at q; unfold gP; omega
  · unfold gT at q; unfold gP; omega
  · unfold gS at q; unfold gP; omega
  · unfold gL at q; unfold gP; omega
theorem mx0_eq (x : Int32) : mx0 x = if 0 ≤ x then x else 0 := by
  unfold mx0 f_JM_max
  by_cases c : 0 < x
  · rw [if_pos c, if_pos (by have := Int32.lt_iff_toInt_lt.mp c; exact Int32.le_iff_toInt_le.mpr (by omega))]
  · rw [if_neg c]
    by_cases c2 : 0 ≤ x
    · rw [if_pos c2]
      apply Int32.toInt_inj.mp
      have h1 := Int32.le_iff_toInt_le.mp c2
      have h2 : x.toInt ≤ (0 : Int32).toInt := Int.not_lt.mp (fun h => c (Int32.lt_iff_toInt_lt.mpr h))
      omega
    · rw [if_neg c2]
def ris (fa : Nat → Nat → Int32) (r s : Nat) : Int32 := mx0 (fa r (1 - s) - fa r s)
theorem rises_k {nr : Nat} {fa : Nat → Nat → Int32} {rk : Nat → Nat} {σ : Sg} (hm : MV' nr fa rk σ) {r s : Nat} (hr : r < nr) (hs : s < 2) : f_Md_rises σ (nI r) (nI s) = some (ris fa r s) := by
  have h8 := hm.1
  unfold f_Md_rises ris
  have e1 : 6 * nI r + 1 - nI s = nI (6 * r + (1 - s)) := by
    rw [show (6 : Int32) = nI 6 from rfl, pk_mul, nI_1, pk_sub (by omega)]
    congr 1; omega
  have e2 : 6 * nI r + nI s = nI (6 * r + s) := by rw [show (6 : Int32) = nI 6 from rfl, pk_mul, nI_add]
  rw [e1, e2, gd_of (vin_nI (by omega) (by decide)), gd_of (vin_nI (by omega) (by decide)), nI_clamp (show 6 * r + (1 - s) < 2 ^ 31 by omega), nI_clamp (show 6 * r + s < 2 ^ 31 by omega), hm.2.2.1 r (1 - s) hr (by omega), hm.2.2.1 r s hr (by omega), mx0_eq]
  split <;> rfl
def minO (fa : Nat → Nat → Int32) (r s : Nat) : Int32 := 12 + 2 * ris fa r s
def farO (fa : Nat → Nat → Int32) (r s : Nat) (ld : Int32) : Int32 := fa r 4 * (ld + 1) + ris fa r s
theorem mminutes_k {nr : Nat} {fa : Nat → Nat → Int32} {rk : Nat → Nat} {σ : Sg} (hm : MV' nr fa rk σ) {r s : Nat} (hr : r < nr) (hs : s < 2) : f_Md_minutes σ (nI r) (nI s) = some (minO fa r s) := by
  unfold f_Md_minutes
  rw [rises_k hm hr hs]
  rfl
theorem mcosts_k {nr : Nat} {fa : Nat → Nat → Int32} {rk : Nat → Nat} {σ : Sg} (hm : MV' nr fa rk σ) {r s : Nat} (hr : r < nr) (hs : s < 2) (ld : Int32) : f_Md_costs σ (nI r) (nI s) ld = some (farO fa r s ld) := by
  have h8 := hm.1
  unfold f_Md_costs
  have e : 6 * nI r + 4 = nI (6 * r + 4) := by rw [show (6 : Int32) = nI 6 from rfl, pk_mul, show (4 : Int32) = nI 4 from rfl, nI_add]
  rw [e, gd_of (vin_nI (by omega) (by decide)), nI_clamp (by omega), hm.2.2.1 r 4 hr (by omega), rises_k hm hr hs]
  rfl
theorem minutes_k {nr : Nat} {fa : Nat → Nat → Int32} {rk : Nat → Nat} {σ : Sg} (hc : CV nr fa rk σ) {r s : Nat} (hr : r < nr) (hs : s < 2) : f_Ro_minutes σ (9 + r) (nI s) = minO fa r s := by
  obtain ⟨-, -, h7, h8, -⟩ := hc.2.2 r hr
  unfold f_Ro_minutes minO ris
  rcases (show s = 0 ∨ s = 1 by omega) with rfl | rfl
  · rw [if_pos (show nI 0 = 0 from rfl), h7]
  · rw [if_neg (show ¬ nI 1 = 0 by decide), h8]
theorem fare_k {nr : Nat} {fa : Nat → Nat → Int32} {rk : Nat → Nat} {σ : Sg} (hc : CV nr fa rk σ) {r s : Nat} (hr : r < nr) (hs : s < 2) (ld : Int32) : f_Ro_fare σ (9 + r) (nI s) ld = farO fa r s ld := by
  obtain ⟨h0, -, h7, h8, -⟩ := hc.2.2 r hr
  unfold f_Ro_fare farO ris
  rcases (show s = 0 ∨ s = 1 by omega) with rfl | rfl
  · rw [if_pos (show nI 0 = 0 from rfl), h7, h0 4 (by omega)]
  · rw [if_neg (show ¬ nI 1 = 0 by decide), h8, h0 4 (by omega)]
theorem fig_no {x : Int32} (h : ¬ (0 ≤ x.toInt ∧ x.toInt < (10 : Nat))) : f_GR_isBelow x 10 = 0 ∧ f_Md_isFigure x = 0 := ⟨below_no h (by decide), by unfold f_Md_isFigure; rw [in_no h (by decide)]; rfl⟩
theorem fig_yes {j : Nat} (h : j < 10) : f_GR_isBelow (nI j) 10 = 1 ∧ f_Md_isFigure (nI j) = 1 := ⟨below_yes h (by decide) (by decide), by unfold f_Md_isFigure; rw [in_yes h (by decide) (by decide)]; rfl⟩
theorem own_no {x : Int32} (h : ¬ (0 ≤ x.toInt ∧ x.toInt < (5 : Nat))) : f_GR_isBelow x 5 = 0 ∧ f_Md_isOwner x = 0 := ⟨below_no h (by decide), by unfold f_Md_isOwner; rw [in_no h (by decide)]; rfl⟩
theorem own_yes {j : Nat} (h : j < 5) : f_GR_isBelow (nI j) 5 = 1 ∧ f_Md_isOwner (nI j) = 1 := ⟨below_yes h (by decide) (by decide), by unfold f_Md_isOwner; rw [in_yes h (by decide) (by decide)]; rfl⟩
theorem n10 {x : Int32} (h : x = 1) : ¬ x = 0 := by rw [h]; decide
theorem e_takes : E_takes Rel := by
  intro σ a1 a2 a3 a4 hR
  obtain ⟨nr, fa, rk, fv, σ', e1, e2, e3, hc, hm, hin, -⟩ := hR.find
  unfold f_GR_takes f_Md_takes
  rw [md_hasRope e1 hm, bd_s, rs_has hc.2.1 hc.1]
  by_cases c : isR nr a1 = true
  · rw [if_pos c, if_neg (show ¬ (1 : Int32) = 0 by decide), if_neg (show ¬ (1 : Int32) = 0 by decide)]
    obtain ⟨r, hr, rfl⟩ := isR_nI c hc.1
    rcases arg_in a2 2 (by decide) with h | ⟨s, hs, rfl⟩
    · exact ⟨-2, σ', by rw [if_pos (two_no h).1], by rw [if_pos (two_no h).2], hR.of e3⟩
    rw [if_neg (n10 (two_yes hs).1), if_neg (n10 (two_yes hs).2)]
    rcases arg_in a3 10 (by decide) with h | ⟨ld, hl, rfl⟩
    · exact ⟨-2, σ', by rw [if_pos (fig_no h).1], by rw [if_pos (fig_no h).2], hR.of e3⟩
    rw [if_neg (n10 (fig_yes hl).1), if_neg (n10 (fig_yes hl).2)]
    rcases arg_in a4 2 (by decide) with h | ⟨k, hk, rfl⟩
    · exact ⟨-2, σ', by rw [if_pos (two_no h).1], by rw [if_pos (two_no h).2], hR.of e3⟩
    rw [if_neg (n10 (two_yes hk).1), if_neg (n10 (two_yes hk).2), rs_at (by have := hc.1; omega), minutes_k hc hr hs, fare_k hc hr hs, mminutes_k hm hr hs, mcosts_k hm hr hs]
    rcases (show k = 0 ∨ k = 1 by omega) with rfl | rfl
    · rw [if_pos (show nI 0 = 0 from rfl), if_pos (show nI 0 = 0 from rfl)]
      exact ⟨_, σ', rfl, rfl, hR.of e3⟩
    · rw [if_neg (show ¬ nI 1 = 0 by decide), if_neg (show ¬ nI 1 = 0 by decide)]
      exact ⟨_, σ', rfl, rfl, hR.of e3⟩
  · rw [if_neg c]
    exact ⟨-2, σ', rfl, rfl, hR.of e3⟩
/-! settings -/
theorem set_ok {σ : Sg} (hR : Rel σ) {k : Nat} {v : Int32} (hk : k < 3) (hv : (k = 0 → 1 ≤ v.toInt ∧ v.toInt ≤ 9) ∧ (k = 1 → 1 ≤ v.toInt ∧ v.toInt ≤ 99) ∧ (k = 2 → 0 ≤ v.toInt ∧ v.toInt ≤ 999)) : Rel (pI (pI σ 17 k v) 75 k v) := by
  obtain ⟨-, ⟨s1, s2, s3, s4⟩, -⟩ := id hR
  refine hR.setG (fun i j g => by unfold gSet at g; rw [pI_ne (by omega), pI_ne (by omega)]) ?_
  have e17 : ∀ j, (pI (pI σ 17 k v) 75 k v).1 17 j = if j = k then v else σ.1 17 j := fun j => by rw [pI_ne (by omega), pI_get]; simp
  have e75 : ∀ j, (pI (pI σ 17 k v) 75 k v).1 75 j = if j = k then v else σ.1 75 j := fun j => by rw [pI_get, pI_ne (by omega)]; simp
  refine ⟨fun j hj => ?_, ?_, ?_, ?_⟩
  · rw [e17, e75]
    split
    · rfl
    · exact s1 j hj
  · rw [e17]; split
    · exact hv.1 (by omega)
    · exact s2
  · rw [e17]; split
    · exact hv.2.1 (by omega)
    · exact s3
  · rw [e17]; split
    · exact hv.2.2 (by omega)
    · exact s4
theorem set_cls (σ : Sg) (v lo hi : Int32) (k : Nat) : (if v < lo then some ((-2 : Int32), σ) else if v ≤ hi then some (σ.1 17 k, pI σ 17 k v) else some (-2, σ)) = if lo.toInt ≤ v.toInt ∧ v.toInt ≤ hi.toInt then some (σ.1 17 k, pI σ 17 k v) else some (-2, σ) := by
  by_cases c1 : v < lo
  · have := Int32.lt_iff_toInt_lt.mp c1
    rw [if_pos c1, if_neg (by omega)]
  · have h1 : lo.toInt ≤ v.toInt := Int.not_lt.mp (fun h => c1 (Int32.lt_iff_toInt_lt.mpr h))
    rw [if_neg c1]
    by_cases c2 : v ≤ hi
    · have := Int32.le_iff_toInt_le.mp c2
      rw [if_pos c2, if_pos ⟨h1, this⟩]
    · have h2 : hi.toInt < v.toInt := Int.not_le.mp (fun h => c2 (Int32.le_iff_toInt_le.mpr h))
      rw [if_neg c2, if_neg (by omega)]
theorem set_md (σ : Sg) (v : Int32) (lo hi : Int64) (k : Nat) (hk : k < 3) : f_Md_set_48 σ (nI k) v hi lo v.toInt64 = if lo.toInt ≤ v.toInt ∧ v.toInt ≤ hi.toInt then some (σ.1 75 k, pI σ 75 k v) else some (-2, σ) := by
  unfold f_Md_set_48
  rw [md_in, Int32.toInt_toInt64, if_ite10, gd_of (vin_nI hk (by decide)), gd_of (vin_nI hk (by decide)), nI_clamp (by omega)]
theorem e_set : E_set Rel := by
  intro σ a1 a2 hR
  obtain ⟨-, hS, -⟩ := id hR
  unfold f_GR_set f_Md_set
  rcases arg_in a1 3 (by decide) with h | ⟨k, hk, rfl⟩
  · exact ⟨-2, σ, σ, by rw [if_pos (below_no h (by decide))], by rw [if_pos (in_no h (by decide))], hR⟩
  have q1 : f_GR_isBelow (nI k) 3 = 1 := below_yes hk (by decide) (by decide)
  have q2 : f_Md_in (nI k).toInt64 0 2 = 1 := in_yes hk (by decide) (by decide)
  rw [if_neg (n10 q1), nI_clamp (by omega), set_cls]
  have hend : ∀ (lo hi : Int), (tbL k).toInt = lo → (tbM k).toInt = hi → (∀ s : Sg, (if f_Md_in (nI k).toInt64 0 2 = 0 then some ((-2 : Int32), s) else if nI k = 2 then f_Md_set_24 s (nI k) a2 0 a2.toInt64 else f_Md_set_24 s (nI k) a2 1 a2.toInt64) = if lo ≤ a2.toInt ∧ a2.toInt ≤ hi then some (s.1 75 k, pI s 75 k a2) else some (-2, s)) → (lo ≤ a2.toInt ∧ a2.toInt ≤ hi → Rel (pI (pI σ 17 k a2) 75 k a2)) → ∃ (r : Int32) (σ1 : Sg) (σ2 : Sg), (if (tbL k).toInt ≤ a2.toInt ∧ a2.toInt ≤ (tbM k).toInt then some (σ.1 17 k, pI σ 17 k a2) else some (-2, σ)) = some (r, σ1) ∧ (if f_Md_in (nI k).toInt64 0 2 = 0 then some ((-2 : Int32), σ1) else if nI k = 2 then f_Md_set_24 σ1 (nI k) a2 0 a2.toInt64 else f_Md_set_24 σ1 (nI k) a2 1 a2.toInt64) = some (r, σ2) ∧ Rel σ2 := by
    intro lo hi hlo hhi hmd hok
    rw [hlo, hhi]
    by_cases c : lo ≤ a2.toInt ∧ a2.toInt ≤ hi
    · rw [if_pos c]
      refine ⟨_, _, _, rfl, ?_, hok c⟩
      rw [hmd, if_pos c, pI_ne (by omega), hS.1 k hk]
    · rw [if_neg c]
      exact ⟨_, _, _, rfl, by rw [hmd, if_neg c], hR⟩
  rcases (show k = 0 ∨ k = 1 ∨ k = 2 by omega) with rfl | rfl | rfl
  · refine hend 1 9 (by decide) (by decide) (fun s => ?_) (fun c => set_ok hR (by omega) ⟨fun _ => c, fun h => by omega, fun h => by omega⟩)
    rw [if_neg (n10 q2), if_neg (show ¬ nI 0 = 2 by decide)]
    unfold f_Md_set_24
    rw [if_pos (show nI 0 = 0 from rfl), set_md s a2 1 9 0 (by omega)]
    rfl
  · refine hend 1 99 (by decide) (by decide) (fun s => ?_) (fun c => set_ok hR (by omega) ⟨fun h => by omega, fun _ => c, fun h => by omega⟩)
    rw [if_neg (n10 q2), if_neg (show ¬ nI 1 = 2 by decide)]
    unfold f_Md_set_24
    rw [if_neg (show ¬ nI 1 = 0 by decide), if_pos (show nI 1 = 1 from rfl), set_md s a2 1 99 1 (by omega)]
    rfl
  · refine hend 0 999 (by decide) (by decide) (fun s => ?_) (fun c => set_ok hR (by omega) ⟨fun h => by omega, fun h => by omega, fun _ => c⟩)
    rw [if_neg (n10 q2), if_pos (show nI 2 = 2 from rfl)]
    unfold f_Md_set_24
    rw [if_neg (show ¬ nI 2 = 0 by decide), if_neg (show ¬ nI 2 = 1 by decide), set_md s a2 0 999 2 (by omega)]
    rfl
