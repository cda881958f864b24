/-! pegs: all of them -/
section
variable {nr nt g lf lim np kd br pr : Nat} {fa T : Nat → Nat → Int32} {rk W K ls : Nat → Nat} {v0 v1 : Int32} {σc σm : Sg}
theorem pegs_in {k41 : Sg → Int32 → Int32 → Option Sg} (hs : Sta nr fa nt T g lf lim np W K) (hkd : kd < 10) (hbr : br < 10) (hpr : pr < 10) {l : Nat} (hl : l < 10) (m : Nat) : ∀ (d f j : Nat) (v : Int32) (σc σm : Sg), Dat nr fa rk nt T g lf lim np W K v0 v1 σc → Dat nr fa rk nt T g lf lim np W K v0 v1 σm → PC nr fa np lim W K ls kd br pr σc → PM nr fa rk kd br pr σm → PJ v σc σm → j + d = 10 → d < f → ∃ σc' σm' v', f_Mi_seekPegs_51 k41 f σc (nI lim) (nI l) (nI j) = k41 σc' (nI lim) (nI l + 1) ∧ f_Md_findPegs_60 (m + d) σm (nI (6 * nr)) v (nI (10 * l + j)) = f_Md_findPegs_60 m σm' (nI (6 * nr)) v' (nI (10 * l + 10)) ∧ Dat nr fa rk nt T g lf lim np W K v0 v1 σc' ∧ Dat nr fa rk nt T g lf lim np W K v0 v1 σm' ∧ PC nr fa np lim W K ls kd br pr σc' ∧ PM nr fa rk kd br pr σm' ∧ PJ v' σc' σm' ∧ Kp σc σc' ∧ Kp σm σm' := by
  intro d
  induction d with
  | zero =>
    intro f j v σc σm h h' pc pm pj hj hf
    obtain ⟨z, rfl⟩ : ∃ z, f = z + 1 := ⟨f - 1, by omega⟩
    have : j = 10 := by omega
    subst this
    exact ⟨σc, σm, v, by rw [f_Mi_seekPegs_51_s, if_pos (show (10 : Int32) ≤ nI 10 by decide)], rfl, h, h', pc, pm, pj, Kp.rf, Kp.rf⟩
  | succ d ih =>
    intro f j v σc σm h h' pc pm pj hj hf
    obtain ⟨z, rfl⟩ : ∃ z, f = z + 1 := ⟨f - 1, by omega⟩
    obtain ⟨σ6, σ8, σb, v', a1, a2, a3, a4, a5, a6, a7, a8, a9, a10⟩ := try_k hs hkd hbr hpr hl (show j < 10 by omega) h h' pc pm pj
    obtain ⟨σ9, σd, v2, b1, b2, b3, b4, b5, b6, b7, b8, b9⟩ := ih z (j + 1) v' σ8 σb a4 a5 a6 a7 a8 (by omega) (by omega)
    refine ⟨σ9, σd, v2, ?_, ?_, b3, b4, b5, b6, b7, a9.tr b8, a10.tr b9⟩
    · rw [f_Mi_seekPegs_51_s, if_neg (show ¬ (10 : Int32) ≤ nI j from nI_ge (b := 10) (by omega) (by omega)), a1, Option.bind_some, a2, Option.bind_some, nI_1 j]
      exact b1
    · rw [show m + (d + 1) = m + d + 1 by omega, a3 (m + d), show 10 * l + j + 1 = 10 * l + (j + 1) by omega]
      exact b2
theorem pegs_out (hs : Sta nr fa nt T g lf lim np W K) (hkd : kd < 10) (hbr : br < 10) (hpr : pr < 10) (m : Nat) : ∀ (d f l : Nat) (v : Int32) (σc σm : Sg), Dat nr fa rk nt T g lf lim np W K v0 v1 σc → Dat nr fa rk nt T g lf lim np W K v0 v1 σm → PC nr fa np lim W K ls kd br pr σc → PM nr fa rk kd br pr σm → PJ v σc σm → l + d = 10 → d < f → ∃ σc' σm' v', f_Mi_seekPegs_41 f σc (nI lim) (nI l) = some σc' ∧ f_Md_findPegs_60 (m + 1 + 10 * d) σm (nI (6 * nr)) v (nI (10 * l)) = some σm' ∧ MV' nr fa rk σm' ∧ PJ v' σc' σm' ∧ Kp σc σc' ∧ Kp σm σm' := by
  intro d
  induction d with
  | zero =>
    intro f l v σc σm h h' pc pm pj hl hf
    obtain ⟨z, rfl⟩ : ∃ z, f = z + 1 := ⟨f - 1, by omega⟩
    have : l = 10 := by omega
    subst this
    exact ⟨σc, σm, v, by rw [f_Mi_seekPegs_41_s, if_pos (show (10 : Int32) ≤ nI 10 by decide)], by rw [show m + 1 + 10 * 0 = m + 1 by omega, f_Md_findPegs_60_s, if_pos (show (100 : Int32) ≤ nI (10 * 10) by decide)], pm.1, pj, Kp.rf, Kp.rf⟩
  | succ d ih =>
    intro f l v σc σm h h' pc pm pj hl hf
    obtain ⟨z, rfl⟩ : ∃ z, f = z + 1 := ⟨f - 1, by omega⟩
    obtain ⟨σ1, σ2, v2, a1, a2, a3, a4, a5, a6, a7, a8, a9⟩ := pegs_in (k41 := f_Mi_seekPegs_41 z) hs hkd hbr hpr (l := l) (by omega) (m + 1 + 10 * d) 10 FU 0 v σc σm h h' pc pm pj (by omega) (by unfold FU; omega)
    obtain ⟨σ3, σ4, v3, b1, b2, b3, b4, b5, b6⟩ := ih z (l + 1) v2 σ1 σ2 a3 a4 a5 a6 a7 (by omega) (by omega)
    refine ⟨σ3, σ4, v3, ?_, ?_, b3, b4, a8.tr b5, a9.tr b6⟩
    · rw [f_Mi_seekPegs_41_s, if_neg (show ¬ (10 : Int32) ≤ nI l from nI_ge (b := 10) (by omega) (by omega))]
      refine Eq.trans a1 ?_
      rw [nI_1]
      exact b1
    · rw [show m + 1 + 10 * (d + 1) = m + 1 + 10 * d + 10 by omega]
      refine Eq.trans a2 ?_
      rw [show 10 * l + 10 = 10 * (l + 1) by omega]
      exact b2
/-- both seek the pegs -/
theorem seekPegs_k (hs : Sta nr fa nt T g lf lim np W K) (hkd : kd < 10) (hbr : br < 10) (hpr : pr < 10) (h : Dat nr fa rk nt T g lf lim np W K v0 v1 σc) (h' : Dat nr fa rk nt T g lf lim np W K v0 v1 σm) (hm : MV' nr fa rk σm) : ∃ σc' σm' v', f_Mi_seekPegs σc (nI kd) (nI br) (nI pr) (nI lim) = some σc' ∧ f_Md_findPegs σm (nI kd) (nI br) (nI pr) = some σm' ∧ MV' nr fa rk σm' ∧ PJ v' σc' σm' ∧ Kp σc σc' ∧ Kp σm σm' := by
  have h8 := hm.1
  obtain ⟨ls, σ1, c1, c2, c3, c4⟩ := reckon_k (wo := -1) hs.2.2.2.2.1 (h.cw hs)
  have fc : ∀ i k, ¬ (i = 48 ∧ (k = 2 ∨ k = 3 ∨ k = 4)) → ¬ (i = 43 ∧ k = 8) → (pI (pI (pI (pI σ1 48 2 (nI kd)) 48 3 (nI br)) 48 4 (nI pr)) 43 8 (-1)).1 i k = σ1.1 i k := fun i k q1 q2 => by rw [pI_ne (by omega), pI_ne (by omega), pI_ne (by omega), pI_ne (by omega)]
  have kc : Kp σ1 (pI (pI (pI (pI σ1 48 2 (nI kd)) 48 3 (nI br)) 48 4 (nI pr)) 43 8 (-1)) := fun i k q _ => fc i k (by unfold scC at q; omega) (by unfold scC at q; omega)
  have fm : ∀ i k, ¬ (i = 73 ∧ (k = 6 * nr + 2 ∨ k = 6 * nr + 3 ∨ k = 6 * nr + 4)) → ¬ (i = 66 ∧ (k = 26 ∨ k = 27 ∨ k = 28)) → (pI (pI (pI (pI (pI (pI σm 73 (6 * nr + 2) (nI kd)) 73 (6 * nr + 3) (nI br)) 73 (6 * nr + 4) (nI pr)) 66 26 (-1)) 66 27 (-1)) 66 28 (-1)).1 i k = σm.1 i k := fun i k q1 q2 => by rw [pI_ne (by omega), pI_ne (by omega), pI_ne (by omega), pI_ne (by omega), pI_ne (by omega), pI_ne (by omega)]
  have km : Kp σm (pI (pI (pI (pI (pI (pI σm 73 (6 * nr + 2) (nI kd)) 73 (6 * nr + 3) (nI br)) 73 (6 * nr + 4) (nI pr)) 66 26 (-1)) 66 27 (-1)) 66 28 (-1)) := fun i k _ q => fm i k (by unfold scM at q; omega) (by unfold scM at q; omega)
  have hm2 : MV' nr fa rk (pI (pI (pI (pI (pI (pI σm 73 (6 * nr + 2) (nI kd)) 73 (6 * nr + 3) (nI br)) 73 (6 * nr + 4) (nI pr)) 66 26 (-1)) 66 27 (-1)) 66 28 (-1)) := ⟨hm.1, (fm _ _ (by omega) (by omega)).trans hm.2.1, fun r k hr hk => (fm _ _ (by omega) (by omega)).trans (hm.2.2.1 r k hr hk), fun r hr => (fm _ _ (by omega) (by omega)).trans (hm.2.2.2 r hr)⟩
  obtain ⟨σ3, σ4, v3, b1, b2, b3, b4, b5, b6⟩ := pegs_out (ls := ls) (v0 := v0) (v1 := v1) hs hkd hbr hpr 999899 10 FU 0 0 (pI (pI (pI (pI σ1 48 2 (nI kd)) 48 3 (nI br)) 48 4 (nI pr)) 43 8 (-1)) (pI (pI (pI (pI (pI (pI σm 73 (6 * nr + 2) (nI kd)) 73 (6 * nr + 3) (nI br)) 73 (6 * nr + 4) (nI pr)) 66 26 (-1)) 66 27 (-1)) 66 28 (-1)) ((h.of c2.kp).of kc) (h'.of km) ⟨c3, fun X hX => by rw [fc _ _ (by omega) (by omega)]; exact c4 X hX, by rw [pI_ne (by omega), pI_ne (by omega), pI_ne (by omega), pI_eq], by rw [pI_ne (by omega), pI_ne (by omega), pI_eq], by rw [pI_ne (by omega), pI_eq]⟩ ⟨hm2, by rw [pI_ne (by omega), pI_ne (by omega), pI_ne (by omega), pI_ne (by omega), pI_ne (by omega), pI_eq], by rw [pI_ne (by omega), pI_ne (by omega), pI_ne (by omega), pI_ne (by omega), pI_eq], by rw [pI_ne (by omega), pI_ne (by omega), pI_ne (by omega), pI_eq]⟩ ⟨by rw [pI_eq, pI_eq], fun _ => ⟨by rw [pI_ne (by omega), pI_ne (by omega), pI_eq], by rw [pI_ne (by omega), pI_eq]⟩, fun q => absurd pI_eq q⟩ (by omega) (by unfold FU; omega)
  refine ⟨σ3, σ4, v3, ?_, ?_, b3, b4, (c2.kp.tr kc).tr b5, km.tr b6⟩
  · unfold f_Mi_seekPegs
    rw [c1, Option.bind_some]
    exact b1
  · have e0 : (6 * nI nr : Int32) = nI (6 * nr) := by rw [show (6 : Int32) = nI 6 from rfl, pk_mul]
    have e2 : (nI (6 * nr) + 2 : Int32) = nI (6 * nr + 2) := nI_add _ 2
    have e3 : (nI (6 * nr) + 3 : Int32) = nI (6 * nr + 3) := nI_add _ 3
    have e4 : (nI (6 * nr) + 4 : Int32) = nI (6 * nr + 4) := nI_add _ 4
    unfold f_Md_findPegs
    rw [hm.2.1, e0, e2, e3, e4, gd_of (vin_nI (by omega) (by decide)), gd_of (vin_nI (by omega) (by decide)), gd_of (vin_nI (by omega) (by decide)), nI_clamp (show 6 * nr + 2 < 2 ^ 31 by omega), nI_clamp (show 6 * nr + 3 < 2 ^ 31 by omega), nI_clamp (show 6 * nr + 4 < 2 ^ 31 by omega)]
    exact b2
theorem found_k {v : Int32} (pj : PJ v σc σm) {k : Nat} (hk : k < 3) : f_Mi_foundPegs σc (nI k) = if nI k = 0 then σm.1 66 26 else if nI k = 1 then σm.1 66 27 else σm.1 66 28 := by
  obtain ⟨j1, j2, j3⟩ := pj
  unfold f_Mi_foundPegs
  rw [j1]
  by_cases c : σm.1 66 28 = -1
  · rw [if_pos c, (j2 c).1, (j2 c).2, c, ite_self, ite_self]
  · rw [if_neg c, (j3 c).1, (j3 c).2.1]
    rcases (show k = 0 ∨ k = 1 ∨ k = 2 by omega) with rfl | rfl | rfl
    · rw [if_neg (show ¬ nI 0 = 2 by decide), if_pos (show nI 0 = 0 from rfl), if_pos (show nI 0 = 0 from rfl)]
    · rw [if_neg (show ¬ nI 1 = 2 by decide), if_neg (show ¬ nI 1 = 0 by decide), if_neg (show ¬ nI 1 = 0 by decide), if_pos (show nI 1 = 1 from rfl)]
    · rw [if_pos (show nI 2 = 2 from rfl), if_neg (show ¬ nI 2 = 0 by decide), if_neg (show ¬ nI 2 = 1 by decide)]
theorem e_pegs : E_pegs Rel := by
  intro σ a1 a2 a3 a4 hR
  obtain ⟨nr, fa, rk, nt, T, g, lf, lim, np, W, K, v0, v1, hs, hd⟩ := hR.dat
  refine two_e (cls := fun s => f_GR_pegs s a1 a2 a3 a4) (mdl := fun s => f_Md_pegs s a1 a2 a3 a4) hR (fun σc σm k1 k2 => ?_)
  have h := hd.of k1
  have h' := hd.of k2
  show ∃ x σc' σm', f_GR_pegs σc a1 a2 a3 a4 = some (x, σc') ∧ f_Md_pegs σm a1 a2 a3 a4 = some (x, σm') ∧ Kp σc σc' ∧ Kp σm σm'
  unfold f_GR_pegs f_Md_pegs
  rcases arg_in a1 3 (by decide) with q | ⟨kd, hkd, rfl⟩
  · rw [if_pos (frm_no q).1, if_pos (frm_no q).2]
    exact ⟨_, σc, σm, rfl, rfl, Kp.rf, Kp.rf⟩
  rw [if_neg (n10 (frm_yes hkd).1), if_neg (n10 (frm_yes hkd).2)]
  rcases arg_in a2 10 (by decide) with q | ⟨br, hbr, rfl⟩
  · rw [if_pos (fig_no q).1, if_pos (fig_no q).2]
    exact ⟨_, σc, σm, rfl, rfl, Kp.rf, Kp.rf⟩
  rw [if_neg (n10 (fig_yes hbr).1), if_neg (n10 (fig_yes hbr).2)]
  rcases arg_in a3 10 (by decide) with q | ⟨pr, hpr, rfl⟩
  · rw [if_pos (fig_no q).1, if_pos (fig_no q).2]
    exact ⟨_, σc, σm, rfl, rfl, Kp.rf, Kp.rf⟩
  rw [if_neg (n10 (fig_yes hpr).1), if_neg (n10 (fig_yes hpr).2)]
  rcases arg_in a4 3 (by decide) with q | ⟨k, hk, rfl⟩
  · rw [if_pos (frm_no q).1, if_pos (frm_no q).2]
    exact ⟨_, σc, σm, rfl, rfl, Kp.rf, Kp.rf⟩
  rw [if_neg (n10 (frm_yes hk).1), if_neg (n10 (frm_yes hk).2)]
  obtain ⟨σf, u1, hm, u3⟩ := h'.2.2.2.2.2.2.2.1 σm Kw.rf
  have kpf := find_kp u3
  obtain ⟨σ1, σ2, v, b1, b2, b3, b4, b5, b6⟩ := seekPegs_k hs (show kd < 10 by omega) hbr hpr h (h'.of kpf) hm
  rw [h.2.2.2.2.1.2.2.1, b1, Option.bind_some, u1, bd_s, b2, Option.bind_some, found_k b4 hk]
  refine ⟨_, σ1, σ2, rfl, ?_, b5, kpf.tr b6⟩
  by_cases c0 : nI k = 0
  · rw [if_pos c0, if_pos c0]
  · rw [if_neg c0, if_neg c0]
    by_cases c1 : nI k = 1
    · rw [if_pos c1, if_pos c1]
    · rw [if_neg c1, if_neg c1]
end
