/-! sent, cut, needed -/
theorem mx_dec : ∀ x y : Fin 10, mx0 (nI x.val - nI y.val) = nI (x.val - y.val) := by decide +kernel
def Fn (fa : Nat → Nat → Int32) (r k : Nat) : Nat := (fa r k).toNatClampNeg
section
variable {nr nt g lf lim np : Nat} {fa T : Nat → Nat → Int32} {rk W K : Nat → Nat} {v0 v1 : Int32} {σ σ' σc σm : Sg}
theorem Fn_k (hin : ∀ r k, r < nr → k < 6 → ∃ j : Nat, j < hiN k ∧ fa r k = nI j) {r k : Nat} (hr : r < nr) (hk : k < 6) : fa r k = nI (Fn fa r k) ∧ Fn fa r k < 10 := by
  obtain ⟨j, j1, j2⟩ := hin r k hr hk
  have := hiN_le k
  unfold Fn
  rw [j2, nI_clamp (by omega)]
  exact ⟨rfl, by omega⟩
theorem Dat.cw (hs : Sta nr fa nt T g lf lim np W K) (h : Dat nr fa rk nt T g lf lim np W K v0 v1 σ) : CW nr (Fn fa) np (fun p => W p % 10) (fun p => K p % 10) σ := by
  obtain ⟨hin, -, -, -, -, n5, hWK⟩ := hs
  obtain ⟨hc, -, -, -, -, ⟨q1, q2, q3⟩, -⟩ := h
  have F := fun {r k : Nat} (hr : r < nr) (hk : k < 6) => Fn_k hin hr hk
  refine ⟨hc.1, hc.2.1, fun r hr => ?_, n5, fun p => ⟨Nat.mod_lt _ (by omega), Nat.mod_lt _ (by omega)⟩, q1, fun p hp => ?_⟩
  · obtain ⟨k1, k2, k3, k4, -⟩ := hc.2.2 r hr
    have f0 := F hr (show 0 < 6 by omega)
    have f1 := F hr (show 1 < 6 by omega)
    refine ⟨fun k hk => (F hr (show k < 6 by omega)).2, (k1 2 (by omega)).trans (F hr (by omega)).1, (k1 3 (by omega)).trans (F hr (by omega)).1, (k1 4 (by omega)).trans (F hr (by omega)).1, ?_, ?_⟩
    · rw [k3, f0.1, f1.1]; exact mx_dec ⟨_, f1.2⟩ ⟨_, f0.2⟩
    · rw [k4, f0.1, f1.1]; exact mx_dec ⟨_, f0.2⟩ ⟨_, f1.2⟩
  · obtain ⟨a, b⟩ := hWK p hp
    obtain ⟨c, d, -, -⟩ := q3 p hp
    show σ.1 44 p = nI (W p % 10) ∧ σ.1 45 p = nI (K p % 10)
    rw [Nat.mod_eq_of_lt a, Nat.mod_eq_of_lt (show K p < 10 by omega)]
    exact ⟨c, d⟩
/-- the model, once it has found the ropes -/
theorem Dat.mw (hs : Sta nr fa nt T g lf lim np W K) (h : Dat nr fa rk nt T g lf lim np W K v0 v1 σ) (hm : MV' nr fa rk σ) : MW nr (Fn fa) np lim (fun p => W p % 10) (fun p => K p % 10) σ := by
  obtain ⟨hin, -, -, -, hl, n5, hWK⟩ := hs
  obtain ⟨-, -, -, -, ⟨-, -, -, -, -, e2⟩, ⟨q1, q2, q3⟩, -⟩ := h
  have F := fun {r k : Nat} (hr : r < nr) (hk : k < 6) => Fn_k hin hr hk
  refine ⟨by have := hm.1; omega, n5, hl, fun p => ⟨Nat.mod_lt _ (by omega), Nat.mod_lt _ (by omega)⟩, fun r k hr hk => ⟨(F hr (show k < 6 by omega)).2, (hm.2.2.1 r k hr (by omega)).trans (F hr (by omega)).1⟩, q2, e2, fun p hp => ?_⟩
  obtain ⟨a, b⟩ := hWK p hp
  obtain ⟨-, -, c, d⟩ := q3 p hp
  show σ.1 78 p = nI (W p % 10) ∧ σ.1 79 p = nI (K p % 10)
  rw [Nat.mod_eq_of_lt a, Nat.mod_eq_of_lt (show K p < 10 by omega)]
  exact ⟨c, d⟩
theorem KS.kp (h : KS σ σ') : Kp σ σ' := fun i k _ w => h i k (by unfold scM at w; omega) (by unfold scM at w; omega) (by unfold scM at w; omega) (by unfold scM at w; omega)
theorem KS.mv (h : KS σ σ') (hm : MV' nr fa rk σ) : MV' nr fa rk σ' := hm.of (h _ _ (by omega) (by omega) (by omega) (by omega)) (fun k => h _ _ (by omega) (by omega) (by omega) (by omega)) (fun k => h _ _ (by omega) (by omega) (by omega) (by omega))
/-- one search on both sides -/
theorem seek_k (hs : Sta nr fa nt T g lf lim np W K) (h : Dat nr fa rk nt T g lf lim np W K v0 v1 σc) (h' : Dat nr fa rk nt T g lf lim np W K v0 v1 σm) (hm : MV' nr fa rk σm) (wo : Int32) : ∃ σc' σm', f_Mi_reckon σc wo (nI lim) = some σc' ∧ Kp σc σc' ∧ f_Md_findSent σm (nI nr) wo = some σm' ∧ Kp σm σm' ∧ MV' nr fa rk σm' ∧ MR2 np σc' σm' := by
  obtain ⟨σ1, σ2, a1, a2, a3, a4, a5⟩ := mill_k (h.cw hs) (h'.mw hs hm) wo
  exact ⟨σ1, σ2, a1, a2.kp, a3, a4.kp, a4.mv hm, a5⟩
theorem in_sent {a : Int32} (n5 : np ≤ 5) : f_Md_in a.toInt64 (-2) ((nI np - 1).toInt64) = if -2 ≤ a.toInt ∧ a.toInt < np then 1 else 0 := by
  have e : (nI np - 1).toInt = (np : Int) - 1 := pk_sub_toInt (a := np) (b := 1) (by omega) (by omega)
  have z : (-2 : Int64).toInt = -2 := by decide
  rw [md_in, Int32.toInt_toInt64, Int32.toInt_toInt64, e, z]
  by_cases c : -2 ≤ a.toInt ∧ a.toInt < np
  · rw [if_pos (by omega), if_pos c]
  · rw [if_neg (by omega), if_neg c]
theorem sent_28 (hs : Sta nr fa nt T g lf lim np W K) (h : Dat nr fa rk nt T g lf lim np W K v0 v1 σc) (h' : Dat nr fa rk nt T g lf lim np W K v0 v1 σm) {a : Int32} (ha : a = -1 ∨ a = -2 ∨ ∃ p, p < np ∧ a = nI p) : ∃ x σc' σm', f_GR_sent_28 σc a = some (x, σc') ∧ f_Md_sent σm a = some (x, σm') ∧ Kp σc σc' ∧ Kp σm σm' := by
  have n5 := hs.2.2.2.2.2.1
  obtain ⟨σf, u1, hm, u3⟩ := h'.2.2.2.2.2.2.2.1 σm Kw.rf
  have kpf := find_kp u3
  obtain ⟨σ1, σ2, a1, a2, a3, a4, a5, x, t, z, m1, m2, m3, m4, m5, m6⟩ := seek_k hs h (h'.of kpf) hm (-1)
  have i2 : (-2 : Int32).toInt = -2 := by decide
  have i1 : (-1 : Int32).toInt = -1 := by decide
  have cond : -2 ≤ a.toInt ∧ a.toInt < np := by
    rcases ha with rfl | rfl | ⟨p, hp, rfl⟩
    · omega
    · omega
    · rw [nI_toInt (by omega)]; omega
  unfold f_GR_sent_28 f_Md_sent f_GR_sentAsReckoned
  rw [h.2.2.2.2.1.2.2.1, a1, Option.bind_some, h'.2.2.2.2.2.1.2.1, in_sent n5, if_pos cond, if_neg (show ¬ (1 : Int32) = 0 by decide), u1, bd_s, hm.2.1, a3, Option.bind_some, m1, m4, m2, m5]
  rcases ha with rfl | rfl | ⟨p, hp, rfl⟩
  · rw [if_pos rfl, if_neg (show ¬ (-1 : Int32) = -2 by decide), if_pos rfl, Option.bind_some]
    exact ⟨x, σ1, σ2, rfl, rfl, a2, kpf.tr a4⟩
  · rw [if_neg (show ¬ (-2 : Int32) = -1 by decide), if_pos rfl, if_pos rfl, Option.bind_some]
    exact ⟨t, σ1, σ2, rfl, rfl, a2, kpf.tr a4⟩
  · have p2 : ¬ nI p = -2 := fun q => by
      have := congrArg Int32.toInt q
      rw [nI_toInt (by omega), i2] at this
      omega
    obtain ⟨y1, y2, y3⟩ := m6 p hp
    rw [if_neg (nI_m1 (by omega)), if_neg p2, if_neg p2, if_neg (nI_m1 (by omega)), y1, Option.bind_some, gd_of (vin_nI (show p < 5 by omega) (by decide)), nI_clamp (by omega)]
    by_cases c : x = -1
    · rw [if_pos c, y2 c, c]
      exact ⟨_, σ1, σ2, rfl, rfl, a2, kpf.tr a4⟩
    · rw [if_neg c, y3 c]
      exact ⟨_, σ1, σ2, rfl, rfl, a2, kpf.tr a4⟩
theorem sent_k (hs : Sta nr fa nt T g lf lim np W K) (h : Dat nr fa rk nt T g lf lim np W K v0 v1 σc) (h' : Dat nr fa rk nt T g lf lim np W K v0 v1 σm) (a : Int32) : ∃ x σc' σm', f_GR_sent σc a = some (x, σc') ∧ f_Md_sent σm a = some (x, σm') ∧ Kp σc σc' ∧ Kp σm σm' := by
  have n5 := hs.2.2.2.2.2.1
  unfold f_GR_sent
  by_cases c1 : a = -1
  · rw [if_pos c1]
    exact sent_28 hs h h' (Or.inl c1)
  rw [if_neg c1]
  by_cases c2 : a = -2
  · rw [if_pos c2]
    exact sent_28 hs h h' (Or.inr (Or.inl c2))
  rw [if_neg c2, h.2.2.2.2.2.1.1]
  rcases arg_in a np (by omega) with q | ⟨p, hp, rfl⟩
  · rw [if_pos (below_no q (nI_toInt (by omega)))]
    refine ⟨-2, σc, σm, rfl, ?_, Kp.rf, Kp.rf⟩
    unfold f_Md_sent
    have i2 : (-2 : Int32).toInt = -2 := by decide
    have i1 : (-1 : Int32).toInt = -1 := by decide
    have n1 : ¬ a.toInt = -1 := fun z => c1 (Int32.toInt_inj.mp (z.trans i1.symm))
    have n2 : ¬ a.toInt = -2 := fun z => c2 (Int32.toInt_inj.mp (z.trans i2.symm))
    rw [h'.2.2.2.2.2.1.2.1, in_sent n5, if_neg (show ¬ (-2 ≤ a.toInt ∧ a.toInt < np) by omega), if_pos rfl]
  · rw [if_neg (n10 (below_yes hp (nI_toInt (by omega)) (by omega)))]
    exact sent_28 hs h h' (Or.inr (Or.inr ⟨p, hp, rfl⟩))
theorem e_sent : E_sent Rel := by
  intro σ a hR
  obtain ⟨nr, fa, rk, nt, T, g, lf, lim, np, W, K, v0, v1, hs, hd⟩ := hR.dat
  exact two_e (cls := fun s => f_GR_sent s a) (mdl := fun s => f_Md_sent s a) hR (fun σc σm k1 k2 => sent_k hs (hd.of k1) (hd.of k2) a)
theorem cutOf_k (hs : Sta nr fa nt T g lf lim np W K) (h : Dat nr fa rk nt T g lf lim np W K v0 v1 σc) (h' : Dat nr fa rk nt T g lf lim np W K v0 v1 σm) (hm : MV' nr fa rk σm) (a : Int32) : ∃ x σc' σm', f_GR_cutAsTold σc a = some (x, σc') ∧ f_Md_cutOf σm a = some (x, σm') ∧ Kp σc σc' ∧ Kp σm σm' ∧ MV' nr fa rk σm' := by
  obtain ⟨σ1, σ2, a1, a2, a3, a4, a5, x, t, z, m1, m2, -⟩ := seek_k hs h h' hm (-1)
  obtain ⟨σ3, σ4, b1, b2, b3, b4, b5, y, t', z', n1, n2, -⟩ := seek_k hs (h.of a2) (h'.of a4) a5 a
  have e17 : σ1.1 17 2 = nI lim := (h.of a2).2.2.2.2.1.2.2.1
  unfold f_GR_cutAsTold f_Md_cutOf
  rw [h.2.2.2.2.1.2.2.1, a1, Option.bind_some, m1, Option.bind_some, e17, b1, Option.bind_some, n1, Option.bind_some, hm.2.1, a3, Option.bind_some, a5.2.1, b3, Option.bind_some, m2, n2]
  by_cases c1 : x = -1
  · rw [if_pos c1, if_pos c1]
    exact ⟨_, σ3, σ4, rfl, rfl, a2.tr b2, a4.tr b4, b5⟩
  · rw [if_neg c1, if_neg c1]
    by_cases c2 : y = -1
    · rw [if_pos c2, if_pos c2]
      exact ⟨_, σ3, σ4, rfl, rfl, a2.tr b2, a4.tr b4, b5⟩
    · rw [if_neg c2, if_neg c2]
      exact ⟨_, σ3, σ4, rfl, rfl, a2.tr b2, a4.tr b4, b5⟩
theorem e_cut : E_cut Rel := by
  intro σ a hR
  obtain ⟨nr, fa, rk, nt, T, g, lf, lim, np, W, K, v0, v1, hs, hd⟩ := hR.dat
  refine two_e (cls := fun s => f_GR_cut s a) (mdl := fun s => f_Md_cut s a) hR (fun σc σm k1 k2 => ?_)
  have h := hd.of k1
  have h' := hd.of k2
  obtain ⟨σf, u1, hm, u3⟩ := h'.2.2.2.2.2.2.2.1 σm Kw.rf
  have kpf := find_kp u3
  show ∃ x σc' σm', f_GR_cut σc a = some (x, σc') ∧ f_Md_cut σm a = some (x, σm') ∧ Kp σc σc' ∧ Kp σm σm'
  unfold f_GR_cut f_Md_cut
  rw [md_hasRope u1 hm, bd_s, rs_has h.1.2.1 h.1.1]
  by_cases c : isR nr a = true
  · rw [if_pos c, if_neg (show ¬ (1 : Int32) = 0 by decide), if_neg (show ¬ (1 : Int32) = 0 by decide)]
    obtain ⟨x, σ1, σ2, a1, a2, a3, a4, a5⟩ := cutOf_k hs h (h'.of kpf) hm a
    rw [a1, bd_s, a2, bd_s]
    exact ⟨x, σ1, σ2, rfl, rfl, a3, kpf.tr a4⟩
  · rw [if_neg c, if_pos rfl, if_pos rfl]
    exact ⟨_, σc, σf, rfl, rfl, Kp.rf, kpf⟩
theorem need_loop (hs : Sta nr fa nt T g lf lim np W K) : ∀ (d f1 f2 r : Nat) (b : Int32) (σc σm : Sg), Dat nr fa rk nt T g lf lim np W K v0 v1 σc → Dat nr fa rk nt T g lf lim np W K v0 v1 σm → MV' nr fa rk σm → ¬ σm.1 66 24 = -1 → r + d = nr → d < f1 → d < f2 → ∃ x σc' σm', f_GR_needed_37 f1 σc (nI lim) b (nI r) = some (x, σc') ∧ f_Md_neededNow_13 f2 σm b (nI r) = some (x, σm') ∧ Kp σc σc' ∧ Kp σm σm' ∧ MV' nr fa rk σm' := by
  intro d
  induction d with
  | zero =>
    intro f1 f2 r b σc σm h h' hm hn hr q1 q2
    obtain ⟨m1, rfl⟩ : ∃ m, f1 = m + 1 := ⟨f1 - 1, by omega⟩
    obtain ⟨m2, rfl⟩ : ∃ m, f2 = m + 1 := ⟨f2 - 1, by omega⟩
    have h8 := hm.1
    have : r = nr := by omega
    subst this
    refine ⟨b, σc, σm, ?_, ?_, Kp.rf, Kp.rf, hm⟩
    · rw [f_GR_needed_37_s, h.1.2.1, if_pos (nI_le (Nat.le_refl _) (by omega))]
    · rw [f_Md_neededNow_13_s, hm.2.1, if_pos (nI_le (Nat.le_refl _) (by omega))]
  | succ d ih =>
    intro f1 f2 r b σc σm h h' hm hn hr q1 q2
    obtain ⟨m1, rfl⟩ : ∃ m, f1 = m + 1 := ⟨f1 - 1, by omega⟩
    obtain ⟨m2, rfl⟩ : ∃ m, f2 = m + 1 := ⟨f2 - 1, by omega⟩
    have h8 := hm.1
    obtain ⟨σ1, σ2, a1, a2, a3, a4, a5, x, t, z, n1, n2, -⟩ := seek_k hs h h' hm (nI r)
    rw [f_GR_needed_37_s, h.1.2.1, if_neg (nI_ge (by omega) (by omega)), a1, Option.bind_some, n1, Option.bind_some]
    rw [f_Md_neededNow_13_s, hm.2.1, if_neg (nI_ge (by omega) (by omega)), if_neg hn, a3, Option.bind_some, n2]
    unfold f_GR_needed_78 f_Md_neededNow_57
    rw [nI_1]
    by_cases c : x = -1
    · rw [if_pos c, if_pos c]
      have k6 : KS σ2 (pI σ2 66 24 0) := fun i k _ _ _ q => pI_ne (by omega)
      obtain ⟨y, σ3, σ4, e1, e2, e3, e4, e5⟩ := ih m1 m2 (r + 1) (b ||| (1 <<< (nI r &&& 31))) σ1 (pI σ2 66 24 0) (h.of a2) ((h'.of a4).of k6.kp) (k6.mv a5) (by rw [pI_eq]; decide) (by omega) (by omega) (by omega)
      exact ⟨y, σ3, σ4, e1, e2, a2.tr e3, (a4.tr k6.kp).tr e4, e5⟩
    · rw [if_neg c, if_neg c]
      obtain ⟨y, σ3, σ4, e1, e2, e3, e4, e5⟩ := ih m1 m2 (r + 1) b σ1 σ2 (h.of a2) (h'.of a4) a5 (by rw [n2]; exact c) (by omega) (by omega) (by omega)
      exact ⟨y, σ3, σ4, e1, e2, a2.tr e3, a4.tr e4, e5⟩
theorem need_k (hs : Sta nr fa nt T g lf lim np W K) (h : Dat nr fa rk nt T g lf lim np W K v0 v1 σc) (h' : Dat nr fa rk nt T g lf lim np W K v0 v1 σm) (hm : MV' nr fa rk σm) : ∃ x σc' σm', f_GR_needed σc = some (x, σc') ∧ f_Md_neededNow σm = some (x, σm') ∧ Kp σc σc' ∧ Kp σm σm' ∧ MV' nr fa rk σm' := by
  have h8 := hm.1
  obtain ⟨σ1, σ2, a1, a2, a3, a4, a5, x, t, z, n1, n2, -⟩ := seek_k hs h h' hm (-1)
  unfold f_GR_needed f_Md_neededNow
  rw [h.2.2.2.2.1.2.2.1, a1, Option.bind_some, n1, Option.bind_some, hm.2.1, a3, Option.bind_some]
  by_cases c : x = -1
  · rw [if_pos c]
    refine ⟨0, σ1, σ2, rfl, ?_, a2, a4, a5⟩
    rw [show FU = 999999 + 1 from rfl, f_Md_neededNow_13_s, n2, if_pos c, ite_self]
  · rw [if_neg c]
    obtain ⟨y, σ3, σ4, e1, e2, e3, e4, e5⟩ := need_loop hs nr FU FU 0 0 σ1 σ2 (h.of a2) (h'.of a4) a5 (by rw [n2]; exact c) (by omega) (by unfold FU; omega) (by unfold FU; omega)
    exact ⟨y, σ3, σ4, e1, e2, a2.tr e3, a4.tr e4, e5⟩
theorem e_needed : E_needed Rel := by
  intro σ hR
  obtain ⟨nr, fa, rk, nt, T, g, lf, lim, np, W, K, v0, v1, hs, hd⟩ := hR.dat
  refine two_e (cls := f_GR_needed) (mdl := f_Md_needed) hR (fun σc σm k1 k2 => ?_)
  have h' := hd.of k2
  obtain ⟨σf, u1, hm, u3⟩ := h'.2.2.2.2.2.2.2.1 σm Kw.rf
  have kpf := find_kp u3
  obtain ⟨x, σ1, σ2, a1, a2, a3, a4, a5⟩ := need_k hs (hd.of k1) (h'.of kpf) hm
  refine ⟨x, σ1, σ2, a1, ?_, a3, kpf.tr a4⟩
  unfold f_Md_needed
  rw [u1, bd_s, a2, bd_s]
end
