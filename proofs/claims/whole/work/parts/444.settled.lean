/-! settled -/
section
variable {M : Nat → Int32}
theorem or_dec : ∀ A : Fin 32, ∀ o q : Fin 5, (A.val ||| 2 ^ o.val) < 32 ∧ (A.val ||| 2 ^ o.val).testBit q.val = (A.val.testBit q.val || decide (q.val = o.val)) := by decide +kernel
theorem b31 : ∀ o : Fin 5, (31 : Nat).testBit o.val = true := by decide +kernel
theorem ow_loop {σ : Sg} (hM : ∀ o, o < 5 → σ.1 83 o = M o) : ∀ (d f i w cnt : Nat), i + d = 5 → d < f → w < 32 → (∀ q, q < 5 → w.testBit q = (decide (q < i) && decide (M q ≠ 0))) → cnt + smN (fun o => if (31 : Nat).testBit o = true ∧ M o = 0 then 1 else 0) i = i → ∃ w' cnt', f_Md_settledNow_10 f σ (nI w) (nI cnt) (nI i) = f_Md_settledNow_59 FU σ (nI w') (nI cnt') 0 ∧ w' < 32 ∧ (∀ q, q < 5 → w'.testBit q = decide (M q ≠ 0)) ∧ cnt' + zN M 31 = 5 := by
  intro d
  induction d with
  | zero =>
    intro f i w cnt hi hf hw h1 h2
    obtain ⟨m, rfl⟩ : ∃ m, f = m + 1 := ⟨f - 1, by omega⟩
    have : i = 5 := by omega
    subst this
    refine ⟨w, cnt, by rw [f_Md_settledNow_10_s, if_pos (show (5 : Int32) ≤ nI 5 by decide)], hw, fun q hq => ?_, h2⟩
    rw [h1 q hq, decide_eq_true hq, Bool.true_and]
  | succ d ih =>
    intro f i w cnt hi hf hw h1 h2
    obtain ⟨m, rfl⟩ : ∃ m, f = m + 1 := ⟨f - 1, by omega⟩
    have i5 : i < 5 := by omega
    have b := b31 ⟨i, i5⟩
    have es : smN (fun o => if (31 : Nat).testBit o = true ∧ M o = 0 then 1 else 0) (i + 1) = smN (fun o => if (31 : Nat).testBit o = true ∧ M o = 0 then 1 else 0) i + (if (31 : Nat).testBit i = true ∧ M i = 0 then 1 else 0) := rfl
    rw [f_Md_settledNow_10_s, if_neg (show ¬ (5 : Int32) ≤ nI i from nI_ge (b := 5) (by omega) (by omega)), gd_of (vin_nI i5 (by decide)), nI_clamp (by omega), hM i i5]
    unfold f_Md_settledNow_32 f_Md_settledNow_49
    rw [gd_of (vin_nI i5 (by decide)), gd_of (vin_nI i5 (by decide)), nI_clamp (by omega), hM i i5, nI_1 i]
    by_cases c : M i = 0
    · rw [if_pos c, if_pos c, Int32.or_zero, Int32.add_zero]
      refine ih m (i + 1) w cnt (by omega) (by omega) hw (fun q hq => ?_) (by rw [es, if_pos ⟨b, c⟩]; omega)
      rw [h1 q hq]
      by_cases e : q = i
      · subst e
        rw [c]; simp
      · have : decide (q < i) = decide (q < i + 1) := decide_eq_decide.mpr (by omega)
        rw [this]
    · have eo : (nI w ||| ((1 : Int32) <<< (nI i &&& 31))) = nI (w ||| 2 ^ i) := mk_or ⟨w, hw⟩ ⟨i, i5⟩
      rw [if_neg c, if_neg c, eo, nI_1]
      refine ih m (i + 1) (w ||| 2 ^ i) (cnt + 1) (by omega) (by omega) (or_dec ⟨w, hw⟩ ⟨i, i5⟩ ⟨0, by omega⟩).1 (fun q hq => ?_) (by rw [es, if_neg (fun z => c z.2)]; omega)
      have t : (w ||| 2 ^ i).testBit q = (w.testBit q || decide (q = i)) := (or_dec ⟨w, hw⟩ ⟨i, i5⟩ ⟨q, hq⟩).2
      rw [t, h1 q hq]
      by_cases e : q = i
      · subst e
        rw [decide_eq_true rfl, decide_eq_true (show q < q + 1 by omega), decide_eq_true c]; simp
      · have : decide (q < i) = decide (q < i + 1) := decide_eq_decide.mpr (by omega)
        rw [this, decide_eq_false e, Bool.or_false]
end
theorem bal_sum {nr nt : Nat} {fa T : Nat → Nat → Int32} (h8 : nr ≤ 8) (hin : ∀ r k, r < nr → k < 6 → ∃ j : Nat, j < hiN k ∧ fa r k = nI j) (hI : ∀ t, t < nt → tOk (T t)) : ∀ n, n ≤ nt → psm (fun o => balT nr fa T (nI o) n) 5 = 0 := by
  intro n
  induction n with
  | zero => intro _; exact psm_zero 5
  | succ n ih =>
    intro hn
    have h0 := ih (by omega)
    by_cases c : isR nr (T n 0) = true
    · obtain ⟨r, hr, er⟩ := isR_nI c h8
      obtain ⟨-, -, -, -, ⟨p, hp, ep⟩⟩ := hI n (by omega)
      obtain ⟨q, hq, eq⟩ := hin r 5 hr (by omega)
      have hq5 : q < 5 := hq
      have e : psm (fun o => balT nr fa T (nI o) (n + 1)) 5 = psm (fun o => balT nr fa T (nI o) n + ((if q = o then frT nr fa T n else 0) + (if p = o then -(frT nr fa T n) else 0))) 5 := psm_congr 5 (fun o ho => by
        rw [balT_s, if_pos c, er, nI_clamp (show r < 2 ^ 31 by omega), ep, eq]
        have np : (nI p = nI o) ↔ p = o := nI_eq (by omega) (by omega)
        have nq : (nI q = nI o) ↔ q = o := nI_eq (by omega) (by omega)
        simp only [np, nq]
        generalize frT nr fa T n = w
        generalize balT nr fa T (nI o) n = u
        by_cases c1 : p = o
        · by_cases c2 : q = o
          · rw [if_pos c1, if_pos c2, if_pos c2, if_pos c1, ← Int32.sub_eq_add_neg, Int32.sub_self, Int32.add_zero]
          · rw [if_pos c1, if_neg c2, if_neg c2, if_pos c1, Int32.zero_add, Int32.sub_eq_add_neg]
        · by_cases c2 : q = o
          · rw [if_neg c1, if_pos c2, if_pos c2, if_neg c1, Int32.add_zero]
          · rw [if_neg c1, if_neg c2, if_neg c2, if_neg c1, Int32.add_zero, Int32.add_zero])
      rw [e, psm_add, psm_add, psm_ind, psm_ind, h0, if_pos hq5, if_pos hp, ← Int32.sub_eq_add_neg, Int32.sub_self, Int32.add_zero]
    · rw [psm_congr (g := fun o => balT nr fa T (nI o) n) 5 (fun o _ => by rw [balT_s, if_neg c])]
      exact h0
section
variable {nr nt g lf lim np : Nat} {fa T : Nat → Nat → Int32} {rk W K : Nat → Nat} {v0 v1 : Int32} {σc σm : Sg}
theorem settled_k (hs : Sta nr fa nt T g lf lim np W K) (h : Dat nr fa rk nt T g lf lim np W K v0 v1 σc) (h' : Dat nr fa rk nt T g lf lim np W K v0 v1 σm) : ∃ x σc' σm', f_GR_settled σc = some (x, σc') ∧ f_Md_settledNow σm = some (x, σm') ∧ Kp σc σc' ∧ Kp σm σm' := by
  obtain ⟨hin, hI, -⟩ := hs
  obtain ⟨hc, hC, -, -, -, -, ⟨z1, z2⟩, -⟩ := h
  obtain ⟨-, -, hM, -, -, -, -, hf, -⟩ := h'
  have h8 := hc.1
  obtain ⟨σ1, p1, p2, p3⟩ := pay_k hI 5 FU 0 σc hc hC (fun o ho => by omega) (by omega) (by unfold FU; omega)
  have p1' : f_Fe_payments σc = (bd (f_Fe_mostGroups σ1) fun r4 σ3 => some (5 - r4, σ3)) := p1
  obtain ⟨c, σ2, c1, c2, c3, c4⟩ := cg_out (M := moT nr fa T nt) 31 FU 1 (fun _ => 0) σ1 p3 (fun X hX => by
    have : X = 0 := by omega
    subst this
    rw [p2 _ _ (by omega), p2 _ _ (by omega), z1, z2, sS_0]
    exact ⟨rfl, rfl, Nat.le_refl 0⟩) ⟨rfl, fun X x0 x1 => by omega⟩ (by omega) (by omega) (by unfold FU; omega)
  have c1' : f_Fe_mostGroups σ1 = some (nI (c 31), σ2) := c1
  have kc : Kp σc σ2 := p2.kp.tr (fun a b q _ => c4 a b (by unfold scC at q; omega))
  obtain ⟨σf, u1, hm, u3⟩ := hf σm Kw.rf
  have kpf := find_kp u3
  obtain ⟨σ3, m1, m2, m3⟩ := mbal_k u1 hm (hM.of kpf) hin hI
  obtain ⟨w, cnt, w1, w2, w3, w4⟩ := ow_loop (M := moT nr fa T nt) (σ := σ3) m3 5 FU 0 0 0 (by omega) (by unfold FU; omega) (by omega) (fun q hq => by rw [Nat.zero_testBit, decide_eq_false (by omega)]; rfl) rfl
  obtain ⟨gg, σ4, g1, g2, g3, g4, g5⟩ := sg_out (M := moT nr fa T nt) (n := nI cnt) w2 32 FU 0 (fun _ => 0) σ3 m3 (fun X hX => by omega) ⟨rfl, fun A a0 a1 => by omega⟩ (by omega) (by unfold FU; omega)
  have s31 : sS (moT nr fa T nt) 31 = 0 := by
    rw [← bal_sum h8 hin hI nt (Nat.le_refl _)]
    exact psm_congr 5 (fun o ho => if_pos (b31 ⟨o, ho⟩))
  obtain ⟨r1, r2⟩ := set_main w3 w2 c2 g3 s31
  have ex : nI cnt - σ4.1 84 w = 5 - nI (c 31) := by
    obtain ⟨k, hk⟩ : ∃ k : Nat, gg w = k := ⟨(gg w).toNat, by omega⟩
    have ek : σ4.1 84 w = nI k := of_toInt (by omega) (by omega)
    rw [ek]
    apply Int32.toInt_inj.mp
    have e5 : ((5 : Int32) - nI (c 31)).toInt = (5 : Nat) - (c 31 : Int) := pk_sub_toInt (a := 5) (by omega) (by omega)
    rw [pk_sub_toInt (by omega) (by omega), e5]
    omega
  refine ⟨5 - nI (c 31), σ2, σ4, ?_, ?_, kc, (kpf.tr m2.kp).tr (fun a b _ q => g5 a b (by unfold scM at q; omega))⟩
  · unfold f_GR_settled
    rw [p1', c1', bd_s, bd_s]
  · unfold f_Md_settledNow
    rw [m1, Option.bind_some]
    refine Eq.trans w1 (Eq.trans g1 ?_)
    rw [ex]
theorem e_settled : E_settled Rel := by
  intro σ hR
  obtain ⟨nr, fa, rk, nt, T, g, lf, lim, np, W, K, v0, v1, hs, hd⟩ := hR.dat
  refine two_e (cls := f_GR_settled) (mdl := f_Md_settled) hR (fun σc σm k1 k2 => ?_)
  obtain ⟨x, σ1, σ2, a1, a2, a3, a4⟩ := settled_k hs (hd.of k1) (hd.of k2)
  refine ⟨x, σ1, σ2, a1, ?_, a3, a4⟩
  unfold f_Md_settled
  rw [a2, bd_s]
end
