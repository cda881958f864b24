/-! what both hold, told by numbers; queries over two states -/
section
variable {nr nt g lf lim np : Nat} {fa T : Nat → Nat → Int32} {rk W K : Nat → Nat} {v0 v1 : Int32} {σ σ' σc σm : Sg}
def Sta (nr : Nat) (fa : Nat → Nat → Int32) (nt : Nat) (T : Nat → Nat → Int32) (g lf lim np : Nat) (W K : Nat → Nat) : Prop := (∀ r k, r < nr → k < 6 → ∃ j : Nat, j < hiN k ∧ fa r k = nI j) ∧ (∀ t, t < nt → tOk (T t)) ∧ (1 ≤ g ∧ g ≤ 9) ∧ lf ≤ 99 ∧ lim ≤ 999 ∧ np ≤ 5 ∧ ∀ p, p < np → W p < 10 ∧ K p < 3
/-- only scratch and sheets have changed -/
def Kw (σ σ' : Sg) : Prop := ∀ i k, ¬ scC i k → ¬ scM i k → ¬ gS i k → σ'.1 i k = σ.1 i k
theorem Kw.rf : Kw σ σ := fun _ _ _ _ _ => rfl
theorem Kp.kw (h : Kp σ σ') : Kw σ σ' := fun i k a b _ => h i k a b
theorem Kw.tr {σ σ' σ'' : Sg} (h1 : Kw σ σ') (h2 : Kw σ' σ'') : Kw σ σ'' := fun i k a b c => (h2 i k a b c).trans (h1 i k a b c)
def Dat (nr : Nat) (fa : Nat → Nat → Int32) (rk : Nat → Nat) (nt : Nat) (T : Nat → Nat → Int32) (g lf lim np : Nat) (W K : Nat → Nat) (v0 v1 : Int32) (σ : Sg) : Prop :=
  CV nr fa rk σ ∧ TC nt T σ ∧ TM nt T σ ∧ (σ.1 5 4 = v0 ∧ σ.1 5 5 = v1) ∧ (σ.1 17 0 = nI g ∧ σ.1 17 1 = nI lf ∧ σ.1 17 2 = nI lim ∧ σ.1 75 0 = nI g ∧ σ.1 75 1 = nI lf ∧ σ.1 75 2 = nI lim) ∧ (σ.1 43 5 = nI np ∧ σ.1 66 18 = nI np ∧ ∀ p, p < np → σ.1 44 p = nI (W p) ∧ σ.1 45 p = nI (K p) ∧ σ.1 78 p = nI (W p) ∧ σ.1 79 p = nI (K p)) ∧ (σ.1 51 0 = 0 ∧ σ.1 52 0 = 0) ∧
  (∀ σ', Kw σ σ' → ∃ σf, f_Md_find σ' = some (v1, σf) ∧ MV' nr fa rk σf ∧ (∀ i j, ¬ (i = 66 ∧ (j = 7 ∨ j = 8)) → i ≠ 73 → i ≠ 74 → σf.1 i j = σ'.1 i j)) ∧
  (∀ σ', Kw σ σ' → ∃ σf, f_Md_readsRopes σ' = some (v0, σf) ∧ Kp σ' σf)
theorem Kp.cv (e : Kp σ σ') (h : CV nr fa rk σ) : CV nr fa rk σ' := h.of (e 5 3 (by unfold scC; omega) (by unfold scM; omega)) (fun i k h1 h2 => e i k (by unfold scC; omega) (by unfold scM; omega))
theorem Dat.ofW (h : Dat nr fa rk nt T g lf lim np W K v0 v1 σ) (e : Kw σ σ') : Dat nr fa rk nt T g lf lim np W K v0 v1 σ' := by
  obtain ⟨h1, h2, h3, h4, h5, h6, h7, h8, h9⟩ := h
  obtain ⟨t1, t2, t3⟩ := h2
  obtain ⟨m1, m2, m3⟩ := h3
  refine ⟨h1.of (e 5 3 (by unfold scC; omega) (by unfold scM; omega) (by unfold gS; omega)) (fun i k q1 q2 => e i k (by unfold scC; omega) (by unfold scM; omega) (by unfold gS; omega)), ⟨t1, (e 18 2 (by unfold scC; omega) (by unfold scM; omega) (by unfold gS; omega)).trans t2, fun t k ht hk => (e (21 + t) k (by unfold scC; omega) (by unfold scM; omega) (by unfold gS; omega)).trans (t3 t k ht hk)⟩, ⟨m1, (e 66 14 (by unfold scC; omega) (by unfold scM; omega) (by unfold gS; omega)).trans m2, fun t k ht hk => (e 76 _ (by unfold scC; omega) (by unfold scM; omega) (by unfold gS; omega)).trans (m3 t k ht hk)⟩, ?_, ?_, ?_, ?_, fun s k => h8 s (e.tr k), fun s k => h9 s (e.tr k)⟩
  · rw [e 5 4 (by unfold scC; omega) (by unfold scM; omega) (by unfold gS; omega), e 5 5 (by unfold scC; omega) (by unfold scM; omega) (by unfold gS; omega)]; exact h4
  · rw [e 17 0 (by unfold scC; omega) (by unfold scM; omega) (by unfold gS; omega), e 17 1 (by unfold scC; omega) (by unfold scM; omega) (by unfold gS; omega), e 17 2 (by unfold scC; omega) (by unfold scM; omega) (by unfold gS; omega), e 75 0 (by unfold scC; omega) (by unfold scM; omega) (by unfold gS; omega), e 75 1 (by unfold scC; omega) (by unfold scM; omega) (by unfold gS; omega), e 75 2 (by unfold scC; omega) (by unfold scM; omega) (by unfold gS; omega)]; exact h5
  · rw [e 43 5 (by unfold scC; omega) (by unfold scM; omega) (by unfold gS; omega), e 66 18 (by unfold scC; omega) (by unfold scM; omega) (by unfold gS; omega)]
    refine ⟨h6.1, h6.2.1, fun p hp => ?_⟩
    rw [e 44 p (by unfold scC; omega) (by unfold scM; omega) (by unfold gS; omega), e 45 p (by unfold scC; omega) (by unfold scM; omega) (by unfold gS; omega), e 78 p (by unfold scC; omega) (by unfold scM; omega) (by unfold gS; omega), e 79 p (by unfold scC; omega) (by unfold scM; omega) (by unfold gS; omega)]
    exact h6.2.2 p hp
  · rw [e 51 0 (by unfold scC; omega) (by unfold scM; omega) (by unfold gS; omega), e 52 0 (by unfold scC; omega) (by unfold scM; omega) (by unfold gS; omega)]; exact h7
theorem Dat.of (h : Dat nr fa rk nt T g lf lim np W K v0 v1 σ) (e : Kp σ σ') : Dat nr fa rk nt T g lf lim np W K v0 v1 σ' := h.ofW e.kw
theorem Kw.same {g : Nat → Nat → Prop} (h : Kw σ σ') (hg : ∀ i k, g i k → ¬ scC i k ∧ ¬ scM i k ∧ ¬ gS i k) : Same g σ σ' := fun i k q => h i k (hg i k q).1 (hg i k q).2.1 (hg i k q).2.2
theorem Kw.rx {n0 n1 : Nat} {b0 b1 : Nat → Int32} (e : Kw σ σ') (h : RX n0 b0 n1 b1 σ) : RX n0 b0 n1 b1 σ' := h.of (e.same (fun i k q => by unfold gX at q; unfold scC scM gS; omega))
theorem Rel.ofW (h : Rel σ) (e : Kw σ σ') (hS : RS σ') : Rel σ' := by
  obtain ⟨⟨n0, b0, n1, b1, hX⟩, h2, ⟨nt, h3⟩, ⟨np, h4⟩, h5, h6⟩ := h
  refine ⟨⟨n0, b0, n1, b1, e.rx hX⟩, h2.of (e.same ?_), ⟨nt, h3.of (e.same ?_)⟩, ⟨np, h4.of (e.same ?_)⟩, hS, h6.of (e.same ?_)⟩
  · intro i k q; unfold gSet at q; unfold scC scM gS; omega
  · intro i k q; unfold gT at q; unfold scC scM gS; omega
  · intro i k q; unfold gP at q; unfold scC scM gS; omega
  · intro i k q; unfold gL at q; unfold scC scM gS; omega
theorem nat_of {x : Int32} {a b : Nat} (h : (a : Int) ≤ x.toInt ∧ x.toInt ≤ b) (hb : b < 2 ^ 31) : ∃ n : Nat, a ≤ n ∧ n ≤ b ∧ x = nI n := ⟨x.toInt.toNat, by omega, by omega, of_toInt (by omega) (by omega)⟩
theorem Rel.dat (h : Rel σ) : ∃ nr fa rk nt T g lf lim np W K v0 v1, Sta nr fa nt T g lf lim np W K ∧ Dat nr fa rk nt T g lf lim np W K v0 v1 σ := by
  obtain ⟨nt, T, hC, hM, hI⟩ := h.trips
  obtain ⟨⟨n0, b0, n1, b1, hX⟩, ⟨s0, s1, s2, s3⟩, -, ⟨np, p1, p2, p3, p4⟩, -, -, l1, l2⟩ := h
  obtain ⟨g, g1, g2, g3⟩ := nat_of (a := 1) (b := 9) s1 (by decide)
  obtain ⟨lf, -, lf2, lf3⟩ := nat_of (a := 1) (b := 99) s2 (by decide)
  obtain ⟨lim, -, lim2, lim3⟩ := nat_of (a := 0) (b := 999) s3 (by decide)
  have hW : ∀ p, ∃ w : Nat, p < np → w < 10 ∧ σ.1 44 p = nI w := fun p => by
    by_cases c : p < np
    · obtain ⟨⟨j, j1, j2⟩, -⟩ := p4 p c
      exact ⟨j, fun _ => ⟨j1, j2⟩⟩
    · exact ⟨0, fun q => absurd q c⟩
  have hK : ∀ p, ∃ w : Nat, p < np → w < 3 ∧ σ.1 45 p = nI w := fun p => by
    by_cases c : p < np
    · obtain ⟨-, ⟨j, j1, j2⟩, -⟩ := p4 p c
      exact ⟨j, fun _ => ⟨j1, j2⟩⟩
    · exact ⟨0, fun q => absurd q c⟩
  obtain ⟨W, hW⟩ := Classical.axiomOfChoice hW
  obtain ⟨K, hK⟩ := Classical.axiomOfChoice hK
  refine ⟨_, _, _, nt, T, g, lf, lim, np, W, K, _, _, ⟨fun r k hr hk => fa_in hX.1.1 hr hk, hI, ⟨g1, g2⟩, lf2, lim2, p1, fun p hp => ⟨(hW p hp).1, (hK p hp).1⟩⟩, hX.2.2.2.2.2.2.2.2, hC, hM, ⟨hX.2.2.2.2.2.2.1, hX.2.2.2.2.2.2.2.1⟩, ⟨g3, lf3, lim3, (s0 0 (by omega)).trans g3, (s0 1 (by omega)).trans lf3, (s0 2 (by omega)).trans lim3⟩, ⟨p2, p3, fun p hp => ⟨(hW p hp).2, (hK p hp).2, (p4 p hp).2.2.1.trans (hW p hp).2, (p4 p hp).2.2.2.trans (hK p hp).2⟩⟩, ⟨l1, l2⟩, fun s k => ?_, fun s k => ?_⟩
  · have x := k.rx hX
    obtain ⟨σf, e1, e2, e3⟩ := md_find x.2.2.1 x.2.2.2.1
    exact ⟨σf, e1, e3, e2⟩
  · have x := k.rx hX
    obtain ⟨σf, e1, e2, -⟩ := reads_ropes x.2.2.1
    exact ⟨σf, e1, reads_kp e2⟩
/-- a query whose two sides go alike over any two states of one data: the case of the law -/
theorem two_e {α : Type} {cls mdl : Sg → Option (α × Sg)} (hR : Rel σ) (h : ∀ σc σm, Kp σ σc → Kp σ σm → ∃ x σc' σm', cls σc = some (x, σc') ∧ mdl σm = some (x, σm') ∧ Kp σc σc' ∧ Kp σm σm') : ∃ r σ1 σ2, cls σ = some (r, σ1) ∧ mdl σ1 = some (r, σ2) ∧ Rel σ2 := by
  obtain ⟨x, σ1, _, a1, _, a3, _⟩ := h σ σ Kp.rf Kp.rf
  obtain ⟨y, σ1', σ2, b1, b2, b3, b4⟩ := h σ σ1 Kp.rf a3
  have e : (x, σ1) = (y, σ1') := Option.some.inj (a1.symm.trans b1)
  have ex : x = y := congrArg Prod.fst e
  exact ⟨x, σ1, σ2, a1, by rw [ex]; exact b2, hR.of (a3.tr b4)⟩
theorem KPl.mv {σ σ' : Sg} (h : KPl σ σ') (hm : MV' nr fa rk σ) : MV' nr fa rk σ' := hm.of (h _ _ (by omega)) (fun k => h _ _ (by omega)) (fun k => h _ _ (by omega))
theorem ltN_lt (s : Int32) : ltN s < 4 := Nat.mod_lt _ (by omega)
theorem BW_lt (v : Int32) (t : Nat) : BW nr T v t < 2 ^ 20 := by
  have h1 := B0_lt T t
  have h2 := ltN_lt (nxS (sdW nr T v t))
  unfold BW
  omega
theorem cwind_k (hI : ∀ t, t < nt → tOk (T t)) (hc : CV nr fa rk σ) (hC : TC nt T σ) (v : Int32) : ∃ σ', f_Tt_beginBlown σ v = some σ' ∧ (∀ a b, a ≠ 41 → a ≠ 42 → σ'.1 a b = σ.1 a b) ∧ BC nr nt T (BW nr T v) σ' := by
  have h20 := hC.1
  have fr : ∀ a b, a ≠ 41 → (pI σ 41 1 v).1 a b = σ.1 a b := fun a b g => pI_ne (by omega)
  have kp : Kp σ (pI σ 41 1 v) := fun a b g _ => fr a b (by unfold scC at g; omega)
  obtain ⟨σ', k1, k2, k3⟩ := cwind (fa := fa) (rk := rk) (v := v) hI nt FU 0 (pI σ 41 1 v) (kp.cv hc) (hC.of kp) (fun t ht => by omega) pI_eq (by omega) (by unfold FU; omega)
  exact ⟨σ', k1, fun a b g1 g2 => (k2 a b g1 g2).trans (fr a b g1), k3⟩
theorem wind_k (hs : Sta nr fa nt T g lf lim np W K) (h : Dat nr fa rk nt T g lf lim np W K v0 v1 σc) (h' : Dat nr fa rk nt T g lf lim np W K v0 v1 σm) (v : Int32) : ∃ x σc' σm', f_GR_wind σc v = some (x, σc') ∧ f_Md_wind σm v = some (x, σm') ∧ Kp σc σc' ∧ Kp σm σm' ∧ MV' nr fa rk σm' := by
  obtain ⟨hin, hI, ⟨_, hg⟩, -⟩ := hs
  obtain ⟨hc, hC, -, -, ⟨cg, -⟩, -⟩ := h
  obtain ⟨-, -, hM, -, ⟨-, -, -, mg, -⟩, -, -, hf, -⟩ := h'
  have h20 := hC.1
  obtain ⟨σ1, k1, k2, k3⟩ := cwind_k hI hc hC v
  have kp1 : Kp σc σ1 := fun a b g _ => k2 a b (by unfold scC at g; omega) (by unfold scC at g; omega)
  obtain ⟨σf, u1, hm, u3⟩ := hf σm Kw.rf
  have kpf := find_kp u3
  obtain ⟨σ2, w1, w2, w3⟩ := masTold_k (nr := nr) u1 hI (hM.of kpf)
  have fr : ∀ a b, ¬ (a = 66 ∧ b = 17) → (pI σ2 66 17 v).1 a b = σ2.1 a b := fun a b q => pI_ne q
  have kp3 : Kp σ2 (pI σ2 66 17 v) := fun a b _ q => fr a b (by unfold scM at q; omega)
  have hm2 := w2.mv hm
  have hM2 := (hM.of kpf).of w2.kp
  obtain ⟨σ3, y1, y2, y3⟩ := mwind (fa := fa) (rk := rk) (v := v) nt FU 0 (pI σ2 66 17 v) (hm2.of (fr _ _ (by omega)) (fun k => fr _ _ (by omega)) (fun k => fr _ _ (by omega))) (hM2.of kp3) (fun t ht => by omega) (fun t _ ht ct => by rw [fr _ _ (by omega)]; exact w3 t ht ct) pI_eq (by omega) (by unfold FU; omega)
  have y2' : ∀ a b, a ≠ 77 → ¬ (a = 66 ∧ b = 17) → σ3.1 a b = σ2.1 a b := fun a b q1 q2 => (y2 a b q1 q2).trans (fr a b q2)
  have kp4 : Kp σ2 σ3 := fun a b _ q => y2' a b (by unfold scM at q; omega) (by unfold scM at q; omega)
  have hm3 : MV' nr fa rk σ3 := hm2.of (y2' _ _ (by omega) (by omega)) (fun k => y2' _ _ (by omega) (by omega)) (fun k => y2' _ _ (by omega) (by omega))
  have kpm : Kp σm σ3 := (kpf.tr w2.kp).tr kp4
  have eg : σ3.1 75 0 = nI g := by rw [kpm _ _ (by unfold scC; omega) (by unfold scM; omega)]; exact mg
  have eg1 : σ1.1 17 0 = nI g := by rw [kp1 _ _ (by unfold scC; omega) (by unfold scM; omega)]; exact cg
  obtain ⟨x, σ4, x1, x2, x3⟩ := pairs_k (kp1.cv hc) hm3 hin (hC.of kp1) (hM.of kpm) hI hg eg k3 y3 (BW_lt v)
  refine ⟨x, σ1, σ4, ?_, ?_, kp1, kpm.tr x3.kp, x3.mv hm3⟩
  · unfold f_GR_wind
    rw [k1, Option.bind_some, eg1, x1]
    rfl
  · unfold f_Md_wind
    rw [w1, Option.bind_some]
    refine Eq.trans y1 ?_
    rw [x2]
    rfl
theorem e_wind : E_wind Rel := by
  intro σ a hR
  obtain ⟨nr, fa, rk, nt, T, g, lf, lim, np, W, K, v0, v1, hs, hd⟩ := hR.dat
  exact two_e (cls := fun s => f_GR_wind s a) (mdl := fun s => f_Md_wind s a) hR (fun σc σm k1 k2 => by
    obtain ⟨x, s1, s2, a1, a2, a3, a4, -⟩ := wind_k hs (hd.of k1) (hd.of k2) a
    exact ⟨x, s1, s2, a1, a2, a3, a4⟩)
theorem clashes_k (hs : Sta nr fa nt T g lf lim np W K) (h : Dat nr fa rk nt T g lf lim np W K v0 v1 σc) (h' : Dat nr fa rk nt T g lf lim np W K v0 v1 σm) : ∃ x σc' σm', f_GR_clashes σc = some (x, σc') ∧ f_Md_clashes σm = some (x, σm') ∧ Kp σc σc' ∧ Kp σm σm' ∧ MV' nr fa rk σm' := by
  obtain ⟨hin, hI, ⟨_, hg⟩, -⟩ := hs
  obtain ⟨hc, hC, -, -, ⟨cg, -⟩, -⟩ := h
  obtain ⟨-, -, hM, -, ⟨-, -, -, mg, -⟩, -, -, hf, -⟩ := h'
  obtain ⟨σ1, k1, k2, k3⟩ := casTold_k hI hc hC
  obtain ⟨σf, u1, hm, u3⟩ := hf σm Kw.rf
  have kpf := find_kp u3
  obtain ⟨σ2, w1, w2, w3⟩ := masTold_k (nr := nr) u1 hI (hM.of kpf)
  have kpm : Kp σm σ2 := kpf.tr w2.kp
  have eg : σ2.1 75 0 = nI g := by rw [kpm _ _ (by unfold scC; omega) (by unfold scM; omega)]; exact mg
  have eg1 : σ1.1 17 0 = nI g := by rw [k2 _ _ (by omega)]; exact cg
  obtain ⟨x, σ4, x1, x2, x3⟩ := pairs_k (k2.cv hc) (w2.mv hm) hin (hC.of k2.kp) (hM.of kpm) hI hg eg k3 w3 (fun t => by have := B0_lt T t; omega)
  refine ⟨x, σ1, σ4, ?_, ?_, k2.kp, kpm.tr x3.kp, x3.mv (w2.mv hm)⟩
  · unfold f_GR_clashes
    rw [k1, Option.bind_some, eg1, x1]
    rfl
  · unfold f_Md_clashes
    rw [w1, Option.bind_some, x2]
    rfl
end
