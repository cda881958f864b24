/-! clashes -/
theorem mp_out {p : Nat → Nat → Nat} {σ0 : Sg} {nt : Nat} (h20 : nt ≤ 20) (hn : σ0.1 66 14 = nI nt) (hp : ∀ σ a b, KPl σ0 σ → a < nt → b < nt → ∃ v σ', f_Md_doClash σ (nI a) (nI b) = some (v, σ') ∧ ((p a b = 0 ∧ v = 0) ∨ (p a b = 1 ∧ v = 1)) ∧ KPl σ0 σ') : ∀ (d f i : Nat) (σ : Sg), KPl σ0 σ → i + d = nt → d < f → ∃ σ', f_Md_clashesNow_4 f σ (nI (smN (fun a => smN (p a) a) i)) (nI i) = some (nI (smN (fun a => smN (p a) a) nt), σ') ∧ KPl σ0 σ' := by
  intro d
  induction d with
  | zero =>
    intro f i σ hk hi hf
    obtain ⟨m, rfl⟩ : ∃ m, f = m + 1 := ⟨f - 1, by omega⟩
    have : i = nt := by omega
    subst this
    exact ⟨σ, by rw [f_Md_clashesNow_4_s, hk _ _ (by omega), hn, if_pos (nI_le (Nat.le_refl _) (by omega))], hk⟩
  | succ d ih =>
    intro f i σ hk hi hf
    obtain ⟨m, rfl⟩ : ∃ m, f = m + 1 := ⟨f - 1, by omega⟩
    obtain ⟨σ1, e1, e2⟩ := mp_in (k4 := f_Md_clashesNow_4 m) (p := p) (σ0 := σ0) h20 (a := i) (by omega) (fun σ b hk hb => hp σ i b hk (by omega) hb) (smN (fun a => smN (p a) a) i) i FU 0 σ hk (by omega) (by unfold FU; omega)
    obtain ⟨σ2, w1, w2⟩ := ih m (i + 1) σ1 e2 (by omega) (by omega)
    refine ⟨σ2, ?_, w2⟩
    rw [f_Md_clashesNow_4_s, hk _ _ (by omega), hn, if_neg (nI_ge (by omega) (by omega))]
    refine Eq.trans e1 ?_
    rw [nI_1]
    exact w1
/-- both count the same pairs, over any schedule -/
theorem pairs_k {nr : Nat} {fa : Nat → Nat → Int32} {rk : Nat → Nat} {nt : Nat} {T : Nat → Nat → Int32} {σ1 σ2 : Sg} (hc : CV nr fa rk σ1) (hm : MV' nr fa rk σ2) (hin : ∀ r k, r < nr → k < 6 → ∃ j : Nat, j < hiN k ∧ fa r k = nI j) (hC : TC nt T σ1) (hM : TM nt T σ2) (hI : ∀ t, t < nt → tOk (T t)) {g : Nat} (hg : g ≤ 9) (eg : σ2.1 75 0 = nI g) {B : Nat → Nat} (hBC : BC nr nt T B σ1) (hBM : BM nr nt T B σ2) (hb20 : ∀ t, B t < 2 ^ 20) : ∃ x σ3, f_Tt_pairs σ1 (nI g) = some x ∧ f_Md_clashesNow σ2 = some (x, σ3) ∧ KPl σ2 σ3 := by
  have h20 := hC.1
  obtain ⟨p, hp⟩ : ∃ p : Nat → Nat → Nat, ∀ a b, (colT nr fa T g B a b → p a b = 1) ∧ (¬ colT nr fa T g B a b → p a b = 0) := ⟨fun a b => @ite Nat (colT nr fa T g B a b) (Classical.propDecidable _) 1 0, fun a b => ⟨fun h => if_pos h, fun h => if_neg h⟩⟩
  have sym : ∀ a b, p a b = p b a := fun a b => by
    by_cases c : colT nr fa T g B a b
    · rw [(hp a b).1 c, (hp b a).1 (colT_comm c)]
    · rw [(hp a b).2 c, (hp b a).2 (fun q => c (colT_comm q))]
  have h1 := cp_out (p := p) (σ := σ1) (v := nI g) h20 hC.2.1 (fun a b ha hb => by
    have h := col_c hc hin hC hI hg hBC hb20 ha hb
    by_cases c : colT nr fa T g B a b
    · exact Or.inr ⟨(hp a b).1 c, h.1 c⟩
    · exact Or.inl ⟨(hp a b).2 c, h.2 c⟩) nt FU 0 (by omega) (by unfold FU; omega)
  obtain ⟨σ3, h2, h3⟩ := mp_out (p := p) (σ0 := σ2) h20 hM.2.1 (fun σ a b hk ha hb => by
    obtain ⟨v, σ', d1, d2, d3, d4⟩ := col_m hc (hm.of (hk _ _ (by omega)) (fun k => hk _ _ (by omega)) (fun k => hk _ _ (by omega))) hin (hM.of hk.kp) hI hg (by rw [hk _ _ (by omega)]; exact eg) (fun t ht c => by rw [hk _ _ (by omega)]; exact hBM t ht c) hb20 ha hb
    refine ⟨v, σ', d1, ?_, hk.tr d4⟩
    by_cases c : colT nr fa T g B a b
    · exact Or.inr ⟨(hp a b).1 c, d2 c⟩
    · exact Or.inl ⟨(hp a b).2 c, d3 c⟩) nt FU 0 σ2 KPl.rf (by omega) (by unfold FU; omega)
  rw [up_dn sym nt] at h1
  exact ⟨_, σ3, h1, h2, h3⟩
theorem e_clashes : E_clashes Rel := by
  intro σ hR
  obtain ⟨nr, fa0, rk0, fv, σf, -, -, -, hc, -, -, -⟩ := hR.find
  obtain ⟨nt, T, hC, hM, hI⟩ := hR.trips
  obtain ⟨g, hg1, hg, eg⟩ := gap_k hR
  obtain ⟨σ1, k1, k2, k3⟩ := casTold_k hI hc hC
  have hR1 : Rel σ1 := hR.of k2.kp
  obtain ⟨fa, rk, v, σ', u1, u3, hc1, hm, hin⟩ := again hR1 (k2.cv hc)
  have hM1 := (hM.of k2.kp).of u3
  obtain ⟨σ2, w1, w2, w3⟩ := masTold_k (nr := nr) u1 hI hM1
  have g1 : σ1.1 17 0 = nI g := by rw [k2 _ _ (by omega)]; exact eg
  have g2 : σ2.1 75 0 = nI g := by rw [w2 _ _ (by omega), hR1.setK u3 (k := 0) (by omega)]; exact g1
  obtain ⟨x, σ3, x1, x2, x3⟩ := pairs_k hc1 (w2.mv hm) hin (hC.of k2.kp) (hM1.of w2.kp) hI hg g2 k3 w3 (fun t => by have := B0_lt T t; omega)
  refine ⟨x, σ1, σ3, ?_, ?_, hR1.of ((u3.tr w2.kp).tr x3.kp)⟩
  · unfold f_GR_clashes
    rw [k1, Option.bind_some, g1, x1]
    rfl
  · unfold f_Md_clashes
    rw [w1, Option.bind_some, x2]
    rfl
