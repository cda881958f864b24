/-! put off: all trips, both at once -/
section
variable {nr nt g : Nat} {fa T : Nat → Nat → Int32} {rk : Nat → Nat}
def dnT (rk : Nat → Nat) (T : Nat → Nat → Int32) (p t a : Nat) : Prop := rk (rpT T a) < p ∨ (rk (rpT T a) = p ∧ a < t)
def PO (nr nt : Nat) (fa T : Nat → Nat → Int32) (rk : Nat → Nat) (g p t : Nat) (B : Nat → Nat) (σc σm : Sg) : Prop :=
  CV nr fa rk σc ∧ TC nt T σc ∧ MV' nr fa rk σm ∧ TM nt T σm ∧ σm.1 75 0 = nI g ∧
  (∀ a, a < nt → (cntT nr T a ∧ dnT rk T p t a → σc.1 42 a = nI (B a)) ∧ (¬ (cntT nr T a ∧ dnT rk T p t a) → σc.1 42 a = -1)) ∧
  (∀ a, a < nt → cntT nr T a → (dnT rk T p t a → σm.1 77 a = nI (B a)) ∧ (¬ dnT rk T p t a → σm.1 77 a = nI (B0 T a))) ∧
  ∀ a, B a ≤ 200 + 40 * (20 * p + t)
theorem PO.next {p t p' t' : Nat} {B : Nat → Nat} {σc σm : Sg} (h : PO nr nt fa T rk g p t B σc σm) (hle : 20 * p + t ≤ 20 * p' + t') (hd : ∀ a, a < nt → cntT nr T a → (dnT rk T p' t' a ↔ dnT rk T p t a)) : PO nr nt fa T rk g p' t' B σc σm := by
  obtain ⟨h1, h2, h3, h4, h5, h6, h7, h8⟩ := h
  refine ⟨h1, h2, h3, h4, h5, fun a ha => ⟨fun q => (h6 a ha).1 ⟨q.1, (hd a ha q.1).mp q.2⟩, fun q => (h6 a ha).2 (fun w => q ⟨w.1, (hd a ha w.1).mpr w.2⟩)⟩, fun a ha ca => ⟨fun q => (h7 a ha ca).1 ((hd a ha ca).mp q), fun q => (h7 a ha ca).2 (fun w => q ((hd a ha ca).mpr w))⟩, fun a => by have := h8 a; omega⟩
set_option maxHeartbeats 2000000 in
theorem po_in {k28 : Sg → Int32 → Int32 → Option Sg} {k6 : Sg → Int32 → Option Sg} {p r : Nat} (hin : ∀ r k, r < nr → k < 6 → ∃ j : Nat, j < hiN k ∧ fa r k = nI j) (hI : ∀ t, t < nt → tOk (T t)) (hg : g ≤ 9) (hp : p < nr) (hr : r < nr) (er : rk r = p) : ∀ (d f1 f2 t : Nat) (B : Nat → Nat) (σc σm : Sg), PO nr nt fa T rk g p t B σc σm → t + d = nt → d < f1 → d < f2 → ∃ B' σc' σm', f_Tt_beginWithoutClash_48 k28 f1 σc (nI g) (nI p) (nI r) (nI t) = k28 σc' (nI g) (nI p + 1) ∧ f_Md_findPutOff_16 k6 f2 σm (nI p) (nI t) = k6 σm' (nI p + 1) ∧ PO nr nt fa T rk g p nt B' σc' σm' ∧ K42 σc σc' ∧ KM σm σm' := by
  intro d
  induction d with
  | zero =>
    intro f1 f2 t B σc σm h ht h1 h2
    obtain ⟨m1, rfl⟩ : ∃ m, f1 = m + 1 := ⟨f1 - 1, by omega⟩
    obtain ⟨m2, rfl⟩ : ∃ m, f2 = m + 1 := ⟨f2 - 1, by omega⟩
    have : t = nt := by omega
    subst this
    have h20 := h.2.1.1
    refine ⟨B, σc, σm, ?_, ?_, h, fun _ _ _ => rfl, fun _ _ _ _ => rfl⟩
    · rw [f_Tt_beginWithoutClash_48_s, h.2.1.2.1, if_pos (nI_le (Nat.le_refl _) (by omega))]
    · rw [f_Md_findPutOff_16_s, h.2.2.2.1.2.1, if_pos (nI_le (Nat.le_refl _) (by omega))]
  | succ d ih =>
    intro f1 f2 t B σc σm h ht h1 h2
    obtain ⟨m1, rfl⟩ : ∃ m, f1 = m + 1 := ⟨f1 - 1, by omega⟩
    obtain ⟨m2, rfl⟩ : ∃ m, f2 = m + 1 := ⟨f2 - 1, by omega⟩
    obtain ⟨hc, hC, hm, hM, eg, hS, hT, hB⟩ := id h
    have h20 := hC.1
    have h8 := hc.1
    have htn : t < nt := by omega
    have y0 := hM.get (t := t) (k := 0) htn (by omega)
    rw [f_Tt_beginWithoutClash_48_s, hC.2.1, if_neg (nI_ge (by omega) (by omega)), ts_at (by omega), hC.2.2 t 0 htn (by omega)]
    rw [f_Md_findPutOff_16_s, hM.2.1, if_neg (nI_ge (by omega) (by omega)), counts_k hm hM htn, Option.bind_some]
    unfold f_Tt_beginWithoutClash_80 f_Md_findPutOff_70
    rw [nI_1]
    by_cases ct : isR nr (T t 0) = true
    · obtain ⟨a1, a2, a3, a4⟩ := cnt_rd hc.1 hI htn ct
      rw [if_pos ct, if_neg (show ¬ (1 : Int32) = 0 by decide), five_0, gd_of y0.1, y0.2, gd_of (show vin (T t 0) 8 = true by rw [a2]; exact vin_nI (by omega) (by decide)), hm.2.2.2 _ a1]
      have rlt := (hc.2.2 _ a1).2.2.2.2.1
      by_cases cr : rpT T t = r
      · have e0 : T t 0 = nI r := a2.trans (congrArg nI cr)
        have ek : rk (T t 0).toNatClampNeg = p := by
          show rk (rpT T t) = p
          rw [cr]; exact er
        rw [if_pos e0, if_pos (congrArg nI ek)]
        unfold f_Tt_delay
        rw [ts_at (by omega), hC.2.2 t 2 htn (by omega), B0_k hI htn, begin_k (by omega), Option.bind_some]
        have hk1 : K42 σc (pI σc 42 t (nI (B0 T t))) := fun a b q => pI_ne (by omega)
        have b0 := B0_lt T t
        have hdn : ∀ a, ahd rk T a t ↔ dnT rk T p t a := fun a => by
          unfold ahd dnT
          rw [show rk (rpT T t) = p from ek]
        obtain ⟨y, σc', u1, u2, u3, u4, u5, u6, u7⟩ := delay_k (B := B) (dn := dnT rk T p t) (M := 200 + 40 * (20 * p + t)) hin hI hg hB (by omega) htn ct (200 + 40 * (20 * p + t) + 40) FU 0 (B0 T t) (pI σc 42 t (nI (B0 T t))) (hk1.cv hc) (hC.of hk1.kp) (fun a ha hat => by rw [pI_ne (by omega)]; exact hS a ha) pI_eq (by omega) (by omega) (by unfold FU; omega) (by omega)
        obtain ⟨z, σm', w1, w2, w3, w4, w5, w6⟩ := mdelay (k6 := k6) (k16 := f_Md_findPutOff_16 k6 m2) (B := B) (dn := dnT rk T p t) (M := 200 + 40 * (20 * p + t)) (p := nI p) hc hin hI hg hB (by omega) htn ct hdn (200 + 40 * (20 * p + t) + 40) FU (B0 T t) σm hm hM eg (fun a ha hat ca => hT a ha ca) ((hT t htn ct).2 (fun q => by unfold dnT at q; rw [show rk (rpT T t) = p from ek] at q; omega)) (by omega) (by omega) (by unfold FU; omega)
        have eyz : y = z := free_uniq u2 u4 u5 w2 w3 w4
        subst eyz
        have u1' : f_Tt_delay_16 FU (pI σc 42 t (nI (B0 T t))) (nI t) (nI g) 0 = some σc' := u1
        have f42 : ∀ a b, ¬ (a = 42 ∧ b = t) → σc'.1 a b = σc.1 a b := fun a b q => (u7 a b q).trans (pI_ne q)
        have kc : K42 σc σc' := fun a b q => f42 a b (by omega)
        have km : KM σm σm' := fun a b q1 q2 => w6 a b (by omega) q2
        have hne : ∀ a, a ≠ t → (dnT rk T p (t + 1) a ↔ dnT rk T p t a) := fun a q => by unfold dnT; omega
        have hsf : dnT rk T p (t + 1) t := Or.inr ⟨ek, by omega⟩
        obtain ⟨B2, bt, bn⟩ : ∃ B2 : Nat → Nat, B2 t = y ∧ ∀ a, a ≠ t → B2 a = B a := ⟨fun a => if a = t then y else B a, if_pos rfl, fun a q => if_neg q⟩
        obtain ⟨B', σc2, σm2, v1, v2, v3, v4, v5⟩ := ih m1 m2 (t + 1) B2 σc' σm' ⟨kc.cv hc, hC.of kc.kp, km.mv hm, hM.of km.kp, by rw [km _ _ (by omega) (by omega)]; exact eg, fun a ha => by
          by_cases q : a = t
          · subst q
            rw [bt]
            exact ⟨fun _ => u6, fun w => absurd ⟨ct, hsf⟩ w⟩
          · rw [bn a q, f42 _ _ (by omega), hne a q]
            exact hS a ha, fun a ha ca => by
          by_cases q : a = t
          · subst q
            rw [bt]
            exact ⟨fun _ => w5, fun w => absurd hsf w⟩
          · rw [bn a q, w6 _ _ (by omega) (by omega), hne a q]
            exact hT a ha ca, fun a => by
          have := hB a
          by_cases q : a = t
          · rw [q, bt]; omega
          · rw [bn a q]; omega⟩ (by omega) (by omega) (by omega)
        rw [u1', Option.bind_some]
        refine ⟨B', σc2, σm2, v1, ?_, v3, fun a b q => (v4 a b q).trans (kc a b q), km.tr v5⟩
        refine w1.trans ?_
        rw [nI_1]
        exact v2
      · have ek : ¬ rk (rpT T t) = p := fun q => cr (rk_inj hc a1 hr (q.trans er.symm))
        have nq1 : ¬ T t 0 = nI r := fun q => cr ((nI_eq (a := (T t 0).toNatClampNeg) (by omega) (by omega)).mp (a2.symm.trans q))
        have nq2 : ¬ nI (rk (T t 0).toNatClampNeg) = nI p := fun q => ek ((nI_eq (a := rk (T t 0).toNatClampNeg) (by omega) (by omega)).mp q)
        rw [if_neg nq1, if_neg nq2]
        exact ih m1 m2 (t + 1) B σc σm (h.next (by omega) (fun a ha ca => by
          unfold dnT
          by_cases q : a = t
          · subst q; omega
          · omega)) (by omega) (by omega) (by omega)
    · rw [if_neg ct, if_pos rfl, if_neg (fun q => ct (by rw [q]; exact decide_eq_true ⟨by rw [nI_toInt (by omega)]; omega, by rw [nI_toInt (by omega)]; omega⟩))]
      exact ih m1 m2 (t + 1) B σc σm (h.next (by omega) (fun a ha ca => by
        unfold dnT
        by_cases q : a = t
        · subst q; exact absurd ca ct
        · omega)) (by omega) (by omega) (by omega)
theorem po_out (hin : ∀ r k, r < nr → k < 6 → ∃ j : Nat, j < hiN k ∧ fa r k = nI j) (hI : ∀ t, t < nt → tOk (T t)) (hg : g ≤ 9) : ∀ (d f1 f2 p : Nat) (B : Nat → Nat) (σc σm : Sg), PO nr nt fa T rk g p 0 B σc σm → p + d = nr → d < f1 → d < f2 → ∃ B' σc' σm', f_Tt_beginWithoutClash_28 f1 σc (nI g) (nI p) = some σc' ∧ f_Md_findPutOff_6 f2 σm (nI p) = some σm' ∧ PO nr nt fa T rk g nr 0 B' σc' σm' ∧ K42 σc σc' ∧ KM σm σm' := by
  intro d
  induction d with
  | zero =>
    intro f1 f2 p B σc σm h hp h1 h2
    obtain ⟨m1, rfl⟩ : ∃ m, f1 = m + 1 := ⟨f1 - 1, by omega⟩
    obtain ⟨m2, rfl⟩ : ∃ m, f2 = m + 1 := ⟨f2 - 1, by omega⟩
    have : p = nr := by omega
    subst this
    have h8 := h.1.1
    refine ⟨B, σc, σm, ?_, ?_, h, fun _ _ _ => rfl, fun _ _ _ _ => rfl⟩
    · rw [f_Tt_beginWithoutClash_28_s, h.1.2.1, if_pos (nI_le (Nat.le_refl _) (by omega))]
    · rw [f_Md_findPutOff_6_s, h.2.2.1.2.1, if_pos (nI_le (Nat.le_refl _) (by omega))]
  | succ d ih =>
    intro f1 f2 p B σc σm h hp h1 h2
    obtain ⟨m1, rfl⟩ : ∃ m, f1 = m + 1 := ⟨f1 - 1, by omega⟩
    obtain ⟨m2, rfl⟩ : ∃ m, f2 = m + 1 := ⟨f2 - 1, by omega⟩
    have h8 := h.1.1
    have h20 := h.2.1.1
    obtain ⟨r, hr, er, e⟩ := ranked_k h.1 (p := p) (by omega)
    obtain ⟨B1, σc1, σm1, u1, u2, u3, u4, u5⟩ := po_in (k28 := f_Tt_beginWithoutClash_28 m1) (k6 := f_Md_findPutOff_6 m2) hin hI hg (p := p) (by omega) hr er nt FU FU 0 B σc σm h (by omega) (by unfold FU; omega) (by unfold FU; omega)
    obtain ⟨B2, σc2, σm2, v1, v2, v3, v4, v5⟩ := ih m1 m2 (p + 1) B1 σc1 σm1 (u3.next (by omega) (fun a ha ca => by unfold dnT; omega)) (by omega) (by omega) (by omega)
    refine ⟨B2, σc2, σm2, ?_, ?_, v3, fun a b q => (v4 a b q).trans (u4 a b q), u5.tr v5⟩
    · rw [f_Tt_beginWithoutClash_28_s, h.1.2.1, if_neg (nI_ge (by omega) (by omega)), e]
      refine Eq.trans u1 ?_
      rw [nI_1]
      exact v1
    · rw [f_Md_findPutOff_6_s, h.2.2.1.2.1, if_neg (nI_ge (by omega) (by omega))]
      refine Eq.trans u2 ?_
      rw [nI_1]
      exact v2
theorem po_3 {v : Int32} : ∀ (d f i : Nat) (σ : Sg), TC nt T σ → (∀ a, a < i → σ.1 42 a = -1) → i + d = nt → d < f → ∃ σ', f_Tt_beginWithoutClash_3 f σ v (nI i) = f_Tt_beginWithoutClash_28 FU σ' v 0 ∧ K42 σ σ' ∧ ∀ a, a < nt → σ'.1 42 a = -1 := by
  intro d
  induction d with
  | zero =>
    intro f i σ hC h hi hf
    obtain ⟨m, rfl⟩ : ∃ m, f = m + 1 := ⟨f - 1, by omega⟩
    have h20 := hC.1
    exact ⟨σ, by rw [f_Tt_beginWithoutClash_3_s, hC.2.1, if_pos (nI_le (by omega) (by omega))], fun _ _ _ => rfl, fun a ha => h a (by omega)⟩
  | succ d ih =>
    intro f i σ hC h hi hf
    obtain ⟨m, rfl⟩ : ∃ m, f = m + 1 := ⟨f - 1, by omega⟩
    have h20 := hC.1
    have hk : K42 σ (pI σ 42 i (-1)) := fun a b q => pI_ne (by omega)
    obtain ⟨σ', e1, e2, e3⟩ := ih m (i + 1) (pI σ 42 i (-1)) (hC.of hk.kp) (fun a ha => by
      by_cases q : a = i
      · subst q; exact pI_eq
      · rw [pI_ne (by omega)]; exact h a (by omega)) (by omega) (by omega)
    refine ⟨σ', ?_, fun a b q => (e2 a b q).trans (hk a b q), e3⟩
    rw [f_Tt_beginWithoutClash_3_s, hC.2.1, if_neg (nI_ge (by omega) (by omega)), begin_k (by omega), Option.bind_some, nI_1]
    exact e1
end
section
variable {nr nt g lf lim np : Nat} {fa T : Nat → Nat → Int32} {rk W K : Nat → Nat} {v0 v1 : Int32} {σc σm : Sg}
theorem putoff_k (hs : Sta nr fa nt T g lf lim np W K) (h : Dat nr fa rk nt T g lf lim np W K v0 v1 σc) (h' : Dat nr fa rk nt T g lf lim np W K v0 v1 σm) : ∃ B σc' σm', f_Tt_beginWithoutClash σc (nI g) = some σc' ∧ f_Md_findPutOff σm = some σm' ∧ BC nr nt T B σc' ∧ BM nr nt T B σm' ∧ K42 σc σc' ∧ Kp σm σm' ∧ MV' nr fa rk σm' := by
  obtain ⟨hin, hI, ⟨_, hg⟩, -⟩ := hs
  obtain ⟨hc, hC, -, -, ⟨cg, -⟩, -⟩ := h
  obtain ⟨-, -, hM, -, ⟨-, -, -, mg, -⟩, -, -, hf, -⟩ := h'
  have h20 := hC.1
  have h8 := hc.1
  obtain ⟨σ1, k1, k2, k3⟩ := po_3 (v := nI g) nt FU 0 σc hC (fun a ha => by omega) (by omega) (by unfold FU; omega)
  obtain ⟨σf, u1, hm, u3⟩ := hf σm Kw.rf
  have kpf := find_kp u3
  obtain ⟨σ2, w1, w2, w3⟩ := masTold_k (nr := nr) u1 hI (hM.of kpf)
  have kpm : Kp σm σ2 := kpf.tr w2.kp
  have nd : ∀ a, ¬ dnT rk T 0 0 a := fun a q => by unfold dnT at q; omega
  obtain ⟨B, σ3, σ4, x1, x2, x3, x4, x5⟩ := po_out hin hI hg nr FU FU 0 (fun _ => 0) σ1 σ2 ⟨k2.cv hc, hC.of k2.kp, w2.mv hm, hM.of kpm, by rw [kpm _ _ (by unfold scC; omega) (by unfold scM; omega)]; exact mg, fun a ha => ⟨fun q => absurd q.2 (nd a), fun _ => k3 a ha⟩, fun a ha ca => ⟨fun q => absurd q (nd a), fun _ => w3 a ha ca⟩, fun a => Nat.zero_le _⟩ (by omega) (by unfold FU; omega) (by unfold FU; omega)
  obtain ⟨y1, y2, y3, y4, y5, y6, y7, y8⟩ := x3
  have dn : ∀ a, a < nt → cntT nr T a → dnT rk T nr 0 a := fun a ha ca => Or.inl (y1.2.2 _ (cnt_rd h8 hI ha ca).1).2.2.2.2.1
  refine ⟨B, σ3, σ4, k1.trans x1, ?_, fun a ha => ⟨fun ca => (y6 a ha).1 ⟨ca, dn a ha ca⟩, fun ca => (y6 a ha).2 (fun q => ca q.1)⟩, fun a ha ca => (y7 a ha ca).1 (dn a ha ca), fun a b q => (x4 a b q).trans (k2 a b q), kpm.tr x5.kp, y3⟩
  unfold f_Md_findPutOff
  rw [w1, Option.bind_some]
  exact x2
theorem putOffQ_k (hs : Sta nr fa nt T g lf lim np W K) (h : Dat nr fa rk nt T g lf lim np W K v0 v1 σc) (h' : Dat nr fa rk nt T g lf lim np W K v0 v1 σm) (a : Int32) : ∃ x σc' σm', f_GR_putOff σc a = some (x, σc') ∧ f_Md_putOff σm a = some (x, σm') ∧ Kp σc σc' ∧ Kp σm σm' := by
  have h20 := h.2.1.1
  unfold f_GR_putOff f_Md_putOff
  rw [has_k h.2.1, isTrip_k h'.2.2.1]
  by_cases c : isR nt a = true
  · obtain ⟨t, ht, rfl⟩ := isR_nI' c h20
    obtain ⟨B, σ1, σ2, e1, e2, e3, e4, e5, e6, e7⟩ := putoff_k hs h h'
    have hM := h'.2.2.1.of e6
    rw [if_pos c, if_neg (show ¬ (1 : Int32) = 0 by decide), if_neg (show ¬ (1 : Int32) = 0 by decide), h.2.2.2.2.1.1, e1, e2, Option.bind_some, Option.bind_some, counts_k e7 hM ht, Option.bind_some, st_at (by omega), gd_of (vin_nI (by omega) (by decide)), nI_clamp (by omega)]
    by_cases ct : isR nr (T t 0) = true
    · rw [if_pos ct, if_neg (show ¬ (1 : Int32) = 0 by decide), (e3 t ht).1 ct, e4 t ht ct]
      exact ⟨_, σ1, σ2, rfl, rfl, e5.kp, e6⟩
    · rw [if_neg ct, if_pos rfl, (e3 t ht).2 ct]
      exact ⟨_, σ1, σ2, rfl, rfl, e5.kp, e6⟩
  · rw [if_neg c, if_pos rfl, if_pos rfl]
    exact ⟨_, σc, σm, rfl, rfl, Kp.rf, Kp.rf⟩
theorem e_putOff : E_putOff Rel := by
  intro σ a hR
  obtain ⟨nr, fa, rk, nt, T, g, lf, lim, np, W, K, v0, v1, hs, hd⟩ := hR.dat
  exact two_e (cls := fun s => f_GR_putOff s a) (mdl := fun s => f_Md_putOff s a) hR (fun σc σm k1 k2 => putOffQ_k hs (hd.of k1) (hd.of k2) a)
end
