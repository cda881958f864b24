/-! the relation between the class's numbers and the model's -/
def RX (n0 : Nat) (b0 : Nat → Int32) (n1 : Nat) (b1 : Nat → Int32) (σ : Sg) : Prop := TX 1 n0 b0 σ ∧ TX 3 n1 b1 σ ∧ MT n0 b0 σ ∧ MR n1 b1 σ ∧ σ.1 1 1 = 60 ∧ σ.1 3 1 = 10 ∧ σ.1 5 4 = f0 n0 b0 ∧ σ.1 5 5 = f1 (nrO n0 b0) n1 b1 ∧ CV (nrO n0 b0) (faO b0) (rkO (nrO n0 b0) n1 b1) σ
theorem CV.of {nr : Nat} {fa : Nat → Nat → Int32} {rk : Nat → Nat} {σ σ' : Sg} (h : CV nr fa rk σ) (e1 : σ'.1 5 3 = σ.1 5 3) (e2 : ∀ i k, 8 ≤ i → i < 17 → σ'.1 i k = σ.1 i k) : CV nr fa rk σ' := by
  obtain ⟨h1, h2, h3⟩ := h
  refine ⟨h1, e1.trans h2, fun r hr => ?_⟩
  obtain ⟨k1, k2, k3, k4, k5, k6⟩ := h3 r hr
  exact ⟨fun k hk => (e2 _ _ (by omega) (by omega)).trans (k1 k hk), (e2 _ _ (by omega) (by omega)).trans k2, (e2 _ _ (by omega) (by omega)).trans k3, (e2 _ _ (by omega) (by omega)).trans k4, k5, (e2 _ _ (by omega) (by omega)).trans k6⟩
theorem RX.of {n0 n1 : Nat} {b0 b1 : Nat → Int32} {σ σ' : Sg} (h : RX n0 b0 n1 b1 σ) (e : Same gX σ σ') : RX n0 b0 n1 b1 σ' := by
  obtain ⟨h1, h2, h3, h4, h5, h6, h7, h8, h9⟩ := h
  have g : ∀ i k, (1 ≤ i ∧ i < 5) ∨ (i = 5 ∧ (k = 3 ∨ k = 4 ∨ k = 5)) ∨ (8 ≤ i ∧ i < 17) ∨ i = 71 ∨ i = 72 → σ'.1 i k = σ.1 i k := fun i k hg => e i k hg
  exact ⟨h1.of (g _ _ (by omega)) (fun i => g _ _ (by omega)), h2.of (g _ _ (by omega)) (fun i => g _ _ (by omega)), h3.of (g _ _ (by omega)) (fun i => g _ _ (by omega)), h4.of (g _ _ (by omega)) (fun i => g _ _ (by omega)), (g _ _ (by omega)).trans h5, (g _ _ (by omega)).trans h6, (g _ _ (by omega)).trans h7, (g _ _ (by omega)).trans h8, h9.of (g _ _ (by omega)) (fun i k h1 h2 => g _ _ (by omega))⟩
def Rel (σ : Sg) : Prop := (∃ n0 b0 n1 b1, RX n0 b0 n1 b1 σ) ∧ RSet σ ∧ (∃ nt, RT nt σ) ∧ (∃ np, RP np σ) ∧ RS σ ∧ RL σ
/-- only scratch has changed -/
def Kp (σ σ' : Sg) : Prop := ∀ i k, ¬ scC i k → ¬ scM i k → σ'.1 i k = σ.1 i k
theorem Kp.rf {σ : Sg} : Kp σ σ := fun _ _ _ _ => rfl
theorem Kp.tr {σ σ' σ'' : Sg} (h1 : Kp σ σ') (h2 : Kp σ' σ'') : Kp σ σ'' := fun i k a b => (h2 i k a b).trans (h1 i k a b)
theorem Kp.same {σ σ' : Sg} (h : Kp σ σ') {g : Nat → Nat → Prop} (hg : ∀ i k, g i k → ¬ scC i k ∧ ¬ scM i k) : Same g σ σ' := fun i k q => h i k (hg i k q).1 (hg i k q).2
theorem Rel.of {σ σ' : Sg} (h : Rel σ) (e : Kp σ σ') : Rel σ' := by
  obtain ⟨⟨n0, b0, n1, b1, hX⟩, h2, ⟨nt, h3⟩, ⟨np, h4⟩, h5, h6⟩ := h
  refine ⟨⟨n0, b0, n1, b1, hX.of (e.same ?_)⟩, h2.of (e.same ?_), ⟨nt, h3.of (e.same ?_)⟩, ⟨np, h4.of (e.same ?_)⟩, h5.of (e.same ?_), h6.of (e.same ?_)⟩
  · intro i k q; unfold gX at q; unfold scC scM; omega
  · intro i k q; unfold gSet at q; unfold scC scM; omega
  · intro i k q; unfold gT at q; unfold scC scM; omega
  · intro i k q; unfold gP at q; unfold scC scM; omega
  · intro i k q; unfold gS at q; unfold scC scM; omega
  · intro i k q; unfold gL at q; unfold scC scM; omega
theorem find_kp {σ σ' : Sg} (h : ∀ i j, ¬ (i = 66 ∧ (j = 7 ∨ j = 8)) → i ≠ 73 → i ≠ 74 → σ'.1 i j = σ.1 i j) : Kp σ σ' := fun i k _ b => h i k (by unfold scM at b; omega) (by unfold scM at b; omega) (by unfold scM at b; omega)
/-- what both have of ropes: the class as it stands, the model once it has found -/
theorem Rel.find {σ : Sg} (h : Rel σ) : ∃ nr fa rk f1v σ', f_Md_find σ = some (f1v, σ') ∧ σ.1 5 5 = f1v ∧ Kp σ σ' ∧ CV nr fa rk σ ∧ MV' nr fa rk σ' ∧ (∀ r k, r < nr → k < 6 → ∃ j : Nat, j < hiN k ∧ fa r k = nI j) ∧ (∀ i j, ¬ (i = 66 ∧ (j = 7 ∨ j = 8)) → i ≠ 73 → i ≠ 74 → σ'.1 i j = σ.1 i j) := by
  obtain ⟨⟨n0, b0, n1, b1, h1, h2, h3, h4, h5, h6, h7, h8, h9⟩, -⟩ := h
  obtain ⟨σ', e1, e2, e3⟩ := md_find h3 h4
  exact ⟨_, _, _, _, σ', e1, h8, find_kp e2, h9, e3, fun r k hr hk => fa_in h1.1 hr hk, e2⟩
/-! texts -/
def extB (b : Nat → Int32) (n : Nat) (v : Int32) : Nat → Int32 := fun i => if i = n then v else b i
theorem te_append {c n room : Nat} {b : Nat → Int32} {σ : Sg} (hT : TX c n b σ) (hr : σ.1 c 1 = nI room) (hn : n < room) (h60 : room ≤ 60) (v : Int32) : ∃ σ', f_Te_append σ c v = some σ' ∧ TX c (n + 1) (extB b n v) σ' ∧ ∀ i j, ¬ (i = c ∧ j = 2) → ¬ (i = c + 1 ∧ j = n) → σ'.1 i j = σ.1 i j := by
  obtain ⟨h1, h2, h3⟩ := hT
  unfold f_Te_append
  rw [h2, hr, below_yes hn (nI_toInt (by omega)) (by omega), if_neg (show ¬ (1 : Int32) = 0 by decide), gd_of (vin_nI (by omega) (by decide)), nI_clamp (by omega)]
  have e : (pI σ (c + 1) n v).1 c 2 + 1 = nI (n + 1) := by rw [pI_ne (by omega), h2, nI_1]
  rw [e]
  refine ⟨_, rfl, ⟨by omega, pI_eq, fun i hi => ?_⟩, fun i j g1 g2 => by rw [pI_ne g1, pI_ne g2]⟩
  rw [pI_ne (by omega)]
  unfold extB
  by_cases q : i = n
  · subst q; rw [pI_eq, if_pos rfl]
  · rw [pI_ne (fun g => q g.2), if_neg q]; exact h3 i (by omega)
theorem Rel.other {σ σ' : Sg} (h : Rel σ) (hX : ∃ n0 b0 n1 b1, RX n0 b0 n1 b1 σ') (e : ∀ i j, ¬ gX i j → σ'.1 i j = σ.1 i j) : Rel σ' := by
  obtain ⟨_, h2, ⟨nt, h3⟩, ⟨np, h4⟩, h5, h6⟩ := h
  refine ⟨hX, h2.of (fun i k q => e i k ?_), ⟨nt, h3.of (fun i k q => e i k ?_)⟩, ⟨np, h4.of (fun i k q => e i k ?_)⟩, h5.of (fun i k q => e i k ?_), h6.of (fun i k q => e i k ?_)⟩
  · unfold gSet at q; unfold gX; omega
  · unfold gT at q; unfold gX; omega
  · unfold gP at q; unfold gX; omega
  · unfold gS at q; unfold gX; omega
  · unfold gL at q; unfold gX; omega
theorem two_no {x : Int32} (h : ¬ (0 ≤ x.toInt ∧ x.toInt < (2 : Nat))) : f_GR_isBelow x 2 = 0 ∧ f_Md_isTwo x = 0 := ⟨below_no h (by decide), by unfold f_Md_isTwo; rw [in_no h (by decide)]; rfl⟩
theorem two_yes {j : Nat} (h : j < 2) : f_GR_isBelow (nI j) 2 = 1 ∧ f_Md_isTwo (nI j) = 1 := ⟨below_yes h (by decide) (by decide), by unfold f_Md_isTwo; rw [in_yes h (by decide) (by decide)]; rfl⟩
set_option maxHeartbeats 2000000 in
theorem e_type : E_type Rel := by
  intro σ a1 a2 hR
  unfold f_GR_type f_Md_type
  rcases arg_in a1 2 (by decide) with h | ⟨t, ht, rfl⟩
  · obtain ⟨q1, q2⟩ := two_no h
    rw [if_pos q1]
    exact ⟨-2, σ, σ, rfl, by rw [if_pos q2], hR⟩
  obtain ⟨q1, q2⟩ := two_yes ht
  rw [if_neg (show ¬ f_GR_isBelow (nI t) 2 = 0 by rw [q1]; decide)]
  rcases arg_in a2 256 (by decide) with h | ⟨v, hv, rfl⟩
  · rw [if_pos (below_no h (by decide))]
    exact ⟨-2, σ, σ, rfl, by rw [if_neg (show ¬ f_Md_isTwo (nI t) = 0 by rw [q2]; decide), if_pos (in_no h (by decide))], hR⟩
  rw [if_neg (show ¬ f_GR_isBelow (nI v) 256 = 0 by rw [below_yes hv (by decide) (by decide)]; decide)]
  have hmd : ∀ σ' : Sg, (if f_Md_isTwo (nI t) = 0 then some ((-2 : Int32), σ') else if f_Md_in (nI v).toInt64 0 255 = 0 then some (-2, σ') else gd (vin (nI t) 2) (if nI t = 0 then f_Md_type_39 σ' (nI t) (nI v) 60 (σ'.1 72 (nI t).toNatClampNeg) else f_Md_type_39 σ' (nI t) (nI v) 10 (σ'.1 72 (nI t).toNatClampNeg))) = (if nI t = 0 then f_Md_type_39 σ' (nI t) (nI v) 60 (σ'.1 72 t) else f_Md_type_39 σ' (nI t) (nI v) 10 (σ'.1 72 t)) := fun σ' => by
    rw [if_neg (show ¬ f_Md_isTwo (nI t) = 0 by rw [q2]; decide), if_neg (show ¬ f_Md_in (nI v).toInt64 0 255 = 0 by rw [in_yes hv (by decide) (by decide)]; decide), gd_of (vin_nI ht (by decide)), nI_clamp (by omega)]
  simp only [hmd]
  obtain ⟨⟨n0, b0, n1, b1, h1, h2, h3, h4, h5, h6, h7, h8, h9⟩, -⟩ := id hR
  have c60 := h1.1
  have c10 := h4.1
  rcases (show t = 0 ∨ t = 1 by omega) with rfl | rfl
  · have etx : f_GR_textOf (nI 0) = 1 := rfl
    have ef : f_Te_isFull σ 1 = if n0 < 60 then 0 else 1 := by
      unfold f_Te_isFull
      rw [h1.2.1, h5]
      by_cases c : n0 < 60
      · rw [if_pos (show nI n0 < 60 from nI_lt (b := 60) c (by omega)), if_pos c]
      · rw [if_neg (show ¬ nI n0 < 60 from nI_nlt (b := 60) (by omega) (by omega)), if_neg c]
    rw [etx, ef]
    by_cases c : n0 < 60
    · rw [if_pos c, if_pos rfl]
      obtain ⟨σ1, k1, k2, k3⟩ := te_append (room := 60) h1 h5 c (by omega) (nI v)
      rw [k1]
      simp only [Option.bind_some]
      have h2' : TX 3 n1 b1 σ1 := h2.of (k3 _ _ (by omega) (by omega)) (fun i => k3 _ _ (by omega) (by omega))
      obtain ⟨σ2, w1, w2, w3, w4, w5⟩ := rs_learn k2 h2'
      rw [w1]
      simp only [Option.bind_some]
      have h72 : σ2.1 72 0 = nI n0 := by rw [w5 _ _ (by omega) (by omega), k3 _ _ (by omega) (by omega)]; exact h3.2.1
      have h12 : σ2.1 1 2 = nI (n0 + 1) := by rw [w5 _ _ (by omega) (by omega)]; exact k2.2.1
      refine ⟨nI (n0 + 1), σ2, pI (pI σ2 71 n0 (nI v)) 72 0 (nI (n0 + 1)), by rw [h12], ?_, ?_⟩
      · rw [if_pos (show nI 0 = 0 from rfl)]
        unfold f_Md_type_39
        rw [h72, if_neg (show ¬ nI n0 = 60 from fun h => by have := (nI_eq (b := 60) (by omega) (by omega)).mp h; omega), gd_of (show vin (nI 0) 2 = true from rfl)]
        have ez : (60 * nI 0 + σ2.1 72 (nI 0).toNatClampNeg) = nI n0 := by
          rw [show (nI 0).toNatClampNeg = 0 from rfl, h72, show (60 : Int32) * nI 0 = nI 0 from rfl, nI_add, Nat.zero_add]
        have e72 : (pI σ2 71 n0 (nI v)).1 72 0 = nI n0 := by rw [pI_ne (by omega)]; exact h72
        rw [ez, gd_of (vin_nI (by omega) (by decide)), nI_clamp (show n0 < 2 ^ 31 by omega), show (nI 0).toNatClampNeg = 0 from rfl, e72, nI_1, pI_eq]
        rfl
      · have fr : ∀ i j, ¬ gX i j → (pI (pI σ2 71 n0 (nI v)) 72 0 (nI (n0 + 1))).1 i j = σ.1 i j := fun i j g => by
          unfold gX at g
          rw [pI_ne (by omega), pI_ne (by omega), w5 _ _ (by omega) (by omega), k3 _ _ (by omega) (by omega)]
        refine hR.other ⟨n0 + 1, extB b0 n0 (nI v), n1, b1, ?_⟩ fr
        have ne71 : ∀ i j, i ≠ 71 → i ≠ 72 → (pI (pI σ2 71 n0 (nI v)) 72 0 (nI (n0 + 1))).1 i j = σ2.1 i j := fun i j g1 g2 => by rw [pI_ne (by omega), pI_ne (by omega)]
        refine ⟨?_, ?_, ?_, ?_, ?_, ?_, ?_, ?_, ?_⟩
        · exact k2.of (by rw [ne71 _ _ (by omega) (by omega), w5 _ _ (by omega) (by omega)]) (fun i => by rw [ne71 _ _ (by omega) (by omega), w5 _ _ (by omega) (by omega)])
        · exact h2'.of (by rw [ne71 _ _ (by omega) (by omega), w5 _ _ (by omega) (by omega)]) (fun i => by rw [ne71 _ _ (by omega) (by omega), w5 _ _ (by omega) (by omega)])
        · refine ⟨by omega, pI_eq, fun i hi => ?_⟩
          rw [pI_ne (by omega)]
          unfold extB
          by_cases q : i = n0
          · subst q; rw [pI_eq, if_pos rfl]
          · rw [pI_ne (fun g => q g.2), if_neg q, w5 _ _ (by omega) (by omega), k3 _ _ (by omega) (by omega)]
            exact h3.2.2 i (by omega)
        · refine ⟨h4.1, ?_, fun i hi => ?_⟩
          · rw [pI_ne (by omega), pI_ne (by omega), w5 _ _ (by omega) (by omega), k3 _ _ (by omega) (by omega)]; exact h4.2.1
          · rw [pI_ne (by omega), pI_ne (by omega), w5 _ _ (by omega) (by omega), k3 _ _ (by omega) (by omega)]; exact h4.2.2 i hi
        · rw [ne71 _ _ (by omega) (by omega), w5 _ _ (by omega) (by omega), k3 _ _ (by omega) (by omega)]; exact h5
        · rw [ne71 _ _ (by omega) (by omega), w5 _ _ (by omega) (by omega), k3 _ _ (by omega) (by omega)]; exact h6
        · rw [ne71 _ _ (by omega) (by omega)]; exact w2
        · rw [ne71 _ _ (by omega) (by omega)]; exact w3
        · exact w4.of (ne71 _ _ (by omega) (by omega)) (fun i k _ _ => ne71 _ _ (by omega) (by omega))
    · rw [if_neg c, if_neg (show ¬ (1 : Int32) = 0 by decide)]
      have : n0 = 60 := by omega
      subst this
      refine ⟨-4, σ, σ, rfl, ?_, hR⟩
      rw [if_pos (show nI 0 = 0 from rfl)]
      unfold f_Md_type_39
      rw [h3.2.1, if_pos (show nI 60 = 60 from rfl)]
  · have etx : f_GR_textOf (nI 1) = 3 := rfl
    have ef : f_Te_isFull σ 3 = if n1 < 10 then 0 else 1 := by
      unfold f_Te_isFull
      rw [h2.2.1, h6]
      by_cases c : n1 < 10
      · rw [if_pos (show nI n1 < 10 from nI_lt (b := 10) c (by omega)), if_pos c]
      · rw [if_neg (show ¬ nI n1 < 10 from nI_nlt (b := 10) (by omega) (by omega)), if_neg c]
    rw [etx, ef]
    by_cases c : n1 < 10
    · rw [if_pos c, if_pos rfl]
      obtain ⟨σ1, k1, k2, k3⟩ := te_append (room := 10) h2 h6 c (by omega) (nI v)
      rw [k1]
      simp only [Option.bind_some]
      have h1' : TX 1 n0 b0 σ1 := h1.of (k3 _ _ (by omega) (by omega)) (fun i => k3 _ _ (by omega) (by omega))
      obtain ⟨σ2, w1, w2, w3, w4, w5⟩ := rs_learn h1' k2
      rw [w1]
      simp only [Option.bind_some]
      have h72 : σ2.1 72 1 = nI n1 := by rw [w5 _ _ (by omega) (by omega), k3 _ _ (by omega) (by omega)]; exact h4.2.1
      have h32 : σ2.1 3 2 = nI (n1 + 1) := by rw [w5 _ _ (by omega) (by omega)]; exact k2.2.1
      refine ⟨nI (n1 + 1), σ2, pI (pI σ2 71 (60 + n1) (nI v)) 72 1 (nI (n1 + 1)), by rw [h32], ?_, ?_⟩
      · rw [if_neg (show ¬ nI 1 = 0 by decide)]
        unfold f_Md_type_39
        rw [h72, if_neg (show ¬ nI n1 = 10 from fun h => by have := (nI_eq (b := 10) (by omega) (by omega)).mp h; omega), gd_of (show vin (nI 1) 2 = true from rfl)]
        have ez : (60 * nI 1 + σ2.1 72 (nI 1).toNatClampNeg) = nI (60 + n1) := by
          rw [show (nI 1).toNatClampNeg = 1 from rfl, h72, show (60 : Int32) * nI 1 = nI 60 from rfl, nI_add]
        have e72 : (pI σ2 71 (60 + n1) (nI v)).1 72 1 = nI n1 := by rw [pI_ne (by omega)]; exact h72
        rw [ez, gd_of (vin_nI (by omega) (by decide)), nI_clamp (show 60 + n1 < 2 ^ 31 by omega), show (nI 1).toNatClampNeg = 1 from rfl, e72, nI_1, pI_eq]
        rfl
      · have fr : ∀ i j, ¬ gX i j → (pI (pI σ2 71 (60 + n1) (nI v)) 72 1 (nI (n1 + 1))).1 i j = σ.1 i j := fun i j g => by
          unfold gX at g
          rw [pI_ne (by omega), pI_ne (by omega), w5 _ _ (by omega) (by omega), k3 _ _ (by omega) (by omega)]
        refine hR.other ⟨n0, b0, n1 + 1, extB b1 n1 (nI v), ?_⟩ fr
        have ne71 : ∀ i j, i ≠ 71 → i ≠ 72 → (pI (pI σ2 71 (60 + n1) (nI v)) 72 1 (nI (n1 + 1))).1 i j = σ2.1 i j := fun i j g1 g2 => by rw [pI_ne (by omega), pI_ne (by omega)]
        refine ⟨?_, ?_, ?_, ?_, ?_, ?_, ?_, ?_, ?_⟩
        · exact h1'.of (by rw [ne71 _ _ (by omega) (by omega), w5 _ _ (by omega) (by omega)]) (fun i => by rw [ne71 _ _ (by omega) (by omega), w5 _ _ (by omega) (by omega)])
        · exact k2.of (by rw [ne71 _ _ (by omega) (by omega), w5 _ _ (by omega) (by omega)]) (fun i => by rw [ne71 _ _ (by omega) (by omega), w5 _ _ (by omega) (by omega)])
        · refine ⟨h3.1, ?_, fun i hi => ?_⟩
          · rw [pI_ne (by omega), pI_ne (by omega), w5 _ _ (by omega) (by omega), k3 _ _ (by omega) (by omega)]; exact h3.2.1
          · rw [pI_ne (by omega), pI_ne (by omega), w5 _ _ (by omega) (by omega), k3 _ _ (by omega) (by omega)]; exact h3.2.2 i hi
        · refine ⟨by omega, pI_eq, fun i hi => ?_⟩
          rw [pI_ne (by omega)]
          unfold extB
          by_cases q : i = n1
          · subst q; rw [pI_eq, if_pos rfl]
          · rw [pI_ne (by omega), if_neg q, w5 _ _ (by omega) (by omega), k3 _ _ (by omega) (by omega)]
            exact h4.2.2 i (by omega)
        · rw [ne71 _ _ (by omega) (by omega), w5 _ _ (by omega) (by omega), k3 _ _ (by omega) (by omega)]; exact h5
        · rw [ne71 _ _ (by omega) (by omega), w5 _ _ (by omega) (by omega), k3 _ _ (by omega) (by omega)]; exact h6
        · rw [ne71 _ _ (by omega) (by omega)]; exact w2
        · rw [ne71 _ _ (by omega) (by omega)]; exact w3
        · exact w4.of (ne71 _ _ (by omega) (by omega)) (fun i k _ _ => ne71 _ _ (by omega) (by omega))
    · rw [if_neg c, if_neg (show ¬ (1 : Int32) = 0 by decide)]
      have : n1 = 10 := by omega
      subst this
      refine ⟨-4, σ, σ, rfl, ?_, hR⟩
      rw [if_neg (show ¬ nI 1 = 0 by decide)]
      unfold f_Md_type_39
      rw [h4.2.1, if_pos (show nI 10 = 10 from rfl)]
