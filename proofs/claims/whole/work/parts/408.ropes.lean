/-! wipe, fault, rope, crosses, takes -/
set_option maxHeartbeats 2000000 in
theorem e_wipe : E_wipe Rel := by
  intro σ a1 hR
  unfold f_GR_wipe f_Md_wipe f_Te_drop
  rcases arg_in a1 2 (by decide) with h | ⟨t, ht, rfl⟩
  · obtain ⟨q1, q2⟩ := two_no h
    rw [if_pos q1]
    exact ⟨-2, σ, σ, rfl, by rw [if_pos q2], hR⟩
  obtain ⟨q1, q2⟩ := two_yes ht
  rw [if_neg (show ¬ f_GR_isBelow (nI t) 2 = 0 by rw [q1]; decide), bd_s]
  obtain ⟨⟨n0, b0, n1, b1, h1, h2, h3, h4, h5, h6, h7, h8, h9⟩, -⟩ := id hR
  have hmd : ∀ σ' : Sg, (if f_Md_isTwo (nI t) = 0 then some ((-2 : Int32), σ') else gd (vin (nI t) 2) (gd (vin (nI t) 2) (some (σ'.1 72 (nI t).toNatClampNeg, pI σ' 72 (nI t).toNatClampNeg 0)))) = some (σ'.1 72 t, pI σ' 72 t 0) := fun σ' => by
    rw [if_neg (show ¬ f_Md_isTwo (nI t) = 0 by rw [q2]; decide), gd_of (vin_nI ht (by decide)), gd_of (vin_nI ht (by decide)), nI_clamp (by omega)]
  simp only [hmd]
  rcases (show t = 0 ∨ t = 1 by omega) with rfl | rfl
  · have etx : f_GR_textOf (nI 0) = 1 := rfl
    rw [etx]
    have hT1 : TX 1 0 b0 (pI σ 1 2 0) := ⟨by omega, pI_eq, fun i hi => by omega⟩
    have hT3 : TX 3 n1 b1 (pI σ 1 2 0) := h2.of (pI_ne (by omega)) (fun i => pI_ne (by omega))
    obtain ⟨σ2, w1, w2, w3, w4, w5⟩ := rs_learn hT1 hT3
    rw [w1]
    simp only [Option.bind_some]
    have h72 : σ2.1 72 0 = nI n0 := by rw [w5 _ _ (by omega) (by omega), pI_ne (by omega)]; exact h3.2.1
    refine ⟨nI n0, σ2, pI σ2 72 0 0, by rw [h1.2.1], by rw [h72], ?_⟩
    have ne72 : ∀ i j, ¬ (i = 72 ∧ j = 0) → (pI σ2 72 0 0).1 i j = σ2.1 i j := fun i j g => pI_ne g
    refine hR.other ⟨0, b0, n1, b1, ?_, ?_, ?_, ?_, ?_, ?_, ?_, ?_, ?_⟩ (fun i j g => by
      unfold gX at g
      rw [ne72 _ _ (by omega), w5 _ _ (by omega) (by omega), pI_ne (by omega)])
    · exact hT1.of (by rw [ne72 _ _ (by omega), w5 _ _ (by omega) (by omega)]) (fun i => by rw [ne72 _ _ (by omega), w5 _ _ (by omega) (by omega)])
    · exact hT3.of (by rw [ne72 _ _ (by omega), w5 _ _ (by omega) (by omega)]) (fun i => by rw [ne72 _ _ (by omega), w5 _ _ (by omega) (by omega)])
    · exact ⟨by omega, pI_eq, fun i hi => by omega⟩
    · exact h4.of (by rw [ne72 _ _ (by omega), w5 _ _ (by omega) (by omega), pI_ne (by omega)]) (fun i => by rw [ne72 _ _ (by omega), w5 _ _ (by omega) (by omega), pI_ne (by omega)])
    · rw [ne72 _ _ (by omega), w5 _ _ (by omega) (by omega), pI_ne (by omega)]; exact h5
    · rw [ne72 _ _ (by omega), w5 _ _ (by omega) (by omega), pI_ne (by omega)]; exact h6
    · rw [ne72 _ _ (by omega)]; exact w2
    · rw [ne72 _ _ (by omega)]; exact w3
    · exact w4.of (ne72 _ _ (by omega)) (fun i k _ _ => ne72 _ _ (by omega))
  · have etx : f_GR_textOf (nI 1) = 3 := rfl
    rw [etx]
    have hT1 : TX 1 n0 b0 (pI σ 3 2 0) := h1.of (pI_ne (by omega)) (fun i => pI_ne (by omega))
    have hT3 : TX 3 0 b1 (pI σ 3 2 0) := ⟨by omega, pI_eq, fun i hi => by omega⟩
    obtain ⟨σ2, w1, w2, w3, w4, w5⟩ := rs_learn hT1 hT3
    rw [w1]
    simp only [Option.bind_some]
    have h72 : σ2.1 72 1 = nI n1 := by rw [w5 _ _ (by omega) (by omega), pI_ne (by omega)]; exact h4.2.1
    refine ⟨nI n1, σ2, pI σ2 72 1 0, by rw [h2.2.1], by rw [h72], ?_⟩
    have ne72 : ∀ i j, ¬ (i = 72 ∧ j = 1) → (pI σ2 72 1 0).1 i j = σ2.1 i j := fun i j g => pI_ne g
    refine hR.other ⟨n0, b0, 0, b1, ?_, ?_, ?_, ?_, ?_, ?_, ?_, ?_, ?_⟩ (fun i j g => by
      unfold gX at g
      rw [ne72 _ _ (by omega), w5 _ _ (by omega) (by omega), pI_ne (by omega)])
    · exact hT1.of (by rw [ne72 _ _ (by omega), w5 _ _ (by omega) (by omega)]) (fun i => by rw [ne72 _ _ (by omega), w5 _ _ (by omega) (by omega)])
    · exact hT3.of (by rw [ne72 _ _ (by omega), w5 _ _ (by omega) (by omega)]) (fun i => by rw [ne72 _ _ (by omega), w5 _ _ (by omega) (by omega)])
    · exact h3.of (by rw [ne72 _ _ (by omega), w5 _ _ (by omega) (by omega), pI_ne (by omega)]) (fun i => by rw [ne72 _ _ (by omega), w5 _ _ (by omega) (by omega), pI_ne (by omega)])
    · exact ⟨by omega, pI_eq, fun i hi => by omega⟩
    · rw [ne72 _ _ (by omega), w5 _ _ (by omega) (by omega), pI_ne (by omega)]; exact h5
    · rw [ne72 _ _ (by omega), w5 _ _ (by omega) (by omega), pI_ne (by omega)]; exact h6
    · rw [ne72 _ _ (by omega)]; exact w2
    · rw [ne72 _ _ (by omega)]; exact w3
    · exact w4.of (ne72 _ _ (by omega)) (fun i k _ _ => ne72 _ _ (by omega))
theorem reads_kp {σ σ' : Sg} (h : ∀ i j, ¬ (i = 66 ∧ (j = 7 ∨ j = 8)) → i ≠ 73 → σ'.1 i j = σ.1 i j) : Kp σ σ' := fun i k _ b => h i k (by unfold scM at b; omega) (by unfold scM at b; omega)
theorem e_fault : E_fault Rel := by
  intro σ a1 hR
  unfold f_GR_fault f_Md_fault
  rcases arg_in a1 2 (by decide) with h | ⟨t, ht, rfl⟩
  · obtain ⟨q1, q2⟩ := two_no h
    exact ⟨-2, σ, by rw [if_pos q1], by rw [if_pos q2], hR⟩
  obtain ⟨q1, q2⟩ := two_yes ht
  rw [if_neg (show ¬ f_GR_isBelow (nI t) 2 = 0 by rw [q1]; decide), if_neg (show ¬ f_Md_isTwo (nI t) = 0 by rw [q2]; decide)]
  obtain ⟨⟨n0, b0, n1, b1, h1, h2, h3, h4, h5, h6, h7, h8, h9⟩, -⟩ := id hR
  unfold f_Md_faultOf
  rcases (show t = 0 ∨ t = 1 by omega) with rfl | rfl
  · obtain ⟨σ', e1, e2, -⟩ := reads_ropes h3
    refine ⟨f0 n0 b0, σ', by rw [if_pos (show nI 0 = 0 from rfl)]; exact h7, ?_, hR.of (reads_kp e2)⟩
    rw [if_pos (show nI 0 = 0 from rfl), e1]
    rfl
  · obtain ⟨σ', e1, e2, -⟩ := md_find h3 h4
    refine ⟨f1 (nrO n0 b0) n1 b1, σ', by rw [if_neg (show ¬ nI 1 = 0 by decide)]; exact h8, ?_, hR.of (find_kp e2)⟩
    rw [if_neg (show ¬ nI 1 = 0 by decide), e1]
    rfl
theorem md_hasRope {nr : Nat} {fa : Nat → Nat → Int32} {rk : Nat → Nat} {σ σ' : Sg} {v : Int32} (hf : f_Md_find σ = some (v, σ')) (hm : MV' nr fa rk σ') (x : Int32) : f_Md_hasRope σ x = some (if isR nr x = true then 1 else 0, σ') := by
  unfold f_Md_hasRope
  rw [hf, bd_s, md_isRope hm.2.1 hm.1]
  congr 2
  split <;> rfl
theorem isR_no {nr : Nat} {x : Int32} (h : ¬ isR nr x = true) : (if isR nr x = true then (1 : Int32) else 0) = 0 := if_neg h
theorem ropeOf_k {nr : Nat} {fa : Nat → Nat → Int32} {rk : Nat → Nat} {σ : Sg} (hm : MV' nr fa rk σ) {r k : Nat} (hr : r < nr) (hk : k < 7) : f_Md_ropeOf σ (nI r) (nI k) = some (if k = 6 then nI (rk r) else fa r k) := by
  have h8 := hm.1
  unfold f_Md_ropeOf
  by_cases c : k = 6
  · subst c
    rw [if_pos (show nI 6 = 6 from rfl), gd_of (vin_nI (by omega) (by decide)), nI_clamp (by omega), hm.2.2.2 r hr, if_pos rfl]
  · rw [if_neg (show ¬ nI k = 6 from fun h => c ((nI_eq (b := 6) (by omega) (by omega)).mp h)), if_neg c]
    have e : 6 * nI r + nI k = nI (6 * r + k) := by rw [show (6 : Int32) = nI 6 from rfl, pk_mul, nI_add]
    rw [e, gd_of (vin_nI (by omega) (by decide)), nI_clamp (by omega), hm.2.2.1 r k hr (by omega)]
theorem tell_k {nr : Nat} {fa : Nat → Nat → Int32} {rk : Nat → Nat} {σ : Sg} (hc : CV nr fa rk σ) {r k : Nat} (hr : r < nr) (hk : k < 7) : f_Ro_tell σ (9 + r) (nI k) = if k = 6 then nI (rk r) else fa r k := by
  obtain ⟨h1, h2, -⟩ := hc.2.2 r hr
  rcases (show k = 0 ∨ k = 1 ∨ k = 2 ∨ k = 3 ∨ k = 4 ∨ k = 5 ∨ k = 6 by omega) with rfl | rfl | rfl | rfl | rfl | rfl | rfl
  · exact h1 0 (by omega)
  · exact h1 1 (by omega)
  · exact h1 2 (by omega)
  · exact h1 3 (by omega)
  · exact h1 4 (by omega)
  · exact h1 5 (by omega)
  · exact h2
theorem e_rope : E_rope Rel := by
  intro σ a1 a2 hR
  obtain ⟨nr, fa, rk, fv, σ', e1, e2, e3, hc, hm, hin, -⟩ := hR.find
  unfold f_GR_rope f_Md_rope
  rw [md_hasRope e1 hm, bd_s, rs_has hc.2.1 hc.1]
  by_cases c : isR nr a1 = true
  · rw [if_pos c, if_neg (show ¬ (1 : Int32) = 0 by decide), if_neg (show ¬ (1 : Int32) = 0 by decide)]
    obtain ⟨r, hr, rfl⟩ := isR_nI c hc.1
    rcases arg_in a2 7 (by decide) with h | ⟨k, hk, rfl⟩
    · exact ⟨-2, σ', by rw [if_pos (below_no h (by decide))], by rw [if_pos (in_no h (by decide))], hR.of e3⟩
    · rw [if_neg (show ¬ f_GR_isBelow (nI k) 7 = 0 by rw [below_yes hk (by decide) (by decide)]; decide), if_neg (show ¬ f_Md_in (nI k).toInt64 0 6 = 0 by rw [in_yes hk (by decide) (by decide)]; decide), ropeOf_k hm hr hk, rs_at (by have := hc.1; omega), tell_k hc hr hk]
      exact ⟨_, σ', rfl, rfl, hR.of e3⟩
  · rw [if_neg c]
    exact ⟨-2, σ', rfl, rfl, hR.of e3⟩
/-! crossing or not -/
def crP (x y : Int32) : Int32 := if 0 ≤ x * y then 0 else 1
def crM (x y : Int32) : Int32 := if x ≤ 0 then (if 0 ≤ x then 0 else if y ≤ 0 then 0 else 1) else if y < 0 then 1 else if 0 ≤ x then 0 else if y ≤ 0 then 0 else 1
theorem cr_dec : ∀ i : Fin 19, ∀ j : Fin 19, crM (nI i.val - 9) (nI j.val - 9) = crP (nI i.val - 9) (nI j.val - 9) := by decide +kernel
theorem sub9 {a c : Nat} (ha : a < 10) (hc : c < 10) : nI a - nI c = nI (a + 9 - c) - 9 := by
  have h : ∀ a : Fin 10, ∀ c : Fin 10, nI a.val - nI c.val = nI (a.val + 9 - c.val) - 9 := by decide +kernel
  exact h ⟨a, ha⟩ ⟨c, hc⟩
theorem cr_same {a b c d : Nat} (ha : a < 10) (hb : b < 10) (hc : c < 10) (hd : d < 10) : crM (nI a - nI c) (nI b - nI d) = crP (nI a - nI c) (nI b - nI d) := by
  rw [sub9 ha hc, sub9 hb hd]
  exact cr_dec ⟨a + 9 - c, by omega⟩ ⟨b + 9 - d, by omega⟩
def crs (fa : Nat → Nat → Int32) (r q : Nat) : Int32 := crP (fa r 0 - fa q 0) (fa r 1 - fa q 1)
theorem crs_01 (fa : Nat → Nat → Int32) (r q : Nat) : crs fa r q = 0 ∨ crs fa r q = 1 := by unfold crs crP; split; exact Or.inl rfl; exact Or.inr rfl
theorem meets_k {nr : Nat} {fa : Nat → Nat → Int32} {rk : Nat → Nat} {σ : Sg} (hc : CV nr fa rk σ) {r q : Nat} (hr : r < nr) (hq : q < nr) : f_Ro_meets σ (9 + r) (9 + q) = crs fa r q := by
  unfold f_Ro_meets crs crP
  rw [(hc.2.2 r hr).1 0 (by omega), (hc.2.2 r hr).1 1 (by omega), (hc.2.2 q hq).1 0 (by omega), (hc.2.2 q hq).1 1 (by omega)]
theorem above_k {nr : Nat} {fa : Nat → Nat → Int32} {rk : Nat → Nat} {σ : Sg} (hm : MV' nr fa rk σ) {r q k : Nat} (hr : r < nr) (hq : q < nr) (hk : k < 2) : f_Md_above σ (nI r) (nI q) (nI k) = some (fa r k - fa q k) := by
  have h8 := hm.1
  have e : ∀ z, 6 * nI z + nI k = nI (6 * z + k) := fun z => by rw [show (6 : Int32) = nI 6 from rfl, pk_mul, nI_add]
  unfold f_Md_above
  rw [e r, e q, gd_of (vin_nI (by omega) (by decide)), gd_of (vin_nI (by omega) (by decide)), nI_clamp (show 6 * r + k < 2 ^ 31 by omega), nI_clamp (show 6 * q + k < 2 ^ 31 by omega), hm.2.2.1 r k hr (by omega), hm.2.2.1 q k hq (by omega)]
theorem doCross_k {nr : Nat} {fa : Nat → Nat → Int32} {rk : Nat → Nat} {σ : Sg} (hm : MV' nr fa rk σ) (hin : ∀ r k, r < nr → k < 6 → ∃ j : Nat, j < hiN k ∧ fa r k = nI j) {r q : Nat} (hr : r < nr) (hq : q < nr) : f_Md_doCross σ (nI r) (nI q) = some (crs fa r q) := by
  unfold f_Md_doCross
  have e0 := above_k hm hr hq (show 0 < 2 by decide)
  have e1 := above_k hm hr hq (show 1 < 2 by decide)
  rw [show (0 : Int32) = nI 0 from rfl, show (1 : Int32) = nI 1 from rfl, e0, e1]
  simp only [Option.bind_some]
  obtain ⟨a, ha, ea⟩ := hin r 0 hr (by omega)
  obtain ⟨b, hb, eb⟩ := hin r 1 hr (by omega)
  obtain ⟨c, hc, ec⟩ := hin q 0 hq (by omega)
  obtain ⟨d, hd, ed⟩ := hin q 1 hq (by omega)
  unfold crs
  rw [ea, eb, ec, ed, ← cr_same (show a < 10 from ha) (show b < 10 from hb) (show c < 10 from hc) (show d < 10 from hd)]
  generalize nI a - nI c = x
  generalize nI b - nI d = y
  unfold f_Md_doCross_26 crM
  rw [show nI 0 = (0 : Int32) from rfl]
  by_cases c1 : x ≤ 0
  · rw [if_pos c1, if_pos c1]
    by_cases c2 : 0 ≤ x
    · rw [if_pos c2, if_pos c2]
    · rw [if_neg c2, if_neg c2]
      by_cases c3 : y ≤ 0
      · rw [if_pos c3, if_pos c3]
      · rw [if_neg c3, if_neg c3]
  · rw [if_neg c1, if_neg c1]
    by_cases c2 : y < 0
    · rw [if_pos c2, if_pos c2]; rfl
    · rw [if_neg c2, if_neg c2]
      by_cases c3 : 0 ≤ x
      · rw [if_pos c3, if_pos c3]
      · rw [if_neg c3, if_neg c3]
        by_cases c4 : y ≤ 0
        · rw [if_pos c4, if_pos c4]
        · rw [if_neg c4, if_neg c4]
/-- how many of the first m a rope crosses -/
def cnC (f : Nat → Int32) : Nat → Nat
  | 0 => 0
  | m + 1 => cnC f m + if f m = 0 then 0 else 1
theorem cnC_le (f : Nat → Int32) : ∀ m, cnC f m ≤ m
  | 0 => Nat.le_refl 0
  | m + 1 => by have := cnC_le f m; unfold cnC; split <;> omega
theorem metBy_g {nr : Nat} {σ : Sg} (h5 : σ.1 5 3 = nI nr) (h8 : nr ≤ 8) {c : Nat} {f : Nat → Int32} (hf : ∀ q, q < nr → f_Ro_meets σ c (9 + q) = f q) : ∀ (d fuel q : Nat), q + d = nr → d < fuel → f_Rs_metBy_4 fuel σ c (nI (cnC f q)) (nI q) = some (nI (cnC f nr)) := by
  intro d
  induction d with
  | zero =>
    intro fuel q hq hfu
    obtain ⟨m, rfl⟩ : ∃ m, fuel = m + 1 := ⟨fuel - 1, by omega⟩
    have : q = nr := by omega
    subst this
    rw [f_Rs_metBy_4_s, h5, if_pos (nI_le (Nat.le_refl _) (by omega))]
  | succ d ih =>
    intro fuel q hq hfu
    obtain ⟨m, rfl⟩ : ∃ m, fuel = m + 1 := ⟨fuel - 1, by omega⟩
    rw [f_Rs_metBy_4_s, h5, if_neg (nI_ge (by omega) (by omega)), rs_at (by omega), hf q (by omega)]
    unfold f_Rs_metBy_27
    have := ih m (q + 1) (by omega) (by omega)
    by_cases c0 : f q = 0
    · rw [if_pos c0, nI_1]
      rw [show cnC f (q + 1) = cnC f q by simp [cnC, c0]] at this
      exact this
    · rw [if_neg c0, nI_1, nI_1]
      rw [show cnC f (q + 1) = cnC f q + 1 by simp [cnC, c0]] at this
      exact this
theorem metBy_k {nr : Nat} {σ : Sg} (h5 : σ.1 5 3 = nI nr) (h8 : nr ≤ 8) {c : Nat} {f : Nat → Int32} (hf : ∀ q, q < nr → f_Ro_meets σ c (9 + q) = f q) : f_Rs_metBy σ c = some (nI (cnC f nr)) := metBy_g h5 h8 hf nr FU 0 (by omega) (by unfold FU; omega)
theorem crWith_g {nr a : Nat} {σ : Sg} {f : Nat → Int32} (h6 : σ.1 66 8 = nI nr) (h8 : nr ≤ 8) (ha : a ≤ 8) (hf : ∀ q, q < nr → q ≠ a → f_Md_doCross σ (nI a) (nI q) = some (f q)) (hfa : a < nr → f a = 0) : ∀ (d fuel q : Nat), q + d = nr → d < fuel → f_Md_crossesWith_4 fuel σ (nI a) (nI (cnC f q)) (nI q) = some (nI (cnC f nr)) := by
  intro d
  induction d with
  | zero =>
    intro fuel q hq hfu
    obtain ⟨m, rfl⟩ : ∃ m, fuel = m + 1 := ⟨fuel - 1, by omega⟩
    have : q = nr := by omega
    subst this
    rw [f_Md_crossesWith_4_s, h6, if_pos (nI_le (Nat.le_refl _) (by omega))]
  | succ d ih =>
    intro fuel q hq hfu
    obtain ⟨m, rfl⟩ : ∃ m, fuel = m + 1 := ⟨fuel - 1, by omega⟩
    have := ih m (q + 1) (by omega) (by omega)
    have z : ∀ x : Nat, nI x + 0 = nI x := fun x => by rw [show (0 : Int32) = nI 0 from rfl, nI_add, Nat.add_zero]
    rw [f_Md_crossesWith_4_s, h6, if_neg (nI_ge (by omega) (by omega))]
    by_cases cq : q = a
    · subst cq
      rw [if_pos rfl]
      unfold f_Md_crossesWith_31 f_Md_crossesWith_32
      rw [z, nI_1]
      rw [show cnC f (q + 1) = cnC f q by simp [cnC, hfa (by omega)]] at this
      exact this
    · rw [if_neg (fun h => cq ((nI_eq (by omega) (by omega)).mp h)), hf q (by omega) cq]
      simp only [Option.bind_some]
      unfold f_Md_crossesWith_31 f_Md_crossesWith_32
      by_cases c0 : f q = 0
      · rw [if_pos c0, z, nI_1]
        rw [show cnC f (q + 1) = cnC f q by simp [cnC, c0]] at this
        exact this
      · rw [if_neg c0, nI_1, nI_1]
        rw [show cnC f (q + 1) = cnC f q + 1 by simp [cnC, c0]] at this
        exact this
theorem crs_self (fa : Nat → Nat → Int32) (r : Nat) : crs fa r r = 0 := by unfold crs crP; simp
theorem crWith_k {nr : Nat} {fa : Nat → Nat → Int32} {rk : Nat → Nat} {σ : Sg} (hm : MV' nr fa rk σ) (hin : ∀ r k, r < nr → k < 6 → ∃ j : Nat, j < hiN k ∧ fa r k = nI j) {r : Nat} (hr : r < nr) : f_Md_crossesWith σ (nI r) = some (nI (cnC (crs fa r) nr)) :=
  crWith_g hm.2.1 hm.1 (by have := hm.1; omega) (fun q hq _ => doCross_k hm hin hr hq) (fun _ => crs_self fa r) nr FU 0 (by omega) (by have := hm.1; unfold FU; omega)
theorem hasTwo_k {nr : Nat} {fa : Nat → Nat → Int32} {rk : Nat → Nat} {σ : Sg} (hc : CV nr fa rk σ) (x y : Int32) : f_Rs_hasTwo σ x y = if isR nr x = true ∧ isR nr y = true ∧ x ≠ y then 1 else 0 := by
  unfold f_Rs_hasTwo
  rw [rs_has hc.2.1 hc.1, rs_has hc.2.1 hc.1, if_ite10, if_ite10]
  by_cases c1 : isR nr x = true
  · by_cases c2 : isR nr y = true
    · by_cases c3 : x = y
      · rw [if_pos c1, if_pos c2, if_pos c3, if_neg (fun h => h.2.2 c3)]
      · rw [if_pos c1, if_pos c2, if_neg c3, if_pos ⟨c1, c2, c3⟩]
    · rw [if_pos c1, if_neg c2, if_neg (fun h => c2 h.2.1)]
  · rw [if_neg c1, if_neg (fun h => c1 h.1)]
theorem areTwo_k {nr : Nat} {fa : Nat → Nat → Int32} {rk : Nat → Nat} {σ σ' : Sg} {v : Int32} (hf : f_Md_find σ = some (v, σ')) (hm : MV' nr fa rk σ') (x y : Int32) : f_Md_areTwo σ x y = some (if isR nr x = true ∧ isR nr y = true ∧ x ≠ y then 1 else 0, σ') := by
  unfold f_Md_areTwo
  rw [md_hasRope hf hm, bd_s, if_ite10, md_isRope hm.2.1 hm.1, if_ite10]
  by_cases c1 : isR nr x = true
  · by_cases c2 : isR nr y = true
    · by_cases c3 : x = y
      · rw [if_pos c1, if_pos c2, if_pos c3, if_neg (fun h => h.2.2 c3)]
      · rw [if_pos c1, if_pos c2, if_neg c3, if_pos ⟨c1, c2, c3⟩]
    · rw [if_pos c1, if_neg c2, if_neg (fun h => c2 h.2.1)]
  · rw [if_neg c1, if_neg (fun h => c1 h.1)]
set_option maxHeartbeats 1000000 in
theorem e_crosses : E_crosses Rel := by
  intro σ a1 a2 a3 hR
  obtain ⟨nr, fa, rk, fv, σ', e1, e2, e3, hc, hm, hin, -⟩ := hR.find
  unfold f_GR_crosses f_Md_crosses
  rw [areTwo_k e1 hm, bd_s, hasTwo_k hc]
  by_cases c : isR nr a1 = true ∧ isR nr a2 = true ∧ a1 ≠ a2
  · rw [if_pos c, if_neg (show ¬ (1 : Int32) = 0 by decide), if_neg (show ¬ (1 : Int32) = 0 by decide)]
    obtain ⟨r, hr, rfl⟩ := isR_nI c.1 hc.1
    obtain ⟨q, hq, rfl⟩ := isR_nI c.2.1 hc.1
    have h8 := hc.1
    rcases arg_in a3 2 (by decide) with h | ⟨k, hk, rfl⟩
    · obtain ⟨q1, q2⟩ := two_no h
      exact ⟨-2, σ', by rw [if_pos q1], by rw [if_pos q2], hR.of e3⟩
    · obtain ⟨q1, q2⟩ := two_yes hk
      rw [if_neg (show ¬ f_GR_isBelow (nI k) 2 = 0 by rw [q1]; decide), if_neg (show ¬ f_Md_isTwo (nI k) = 0 by rw [q2]; decide), rs_at (show r < 8 by omega), rs_at (show q < 8 by omega), meets_k hc hr hq, doCross_k hm hin hr hq, crWith_k hm hin hr, metBy_k hc.2.1 hc.1 (fun z hz => meets_k hc hr hz)]
      rcases (show k = 0 ∨ k = 1 by omega) with rfl | rfl
      · rw [if_neg (show ¬ nI 0 = 1 by decide), if_neg (show ¬ nI 0 = 1 by decide)]
        simp only [Option.bind_some]
        by_cases c0 : crs fa r q = 0
        · rw [if_pos c0, if_pos c0]; exact ⟨_, σ', rfl, rfl, hR.of e3⟩
        · rw [if_neg c0, if_neg c0]; exact ⟨_, σ', rfl, rfl, hR.of e3⟩
      · rw [if_pos (show nI 1 = 1 from rfl), if_pos (show nI 1 = 1 from rfl)]
        exact ⟨_, σ', rfl, rfl, hR.of e3⟩
  · rw [if_neg c]
    exact ⟨-2, σ', rfl, rfl, hR.of e3⟩
