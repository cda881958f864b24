/-! the model finds the right of way -/
def MR (n : Nat) (b : Nat → Int32) (σ : Sg) : Prop := n ≤ 10 ∧ σ.1 72 1 = nI n ∧ ∀ i, i < n → σ.1 71 (60 + i) = b i
theorem MR.of {n : Nat} {b : Nat → Int32} {σ σ' : Sg} (h : MR n b σ) (e1 : σ'.1 72 1 = σ.1 72 1) (e2 : ∀ i, σ'.1 71 i = σ.1 71 i) : MR n b σ' := ⟨h.1, e1.trans h.2.1, fun i hi => (e2 _).trans (h.2.2 i hi)⟩
theorem md_isRope {nr : Nat} {σ : Sg} (h : σ.1 66 8 = nI nr) (hn : nr ≤ 8) (x : Int32) : f_Md_isRope σ x = if isR nr x = true then 1 else 0 := by
  unfold f_Md_isRope isR
  rw [h, md_in, zb10, Int32.toInt_toInt64, Int32.toInt_toInt64]
  have e : (nI nr - 1).toInt = (nr : Int) - 1 := pk_sub_toInt (a := nr) (b := 1) (by omega) (by omega)
  have z : (0 : Int64).toInt = 0 := by decide
  rw [e, z]
  by_cases c : 0 ≤ x.toInt ∧ x.toInt < nr
  · rw [if_pos (show 0 ≤ x.toInt ∧ x.toInt ≤ (nr : Int) - 1 by omega), if_pos (decide_eq_true c)]
  · rw [if_neg (show ¬ (0 ≤ x.toInt ∧ x.toInt ≤ (nr : Int) - 1) by omega), if_neg (by simp [c])]
theorem isR_fig {nr : Nat} (hn : nr ≤ 8) (x : Int32) : (isR nr (x - 48) = isR nr (fig x)) ∧ (isR nr (x - 48) = true → fig x = x - 48) := by
  by_cases c : 0 ≤ (x - 48).toInt ∧ (x - 48).toInt < 10
  · rw [fig_of c]; exact ⟨rfl, fun _ => rfl⟩
  · have h1 : isR nr (x - 48) = false := by unfold isR; exact decide_eq_false (by omega)
    have h2 : fig x = -1 := by
      unfold fig
      rw [gr_below, show (10 : Int32).toInt = 10 by decide, if_neg c, if_pos rfl]
    refine ⟨?_, fun h => by rw [h1] at h; cases h⟩
    rw [h1, h2]
    unfold isR
    rw [show (-1 : Int32).toInt = -1 by decide]
    exact (decide_eq_false (by omega)).symm
/-- after k places: who was told, and where -/
def RI (b : Nat → Int32) (k : Nat) (σ : Sg) : Prop := ∀ r, r < 8 → (seen b k (nI r) = false → σ.1 74 r = -1) ∧ ∀ q, q < k → fig (b q) = nI r → σ.1 74 r = nI q
set_option maxHeartbeats 1000000 in
theorem right23 {nr n : Nat} {b : Nat → Int32} (hn : nr ≤ 8) : ∀ (d fuel k : Nat) (σ : Sg), k + d = n → d < fuel → MR n b σ → σ.1 66 8 = nI nr → RI b k σ → (∀ q, q < k → badR nr b q = false) →
    ∃ σ', f_Md_readsRight_23 fuel σ (nI k) = some (f1 nr n b, σ') ∧ (∀ i j, i ≠ 74 → σ'.1 i j = σ.1 i j) ∧ (f1 nr n b = -1 → RI b n σ') := by
  intro d
  induction d with
  | zero =>
    intro fuel k σ hk hf hT h8 hI hb
    obtain ⟨m, rfl⟩ : ∃ m, fuel = m + 1 := ⟨fuel - 1, by omega⟩
    have hkn : k = n := by omega
    subst hkn
    refine ⟨σ, ?_, fun _ _ _ => rfl, fun _ => hI⟩
    have h10 := hT.1
    rw [f_Md_readsRight_23_s, hT.2.1, if_pos (nI_le (Nat.le_refl _) (by omega)), (f1_none (by omega)).mpr hb]
  | succ d ih =>
    intro fuel k σ hk hf hT h8 hI hb
    obtain ⟨m, rfl⟩ : ∃ m, fuel = m + 1 := ⟨fuel - 1, by omega⟩
    have h10 := hT.1
    have h60 : (60 : Int32) + nI k = nI (60 + k) := nI_add 60 k
    rw [f_Md_readsRight_23_s, hT.2.1, if_neg (nI_ge (by omega) (by omega)), h60, gd_of (vin_nI (by omega) (by decide)), nI_clamp (by omega), hT.2.2 k (by omega), md_isRope h8 hn, if_ite10]
    obtain ⟨hfig1, hfig2⟩ := isR_fig hn (b k)
    by_cases c1 : isR nr (b k - 48) = true
    · rw [if_pos c1]
      have hfig := hfig2 c1
      obtain ⟨r, hr1, hr2⟩ := isR_nI c1 hn
      have hfr : fig (b k) = nI r := hfig.trans hr2
      rw [hr2, gd_of (vin_nI (by omega) (by decide)), nI_clamp (by omega)]
      by_cases c2 : seen b k (nI r) = true
      · obtain ⟨q, q1, q2⟩ := seen_ex c2
        have hbad : badR nr b k = true := by unfold badR; rw [hfr]; simp [c2]
        rw [(hI r (by omega)).2 q q1 q2, if_neg (nI_m1 (by omega))]
        refine ⟨σ, ?_, fun _ _ _ => rfl, fun h => ?_⟩
        · unfold f1
          rw [fbG_first hb hbad (n := n) (by omega), if_pos (by omega)]
        · have := (f1_none (by omega)).mp h k (by omega)
          rw [hbad] at this
          cases this
      · have c2f : seen b k (nI r) = false := by simpa using c2
        have hgood : badR nr b k = false := by unfold badR; rw [← hfig1, c1, hfr, c2f]; rfl
        rw [(hI r (by omega)).1 c2f, if_pos rfl, gd_of (vin_nI (by omega) (by decide)), nI_1]
        obtain ⟨σ', e1, e2, e3⟩ := ih m (k + 1) (pI σ 74 r (nI k)) (by omega) (by omega) (hT.of (pI_ne (by omega)) (fun i => pI_ne (by omega))) (by rw [pI_ne (by omega)]; exact h8) (fun r' hr' => by
          refine ⟨fun h => ?_, fun q q1 q2 => ?_⟩
          · rw [seen_s, hfr, dec_nI (by omega) (by omega)] at h
            simp only [Bool.or_eq_false_iff, decide_eq_false_iff_not] at h
            rw [pI_ne (fun g => h.2 g.2)]
            exact (hI r' hr').1 h.1
          · by_cases hq : q = k
            · subst hq
              have : r' = r := (nI_eq (by omega) (by omega)).mp (q2.symm.trans hfr)
              subst this
              exact pI_eq
            · have hne : r' ≠ r := fun h => by
                subst h
                have := seen_of (b := b) (p := k) (q := q) (by omega)
                rw [q2, c2f] at this
                cases this
              rw [pI_ne (fun g => hne g.2)]
              exact (hI r' hr').2 q (by omega) q2) (fun q hq => by
          by_cases e : q = k
          · subst e; exact hgood
          · exact hb q (by omega))
        exact ⟨σ', e1, fun i j h => by rw [e2 i j h, pI_ne (fun g => h g.1)], e3⟩
    · rw [if_neg c1]
      have hbad : badR nr b k = true := by
        unfold badR
        rw [← hfig1]
        simp [c1]
      refine ⟨σ, ?_, fun _ _ _ => rfl, fun h => ?_⟩
      · unfold f1
        rw [fbG_first hb hbad (n := n) (by omega), if_pos (by omega)]
      · have := (f1_none (by omega)).mp h k (by omega)
        rw [hbad] at this
        cases this
theorem right2 : ∀ (d fuel k : Nat) (σ : Sg), k + d = 8 → d < fuel → (∀ r, r < k → σ.1 74 r = -1) → ∃ σ', f_Md_readsRight_2 fuel σ (nI k) = f_Md_readsRight_23 FU σ' 0 ∧ (∀ i j, i ≠ 74 → σ'.1 i j = σ.1 i j) ∧ ∀ r, r < 8 → σ'.1 74 r = -1 := by
  intro d
  induction d with
  | zero =>
    intro fuel k σ hk hf hI
    obtain ⟨m, rfl⟩ : ∃ m, fuel = m + 1 := ⟨fuel - 1, by omega⟩
    have : k = 8 := by omega
    subst this
    exact ⟨σ, by rw [f_Md_readsRight_2_s, if_pos (show (8 : Int32) ≤ nI 8 by decide)], fun _ _ _ => rfl, hI⟩
  | succ d ih =>
    intro fuel k σ hk hf hI
    obtain ⟨m, rfl⟩ : ∃ m, fuel = m + 1 := ⟨fuel - 1, by omega⟩
    obtain ⟨σ', e1, e2, e3⟩ := ih m (k + 1) (pI σ 74 k (-1)) (by omega) (by omega) (fun r hr => by
      by_cases e : r = k
      · subst e; exact pI_eq
      · rw [pI_ne (fun g => e g.2)]; exact hI r (by omega))
    refine ⟨σ', ?_, fun i j h => by rw [e2 i j h, pI_ne (fun g => h g.1)], e3⟩
    rw [f_Md_readsRight_2_s, if_neg (show ¬ (8 : Int32) ≤ nI k from nI_ge (b := 8) (by omega) (by omega)), gd_of (vin_nI (by omega) (by decide)), nI_clamp (by omega), nI_1]
    exact e1
theorem reads_right {nr n : Nat} {b : Nat → Int32} {σ : Sg} (hn : nr ≤ 8) (hT : MR n b σ) (h8 : σ.1 66 8 = nI nr) : ∃ σ', f_Md_readsRight σ = some (f1 nr n b, σ') ∧ (∀ i j, i ≠ 74 → σ'.1 i j = σ.1 i j) ∧ (f1 nr n b = -1 → RI b n σ') := by
  have h10 := hT.1
  unfold f_Md_readsRight
  obtain ⟨σ1, e1, e2, e3⟩ := right2 8 FU 0 σ (by omega) (by unfold FU; omega) (fun r hr => by omega)
  rw [show (0 : Int32) = nI 0 from rfl, e1]
  obtain ⟨σ2, g1, g2, g3⟩ := right23 (n := n) (b := b) hn n FU 0 σ1 (by omega) (by unfold FU; omega) (hT.of (e2 _ _ (by omega)) (fun i => e2 _ _ (by omega))) (by rw [e2 _ _ (by omega)]; exact h8) (fun r hr => ⟨fun _ => e3 r hr, fun q hq => by omega⟩) (fun q hq => by omega)
  exact ⟨σ2, g1, fun i j h => by rw [g2 i j h, e2 i j h], g3⟩
/-- the ranks of all eight, as the model has them -/
def rkM (n : Nat) (b : Nat → Int32) (r : Nat) : Nat := if seen b n (nI r) = true then posO b n r else n + cU (fun i => seen b n (nI i)) r
set_option maxHeartbeats 1000000 in
theorem find28 {n : Nat} {b : Nat → Int32} (hn : n ≤ 10) : ∀ (d fuel r : Nat) (σ : Sg), r + d = 8 → d < fuel → (∀ q, q < r → σ.1 74 q = nI (rkM n b q)) → (∀ q, r ≤ q → q < 8 → σ.1 74 q = if seen b n (nI q) = true then nI (posO b n q) else -1) →
    ∃ σ', f_Md_find_28 fuel σ (-1) (nI (n + cU (fun i => seen b n (nI i)) r)) (nI r) = some (-1, σ') ∧ (∀ i j, i ≠ 74 → σ'.1 i j = σ.1 i j) ∧ ∀ q, q < 8 → σ'.1 74 q = nI (rkM n b q) := by
  intro d
  induction d with
  | zero =>
    intro fuel r σ hr hf h1 h2
    obtain ⟨m, rfl⟩ : ∃ m, fuel = m + 1 := ⟨fuel - 1, by omega⟩
    have : r = 8 := by omega
    subst this
    exact ⟨σ, by rw [f_Md_find_28_s, if_pos (show (8 : Int32) ≤ nI 8 by decide)], fun _ _ _ => rfl, h1⟩
  | succ d ih =>
    intro fuel r σ hr hf h1 h2
    obtain ⟨m, rfl⟩ : ∃ m, fuel = m + 1 := ⟨fuel - 1, by omega⟩
    rw [f_Md_find_28_s, if_neg (show ¬ (8 : Int32) ≤ nI r from nI_ge (b := 8) (by omega) (by omega)), if_pos rfl, gd_of (vin_nI (by omega) (by decide)), nI_clamp (by omega), h2 r (Nat.le_refl r) (by omega)]
    by_cases s : seen b n (nI r) = true
    · have hp := (posO_spec s).1
      rw [if_pos s, if_neg (nI_m1 (by omega))]
      unfold f_Md_find_69
      have e : cU (fun i => seen b n (nI i)) (r + 1) = cU (fun i => seen b n (nI i)) r := by simp [cU, s]
      rw [nI_1, ← e]
      exact ih m (r + 1) σ (by omega) (by omega) (fun q hq => by
        by_cases hqr : q = r
        · subst hqr
          rw [h2 q (Nat.le_refl q) (by omega), if_pos s]
          unfold rkM
          rw [if_pos s]
        · exact h1 q (by omega)) (fun q q1 q2 => h2 q (by omega) q2)
    · rw [if_neg s, if_pos rfl, gd_of (vin_nI (by omega) (by decide))]
      unfold f_Md_find_69
      have e : cU (fun i => seen b n (nI i)) (r + 1) = cU (fun i => seen b n (nI i)) r + 1 := by simp [cU, s]
      rw [nI_1, nI_1, Nat.add_assoc, ← e]
      obtain ⟨σ', e1, e2, e3⟩ := ih m (r + 1) (pI σ 74 r (nI (n + cU (fun i => seen b n (nI i)) r))) (by omega) (by omega) (fun q hq => by
        by_cases hqr : q = r
        · subst hqr
          rw [pI_eq]
          unfold rkM
          rw [if_neg s]
        · rw [pI_ne (fun g => hqr g.2)]; exact h1 q (by omega)) (fun q q1 q2 => by rw [pI_ne (by omega)]; exact h2 q (by omega) q2)
      exact ⟨σ', e1, fun i j h => by rw [e2 i j h, pI_ne (fun g => h g.1)], e3⟩
theorem find28F {f : Int32} (hf1 : ¬ f = -1) : ∀ (d fuel r : Nat) (σ : Sg) (z : Int32), r + d = 8 → d < fuel → (∀ q, q < r → σ.1 74 q = nI q) →
    ∃ σ', f_Md_find_28 fuel σ f z (nI r) = some (f, σ') ∧ (∀ i j, i ≠ 74 → σ'.1 i j = σ.1 i j) ∧ ∀ q, q < 8 → σ'.1 74 q = nI q := by
  intro d
  induction d with
  | zero =>
    intro fuel r σ z hr hf h1
    obtain ⟨m, rfl⟩ : ∃ m, fuel = m + 1 := ⟨fuel - 1, by omega⟩
    have : r = 8 := by omega
    subst this
    exact ⟨σ, by rw [f_Md_find_28_s, if_pos (show (8 : Int32) ≤ nI 8 by decide)], fun _ _ _ => rfl, h1⟩
  | succ d ih =>
    intro fuel r σ z hr hf h1
    obtain ⟨m, rfl⟩ : ∃ m, fuel = m + 1 := ⟨fuel - 1, by omega⟩
    rw [f_Md_find_28_s, if_neg (show ¬ (8 : Int32) ≤ nI r from nI_ge (b := 8) (by omega) (by omega)), if_neg hf1, gd_of (vin_nI (by omega) (by decide)), nI_clamp (by omega)]
    unfold f_Md_find_69
    rw [nI_1]
    obtain ⟨σ', e1, e2, e3⟩ := ih m (r + 1) (pI σ 74 r (nI r)) z (by omega) (by omega) (fun q hq => by
      by_cases hqr : q = r
      · subst hqr; exact pI_eq
      · rw [pI_ne (fun g => hqr g.2)]; exact h1 q (by omega))
    exact ⟨σ', e1, fun i j h => by rw [e2 i j h, pI_ne (fun g => h g.1)], e3⟩
/-- the model, once it has found -/
def MV' (nr : Nat) (fa : Nat → Nat → Int32) (rk : Nat → Nat) (σ : Sg) : Prop := nr ≤ 8 ∧ σ.1 66 8 = nI nr ∧ (∀ r k, r < nr → k < 6 → σ.1 73 (6 * r + k) = fa r k) ∧ ∀ r, r < nr → σ.1 74 r = nI (rk r)
set_option maxHeartbeats 1000000 in
theorem md_find {n0 n1 : Nat} {b0 b1 : Nat → Int32} {σ : Sg} (h0 : MT n0 b0 σ) (h1 : MR n1 b1 σ) : ∃ σ', f_Md_find σ = some (f1 (nrO n0 b0) n1 b1, σ') ∧ (∀ i j, ¬ (i = 66 ∧ (j = 7 ∨ j = 8)) → i ≠ 73 → i ≠ 74 → σ'.1 i j = σ.1 i j) ∧ MV' (nrO n0 b0) (faO b0) (rkO (nrO n0 b0) n1 b1) σ' := by
  have h60 := h0.1
  have h10 := h1.1
  have hn8 := nrO_le (b := b0) h60
  obtain ⟨σ1, e1, e2, e3, e4⟩ := reads_ropes h0
  have hT1 : MR n1 b1 σ1 := h1.of (e2 _ _ (by omega) (by omega)) (fun i => e2 _ _ (by omega) (by omega))
  obtain ⟨σ2, g1, g2, g3⟩ := reads_right hn8 hT1 e3
  unfold f_Md_find
  rw [e1, bd_s, g1, bd_s]
  unfold f_Md_find_25
  by_cases c : f1 (nrO n0 b0) n1 b1 = -1
  · rw [if_pos c]
    have hRI := g3 c
    have h72 : σ2.1 72 1 = nI n1 := by rw [g2 _ _ (by omega)]; exact hT1.2.1
    obtain ⟨σ3, k1, k2, k3⟩ := find28 (n := n1) (b := b1) h10 8 FU 0 σ2 (by omega) (by unfold FU; omega) (fun q hq => by omega) (fun q _ hq => by
      by_cases s : seen b1 n1 (nI q) = true
      · obtain ⟨p1, p2⟩ := posO_spec s
        rw [if_pos s]
        exact (hRI q hq).2 _ p1 p2
      · rw [if_neg s]
        exact (hRI q hq).1 (by simpa using s))
    refine ⟨σ3, ?_, fun i j q1 q2 q3 => by rw [k2 i j q3, g2 i j q3, e2 i j q1 q2], hn8, ?_, fun r k hr hk => ?_, fun r hr => ?_⟩
    · rw [c, h72]; exact k1
    · rw [k2 _ _ (by omega), g2 _ _ (by omega)]; exact e3
    · rw [k2 _ _ (by omega), g2 _ _ (by omega)]; exact e4 r k hr hk
    · rw [k3 r (by omega)]
      unfold rkO rkM
      rw [if_pos c]
  · rw [if_neg c]
    obtain ⟨σ3, k1, k2, k3⟩ := find28F c 8 FU 0 σ2 0 (by omega) (by unfold FU; omega) (fun q hq => by omega)
    refine ⟨σ3, k1, fun i j q1 q2 q3 => by rw [k2 i j q3, g2 i j q3, e2 i j q1 q2], hn8, ?_, fun r k hr hk => ?_, fun r hr => ?_⟩
    · rw [k2 _ _ (by omega), g2 _ _ (by omega)]; exact e3
    · rw [k2 _ _ (by omega), g2 _ _ (by omega)]; exact e4 r k hr hk
    · rw [k3 r (by omega)]
      unfold rkO
      rw [if_neg c]
