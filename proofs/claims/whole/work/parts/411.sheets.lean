/-! sheets: sheet, lose, lay, get -/
theorem Rel.sheetG {σ σ' : Sg} (h : Rel σ) (e : ∀ i j, ¬ gS i j → σ'.1 i j = σ.1 i j) (hs : RS σ') : Rel σ' := by
  obtain ⟨⟨n0, b0, n1, b1, hX⟩, h2, ⟨nt, h3⟩, ⟨np, h4⟩, h5, h6⟩ := h
  refine ⟨⟨n0, b0, n1, b1, hX.of (fun i k q => e i k ?_)⟩, h2.of (fun i k q => e i k ?_), ⟨nt, h3.of (fun i k q => e i k ?_)⟩, ⟨np, h4.of (fun i k q => e i k ?_)⟩, hs, h6.of (fun i k q => e i k ?_)⟩
  · unfold gX at q; unfold gS; omega
  · unfold gSet at q; unfold gS; omega
  · unfold gT at q; unfold gS; omega
  · unfold gP at q; unfold gS; omega
  · unfold gL at q; unfold gS; omega
theorem Rel.lat {σ : Sg} (h : Rel σ) (f : Int32) : Rel (pI (pI σ 54 2 f) 66 4 f) := by
  obtain ⟨⟨n0, b0, n1, b1, hX⟩, h2, ⟨nt, h3⟩, ⟨np, h4⟩, h5, h6⟩ := h
  have e : ∀ i j, ¬ gL i j → (pI (pI σ 54 2 f) 66 4 f).1 i j = σ.1 i j := fun i j g => by unfold gL at g; rw [pI_ne (by omega), pI_ne (by omega)]
  refine ⟨⟨n0, b0, n1, b1, hX.of (fun i k q => e i k ?_)⟩, h2.of (fun i k q => e i k ?_), ⟨nt, h3.of (fun i k q => e i k ?_)⟩, ⟨np, h4.of (fun i k q => e i k ?_)⟩, h5.of (fun i k q => e i k ?_), ?_⟩
  · unfold gX at q; unfold gL; omega
  · unfold gSet at q; unfold gL; omega
  · unfold gT at q; unfold gL; omega
  · unfold gP at q; unfold gL; omega
  · unfold gS at q; unfold gL; omega
  · refine ⟨by rw [pI_eq, pI_ne (by omega), pI_eq], ?_, ?_⟩
    · rw [pI_ne (by omega), pI_ne (by omega)]; exact h6.2.1
    · rw [pI_ne (by omega), pI_ne (by omega)]; exact h6.2.2
theorem ss_at {s : Nat} (h : s < 4) : f_Ss_at (nI s) = 58 + 2 * s := by
  unfold f_Ss_at
  rw [below_yes h (by decide) (by decide), if_neg (show ¬ (1 : Int32) = 0 by decide), nI_clamp (by omega)]
theorem sheet_no {x : Int32} (h : ¬ (0 ≤ x.toInt ∧ x.toInt < (4 : Nat))) : f_GR_isBelow x 4 = 0 ∧ f_Md_isSheet x = 0 := ⟨below_no h (by decide), by unfold f_Md_isSheet; rw [in_no h (by decide)]; rfl⟩
theorem sheet_yes {j : Nat} (h : j < 4) : f_GR_isBelow (nI j) 4 = 1 ∧ f_Md_isSheet (nI j) = 1 := ⟨below_yes h (by decide) (by decide), by unfold f_Md_isSheet; rw [in_yes h (by decide) (by decide)]; rfl⟩
theorem frm_no {x : Int32} (h : ¬ (0 ≤ x.toInt ∧ x.toInt < (3 : Nat))) : f_GR_isBelow x 3 = 0 ∧ f_Md_in x.toInt64 0 2 = 0 := ⟨below_no h (by decide), in_no h (by decide)⟩
theorem frm_yes {j : Nat} (h : j < 3) : f_GR_isBelow (nI j) 3 = 1 ∧ f_Md_in (nI j).toInt64 0 2 = 1 := ⟨below_yes h (by decide) (by decide), in_yes h (by decide) (by decide)⟩
theorem renew_loop {c : Nat} : ∀ (d fuel i : Nat) (σ : Sg), i + d = 60 → d < fuel → (∀ j, j < i → σ.1 (c + 1) j = 0) → ∃ σ', f_Sh_renew_21 fuel σ c (nI i) = some σ' ∧ (∀ j, j < 60 → σ'.1 (c + 1) j = 0) ∧ ∀ a j, a ≠ c + 1 → σ'.1 a j = σ.1 a j := by
  intro d
  induction d with
  | zero =>
    intro fuel i σ hi hf h0
    obtain ⟨m, rfl⟩ : ∃ m, fuel = m + 1 := ⟨fuel - 1, by omega⟩
    have : i = 60 := by omega
    subst this
    exact ⟨σ, by rw [f_Sh_renew_21_s, if_pos (show (60 : Int32) ≤ nI 60 by decide)], h0, fun _ _ _ => rfl⟩
  | succ d ih =>
    intro fuel i σ hi hf h0
    obtain ⟨m, rfl⟩ : ∃ m, fuel = m + 1 := ⟨fuel - 1, by omega⟩
    obtain ⟨σ', e1, e2, e3⟩ := ih m (i + 1) (pI σ (c + 1) i 0) (by omega) (by omega) (fun j hj => by
      by_cases q : j = i
      · subst q; exact pI_eq
      · rw [pI_ne (fun g => q g.2)]; exact h0 j (by omega))
    refine ⟨σ', ?_, e2, fun a j g => by rw [e3 a j g, pI_ne (fun q => g q.1)]⟩
    rw [f_Sh_renew_21_s, if_neg (show ¬ (60 : Int32) ≤ nI i from nI_ge (b := 60) (by omega) (by omega)), gd_of (vin_nI (by omega) (by decide)), nI_clamp (by omega), nI_1]
    exact e1
theorem renew_k {σ : Sg} {c m : Nat} {fm : Int32} (hm : m ≤ 60) : ∃ σ', f_Sh_renew σ c fm (nI m) = some σ' ∧ σ'.1 c 1 = fm ∧ σ'.1 c 2 = nI m ∧ (∀ j, j < 60 → σ'.1 (c + 1) j = 0) ∧ ∀ a j, ¬ (a = c ∧ (j = 1 ∨ j = 2)) → a ≠ c + 1 → σ'.1 a j = σ.1 a j := by
  unfold f_Sh_renew
  have e : f_JM_max 0 (f_JM_min (nI m) 60) = nI m := by
    have h1 : f_JM_min (nI m) 60 = nI m := by
      unfold f_JM_min
      rw [if_neg (show ¬ (60 : Int32) < nI m from nI_nlt (a := 60) hm (by omega))]
    have := mx0_eq (nI m)
    unfold mx0 at this
    rw [h1, this, if_pos (nI_pos' (by omega))]
  rw [e]
  obtain ⟨σ', e1, e2, e3⟩ := renew_loop (c := c) 60 FU 0 (pI (pI σ c 1 fm) c 2 (nI m)) (by omega) (by unfold FU; omega) (fun j hj => by omega)
  refine ⟨σ', e1, by rw [e3 _ _ (by omega), pI_ne (by omega), pI_eq], by rw [e3 _ _ (by omega), pI_eq], e2, fun a j g1 g2 => by rw [e3 a j g2, pI_ne (by omega), pI_ne (by omega)]⟩
theorem mzero_loop {s m : Nat} (hs : s < 4) (hm : m ≤ 60) : ∀ (d fuel i : Nat) (σ : Sg), i + d = m → d < fuel → (∀ j, j < i → σ.1 69 (60 * s + j) = 0) → ∃ σ', f_Md_sheet_55 fuel σ (nI s) (nI m) (nI i) = some (nI m, σ') ∧ (∀ j, j < m → σ'.1 69 (60 * s + j) = 0) ∧ ∀ a j, ¬ (a = 69 ∧ 60 * s ≤ j ∧ j < 60 * s + 60) → σ'.1 a j = σ.1 a j := by
  intro d
  induction d with
  | zero =>
    intro fuel i σ hi hf h0
    obtain ⟨z, rfl⟩ : ∃ z, fuel = z + 1 := ⟨fuel - 1, by omega⟩
    have : i = m := by omega
    subst this
    exact ⟨σ, by rw [f_Md_sheet_55_s, if_pos (nI_le (Nat.le_refl _) (by omega))], h0, fun _ _ _ => rfl⟩
  | succ d ih =>
    intro fuel i σ hi hf h0
    obtain ⟨z, rfl⟩ : ∃ z, fuel = z + 1 := ⟨fuel - 1, by omega⟩
    have e : 60 * nI s + nI i = nI (60 * s + i) := by rw [show (60 : Int32) = nI 60 from rfl, pk_mul, nI_add]
    obtain ⟨σ', e1, e2, e3⟩ := ih z (i + 1) (pI σ 69 (60 * s + i) 0) (by omega) (by omega) (fun j hj => by
      by_cases q : j = i
      · subst q; exact pI_eq
      · rw [pI_ne (by omega)]; exact h0 j (by omega))
    refine ⟨σ', ?_, e2, fun a j g => by rw [e3 a j g, pI_ne (by omega)]⟩
    rw [f_Md_sheet_55_s, if_neg (nI_ge (by omega) (by omega)), e, gd_of (vin_nI (by omega) (by decide)), nI_clamp (by omega), nI_1]
    exact e1
theorem form_in {k : Nat} (h : k < 3) : nI k = 0 ∨ nI k = 1 ∨ nI k = 2 := by
  rcases (show k = 0 ∨ k = 1 ∨ k = 2 by omega) with rfl | rfl | rfl
  · exact Or.inl rfl
  · exact Or.inr (Or.inl rfl)
  · exact Or.inr (Or.inr rfl)
theorem e_sheet : E_sheet Rel := by
  intro σ a1 a2 a3 hR
  obtain ⟨-, -, -, -, hS, -⟩ := id hR
  unfold f_GR_sheet f_Md_sheet
  rcases arg_in a1 4 (by decide) with h | ⟨s, hs, rfl⟩
  · exact ⟨-2, σ, σ, by rw [if_pos (sheet_no h).1], by rw [if_pos (sheet_no h).2], hR⟩
  rw [if_neg (n10 (sheet_yes hs).1)]
  rcases arg_in a2 3 (by decide) with h | ⟨k, hk, rfl⟩
  · exact ⟨-2, σ, σ, by rw [if_pos (frm_no h).1], by rw [if_neg (n10 (sheet_yes hs).2), if_pos (frm_no h).2], hR⟩
  rw [if_neg (n10 (frm_yes hk).1)]
  by_cases c1 : a3 ≤ 60
  · rw [if_pos c1]
    by_cases c2 : 0 ≤ a3
    · rw [if_pos c2, ss_at hs]
      have h1 := Int32.le_iff_toInt_le.mp c1
      have h2 := Int32.le_iff_toInt_le.mp c2
      have z60 : (60 : Int32).toInt = 60 := by decide
      have z0 : (0 : Int32).toInt = 0 := by decide
      obtain ⟨m, hm, rfl⟩ : ∃ m : Nat, m ≤ 60 ∧ a3 = nI m := ⟨a3.toInt.toNat, by omega, of_toInt (by omega) (by omega)⟩
      obtain ⟨σ1, e1, e2, e3, e4, e5⟩ := renew_k (σ := σ) (c := 58 + 2 * s) (fm := nI k) hm
      rw [e1]
      simp only [Option.bind_some]
      obtain ⟨σ2, g1, g2, g3⟩ := mzero_loop hs hm m FU 0 (pI (pI σ1 67 s (nI k)) 68 s (nI m)) (by omega) (by unfold FU; omega) (fun j hj => by omega)
      refine ⟨nI m, σ1, σ2, rfl, ?_, ?_⟩
      · rw [if_neg (n10 (sheet_yes hs).2), if_neg (n10 (frm_yes hk).2), if_pos c1, if_pos c2, gd_of (vin_nI hs (by decide)), gd_of (vin_nI hs (by decide)), nI_clamp (show s < 2 ^ 31 by omega)]
        exact g1
      · have fr : ∀ i j, ¬ (i = 69 ∧ 60 * s ≤ j ∧ j < 60 * s + 60) → ¬ (i = 67 ∧ j = s) → ¬ (i = 68 ∧ j = s) → ¬ (i = 58 + 2 * s ∧ (j = 1 ∨ j = 2)) → i ≠ 59 + 2 * s → σ2.1 i j = σ.1 i j := fun i j q1 q2 q3 q4 q5 => by
          rw [g3 i j q1, pI_ne q3, pI_ne q2, e5 i j q4 (by omega)]
        refine hR.sheetG (fun i j g => by unfold gS at g; exact fr i j (by omega) (by omega) (by omega) (by omega) (by omega)) (fun t ht => ?_)
        by_cases q : t = s
        · subst q
          have f67 : σ2.1 67 t = nI k := by rw [g3 _ _ (by omega), pI_ne (by omega), pI_eq]
          have f68 : σ2.1 68 t = nI m := by rw [g3 _ _ (by omega), pI_eq]
          have fc : ∀ j, σ2.1 (58 + 2 * t) j = σ1.1 (58 + 2 * t) j := fun j => by rw [g3 _ _ (by omega), pI_ne (by omega), pI_ne (by omega)]
          have fi : ∀ j, j < 60 → σ2.1 (59 + 2 * t) j = 0 := fun j hj => by
            rw [g3 _ _ (by omega), pI_ne (by omega), pI_ne (by omega), show 59 + 2 * t = 58 + 2 * t + 1 by omega]; exact e4 j hj
          refine ⟨by rw [f67, fc, e2], Or.inr ⟨by rw [f67]; exact form_in hk, m, hm, by rw [fc, e3], f68, fun j hj => by rw [g2 j hj, fi j (by omega)]⟩⟩
        · exact (hS t ht).of ht (fr _ _ (by omega) (by omega) (by omega) (by omega) (by omega)) (fun j => fr _ _ (by omega) (by omega) (by omega) (by omega) (by omega)) (fr _ _ (by omega) (by omega) (by omega) (by omega) (by omega)) (fun i hi => fr _ _ (by omega) (by omega) (by omega) (by omega) (by omega)) (fun i hi => fr _ _ (by omega) (by omega) (by omega) (by omega) (by omega))
    · rw [if_neg c2]
      refine ⟨-10 - 5, pI σ 54 2 5, pI (pI σ 54 2 5) 66 4 5, rfl, ?_, hR.lat 5⟩
      rw [if_neg (n10 (sheet_yes hs).2), if_neg (n10 (frm_yes hk).2), if_pos c1, if_neg c2]
      rfl
  · rw [if_neg c1]
    exact ⟨-2, σ, σ, rfl, by rw [if_neg (n10 (sheet_yes hs).2), if_neg (n10 (frm_yes hk).2), if_neg c1], hR⟩
/-- a sheet: lost, or of a form -/
theorem RS1.cases {s : Nat} {σ : Sg} (h : RS1 s σ) : (f_Sh_isLost σ (58 + 2 * s) = 1 ∧ ¬ 0 ≤ σ.1 67 s ∧ σ.1 67 s < 0) ∨ (f_Sh_isLost σ (58 + 2 * s) = 0 ∧ 0 ≤ σ.1 67 s ∧ ¬ σ.1 67 s < 0 ∧ σ.1 (58 + 2 * s) 1 = σ.1 67 s ∧ (σ.1 67 s = 0 ∨ σ.1 67 s = 1 ∨ σ.1 67 s = 2) ∧ ∃ n : Nat, n ≤ 60 ∧ σ.1 (58 + 2 * s) 2 = nI n ∧ σ.1 68 s = nI n ∧ ∀ i, i < n → σ.1 69 (60 * s + i) = σ.1 (59 + 2 * s) i) := by
  obtain ⟨h1, h2⟩ := h
  unfold f_Sh_isLost
  rw [← h1]
  rcases h2 with h2 | ⟨h2, h3⟩
  · left
    rw [h2]
    exact ⟨rfl, by decide, by decide⟩
  · right
    refine ⟨?_, ?_, ?_, rfl, h2, h3⟩
    · rcases h2 with h2 | h2 | h2 <;> rw [h2] <;> rfl
    · rcases h2 with h2 | h2 | h2 <;> rw [h2] <;> decide
    · rcases h2 with h2 | h2 | h2 <;> rw [h2] <;> decide
theorem e_lose : E_lose Rel := by
  intro σ a1 hR
  obtain ⟨-, -, -, -, hS, -⟩ := id hR
  unfold f_GR_lose f_Md_lose
  rcases arg_in a1 4 (by decide) with h | ⟨s, hs, rfl⟩
  · exact ⟨-2, σ, σ, by rw [if_pos (sheet_no h).1], by rw [if_pos (sheet_no h).2], hR⟩
  rw [if_neg (n10 (sheet_yes hs).1), ss_at hs]
  have cs : (nI s).toNatClampNeg = s := nI_clamp (by omega)
  rcases (hS s hs).cases with ⟨q1, q2, q3⟩ | ⟨q1, q2, q3, q4, q5, n, hn, q6, q7, q8⟩
  · rw [q1, if_neg (show ¬ (1 : Int32) = 0 by decide)]
    refine ⟨-10 - 1, pI σ 54 2 1, pI (pI σ 54 2 1) 66 4 1, rfl, ?_, hR.lat 1⟩
    rw [if_neg (n10 (sheet_yes hs).2), gd_of (vin_nI hs (by decide)), cs, pI_ne (by omega), if_neg q2]
    rfl
  · rw [q1, if_pos rfl]
    obtain ⟨σ1, e1, e2, e3, e4, e5⟩ := renew_k (σ := σ) (c := 58 + 2 * s) (fm := -1) (m := 0) (by omega)
    have e1' : f_Sh_renew σ (58 + 2 * s) (-1) 0 = some σ1 := e1
    rw [e1']
    simp only [Option.bind_some]
    have f67 : σ1.1 67 s = σ.1 67 s := e5 _ _ (by omega) (by omega)
    have f68 : σ1.1 68 s = nI n := by rw [e5 _ _ (by omega) (by omega)]; exact q7
    refine ⟨nI n, σ1, pI σ1 67 s (-1), by rw [q6], ?_, ?_⟩
    · rw [if_neg (n10 (sheet_yes hs).2), gd_of (vin_nI hs (by decide)), cs, f67, if_pos q2, gd_of (vin_nI hs (by decide)), gd_of (vin_nI hs (by decide)), pI_ne (by omega), f68]
    · have fr : ∀ i j, ¬ (i = 67 ∧ j = s) → ¬ (i = 58 + 2 * s ∧ (j = 1 ∨ j = 2)) → i ≠ 59 + 2 * s → (pI σ1 67 s (-1)).1 i j = σ.1 i j := fun i j g1 g2 g3 => by rw [pI_ne g1, e5 i j g2 (by omega)]
      refine hR.sheetG (fun i j g => by unfold gS at g; exact fr i j (by omega) (by omega) (by omega)) (fun t ht => ?_)
      by_cases q : t = s
      · subst q
        exact ⟨by rw [pI_eq, pI_ne (by omega), e2], Or.inl pI_eq⟩
      · exact (hS t ht).of ht (fr _ _ (by omega) (by omega) (by omega)) (fun j => fr _ _ (by omega) (by omega) (by omega)) (fr _ _ (by omega) (by omega) (by omega)) (fun i hi => fr _ _ (by omega) (by omega) (by omega)) (fun i hi => fr _ _ (by omega) (by omega) (by omega))
/-- an item is asked for: what is found on both sides, 0 for none -/
theorem lacks_k {σ : Sg} {s : Nat} {f i : Int32} (hs : s < 4) (hS : RS1 s σ) : (∃ q : Int32, (q = 1 ∨ q = 2 ∨ q = 3) ∧ f_Ss_findingAt σ (nI s) f i = q ∧ ∀ σ' : Sg, σ'.1 67 s = σ.1 67 s → σ'.1 68 s = σ.1 68 s → f_Md_lacks σ' (nI s) f i = some (-10 - q, pI σ' 66 4 q)) ∨ (f_Ss_findingAt σ (nI s) f i = 0 ∧ (∀ σ' : Sg, σ'.1 67 s = σ.1 67 s → σ'.1 68 s = σ.1 68 s → f_Md_lacks σ' (nI s) f i = some (0, σ')) ∧ σ.1 67 s = f ∧ σ.1 (58 + 2 * s) 1 = f ∧ (f = 0 ∨ f = 1 ∨ f = 2) ∧ ∃ n j : Nat, n ≤ 60 ∧ j < n ∧ i = nI j ∧ σ.1 (58 + 2 * s) 2 = nI n ∧ σ.1 68 s = nI n ∧ ∀ z, z < n → σ.1 69 (60 * s + z) = σ.1 (59 + 2 * s) z) := by
  have cs : (nI s).toNatClampNeg = s := nI_clamp (by omega)
  unfold f_Ss_findingAt f_Md_lacks
  rw [ss_at hs]
  rcases hS.cases with ⟨q1, q2, q3⟩ | ⟨q1, q2, q3, q4, q5, n, hn, q6, q7, q8⟩
  · left
    refine ⟨1, Or.inl rfl, by rw [q1, if_neg (show ¬ (1 : Int32) = 0 by decide)], fun σ' e1 e2 => ?_⟩
    rw [gd_of (vin_nI hs (by decide)), cs, e1, if_neg q2]
    rfl
  · by_cases cf : σ.1 67 s = f
    · rcases arg_in i n (by omega) with h | ⟨j, hj, rfl⟩
      · left
        refine ⟨2, Or.inr (Or.inl rfl), ?_, fun σ' e1 e2 => ?_⟩
        · rw [q1, if_pos rfl, q4, if_pos cf, q6, below_no h (nI_toInt (by omega)), if_pos rfl]
        · rw [gd_of (vin_nI hs (by decide)), cs, e1, if_pos q2, gd_of (vin_nI hs (by decide)), if_pos cf, gd_of (vin_nI hs (by decide)), e2, q7, in_no h (by
            rw [Int32.toInt_toInt64, show (nI n - 1).toInt = (n : Int) - 1 from pk_sub_toInt (a := n) (b := 1) (by omega) (by omega)]; omega), if_pos rfl]
          rfl
      · right
        refine ⟨?_, fun σ' e1 e2 => ?_, cf, by rw [q4]; exact cf, by rw [← cf]; exact q5, n, j, hn, hj, rfl, q6, q7, q8⟩
        · rw [q1, if_pos rfl, q4, if_pos cf, q6, below_yes hj (nI_toInt (by omega)) (by omega), if_neg (show ¬ (1 : Int32) = 0 by decide)]
        · rw [gd_of (vin_nI hs (by decide)), cs, e1, if_pos q2, gd_of (vin_nI hs (by decide)), if_pos cf, gd_of (vin_nI hs (by decide)), e2, q7, in_yes hj (by
            rw [Int32.toInt_toInt64, show (nI n - 1).toInt = (n : Int) - 1 from pk_sub_toInt (a := n) (b := 1) (by omega) (by omega)]; omega) (by omega), if_neg (show ¬ (1 : Int32) = 0 by decide)]
    · left
      refine ⟨3, Or.inr (Or.inr rfl), ?_, fun σ' e1 e2 => ?_⟩
      · rw [q1, if_pos rfl, q4, if_neg cf]
      · rw [gd_of (vin_nI hs (by decide)), cs, e1, if_pos q2, gd_of (vin_nI hs (by decide)), if_neg cf]
        rfl
theorem q_ne {q : Int32} (h : q = 1 ∨ q = 2 ∨ q = 3) : ¬ q = 0 ∧ ¬ -10 - q = 0 := by
  rcases h with rfl | rfl | rfl <;> exact ⟨by decide, by decide⟩
theorem e_lay : E_lay Rel := by
  intro σ a1 a2 a3 a4 hR
  obtain ⟨-, -, -, -, hS, -⟩ := id hR
  unfold f_GR_lay f_Md_lay
  rcases arg_in a1 4 (by decide) with h | ⟨s, hs, rfl⟩
  · exact ⟨-2, σ, σ, by rw [if_pos (sheet_no h).1], by rw [if_pos (sheet_no h).2], hR⟩
  rw [if_neg (n10 (sheet_yes hs).1)]
  rcases arg_in a2 3 (by decide) with h | ⟨k, hk, rfl⟩
  · exact ⟨-2, σ, σ, by rw [if_pos (frm_no h).1], by rw [if_neg (n10 (sheet_yes hs).2), if_pos (frm_no h).2], hR⟩
  rw [if_neg (n10 (frm_yes hk).1)]
  rcases lacks_k (f := nI k) (i := a3) hs (hS s hs) with ⟨q, hq, e1, e2⟩ | ⟨e1, e2, e3, e4, e5, n, j, hn, hj, rfl, e6, e7, e8⟩
  · rw [e1, if_neg (q_ne hq).1]
    refine ⟨-10 - q, pI σ 54 2 q, pI (pI σ 54 2 q) 66 4 q, rfl, ?_, hR.lat q⟩
    rw [if_neg (n10 (sheet_yes hs).2), if_neg (n10 (frm_yes hk).2), e2 _ (pI_ne (by omega)) (pI_ne (by omega)), bd_s, if_neg (q_ne hq).2]
  · rw [e1, if_pos rfl, ss_at hs]
    unfold f_Sh_put f_Sh_fitted
    rw [if_neg (n10 (below_yes (n := 60) (show j < 60 by omega) (by decide) (by decide))), nI_clamp (show j < 2 ^ 31 by omega), e4]
    simp only [Option.bind_some]
    generalize hv : (if nI k = 0 then a4.toInt8.toInt32 else if nI k = 1 then a4.toInt16.toInt32 else a4) = v
    have hv2 : f_Md_cutTo (nI k) a4 = v := hv
    have ez : 60 * nI s + nI j = nI (60 * s + j) := by rw [show (60 : Int32) = nI 60 from rfl, pk_mul, nI_add]
    refine ⟨1, pI σ (58 + 2 * s + 1) j v, pI (pI σ (58 + 2 * s + 1) j v) 69 (60 * s + j) v, rfl, ?_, ?_⟩
    · rw [if_neg (n10 (sheet_yes hs).2), if_neg (n10 (frm_yes hk).2), e2 _ (pI_ne (by omega)) (pI_ne (by omega)), bd_s, if_pos rfl, ez, gd_of (vin_nI (by omega) (by decide)), nI_clamp (show 60 * s + j < 2 ^ 31 by omega), hv2]
    · refine hR.sheetG (fun i z g => by unfold gS at g; rw [pI_ne (by omega), pI_ne (by omega)]) (fun t ht => ?_)
      by_cases q : t = s
      · subst q
        refine ⟨by rw [pI_ne (by omega), pI_ne (by omega), pI_ne (by omega), pI_ne (by omega), e3, e4], Or.inr ⟨by rw [pI_ne (by omega), pI_ne (by omega), e3]; exact e5, n, hn, by rw [pI_ne (by omega), pI_ne (by omega), e6], by rw [pI_ne (by omega), pI_ne (by omega), e7], fun z hz => ?_⟩⟩
        by_cases qz : z = j
        · subst qz
          rw [pI_eq, pI_ne (by omega), show 59 + 2 * t = 58 + 2 * t + 1 by omega, pI_eq]
        · rw [pI_ne (by omega), pI_ne (by omega), pI_ne (by omega), pI_ne (by omega)]
          exact e8 z hz
      · exact (hS t ht).of ht (by rw [pI_ne (by omega), pI_ne (by omega)]) (fun z => by rw [pI_ne (by omega), pI_ne (by omega)]) (by rw [pI_ne (by omega), pI_ne (by omega)]) (fun z hz => by rw [pI_ne (by omega), pI_ne (by omega)]) (fun z hz => by rw [pI_ne (by omega), pI_ne (by omega)])
theorem e_get : E_get Rel := by
  intro σ a1 a2 a3 hR
  obtain ⟨-, -, -, -, hS, -⟩ := id hR
  unfold f_GR_get f_Md_get
  rcases arg_in a1 4 (by decide) with h | ⟨s, hs, rfl⟩
  · exact ⟨_, σ, σ, by rw [if_pos (sheet_no h).1], by rw [if_pos (sheet_no h).2], hR⟩
  rw [if_neg (n10 (sheet_yes hs).1)]
  rcases arg_in a2 3 (by decide) with h | ⟨k, hk, rfl⟩
  · exact ⟨_, σ, σ, by rw [if_pos (frm_no h).1], by rw [if_neg (n10 (sheet_yes hs).2), if_pos (frm_no h).2], hR⟩
  rw [if_neg (n10 (frm_yes hk).1)]
  rcases lacks_k (f := nI k) (i := a3) hs (hS s hs) with ⟨q, hq, e1, e2⟩ | ⟨e1, e2, e3, e4, e5, n, j, hn, hj, rfl, e6, e7, e8⟩
  · rw [e1, if_neg (q_ne hq).1]
    refine ⟨-2147483648, pI σ 54 2 q, pI (pI σ 54 2 q) 66 4 q, rfl, ?_, hR.lat q⟩
    rw [if_neg (n10 (sheet_yes hs).2), if_neg (n10 (frm_yes hk).2), e2 _ (pI_ne (by omega)) (pI_ne (by omega)), bd_s, if_neg (q_ne hq).2]
  · rw [e1, if_pos rfl, ss_at hs]
    have ez : 60 * nI s + nI j = nI (60 * s + j) := by rw [show (60 : Int32) = nI 60 from rfl, pk_mul, nI_add]
    refine ⟨σ.1 (59 + 2 * s) j, σ, σ, ?_, ?_, hR⟩
    · unfold f_Sh_item
      rw [if_neg (n10 (below_yes (n := 60) (show j < 60 by omega) (by decide) (by decide))), nI_clamp (show j < 2 ^ 31 by omega), show 58 + 2 * s + 1 = 59 + 2 * s by omega]
    · rw [if_neg (n10 (sheet_yes hs).2), if_neg (n10 (frm_yes hk).2), e2 σ rfl rfl, bd_s, if_pos rfl, ez, gd_of (vin_nI (by omega) (by decide)), nI_clamp (show 60 * s + j < 2 ^ 31 by omega), e8 j hj]
