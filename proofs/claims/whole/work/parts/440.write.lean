/-! write -/
section
variable {nr nt : Nat} {fa T : Nat → Nat → Int32} {rk : Nat → Nat}
theorem cw_loop {s m : Nat} {fm : Int32} (hs : s < 4) (hm : m ≤ 20) : ∀ (d f i : Nat) (σ : Sg), σ.1 (58 + 2 * s) 1 = fm → i + d = m → d < f → ∃ σ', f_GR_write_75 f σ (58 + 2 * s) (nI m) (nI i) = some (nI m, σ') ∧ (∀ j, i ≤ j → j < m → σ'.1 (59 + 2 * s) j = f_Md_cutTo fm (σ.1 42 j)) ∧ ∀ a b, ¬ (a = 59 + 2 * s ∧ i ≤ b ∧ b < m) → σ'.1 a b = σ.1 a b := by
  intro d
  induction d with
  | zero =>
    intro f i σ h1 hi hf
    obtain ⟨z, rfl⟩ : ∃ z, f = z + 1 := ⟨f - 1, by omega⟩
    exact ⟨σ, by rw [f_GR_write_75_s, if_pos (nI_le (by omega) (by omega))], fun j q1 q2 => by omega, fun _ _ _ => rfl⟩
  | succ d ih =>
    intro f i σ h1 hi hf
    obtain ⟨z, rfl⟩ : ∃ z, f = z + 1 := ⟨f - 1, by omega⟩
    obtain ⟨σ', e1, e2, e3⟩ := ih z (i + 1) (pI σ (59 + 2 * s) i (f_Md_cutTo fm (σ.1 42 i))) (by rw [pI_ne (by omega)]; exact h1) (by omega) (by omega)
    refine ⟨σ', ?_, fun j q1 q2 => ?_, fun a b q => by rw [e3 a b (by omega), pI_ne (by omega)]⟩
    · rw [f_GR_write_75_s, if_neg (nI_ge (by omega) (by omega)), st_at (by omega)]
      unfold f_Sh_put f_Sh_fitted
      rw [if_neg (n10 (below_yes (n := 60) (show i < 60 by omega) (by decide) (by decide))), nI_clamp (show i < 2 ^ 31 by omega), h1, Option.bind_some, nI_1, show 58 + 2 * s + 1 = 59 + 2 * s by omega]
      exact e1
    · by_cases c : j = i
      · subst c
        rw [e3 _ _ (by omega), pI_eq]
      · rw [e2 j (by omega) q2, pI_ne (by omega)]
theorem mw_loop {s m : Nat} {fm : Int32} {X : Nat → Int32} (hs : s < 4) (hm : m ≤ nt) : ∀ (d f i : Nat) (σ : Sg), MV' nr fa rk σ → TM nt T σ → (∀ t, t < nt → (cntT nr T t → σ.1 77 t = X t) ∧ (¬ cntT nr T t → X t = -1)) → σ.1 67 s = fm → i + d = m → d < f → ∃ σ', f_Md_write_58 f σ (nI s) (nI m) (nI i) = some (nI m, σ') ∧ (∀ j, i ≤ j → j < m → σ'.1 69 (60 * s + j) = f_Md_cutTo fm (X j)) ∧ ∀ a b, ¬ (a = 69 ∧ 60 * s + i ≤ b ∧ b < 60 * s + m) → σ'.1 a b = σ.1 a b := by
  intro d
  induction d with
  | zero =>
    intro f i σ h1 hM hX h2 hi hf
    have h20 := hM.1
    obtain ⟨z, rfl⟩ : ∃ z, f = z + 1 := ⟨f - 1, by omega⟩
    exact ⟨σ, by rw [f_Md_write_58_s, if_pos (nI_le (by omega) (by omega))], fun j q1 q2 => by omega, fun _ _ _ => rfl⟩
  | succ d ih =>
    intro f i σ h1 hM hX h2 hi hf
    have h20 := hM.1
    obtain ⟨z, rfl⟩ : ∃ z, f = z + 1 := ⟨f - 1, by omega⟩
    have f1 : ∀ a b, a ≠ 69 → (pI σ 69 (60 * s + i) (f_Md_cutTo fm (X i))).1 a b = σ.1 a b := fun a b q => pI_ne (by omega)
    obtain ⟨σ', e1, e2, e3⟩ := ih z (i + 1) (pI σ 69 (60 * s + i) (f_Md_cutTo fm (X i))) (h1.of (f1 _ _ (by omega)) (fun k => f1 _ _ (by omega)) (fun k => f1 _ _ (by omega))) ⟨hM.1, (f1 _ _ (by omega)).trans hM.2.1, fun t k ht hk => (f1 _ _ (by omega)).trans (hM.2.2 t k ht hk)⟩ (fun t ht => by rw [f1 _ _ (by omega)]; exact hX t ht) (by rw [f1 _ _ (by omega)]; exact h2) (by omega) (by omega)
    have ez : 60 * nI s + nI i = nI (60 * s + i) := by rw [show (60 : Int32) = nI 60 from rfl, pk_mul, nI_add]
    refine ⟨σ', ?_, fun j q1 q2 => ?_, fun a b q => by rw [e3 a b (by omega), pI_ne (by omega)]⟩
    · rw [f_Md_write_58_s, if_neg (nI_ge (by omega) (by omega)), gd_of (vin_nI hs (by decide)), counts_k h1 hM (by omega), Option.bind_some, gd_of (vin_nI (show i < 20 by omega) (by decide)), nI_clamp (show s < 2 ^ 31 by omega), nI_clamp (show i < 2 ^ 31 by omega), h2]
      unfold f_Md_write_97
      rw [ez, gd_of (vin_nI (by omega) (by decide)), gd_of (vin_nI (by omega) (by decide)), nI_clamp (show 60 * s + i < 2 ^ 31 by omega), nI_1]
      by_cases c : isR nr (T i 0) = true
      · rw [if_pos c, if_neg (show ¬ (1 : Int32) = 0 by decide), (hX i (by omega)).1 c]
        exact e1
      · rw [if_neg c, if_pos rfl, ← (hX i (by omega)).2 c]
        exact e1
    · by_cases c : j = i
      · subst c
        rw [e3 _ _ (by omega), pI_eq]
      · rw [e2 j (by omega) q2]
set_option maxHeartbeats 1000000 in
theorem e_write : E_write Rel := by
  intro σ a hR
  obtain ⟨nr, fa, rk, nt, T, g, lf, lim, np, W, K, v0, v1, hst, hd⟩ := hR.dat
  obtain ⟨-, -, -, -, hS, -⟩ := id hR
  unfold f_GR_write f_Md_write
  rcases arg_in a 4 (by decide) with h | ⟨s, hs, rfl⟩
  · exact ⟨-2, σ, σ, by rw [if_pos (sheet_no h).1], by rw [if_pos (sheet_no h).2], hR⟩
  rw [if_neg (n10 (sheet_yes hs).1), ss_at hs]
  have cs : (nI s).toNatClampNeg = s := nI_clamp (by omega)
  rcases (hS s hs).cases with ⟨q1, q2, q3⟩ | ⟨q1, q2, q3, q4, q5, n, hn, q6, q7, q8⟩
  · rw [q1, if_neg (show ¬ (1 : Int32) = 0 by decide)]
    refine ⟨-10 - 1, pI σ 54 2 1, pI (pI σ 54 2 1) 66 4 1, rfl, ?_, hR.lat 1⟩
    rw [if_neg (n10 (sheet_yes hs).2), gd_of (vin_nI hs (by decide)), cs, pI_ne (by omega), if_neg q2]
    rfl
  rw [q1, if_pos rfl]
  have hg : σ.1 17 0 = nI g := hd.2.2.2.2.1.1
  have h20 := hd.2.1.1
  obtain ⟨-, σ1, -, a1, -, -, -, a5, -, -⟩ := putoff_k hst hd hd
  have e18 : σ1.1 18 2 = nI nt := by rw [a5 _ _ (by omega)]; exact hd.2.1.2.1
  have e582 : σ1.1 (58 + 2 * s) 2 = nI n := by rw [a5 _ _ (by omega)]; exact q6
  obtain ⟨m, em, hmn, hmt⟩ : ∃ m, (m = n ∨ m = nt) ∧ m ≤ n ∧ m ≤ nt := by
    by_cases c : n ≤ nt
    · exact ⟨n, Or.inl rfl, by omega, c⟩
    · exact ⟨nt, Or.inr rfl, by omega, by omega⟩
  have emin : f_JM_min (nI n) (nI nt) = nI m := by
    unfold f_JM_min
    by_cases c : nt < n
    · rw [if_pos (nI_lt c (by omega)), show m = nt by omega]
    · rw [if_neg (nI_nlt (by omega) (by omega)), show m = n by omega]
  obtain ⟨σ2, b1, b2, b3⟩ := cw_loop (s := s) (m := m) (fm := σ.1 67 s) hs (by omega) m FU 0 σ1 (by rw [a5 _ _ (by omega)]; exact q4) (by omega) (by unfold FU; omega)
  have b1' : f_GR_write_75 FU σ1 (58 + 2 * s) (nI m) 0 = some (nI m, σ2) := b1
  have kw2 : Kw σ σ2 := fun i k g1 g2 g3 => by
    rw [b3 i k (by unfold gS at g3; omega), a5 i k (by unfold scC at g1; omega)]
  have hd2 := hd.ofW kw2
  obtain ⟨B, σ1', σ3, c1, c2, c3, c4, c5, c6, c7⟩ := putoff_k hst hd hd2
  have e1 : σ1' = σ1 := Option.some.inj (c1.symm.trans a1)
  subst e1
  have hd3 := hd2.of c6
  have k3 : ∀ i k, gS i k → σ3.1 i k = σ2.1 i k := fun i k q => c6 i k (by unfold gS at q; unfold scC; omega) (by unfold gS at q; unfold scM; omega)
  have s2 : ∀ i k, i ≠ 59 + 2 * s → i ≠ 42 → σ2.1 i k = σ.1 i k := fun i k r1 r2 => by rw [b3 i k (by omega), a5 i k (by omega)]
  have z67 : σ3.1 67 s = σ.1 67 s := by rw [k3 _ _ (by unfold gS; omega), s2 _ _ (by omega) (by omega)]
  have z68 : σ3.1 68 s = nI n := by rw [k3 _ _ (by unfold gS; omega), s2 _ _ (by omega) (by omega)]; exact q7
  obtain ⟨σ4, d1, d2, d3⟩ := mw_loop (s := s) (m := m) (fm := σ.1 67 s) (X := fun t => σ1'.1 42 t) hs hmt m FU 0 σ3 c7 hd3.2.2.1 (fun t ht => ⟨fun c => by rw [c4 t ht c, (c3 t ht).1 c], fun c => (c3 t ht).2 c⟩) z67 (by omega) (by unfold FU; omega)
  have d1' : f_Md_write_58 FU σ3 (nI s) (nI m) 0 = some (nI m, σ4) := d1
  refine ⟨nI m, σ2, σ4, ?_, ?_, ?_⟩
  · rw [hg, a1, Option.bind_some, e582, e18, emin]
    exact b1'
  · rw [if_neg (n10 (sheet_yes hs).2), gd_of (vin_nI hs (by decide)), cs, s2 _ _ (by omega) (by omega), if_pos q2, c2, Option.bind_some, gd_of (vin_nI hs (by decide)), hd3.2.2.1.2.1, z68]
    unfold f_Md_write_55
    by_cases c : nt ≤ n
    · rw [if_pos (nI_le c (by omega)), show nt = m by omega]
      exact d1'
    · rw [if_neg (nI_ge (by omega) (by omega)), gd_of (vin_nI hs (by decide)), show n = m by omega]
      exact d1'
  · have kw4 : Kw σ σ4 := fun i k g1 g2 g3 => by
      rw [d3 i k (by unfold gS at g3; omega), c6 i k g1 g2]
      exact kw2 i k g1 g2 g3
    refine hR.ofW kw4 (fun t ht => ?_)
    by_cases q : t = s
    · subst q
      have x1 : ∀ k, σ4.1 (58 + 2 * t) k = σ.1 (58 + 2 * t) k := fun k => by rw [d3 _ _ (by omega), k3 _ _ (by unfold gS; omega), s2 _ _ (by omega) (by omega)]
      have x67 : σ4.1 67 t = σ.1 67 t := by rw [d3 _ _ (by omega)]; exact z67
      refine ⟨by rw [x1, x67]; exact q4.symm, Or.inr ⟨by rw [x67]; exact q5, n, hn, by rw [x1]; exact q6, by rw [d3 _ _ (by omega)]; exact z68, fun i hi => ?_⟩⟩
      have x59 : σ4.1 (59 + 2 * t) i = σ2.1 (59 + 2 * t) i := by rw [d3 _ _ (by omega), k3 _ _ (by unfold gS; omega)]
      by_cases c : i < m
      · rw [d2 i (by omega) c, x59, b2 i (by omega) c]
      · rw [d3 _ _ (by omega), k3 _ _ (by unfold gS; omega), s2 _ _ (by omega) (by omega), x59, b3 _ _ (by omega), c5 _ _ (by omega)]
        exact q8 i hi
    · have x : ∀ i k, gS i k → i ≠ 59 + 2 * s → ¬ (i = 69 ∧ 60 * s ≤ k ∧ k < 60 * s + 60) → σ4.1 i k = σ.1 i k := fun i k r1 r2 r3 => by rw [d3 i k (by omega), k3 i k r1, s2 i k r2 (by unfold gS at r1; omega)]
      exact (hS t ht).of ht (x _ _ (by unfold gS; omega) (by omega) (by omega)) (fun z => x _ _ (by unfold gS; omega) (by omega) (by omega)) (x _ _ (by unfold gS; omega) (by omega) (by omega)) (fun z hz => x _ _ (by unfold gS; omega) (by omega) (by omega)) (fun z hz => x _ _ (by unfold gS; omega) (by omega) (by omega))
end
