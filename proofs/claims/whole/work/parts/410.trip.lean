/-! trip, undo, part, gone -/
theorem ts_at {t : Nat} (h : t < 20) : f_Ts_at (nI t) = 21 + t := by
  unfold f_Ts_at
  rw [below_yes h (by decide) (by decide), if_neg (show ¬ (1 : Int32) = 0 by decide), nI_clamp (by omega)]
def okG (a b c d : Int32) : Prop := (0 ≤ a.toInt ∧ a.toInt < (8 : Nat)) ∧ (0 ≤ b.toInt ∧ b.toInt < (2 : Nat)) ∧ (0 ≤ c.toInt ∧ c.toInt < (200 : Nat)) ∧ (0 ≤ d.toInt ∧ d.toInt < (10 : Nat))
theorem in_nI {x : Int32} {n : Nat} (hn : n < 2 ^ 31) (h : 0 ≤ x.toInt ∧ x.toInt < n) : ∃ j : Nat, j < n ∧ x = nI j := ⟨x.toInt.toNat, by omega, of_toInt (by omega) (by omega)⟩
theorem mayGo_yes {a b c d : Int32} (h : okG a b c d) : f_GR_mayGo a b c d = 1 := by
  obtain ⟨h1, h2, h3, h4⟩ := h
  obtain ⟨i, hi, rfl⟩ := in_nI (by decide) h1
  obtain ⟨j, hj, rfl⟩ := in_nI (by decide) h2
  obtain ⟨k, hk, rfl⟩ := in_nI (by decide) h3
  obtain ⟨l, hl, rfl⟩ := in_nI (by decide) h4
  unfold f_GR_mayGo
  rw [if_neg (n10 (below_yes hi (by decide) (by decide))), if_neg (n10 (below_yes hj (by decide) (by decide))), if_neg (n10 (below_yes hk (by decide) (by decide))), if_neg (n10 (below_yes hl (by decide) (by decide)))]
theorem mayGo_no {a b c d : Int32} (h : ¬ okG a b c d) : f_GR_mayGo a b c d = 0 := by
  unfold f_GR_mayGo
  by_cases c1 : (0 ≤ a.toInt ∧ a.toInt < (8 : Nat))
  · by_cases c2 : (0 ≤ b.toInt ∧ b.toInt < (2 : Nat))
    · by_cases c3 : (0 ≤ c.toInt ∧ c.toInt < (200 : Nat))
      · have c4 : ¬ (0 ≤ d.toInt ∧ d.toInt < (10 : Nat)) := fun h4 => h ⟨c1, c2, c3, h4⟩
        obtain ⟨i, hi, rfl⟩ := in_nI (by decide) c1
        obtain ⟨j, hj, rfl⟩ := in_nI (by decide) c2
        obtain ⟨k, hk, rfl⟩ := in_nI (by decide) c3
        rw [if_neg (n10 (below_yes hi (by decide) (by decide))), if_neg (n10 (below_yes hj (by decide) (by decide))), if_neg (n10 (below_yes hk (by decide) (by decide))), if_pos (below_no c4 (by decide))]
      · obtain ⟨i, hi, rfl⟩ := in_nI (by decide) c1
        obtain ⟨j, hj, rfl⟩ := in_nI (by decide) c2
        rw [if_neg (n10 (below_yes hi (by decide) (by decide))), if_neg (n10 (below_yes hj (by decide) (by decide))), if_pos (below_no c3 (by decide))]
    · obtain ⟨i, hi, rfl⟩ := in_nI (by decide) c1
      rw [if_neg (n10 (below_yes hi (by decide) (by decide))), if_pos (below_no c2 (by decide))]
  · rw [if_pos (below_no c1 (by decide))]
theorem cls_append {σ : Sg} {nt : Nat} (h : σ.1 18 2 = nI nt) (hn : nt < 20) (a b c d e : Int32) : ∃ σ', f_Ts_append σ a b c d e = some σ' ∧ σ'.1 18 2 = nI (nt + 1) ∧ (σ'.1 (21 + nt) 0 = a ∧ σ'.1 (21 + nt) 1 = b ∧ σ'.1 (21 + nt) 2 = c ∧ σ'.1 (21 + nt) 3 = d ∧ σ'.1 (21 + nt) 4 = e) ∧ (∀ i j, ¬ (i = 18 ∧ j = 2) → i ≠ 21 + nt → σ'.1 i j = σ.1 i j) := by
  unfold f_Ts_append f_Ts_isFull
  rw [h, if_pos (show nI nt < 20 from nI_lt (b := 20) hn (by omega)), if_pos rfl, ts_at hn]
  have e18 : (pI (pI (pI (pI (pI σ (21 + nt) 0 a) (21 + nt) 1 b) (21 + nt) 2 c) (21 + nt) 3 d) (21 + nt) 4 e).1 18 2 = nI nt := by
    rw [pI_ne (by omega), pI_ne (by omega), pI_ne (by omega), pI_ne (by omega), pI_ne (by omega)]; exact h
  rw [e18, nI_1]
  refine ⟨_, rfl, pI_eq, ⟨?_, ?_, ?_, ?_, ?_⟩, fun i j g1 g2 => ?_⟩
  · rw [pI_ne (by omega), pI_ne (by omega), pI_ne (by omega), pI_ne (by omega), pI_ne (by omega), pI_eq]
  · rw [pI_ne (by omega), pI_ne (by omega), pI_ne (by omega), pI_ne (by omega), pI_eq]
  · rw [pI_ne (by omega), pI_ne (by omega), pI_ne (by omega), pI_eq]
  · rw [pI_ne (by omega), pI_ne (by omega), pI_eq]
  · rw [pI_ne (by omega), pI_eq]
  · rw [pI_ne (by omega), pI_ne (by omega), pI_ne (by omega), pI_ne (by omega), pI_ne (by omega), pI_ne (by omega)]
theorem p76 (σ : Sg) (k : Nat) (v : Int32) : (pI σ 76 k v).1 66 14 = σ.1 66 14 := rfl
set_option maxHeartbeats 2000000 in
theorem md_trip_full {σ : Sg} (h : σ.1 66 14 = nI 20) {a b c d e : Int32} (hg : okG a b c d) (he : 0 ≤ e.toInt ∧ e.toInt < (5 : Nat)) : f_Md_trip σ a b c d e = some (-4, σ) := by
  obtain ⟨h1, h2, h3, h4⟩ := hg
  obtain ⟨i, hi, rfl⟩ := in_nI (by decide) h1
  obtain ⟨j, hj, rfl⟩ := in_nI (by decide) h2
  obtain ⟨k, hk, rfl⟩ := in_nI (by decide) h3
  obtain ⟨l, hl, rfl⟩ := in_nI (by decide) h4
  obtain ⟨o, ho, rfl⟩ := in_nI (by decide) he
  unfold f_Md_trip
  rw [if_neg (n10 (in_yes hi (by decide) (by decide))), if_neg (n10 (two_yes hj).2), if_neg (n10 (in_yes hk (by decide) (by decide))), if_neg (n10 (fig_yes hl).2), if_neg (n10 (own_yes ho).2), h, if_pos (show nI 20 = 20 from rfl)]
set_option maxHeartbeats 2000000 in
theorem md_trip_ok {σ : Sg} {nt : Nat} (h : σ.1 66 14 = nI nt) (hn : nt < 20) {a b c d e : Int32} (hg : okG a b c d) (he : 0 ≤ e.toInt ∧ e.toInt < (5 : Nat)) : ∃ σ', f_Md_trip σ a b c d e = some (nI nt, σ') ∧ σ'.1 66 14 = nI (nt + 1) ∧ (σ'.1 76 (5 * nt) = a ∧ σ'.1 76 (5 * nt + 1) = b ∧ σ'.1 76 (5 * nt + 2) = c ∧ σ'.1 76 (5 * nt + 3) = d ∧ σ'.1 76 (5 * nt + 4) = e) ∧ (∀ i j, ¬ (i = 66 ∧ j = 14) → ¬ (i = 76 ∧ 5 * nt ≤ j ∧ j < 5 * nt + 5) → σ'.1 i j = σ.1 i j) := by
  obtain ⟨h1, h2, h3, h4⟩ := hg
  obtain ⟨i, hi, rfl⟩ := in_nI (by decide) h1
  obtain ⟨j, hj, rfl⟩ := in_nI (by decide) h2
  obtain ⟨k, hk, rfl⟩ := in_nI (by decide) h3
  obtain ⟨l, hl, rfl⟩ := in_nI (by decide) h4
  obtain ⟨o, ho, rfl⟩ := in_nI (by decide) he
  unfold f_Md_trip
  have e0 : (5 : Int32) * nI nt = nI (5 * nt) := by rw [show (5 : Int32) = nI 5 from rfl, pk_mul]
  have ek : ∀ z : Nat, nI (5 * nt) + nI z = nI (5 * nt + z) := fun z => nI_add _ _
  have e1 : nI (5 * nt) + 1 = nI (5 * nt + 1) := ek 1
  have e2 : nI (5 * nt) + 2 = nI (5 * nt + 2) := ek 2
  have e3 : nI (5 * nt) + 3 = nI (5 * nt + 3) := ek 3
  have e4 : nI (5 * nt) + 4 = nI (5 * nt + 4) := ek 4
  have c0 : (nI (5 * nt)).toNatClampNeg = 5 * nt := nI_clamp (by omega)
  have c1 : (nI (5 * nt + 1)).toNatClampNeg = 5 * nt + 1 := nI_clamp (by omega)
  have c2 : (nI (5 * nt + 2)).toNatClampNeg = 5 * nt + 2 := nI_clamp (by omega)
  have c3 : (nI (5 * nt + 3)).toNatClampNeg = 5 * nt + 3 := nI_clamp (by omega)
  have c4 : (nI (5 * nt + 4)).toNatClampNeg = 5 * nt + 4 := nI_clamp (by omega)
  have v0 : vin (nI (5 * nt)) 100 = true := vin_nI (by omega) (by decide)
  have v1 : vin (nI (5 * nt + 1)) 100 = true := vin_nI (by omega) (by decide)
  have v2 : vin (nI (5 * nt + 2)) 100 = true := vin_nI (by omega) (by decide)
  have v3 : vin (nI (5 * nt + 3)) 100 = true := vin_nI (by omega) (by decide)
  have v4 : vin (nI (5 * nt + 4)) 100 = true := vin_nI (by omega) (by decide)
  rw [if_neg (n10 (in_yes hi (by decide) (by decide))), if_neg (n10 (two_yes hj).2), if_neg (n10 (in_yes hk (by decide) (by decide))), if_neg (n10 (fig_yes hl).2), if_neg (n10 (own_yes ho).2)]
  simp only [p76, h, e0, e1, e2, e3, e4, c0, c1, c2, c3, c4, v0, v1, v2, v3, v4, gd_t, pI_eq, nI_1, nI_pred]
  rw [if_neg (show ¬ nI nt = 20 from fun g => by have := (nI_eq (b := 20) (by omega) (by omega)).mp g; omega)]
  refine ⟨_, rfl, pI_eq, ⟨?_, ?_, ?_, ?_, ?_⟩, fun i j g1 g2 => ?_⟩
  · rw [pI_ne (by omega), pI_ne (by omega), pI_ne (by omega), pI_ne (by omega), pI_ne (by omega), pI_eq]
  · rw [pI_ne (by omega), pI_ne (by omega), pI_ne (by omega), pI_ne (by omega), pI_eq]
  · rw [pI_ne (by omega), pI_ne (by omega), pI_ne (by omega), pI_eq]
  · rw [pI_ne (by omega), pI_ne (by omega), pI_eq]
  · rw [pI_ne (by omega), pI_eq]
  · rw [pI_ne (by omega), pI_ne (by omega), pI_ne (by omega), pI_ne (by omega), pI_ne (by omega), pI_ne (by omega)]
theorem md_trip_no {σ : Sg} {a b c d e : Int32} (h : ¬ (okG a b c d ∧ (0 ≤ e.toInt ∧ e.toInt < (5 : Nat)))) : f_Md_trip σ a b c d e = some (-2, σ) := by
  unfold f_Md_trip
  by_cases c1 : (0 ≤ a.toInt ∧ a.toInt < (8 : Nat))
  · obtain ⟨i, hi, rfl⟩ := in_nI (by decide) c1
    rw [if_neg (n10 (in_yes hi (by decide) (by decide)))]
    by_cases c2 : (0 ≤ b.toInt ∧ b.toInt < (2 : Nat))
    · obtain ⟨j, hj, rfl⟩ := in_nI (by decide) c2
      rw [if_neg (n10 (two_yes hj).2)]
      by_cases c3 : (0 ≤ c.toInt ∧ c.toInt < (200 : Nat))
      · obtain ⟨k, hk, rfl⟩ := in_nI (by decide) c3
        rw [if_neg (n10 (in_yes hk (by decide) (by decide)))]
        by_cases c4 : (0 ≤ d.toInt ∧ d.toInt < (10 : Nat))
        · obtain ⟨l, hl, rfl⟩ := in_nI (by decide) c4
          rw [if_neg (n10 (fig_yes hl).2), if_pos (own_no (fun h5 => h ⟨⟨c1, c2, c3, c4⟩, h5⟩)).2]
        · rw [if_pos (fig_no c4).2]
      · rw [if_pos (in_no c3 (by decide))]
    · rw [if_pos (two_no c2).2]
  · rw [if_pos (in_no c1 (by decide))]
/-- both take a trip more -/
theorem trip_rel {σ σ1 σ2 : Sg} {nt : Nat} (hR : Rel σ) (hT : RT nt σ) (hn : nt < 20) {a b c d e : Int32} (hg : okG a b c d) (he : 0 ≤ e.toInt ∧ e.toInt < (5 : Nat)) (k1 : σ1.1 18 2 = nI (nt + 1)) (k2 : σ1.1 (21 + nt) 0 = a ∧ σ1.1 (21 + nt) 1 = b ∧ σ1.1 (21 + nt) 2 = c ∧ σ1.1 (21 + nt) 3 = d ∧ σ1.1 (21 + nt) 4 = e) (k3 : ∀ i j, ¬ (i = 18 ∧ j = 2) → i ≠ 21 + nt → σ1.1 i j = σ.1 i j)
    (w1 : σ2.1 66 14 = nI (nt + 1)) (w2 : σ2.1 76 (5 * nt) = a ∧ σ2.1 76 (5 * nt + 1) = b ∧ σ2.1 76 (5 * nt + 2) = c ∧ σ2.1 76 (5 * nt + 3) = d ∧ σ2.1 76 (5 * nt + 4) = e) (w3 : ∀ i j, ¬ (i = 66 ∧ j = 14) → ¬ (i = 76 ∧ 5 * nt ≤ j ∧ j < 5 * nt + 5) → σ2.1 i j = σ1.1 i j) : Rel σ2 ∧ RT (nt + 1) σ2 := by
  obtain ⟨t1, t2, t3, t4⟩ := hT
  have hrt : RT (nt + 1) σ2 := by
    refine ⟨by omega, by rw [w3 _ _ (by omega) (by omega)]; exact k1, w1, fun t ht => ?_⟩
    by_cases q : t = nt
    · subst q
      have hrow : ∀ j, σ2.1 (21 + t) j = σ1.1 (21 + t) j := fun j => w3 _ _ (by omega) (by omega)
      obtain ⟨g1, g2, g3, g4⟩ := hg
      refine ⟨⟨?_, ?_, ?_, ?_, ?_⟩, fun k hk => ?_⟩
      · rw [hrow, k2.1]; exact in_nI (by decide) g1
      · rw [hrow, k2.2.1]; exact in_nI (by decide) g2
      · rw [hrow, k2.2.2.1]; exact in_nI (by decide) g3
      · rw [hrow, k2.2.2.2.1]; exact in_nI (by decide) g4
      · rw [hrow, k2.2.2.2.2]; exact in_nI (by decide) he
      · rw [hrow]
        rcases (show k = 0 ∨ k = 1 ∨ k = 2 ∨ k = 3 ∨ k = 4 by omega) with rfl | rfl | rfl | rfl | rfl
        · exact w2.1.trans k2.1.symm
        · exact w2.2.1.trans k2.2.1.symm
        · exact w2.2.2.1.trans k2.2.2.1.symm
        · exact w2.2.2.2.1.trans k2.2.2.2.1.symm
        · exact w2.2.2.2.2.trans k2.2.2.2.2.symm
    · have hrow : σ2.1 (21 + t) = σ.1 (21 + t) := funext fun j => by rw [w3 _ _ (by omega) (by omega), k3 _ _ (by omega) (by omega)]
      rw [hrow]
      refine ⟨(t4 t (by omega)).1, fun k hk => ?_⟩
      rw [w3 _ _ (by omega) (by omega), k3 _ _ (by omega) (by omega)]
      exact (t4 t (by omega)).2 k hk
  exact ⟨hR.tripG (fun i j g => by unfold gT at g; rw [w3 _ _ (by omega) (by omega), k3 _ _ (by omega) (by omega)]) ⟨nt + 1, hrt⟩, hrt⟩
theorem e_trip : E_trip Rel := by
  intro σ a1 a2 a3 a4 a5 hR
  obtain ⟨-, -, ⟨nt, hT⟩, -⟩ := id hR
  unfold f_GR_trip
  by_cases c : okG a1 a2 a3 a4
  · rw [if_neg (n10 (mayGo_yes c))]
    by_cases c5 : 0 ≤ a5.toInt ∧ a5.toInt < (5 : Nat)
    · obtain ⟨o, ho, eo⟩ := in_nI (by decide) c5
      rw [if_neg (n10 (by rw [eo]; exact (own_yes ho).1))]
      unfold f_Ts_isFull
      rw [hT.2.1]
      by_cases cf : nt < 20
      · rw [if_pos (show nI nt < 20 from nI_lt (b := 20) cf (by omega)), if_pos rfl]
        obtain ⟨σ1, k0, k1, k2, k3⟩ := cls_append hT.2.1 cf a1 a2 a3 a4 a5
        obtain ⟨σ2, w0, w1, w2, w3⟩ := md_trip_ok (σ := σ1) (nt := nt) (by rw [k3 _ _ (by omega) (by omega)]; exact hT.2.2.1) cf c c5
        rw [k0]
        refine ⟨nI nt, σ1, σ2, ?_, w0, (trip_rel hR hT cf c c5 k1 k2 k3 w1 w2 w3).1⟩
        simp only [Option.bind_some]
        rw [k1, nI_pred]
      · have : nt = 20 := by have := hT.1; omega
        subst this
        rw [if_neg (show ¬ nI 20 < 20 by decide), if_neg (show ¬ (1 : Int32) = 0 by decide)]
        exact ⟨-4, σ, σ, rfl, md_trip_full hT.2.2.1 c c5, hR⟩
    · rw [if_pos (own_no c5).1]
      exact ⟨-2, σ, σ, rfl, md_trip_no (fun h => c5 h.2), hR⟩
  · rw [if_pos (mayGo_no c)]
    exact ⟨-2, σ, σ, rfl, md_trip_no (fun h => c h.1), hR⟩
theorem e_undo : E_undo Rel := by
  intro σ hR
  obtain ⟨-, -, ⟨nt, hT⟩, -⟩ := id hR
  obtain ⟨t1, t2, t3, t4⟩ := id hT
  unfold f_GR_undo f_Md_undo f_Ts_dropLast
  rw [t2]
  by_cases c : nt = 0
  · subst c
    rw [if_neg (show ¬ (1 : Int32) ≤ nI 0 by decide)]
    exact ⟨-3, σ, σ, rfl, by rw [t3, if_pos (show nI 0 = 0 from rfl)], hR⟩
  · obtain ⟨m, rfl⟩ : ∃ m, nt = m + 1 := ⟨nt - 1, by omega⟩
    rw [if_pos (show (1 : Int32) ≤ nI (m + 1) from nI_le (a := 1) (by omega) (by omega)), nI_pred]
    have emx : f_JM_max 0 (nI m) = nI m := by
      have := mx0_eq (nI m)
      unfold mx0 at this
      rw [this, if_pos (nI_pos' (by omega))]
    rw [emx]
    simp only [Option.bind_some]
    have h66 : (pI σ 18 2 (nI m)).1 66 14 = nI (m + 1) := by rw [pI_ne (by omega)]; exact t3
    refine ⟨nI m, pI σ 18 2 (nI m), pI (pI σ 18 2 (nI m)) 66 14 (nI m), by rw [pI_eq], ?_, ?_⟩
    · rw [h66, if_neg (nI_ne0 (by omega) (by omega)), nI_pred, pI_eq]
    · refine hR.tripG (fun i j g => by unfold gT at g; rw [pI_ne (by omega), pI_ne (by omega)]) ⟨m, by omega, by rw [pI_ne (by omega), pI_eq], pI_eq, fun t ht => ?_⟩
      have hrow : (pI (pI σ 18 2 (nI m)) 66 14 (nI m)).1 (21 + t) = σ.1 (21 + t) := funext fun j => by rw [pI_ne (by omega), pI_ne (by omega)]
      rw [hrow]
      exact ⟨(t4 t (by omega)).1, fun k hk => by rw [pI_ne (by omega), pI_ne (by omega)]; exact (t4 t (by omega)).2 k hk⟩
theorem e_part : E_part Rel := by
  intro σ a1 a2 hR
  obtain ⟨-, -, -, ⟨np, hP⟩, -⟩ := id hR
  obtain ⟨p1, p2, p3, p4⟩ := id hP
  unfold f_GR_part f_Md_part
  rcases arg_in a1 10 (by decide) with h | ⟨w, hw, rfl⟩
  · exact ⟨-2, σ, σ, by rw [if_pos (fig_no h).1], by rw [if_pos (fig_no h).2], hR⟩
  rw [if_neg (n10 (fig_yes hw).1)]
  rcases arg_in a2 3 (by decide) with h | ⟨k, hk, rfl⟩
  · exact ⟨-2, σ, σ, by rw [if_pos (below_no h (by decide))], by rw [if_neg (n10 (fig_yes hw).2), if_pos (in_no h (by decide))], hR⟩
  rw [if_neg (n10 (below_yes hk (by decide) (by decide)))]
  unfold f_Mi_isFull
  rw [p2]
  by_cases cf : np < 5
  · rw [if_pos (show nI np < 5 from nI_lt (b := 5) cf (by omega)), if_pos rfl]
    unfold f_Mi_append
    have e43 : ∀ v, (pI σ 44 np v).1 43 5 = nI np := fun v => by rw [pI_ne (by omega)]; exact p2
    have e43' : (pI (pI σ 44 np (nI w)) 45 np (nI k)).1 43 5 = nI np := by rw [pI_ne (by omega), e43]
    have cnp : (nI np).toNatClampNeg = np := nI_clamp (by omega)
    rw [p2, if_neg (n10 (below_yes cf (by decide) (by decide))), cnp, e43, gd_of (vin_nI cf (by decide)), cnp, e43', nI_1]
    simp only [Option.bind_some]
    generalize hσ1 : pI (pI (pI σ 44 np (nI w)) 45 np (nI k)) 43 5 (nI (np + 1)) = σ1
    have q43 : σ1.1 43 5 = nI (np + 1) := by rw [← hσ1, pI_eq]
    have q44 : σ1.1 44 np = nI w := by rw [← hσ1, pI_ne (by omega), pI_ne (by omega), pI_eq]
    have q45 : σ1.1 45 np = nI k := by rw [← hσ1, pI_ne (by omega), pI_eq]
    have qfr : ∀ i j, ¬ (i = 43 ∧ j = 5) → ¬ (i = 44 ∧ j = np) → ¬ (i = 45 ∧ j = np) → σ1.1 i j = σ.1 i j := fun i j g1 g2 g3 => by rw [← hσ1, pI_ne g1, pI_ne g3, pI_ne g2]
    have q66 : σ1.1 66 18 = nI np := by rw [qfr _ _ (by omega) (by omega) (by omega)]; exact p3
    have e66 : ∀ v, (pI σ1 78 np v).1 66 18 = nI np := fun v => by rw [pI_ne (by omega)]; exact q66
    have e66' : (pI (pI σ1 78 np (nI w)) 79 np (nI k)).1 66 18 = nI np := by rw [pI_ne (by omega), e66]
    refine ⟨nI np, σ1, pI (pI (pI σ1 78 np (nI w)) 79 np (nI k)) 66 18 (nI (np + 1)), by rw [q43, nI_pred], ?_, ?_⟩
    · rw [if_neg (n10 (fig_yes hw).2), if_neg (n10 (in_yes hk (by decide) (by decide))), q66, if_neg (show ¬ nI np = 5 from fun g => by have := (nI_eq (b := 5) (by omega) (by omega)).mp g; omega), gd_of (vin_nI cf (by decide)), cnp, e66, gd_of (vin_nI cf (by decide)), cnp, e66', nI_1, pI_eq, nI_pred]
    · refine hR.partG (fun i j g => by unfold gP at g; rw [pI_ne (by omega), pI_ne (by omega), pI_ne (by omega), qfr _ _ (by omega) (by omega) (by omega)]) ⟨np + 1, by omega, by rw [pI_ne (by omega), pI_ne (by omega), pI_ne (by omega)]; exact q43, pI_eq, fun p hp => ?_⟩
      rw [pI_ne (show ¬ (44 = 66 ∧ p = 18) by omega), pI_ne (show ¬ (44 = 79 ∧ p = np) by omega), pI_ne (show ¬ (44 = 78 ∧ p = np) by omega), pI_ne (show ¬ (45 = 66 ∧ p = 18) by omega), pI_ne (show ¬ (45 = 79 ∧ p = np) by omega), pI_ne (show ¬ (45 = 78 ∧ p = np) by omega), pI_ne (show ¬ (78 = 66 ∧ p = 18) by omega), pI_ne (show ¬ (78 = 79 ∧ p = np) by omega), pI_ne (show ¬ (79 = 66 ∧ p = 18) by omega)]
      by_cases q : p = np
      · subst q
        rw [q44, q45, pI_eq, pI_eq]
        exact ⟨⟨w, hw, rfl⟩, ⟨k, hk, rfl⟩, rfl, rfl⟩
      · rw [pI_ne (fun g => q g.2), pI_ne (fun g => q g.2), pI_ne (show ¬ (79 = 78 ∧ p = np) by omega), qfr _ _ (by omega) (by omega) (by omega), qfr _ _ (by omega) (by omega) (by omega), qfr _ _ (by omega) (by omega) (by omega), qfr _ _ (by omega) (by omega) (by omega)]
        exact p4 p (by omega)
  · have : np = 5 := by omega
    subst this
    rw [if_neg (show ¬ nI 5 < 5 by decide), if_neg (show ¬ (1 : Int32) = 0 by decide)]
    exact ⟨-4, σ, σ, rfl, by rw [if_neg (n10 (fig_yes hw).2), if_neg (n10 (in_yes hk (by decide) (by decide))), p3, if_pos (show nI 5 = 5 from rfl)], hR⟩
theorem e_gone : E_gone Rel := by
  intro σ hR
  obtain ⟨-, -, -, ⟨np, hP⟩, -⟩ := id hR
  obtain ⟨p1, p2, p3, p4⟩ := id hP
  refine ⟨nI np, pI σ 43 5 0, pI (pI σ 43 5 0) 66 18 0, ?_, ?_, ?_⟩
  · unfold f_GR_gone f_Mi_drop
    rw [bd_s, p2]
  · unfold f_Md_gone
    rw [pI_ne (by omega), p3]
  · exact hR.partG (fun i j g => by unfold gP at g; rw [pI_ne (by omega), pI_ne (by omega)]) ⟨0, by omega, by rw [pI_ne (by omega), pI_eq]; rfl, pI_eq, fun p hp => by omega⟩
