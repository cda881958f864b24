/-! digest: the ropes, the beginning -/
section
variable {nr : Nat} {fa : Nat → Nat → Int32} {rk : Nat → Nat} {σ σ' : Sg}
theorem crossing_m (hc : CV nr fa rk σ) (hm : MV' nr fa rk σ') (hin : ∀ r k, r < nr → k < 6 → ∃ j : Nat, j < hiN k ∧ fa r k = nI j) {r s k : Nat} (hr : r < nr) (hs : s < nr) (hk : k < 2) (w : Int32) : ∃ x σ2, f_GR_crossingAsTold σ (nI r) (nI s) (nI k) w = some x ∧ f_Md_crossingOf σ' (nI r) (nI s) (nI k) w = some (x, σ2) ∧ KPl σ' σ2 := by
  have h8 := hc.1
  unfold f_GR_crossingAsTold f_Md_crossingOf
  rw [rs_at (show r < 8 by omega), rs_at (show s < 8 by omega), meets_k hc hr hs, doCross_k hm hin hr hs, Option.bind_some]
  by_cases c : crs fa r s = 0
  · rw [if_pos c, if_pos c]
    exact ⟨_, σ', rfl, rfl, KPl.rf⟩
  rw [if_neg c, if_neg c]
  obtain ⟨p, q, hp, hq, hpq, a0, sp, fp⟩ := place_k hc hm hin hr hs c
  obtain ⟨a, ha, ea⟩ := hin r 0 hr (by omega)
  obtain ⟨b, hb, eb⟩ := hin r 1 hr (by omega)
  have ha : a < 10 := ha
  have hb : b < 10 := hb
  have e6 : (6 * nI r : Int32) = nI (6 * r + 0) := by rw [show (6 : Int32) = nI 6 from rfl, pk_mul, Nat.add_zero]
  have e61 : (nI (6 * r + 0) + 1 : Int32) = nI (6 * r + 1) := nI_add (6 * r) 1
  rw [fp, Option.bind_some, e6, e61, gd_of (vin_nI (by omega) (by decide)), gd_of (vin_nI (by omega) (by decide)), gd_of (vin_nI (by omega) (by decide)), nI_clamp (show 6 * r + 0 < 2 ^ 31 by omega), nI_clamp (show 6 * r + 1 < 2 ^ 31 by omega), a0, sp, (hc.2.2 r hr).1 0 (by omega), (hc.2.2 r hr).1 1 (by omega), ea, eb]
  unfold f_GR_crossingAsTold_85 f_Md_crossingOf_79
  rw [pI_eq, pI_ne (by omega : ¬ (66 = 66 ∧ 12 = 13)), pI_eq, pI_ne (by omega), pI_ne (by omega), pI_ne (by omega), pI_ne (by omega), hm.2.2.1 r 0 hr (by omega), hm.2.2.1 r 1 hr (by omega), ea, eb, num_k rfl]
  have kp : KPl σ' (pI (pI σ' 66 12 (nI p)) 66 13 (nI (p + q))) := fun i j w => by rw [pI_ne (by omega), pI_ne (by omega)]
  have aq : a * q ≤ 9 * 9 := Nat.mul_le_mul (by omega) (by omega)
  have bp : b * p ≤ 9 * 9 := Nat.mul_le_mul (by omega) (by omega)
  rcases (show k = 0 ∨ k = 1 by omega) with rfl | rfl
  · rw [if_neg (show ¬ nI 0 = 1 by decide), if_pos (show nI 0 = 0 from rfl), low_k (by omega) (by omega) hpq, share_k (by omega) (by omega) hpq]
    exact ⟨_, _, rfl, rfl, kp⟩
  · rw [if_pos (show nI 1 = 1 from rfl), if_neg (show ¬ nI 1 = 0 by decide), low_k (by omega) (by omega) hpq, share_k (by omega) (by omega) hpq]
    exact ⟨_, _, rfl, rfl, kp⟩
theorem d140_s {k57 : Sg → Int64 → Int32 → Option (Int64 × Sg)} (hm : MV' nr fa rk σ) (h2 : 2 ≤ nr) {r k : Nat} (hr : r < nr) (hk : k < 4) {x : Int64} {σ2 : Sg} (hx : f_Md_crossingOf σ (nI r) (nI ((r + 1) % nr)) (nI (k / 2)) (nI (k % 2)) = some (x, σ2)) (m : Nat) (G : Int64) : f_Md_digest_140 k57 (m + 1) σ G (nI r) (nI k) = f_Md_digest_140 k57 m σ2 (31 * G + x) (nI r) (nI (k + 1)) := by
  have h8 := hm.1
  have e1 : (nI (r + 1) - nI (r + 1) / nI nr * nI nr : Int32) = nI ((r + 1) % nr) := pk_rem (by omega) (by omega) (by omega)
  have e2 : (nI k / 2 : Int32) = nI (k / 2) := pk_div (d := 2) (by omega) (by omega) (by omega)
  have e3 : (nI k - nI (k / 2) * 2 : Int32) = nI (k % 2) := by
    rw [← e2]
    exact pk_rem (d := 2) (by omega) (by omega) (by omega)
  rw [f_Md_digest_140_s, if_neg (show ¬ (4 : Int32) ≤ nI k from nI_ge (b := 4) (by omega) (by omega)), hm.2.1, if_neg (show ¬ nI nr ≤ 1 from nI_ge (a := 1) (by omega) (by omega)), gd_of (decide_eq_true (nI_ne0 (by omega) (by omega))), nI_1, nI_1, e1, e2, e3, hx, bd_s]
theorem c134_s {r s k : Nat} {x y : Int64} (hk : k < 2) (h0 : f_GR_crossingAsTold σ (nI r) (nI s) (nI k) 0 = some x) (h1 : f_GR_crossingAsTold σ (nI r) (nI s) (nI k) 1 = some y) (m : Nat) (G : Int64) : f_GR_mixedRope_134 (m + 1) σ (nI r) G (nI s) (nI k) = f_GR_mixedRope_134 m σ (nI r) (31 * (31 * G + x) + y) (nI s) (nI (k + 1)) := by
  rw [f_GR_mixedRope_134_s, if_neg (show ¬ (2 : Int32) ≤ nI k from nI_ge (b := 2) (by omega) (by omega)), h0, Option.bind_some, h1, Option.bind_some, nI_1]
  rfl
/-- the crossings of a rope with the next one -/
theorem dig_x {k57 : Sg → Int64 → Int32 → Option (Int64 × Sg)} (hc : CV nr fa rk σ) (hm : MV' nr fa rk σ') (hin : ∀ r k, r < nr → k < 6 → ∃ j : Nat, j < hiN k ∧ fa r k = nI j) (h2 : 2 ≤ nr) {r : Nat} (hr : r < nr) (G : Int64) : ∃ H σ2, f_GR_mixedRope_129 σ (nI r) G (nI ((r + 1) % nr)) = some (H, σ) ∧ f_Md_digest_140 k57 FU σ' G (nI r) 0 = k57 σ2 H (nI (r + 1)) ∧ KPl σ' σ2 := by
  have h8 := hm.1
  have hs : (r + 1) % nr < nr := Nat.mod_lt _ (by omega)
  obtain ⟨x0, s0, a0, b0, k0⟩ := crossing_m hc hm hin hr hs (show 0 < 2 by omega) 0
  have m0 := k0.mv hm
  obtain ⟨x1, s1, a1, b1, k1⟩ := crossing_m hc m0 hin hr hs (show 0 < 2 by omega) 1
  have m1 := k1.mv m0
  obtain ⟨x2, s2, a2, b2, k2⟩ := crossing_m hc m1 hin hr hs (show 1 < 2 by omega) 0
  have m2 := k2.mv m1
  obtain ⟨x3, s3, a3, b3, k3⟩ := crossing_m hc m2 hin hr hs (show 1 < 2 by omega) 1
  have m3 := k3.mv m2
  have b0' : f_Md_crossingOf σ' (nI r) (nI ((r + 1) % nr)) (nI (0 / 2)) (nI (0 % 2)) = some (x0, s0) := b0
  have b1' : f_Md_crossingOf s0 (nI r) (nI ((r + 1) % nr)) (nI (1 / 2)) (nI (1 % 2)) = some (x1, s1) := b1
  have b2' : f_Md_crossingOf s1 (nI r) (nI ((r + 1) % nr)) (nI (2 / 2)) (nI (2 % 2)) = some (x2, s2) := b2
  have b3' : f_Md_crossingOf s2 (nI r) (nI ((r + 1) % nr)) (nI (3 / 2)) (nI (3 % 2)) = some (x3, s3) := b3
  refine ⟨31 * (31 * (31 * (31 * G + x0) + x1) + x2) + x3, s3, ?_, ?_, ((k0.tr k1).tr k2).tr k3⟩
  · unfold f_GR_mixedRope_129
    have e : f_GR_mixedRope_134 (999997 + 1 + 1 + 1) σ (nI r) G (nI ((r + 1) % nr)) (nI 0) = some (31 * (31 * (31 * (31 * G + x0) + x1) + x2) + x3, σ) := by
      rw [c134_s (by omega) a0 a1, c134_s (by omega) a2 a3, f_GR_mixedRope_134_s, if_pos (show (2 : Int32) ≤ nI (0 + 1 + 1) by decide)]
    exact e
  · have e : f_Md_digest_140 k57 (999995 + 1 + 1 + 1 + 1 + 1) σ' G (nI r) (nI 0) = k57 s3 (31 * (31 * (31 * (31 * G + x0) + x1) + x2) + x3) (nI (r + 1)) := by
      rw [d140_s (k := 0) hm h2 hr (by omega) b0', d140_s (k := 1) m0 h2 hr (by omega) b1', d140_s (k := 2) m1 h2 hr (by omega) b2', d140_s (k := 3) m2 h2 hr (by omega) b3', f_Md_digest_140_s, if_pos (show (4 : Int32) ≤ nI (3 + 1) by decide)]
      unfold f_Md_digest_188
      rw [nI_1]
    exact e
/-- what is told of a rope -/
theorem dig_16 {k57 : Sg → Int64 → Int32 → Option (Int64 × Sg)} (hc : CV nr fa rk σ) (hm : MV' nr fa rk σ') {r : Nat} (hr : r < nr) : ∀ (d f1 f2 k : Nat) (H : Int64), k + d = 7 → d < f1 → d < f2 → ∃ H' m1 m2, f_GR_mixedRope_16 f1 σ (nI r) H (9 + r) (nI k) = f_GR_mixedRope_16 (m1 + 1) σ (nI r) H' (9 + r) (nI 7) ∧ f_Md_digest_68 k57 f2 σ' H (nI r) (nI k) = f_Md_digest_68 k57 (m2 + 1) σ' H' (nI r) (nI 7) := by
  intro d
  induction d with
  | zero =>
    intro f1 f2 k H hk q1 q2
    obtain ⟨m1, rfl⟩ : ∃ m, f1 = m + 1 := ⟨f1 - 1, by omega⟩
    obtain ⟨m2, rfl⟩ : ∃ m, f2 = m + 1 := ⟨f2 - 1, by omega⟩
    have : k = 7 := by omega
    subst this
    exact ⟨H, m1, m2, rfl, rfl⟩
  | succ d ih =>
    intro f1 f2 k H hk q1 q2
    obtain ⟨m1, rfl⟩ : ∃ m, f1 = m + 1 := ⟨f1 - 1, by omega⟩
    obtain ⟨m2, rfl⟩ : ∃ m, f2 = m + 1 := ⟨f2 - 1, by omega⟩
    rw [f_GR_mixedRope_16_s, if_neg (show ¬ (7 : Int32) ≤ nI k from nI_ge (b := 7) (by omega) (by omega)), tell_k hc hr (by omega), nI_1]
    rw [f_Md_digest_68_s, if_neg (show ¬ (7 : Int32) ≤ nI k from nI_ge (b := 7) (by omega) (by omega)), ropeOf_k hm hr (by omega), Option.bind_some, nI_1]
    exact ih m1 m2 (k + 1) _ (by omega) (by omega) (by omega)
end
section
variable {nr nt g lf lim np : Nat} {fa T : Nat → Nat → Int32} {rk W K : Nat → Nat} {v0 v1 : Int32} {σc σm : Sg}
theorem dig_rope {k57 : Sg → Int64 → Int32 → Option (Int64 × Sg)} (hs : Sta nr fa nt T g lf lim np W K) (h : Dat nr fa rk nt T g lf lim np W K v0 v1 σc) (h' : Dat nr fa rk nt T g lf lim np W K v0 v1 σm) (hm : MV' nr fa rk σm) {r : Nat} (hr : r < nr) (H : Int64) : ∃ H' σ1 σ2, f_GR_mixedRope σc H (nI r) = some (H', σ1) ∧ f_Md_digest_68 k57 FU σm H (nI r) 0 = k57 σ2 H' (nI (r + 1)) ∧ Kp σc σ1 ∧ Kp σm σ2 ∧ MV' nr fa rk σ2 := by
  have h8 := hm.1
  obtain ⟨H1, m1, m2, e1, e2⟩ := dig_16 (k57 := k57) h.1 hm hr 7 FU FU 0 H (by omega) (by unfold FU; omega) (by unfold FU; omega)
  obtain ⟨x1, a1, a2⟩ := fray_k h.2.1 h'.2.2.1 (nI r)
  obtain ⟨x2, b1, b2⟩ := break_k h.2.1 h'.2.2.1 (nI r) (lim := nI lf) h'.2.2.2.2.1.2.2.2.2.1
  obtain ⟨x3, σ1, σ2, c1, c2, c3, c4, c5⟩ := cutOf_k hs h h' hm (nI r)
  have hc1 := (h.of c3).1
  have eC : f_GR_mixedRope σc H (nI r) = if 2 ≤ nI nr then (if nI nr ≤ nI (r + 1) then f_GR_mixedRope_129 σ1 (nI r) (31 * (31 * (31 * H1 + x1.toInt64) + x2.toInt64) + x3.toInt64) 0 else f_GR_mixedRope_129 σ1 (nI r) (31 * (31 * (31 * H1 + x1.toInt64) + x2.toInt64) + x3.toInt64) (nI (r + 1))) else some (31 * (31 * (31 * H1 + x1.toInt64) + x2.toInt64) + x3.toInt64, σ1) := by
    unfold f_GR_mixedRope
    rw [rs_at (by omega)]
    refine Eq.trans e1 ?_
    rw [f_GR_mixedRope_16_s, if_pos (show (7 : Int32) ≤ nI 7 by decide), a1, Option.bind_some, h.2.2.2.2.1.2.1, b1, Option.bind_some, c1, bd_s, hc1.2.1, nI_1]
    rfl
  have eM : f_Md_digest_68 k57 FU σm H (nI r) 0 = f_Md_digest_140 k57 FU σ2 (31 * (31 * (31 * H1 + x1.toInt64) + x2.toInt64) + x3.toInt64) (nI r) 0 := by
    refine Eq.trans e2 ?_
    rw [f_Md_digest_68_s, if_pos (show (7 : Int32) ≤ nI 7 by decide), a2, Option.bind_some, b2, Option.bind_some, c2, bd_s]
  rw [eC, eM]
  by_cases q : 2 ≤ nr
  · rw [if_pos (show (2 : Int32) ≤ nI nr from nI_le (a := 2) q (by omega))]
    obtain ⟨H2, σ3, d1, d2, d3⟩ := dig_x (k57 := k57) hc1 c5 hs.1 q hr (31 * (31 * (31 * H1 + x1.toInt64) + x2.toInt64) + x3.toInt64)
    refine ⟨H2, σ1, σ3, ?_, d2, c3, c4.tr d3.kp, d3.mv c5⟩
    by_cases c : nr ≤ r + 1
    · rw [if_pos (nI_le c (by omega))]
      have : (r + 1) % nr = 0 := by
        have : r + 1 = nr := by omega
        rw [this, Nat.mod_self]
      rw [this] at d1
      exact d1
    · rw [if_neg (nI_ge (by omega) (by omega))]
      rw [Nat.mod_eq_of_lt (by omega)] at d1
      exact d1
  · rw [if_neg (show ¬ (2 : Int32) ≤ nI nr from nI_ge (b := 2) (by omega) (by omega))]
    refine ⟨_, σ1, σ2, rfl, ?_, c3, c4, c5⟩
    rw [show FU = 999999 + 1 from rfl, f_Md_digest_140_s, if_neg (show ¬ (4 : Int32) ≤ 0 by decide), c5.2.1, if_pos (show nI nr ≤ 1 from nI_le (b := 1) (by omega) (by omega))]
    unfold f_Md_digest_188
    rw [nI_1]
theorem dig_B (hs : Sta nr fa nt T g lf lim np W K) : ∀ (d f1 f2 r : Nat) (H : Int64) (σc σm : Sg), Dat nr fa rk nt T g lf lim np W K v0 v1 σc → Dat nr fa rk nt T g lf lim np W K v0 v1 σm → MV' nr fa rk σm → r + d = nr → d < f1 → d < f2 → Jn (f_GR_digest_57 f1 σc H (nI r)) (f_Md_digest_57 f2 σm H (nI r)) σc σm := by
  intro d
  induction d with
  | zero =>
    intro f1 f2 r H σc σm h h' hm hr q1 q2
    obtain ⟨m1, rfl⟩ : ∃ m, f1 = m + 1 := ⟨f1 - 1, by omega⟩
    obtain ⟨m2, rfl⟩ : ∃ m, f2 = m + 1 := ⟨f2 - 1, by omega⟩
    have h8 := hm.1
    have h20 := h.2.1.1
    have : r = nr := by omega
    subst this
    obtain ⟨B, σ1, σ2, a1, a2, a3, a4, a5, a6, a7⟩ := putoff_k hs h h'
    have e := Jn.tr a5.kp a6 (dig_C (σc := σ1) (σm := σ2) hs (h.of a5.kp) (h'.of a6) a7 a3 a4 nt FU FU 0 H (by omega) (by unfold FU; omega) (by unfold FU; omega))
    rw [f_GR_digest_57_s, h.1.2.1, if_pos (nI_le (Nat.le_refl _) (by omega)), h.2.2.2.2.1.1, a1, Option.bind_some]
    rw [f_Md_digest_57_s, hm.2.1, if_pos (nI_le (Nat.le_refl _) (by omega)), a2, Option.bind_some]
    exact e
  | succ d ih =>
    intro f1 f2 r H σc σm h h' hm hr q1 q2
    obtain ⟨m1, rfl⟩ : ∃ m, f1 = m + 1 := ⟨f1 - 1, by omega⟩
    obtain ⟨m2, rfl⟩ : ∃ m, f2 = m + 1 := ⟨f2 - 1, by omega⟩
    have h8 := hm.1
    obtain ⟨H', σ1, σ2, a1, a2, a3, a4, a5⟩ := dig_rope (k57 := f_Md_digest_57 m2) hs h h' hm (r := r) (by omega) H
    have e := Jn.tr a3 a4 (ih m1 m2 (r + 1) H' σ1 σ2 (h.of a3) (h'.of a4) a5 (by omega) (by omega) (by omega))
    rw [f_GR_digest_57_s, h.1.2.1, if_neg (nI_ge (by omega) (by omega)), a1, bd_s, nI_1]
    rw [f_Md_digest_57_s, hm.2.1, if_neg (nI_ge (by omega) (by omega)), a2]
    exact e
theorem dig_A (hs : Sta nr fa nt T g lf lim np W K) (hR : Rel σc) (h : Dat nr fa rk nt T g lf lim np W K v0 v1 σc) : ∀ (d f1 f2 k : Nat) (H : Int64) (σm : Sg), Kp σc σm → k + d = 8 → d < f1 → d < f2 → Jn (f_GR_digest_6 f1 σc H (nI k)) (f_Md_digest_6 f2 σm H (nI k)) σc σm := by
  intro d
  induction d with
  | zero =>
    intro f1 f2 k H σm km hk q1 q2
    obtain ⟨m1, rfl⟩ : ∃ m, f1 = m + 1 := ⟨f1 - 1, by omega⟩
    obtain ⟨m2, rfl⟩ : ∃ m, f2 = m + 1 := ⟨f2 - 1, by omega⟩
    have : k = 8 := by omega
    subst this
    have h8 := h.1.1
    have h' := h.of km
    obtain ⟨σ1, a1, a2⟩ := h'.2.2.2.2.2.2.2.2 σm Kw.rf
    have h1 := h'.of a2
    obtain ⟨σf, u1, hm, u3⟩ := h1.2.2.2.2.2.2.2.1 σ1 Kw.rf
    have kpf := find_kp u3
    have e := Jn.tr Kp.rf (a2.tr kpf) (dig_B hs nr FU FU 0 (31 * (31 * H + v0.toInt64) + v1.toInt64) σc σf h (h1.of kpf) hm (by omega) (by unfold FU; omega) (by unfold FU; omega))
    rw [f_GR_digest_6_s, if_pos (show (8 : Int32) ≤ nI 8 by decide), h.2.2.2.1.1, h.2.2.2.1.2]
    rw [f_Md_digest_6_s, if_pos (show (8 : Int32) ≤ nI 8 by decide), a1, bd_s, u1, bd_s]
    exact e
  | succ d ih =>
    intro f1 f2 k H σm km hk q1 q2
    obtain ⟨m1, rfl⟩ : ∃ m, f1 = m + 1 := ⟨f1 - 1, by omega⟩
    obtain ⟨m2, rfl⟩ : ∃ m, f2 = m + 1 := ⟨f2 - 1, by omega⟩
    have h' := h.of km
    obtain ⟨σf, u1, hm, u3⟩ := h'.2.2.2.2.2.2.2.1 σm Kw.rf
    have kpf := find_kp u3
    obtain ⟨x, x1, x2⟩ := count_k hR km u1 kpf h.1 hm hs.1 (nI k)
    have e := Jn.tr Kp.rf kpf (ih m1 m2 (k + 1) (31 * H + x.toInt64) σf (km.tr kpf) (by omega) (by omega) (by omega))
    rw [f_GR_digest_6_s, if_neg (show ¬ (8 : Int32) ≤ nI k from nI_ge (b := 8) (by omega) (by omega)), x1, Option.bind_some, nI_1]
    rw [f_Md_digest_6_s, if_neg (show ¬ (8 : Int32) ≤ nI k from nI_ge (b := 8) (by omega) (by omega)), x2, bd_s, nI_1]
    exact e
theorem e_digest : E_digest Rel := by
  intro σ hR
  obtain ⟨nr, fa, rk, nt, T, g, lf, lim, np, W, K, v0, v1, hs, hd⟩ := hR.dat
  exact two_e (cls := f_GR_digest) (mdl := f_Md_digest) hR (fun σc σm k1 k2 => dig_A hs (hR.of k1) (hd.of k1) 8 FU FU 0 17 σm (k1.sym.tr k2) (by omega) (by unfold FU; omega) (by unfold FU; omega))
end
theorem allE : AllE Rel := ⟨e_type, e_wipe, e_fault, e_rope, e_crosses, e_crossing, e_takes, e_set, e_trip, e_read, e_undo, e_clash, e_clashes, e_putOff, e_frayed, e_yet, e_heavy, e_wind, e_part, e_gone, e_sent, e_cut, e_needed, e_pegs, e_balance, e_settled, e_knots, e_sheet, e_lose, e_lay, e_get, e_copy, e_write, e_count, e_digest⟩
