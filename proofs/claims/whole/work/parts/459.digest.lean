/-! digest: from its end -/
def Jn (c m : Option (Int64 × Sg)) (σc σm : Sg) : Prop := ∃ x σc' σm', c = some (x, σc') ∧ m = some (x, σm') ∧ Kp σc σc' ∧ Kp σm σm'
theorem Jn.tr {c m : Option (Int64 × Sg)} {σc σm σ1 σ2 : Sg} (k1 : Kp σc σ1) (k2 : Kp σm σ2) (h : Jn c m σ1 σ2) : Jn c m σc σm := by
  obtain ⟨x, a, b, h1, h2, h3, h4⟩ := h
  exact ⟨x, a, b, h1, h2, k1.tr h3, k2.tr h4⟩
theorem Kp.sym {σ σ' : Sg} (h : Kp σ σ') : Kp σ' σ := fun i k a b => (h i k a b).symm
section
variable {nr nt g lf lim np : Nat} {fa T : Nat → Nat → Int32} {rk W K : Nat → Nat} {v0 v1 : Int32} {σc σm : Sg}
theorem dig_E (hs : Sta nr fa nt T g lf lim np W K) (h : Dat nr fa rk nt T g lf lim np W K v0 v1 σc) (h' : Dat nr fa rk nt T g lf lim np W K v0 v1 σm) (hb : ∀ o, o < 5 → σm.1 83 o = balT nr fa T (nI o) nt) : ∀ (d f1 f2 o : Nat) (H : Int64), o + d = 5 → d < f1 → d < f2 → Jn (f_GR_digest_175 f1 σc H (nI o)) (f_Md_digest_415 f2 σm H (nI o)) σc σm := by
  intro d
  induction d with
  | zero =>
    intro f1 f2 o H ho q1 q2
    obtain ⟨m1, rfl⟩ : ∃ m, f1 = m + 1 := ⟨f1 - 1, by omega⟩
    obtain ⟨m2, rfl⟩ : ∃ m, f2 = m + 1 := ⟨f2 - 1, by omega⟩
    have : o = 5 := by omega
    subst this
    obtain ⟨x, σ1, σ2, a1, a2, a3, a4⟩ := settled_k hs h h'
    refine ⟨31 * H + x.toInt64, σ1, σ2, ?_, ?_, a3, a4⟩
    · rw [f_GR_digest_175_s, if_pos (show (5 : Int32) ≤ nI 5 by decide), a1, bd_s]
      rfl
    · rw [f_Md_digest_415_s, if_pos (show (5 : Int32) ≤ nI 5 by decide), a2, bd_s]
  | succ d ih =>
    intro f1 f2 o H ho q1 q2
    obtain ⟨m1, rfl⟩ : ∃ m, f1 = m + 1 := ⟨f1 - 1, by omega⟩
    obtain ⟨m2, rfl⟩ : ∃ m, f2 = m + 1 := ⟨f2 - 1, by omega⟩
    rw [f_GR_digest_175_s, if_neg (show ¬ (5 : Int32) ≤ nI o from nI_ge (b := 5) (by omega) (by omega)), bal_k h.1 h.2.1 hs.2.1, Option.bind_some]
    rw [f_Md_digest_415_s, if_neg (show ¬ (5 : Int32) ≤ nI o from nI_ge (b := 5) (by omega) (by omega)), gd_of (vin_nI (by omega) (by decide)), nI_clamp (by omega), hb o (by omega), nI_1]
    exact ih m1 m2 (o + 1) _ (by omega) (by omega) (by omega)
theorem dig_D (hs : Sta nr fa nt T g lf lim np W K) (h : Dat nr fa rk nt T g lf lim np W K v0 v1 σc) (h' : Dat nr fa rk nt T g lf lim np W K v0 v1 σm) (hm : MV' nr fa rk σm) {x : Int32} {z : Nat → Int32} (hx : σm.1 66 24 = x) (hz : ∀ p, p < np → f_Mi_ropeThen σc (nI p) = some (z p) ∧ (x = -1 → z p = -1) ∧ (¬ x = -1 → σm.1 81 p = z p)) : ∀ (d f1 f2 p : Nat) (H : Int64), p + d = np → d < f1 → d < f2 → Jn (bd (f_GR_mixedMill_46 f1 σc H (nI p)) fun r16 σ15 => f_GR_digest_175 FU σ15 r16 0) (f_Md_digest_313 f2 σm H (nI p)) σc σm := by
  have n5 := hs.2.2.2.2.2.1
  intro d
  induction d with
  | zero =>
    intro f1 f2 p H hp q1 q2
    obtain ⟨m1, rfl⟩ : ∃ m, f1 = m + 1 := ⟨f1 - 1, by omega⟩
    obtain ⟨m2, rfl⟩ : ∃ m, f2 = m + 1 := ⟨f2 - 1, by omega⟩
    have : p = np := by omega
    subst this
    obtain ⟨y, σ1, σ2, a1, a2, a3, a4, a5⟩ := need_k hs h h' hm
    have h1 := h.of a3
    have h2 := h'.of a4
    obtain ⟨σ3, σ4, v, b1, b2, b3, b4, b5, b6⟩ := seekPegs_k (kd := 0) (br := 9) (pr := 1) hs (by omega) (by omega) (by omega) h1 h2 a5
    have b1' : f_Mi_seekPegs σ1 0 9 1 (nI lim) = some σ3 := b1
    have b2' : f_Md_findPegs σ2 0 9 1 = some σ4 := b2
    have h3 := h1.of b5
    have h4 := h2.of b6
    obtain ⟨σf, u1, hmf, u3⟩ := h4.2.2.2.2.2.2.2.1 σ4 Kw.rf
    have kpf := find_kp u3
    obtain ⟨σ5, c1, c2, c3⟩ := mbal_k u1 hmf (h4.2.2.1.of kpf) hs.1 hs.2.1
    have h5 := (h4.of kpf).of c2.kp
    have r0 : f_Mi_foundPegs σ3 0 = σ4.1 66 26 := found_k b4 (k := 0) (by omega)
    have r1 : f_Mi_foundPegs σ3 1 = σ4.1 66 27 := found_k b4 (k := 1) (by omega)
    have r2 : f_Mi_foundPegs σ3 2 = σ4.1 66 28 := found_k b4 (k := 2) (by omega)
    have t1 : ((0 : Int32) + 1) = 1 := by decide
    have t2 : ((1 : Int32) + 1) = 2 := by decide
    have t3 : ((2 : Int32) + 1) = 3 := by decide
    have f110 : ∀ G : Int64, f_GR_mixedMill_110 FU σ3 G 0 = some (31 * (31 * (31 * G + (σ4.1 66 26).toInt64) + (σ4.1 66 27).toInt64) + (σ4.1 66 28).toInt64, σ3) := fun G => by
      rw [show FU = 999996 + 1 + 1 + 1 + 1 from rfl, f_GR_mixedMill_110_s, if_neg (show ¬ (3 : Int32) ≤ 0 by decide), r0, t1, f_GR_mixedMill_110_s, if_neg (show ¬ (3 : Int32) ≤ 1 by decide), r1, t2, f_GR_mixedMill_110_s, if_neg (show ¬ (3 : Int32) ≤ 2 by decide), r2, t3, f_GR_mixedMill_110_s, if_pos (show (3 : Int32) ≤ 3 by decide)]
      rfl
    have e := dig_E (σc := σ3) (σm := σ5) hs h3 h5 c3 5 FU FU 0 (31 * (31 * (31 * (31 * H + y.toInt64) + (σ4.1 66 26).toInt64) + (σ4.1 66 27).toInt64) + (σ4.1 66 28).toInt64) (by omega) (by unfold FU; omega) (by unfold FU; omega)
    have e' := Jn.tr (a3.tr b5) (((a4.tr b6).tr kpf).tr c2.kp) e
    rw [f_GR_mixedMill_46_s, h.2.2.2.2.2.1.1, if_pos (nI_le (Nat.le_refl _) (by omega)), a1, bd_s, h1.2.2.2.2.1.2.2.1, b1', Option.bind_some, f110, bd_s]
    rw [f_Md_digest_313_s, h'.2.2.2.2.2.1.2.1, if_pos (nI_le (Nat.le_refl _) (by omega)), a2, bd_s, b2', Option.bind_some, c1, Option.bind_some]
    exact e'
  | succ d ih =>
    intro f1 f2 p H hp q1 q2
    obtain ⟨m1, rfl⟩ : ∃ m, f1 = m + 1 := ⟨f1 - 1, by omega⟩
    obtain ⟨m2, rfl⟩ : ∃ m, f2 = m + 1 := ⟨f2 - 1, by omega⟩
    obtain ⟨z1, z2, z3⟩ := hz p (by omega)
    have i2 : (-2 : Int32).toInt = -2 := by decide
    have p2 : ¬ nI p = -2 := fun q => by
      have := congrArg Int32.toInt q
      rw [nI_toInt (by omega), i2] at this
      omega
    have es : f_GR_sentAsReckoned σc (nI p) = some (z p) := by
      unfold f_GR_sentAsReckoned
      rw [if_neg (nI_m1 (by omega)), if_neg p2, z1]
      rfl
    have e := ih m1 m2 (p + 1) (31 * H + (z p).toInt64) (by omega) (by omega) (by omega)
    rw [f_GR_mixedMill_46_s, h.2.2.2.2.2.1.1, if_neg (nI_ge (by omega) (by omega)), es, Option.bind_some, nI_1]
    rw [f_Md_digest_313_s, h'.2.2.2.2.2.1.2.1, if_neg (nI_ge (by omega) (by omega)), hx]
    unfold f_Md_digest_344
    rw [nI_1, gd_of (vin_nI (show p < 5 by omega) (by decide)), nI_clamp (by omega)]
    by_cases c : x = -1
    · rw [if_pos c]
      rw [z2 c] at e ⊢
      exact e
    · rw [if_neg c, z3 c]
      exact e
theorem dig_C (hs : Sta nr fa nt T g lf lim np W K) (h : Dat nr fa rk nt T g lf lim np W K v0 v1 σc) (h' : Dat nr fa rk nt T g lf lim np W K v0 v1 σm) (hm : MV' nr fa rk σm) {B : Nat → Nat} (hC : BC nr nt T B σc) (hM : BM nr nt T B σm) : ∀ (d f1 f2 t : Nat) (H : Int64), t + d = nt → d < f1 → d < f2 → Jn (f_GR_digest_104 f1 σc H (nI t)) (f_Md_digest_200 f2 σm H (nI t)) σc σm := by
  have h20 := h.2.1.1
  have n5 := hs.2.2.2.2.2.1
  intro d
  induction d with
  | zero =>
    intro f1 f2 t H ht q1 q2
    obtain ⟨m1, rfl⟩ : ∃ m, f1 = m + 1 := ⟨f1 - 1, by omega⟩
    obtain ⟨m2, rfl⟩ : ∃ m, f2 = m + 1 := ⟨f2 - 1, by omega⟩
    have : t = nt := by omega
    subst this
    obtain ⟨x1, σ1, σ2, a1, a2, a3, a4, a5⟩ := clashes_k hs h h'
    have h1 := h.of a3
    have h2 := h'.of a4
    obtain ⟨x2, b1, b2⟩ := heavy_k h1.1 a5 h1.2.1 h2.2.2.1
    obtain ⟨x3, σ3, σ4, c1, c2, c3, c4, c5⟩ := wind_k hs h1 h2 7
    have h3 := h1.of c3
    have h4 := h2.of c4
    obtain ⟨σ5, σ6, d1, d2, d3, d4, d5, x, y, z, m1', m2', m3', m4', m5', m6'⟩ := seek_k hs h3 h4 c5 (-1)
    have e := dig_D (σc := σ5) (σm := σ6) hs (h3.of d2) (h4.of d4) d5 m2' m6' np FU FU 0 (31 * (31 * (31 * (31 * (31 * H + x1.toInt64) + x2.toInt64) + x3.toInt64) + x.toInt64) + y.toInt64) (by omega) (by unfold FU; omega) (by unfold FU; omega)
    have e' := Jn.tr ((a3.tr c3).tr d2) ((a4.tr c4).tr d4) e
    have s1 : f_GR_sentAsReckoned σ5 (-1) = some x := by
      unfold f_GR_sentAsReckoned
      rw [if_pos rfl, m1']
      rfl
    have s2 : f_GR_sentAsReckoned σ5 (-2) = some y := by
      unfold f_GR_sentAsReckoned
      rw [if_neg (show ¬ (-2 : Int32) = -1 by decide), if_pos rfl, m4']
      rfl
    rw [f_GR_digest_104_s, h.2.1.2.1, if_pos (nI_le (Nat.le_refl _) (by omega)), a1, bd_s, b1, Option.bind_some, c1, bd_s]
    unfold f_GR_mixedMill
    rw [h3.2.2.2.2.1.2.2.1, d1, Option.bind_some, s1, Option.bind_some, s2, Option.bind_some]
    rw [f_Md_digest_200_s, h'.2.2.1.2.1, if_pos (nI_le (Nat.le_refl _) (by omega)), a2, bd_s, b2, Option.bind_some, c2, bd_s, c5.2.1, d3, Option.bind_some, m2', m5']
    exact e'
  | succ d ih =>
    intro f1 f2 t H ht q1 q2
    obtain ⟨m1, rfl⟩ : ∃ m, f1 = m + 1 := ⟨f1 - 1, by omega⟩
    obtain ⟨m2, rfl⟩ : ∃ m, f2 = m + 1 := ⟨f2 - 1, by omega⟩
    have e := ih m1 m2 (t + 1) (31 * H + (σc.1 42 t).toInt64) (by omega) (by omega) (by omega)
    rw [f_GR_digest_104_s, h.2.1.2.1, if_neg (nI_ge (by omega) (by omega)), st_at (by omega), nI_1]
    rw [f_Md_digest_200_s, h'.2.2.1.2.1, if_neg (nI_ge (by omega) (by omega)), counts_k hm h'.2.2.1 (by omega), Option.bind_some]
    unfold f_Md_digest_231
    rw [nI_1, gd_of (vin_nI (show t < 20 by omega) (by decide)), nI_clamp (by omega)]
    by_cases c : isR nr (T t 0) = true
    · rw [if_pos c, if_neg (show ¬ (1 : Int32) = 0 by decide), hM t (by omega) c]
      rw [(hC t (by omega)).1 c] at e ⊢
      exact e
    · rw [if_neg c, if_pos rfl]
      rw [(hC t (by omega)).2 c] at e ⊢
      exact e
end
