/-! the trips as both hold them; frayed, yet, heavy -/
def TC (nt : Nat) (T : Nat → Nat → Int32) (σ : Sg) : Prop := nt ≤ 20 ∧ σ.1 18 2 = nI nt ∧ ∀ t k, t < nt → k < 5 → σ.1 (21 + t) k = T t k
def TM (nt : Nat) (T : Nat → Nat → Int32) (σ : Sg) : Prop := nt ≤ 20 ∧ σ.1 66 14 = nI nt ∧ ∀ t k, t < nt → k < 5 → σ.1 76 (5 * t + k) = T t k
theorem TC.of {nt : Nat} {T : Nat → Nat → Int32} {σ σ' : Sg} (h : TC nt T σ) (e : Kp σ σ') : TC nt T σ' := by
  obtain ⟨h0, h1, h2⟩ := h
  exact ⟨h0, (e 18 2 (by unfold scC; omega) (by unfold scM; omega)).trans h1, fun t k ht hk => (e (21 + t) k (by unfold scC; omega) (by unfold scM; omega)).trans (h2 t k ht hk)⟩
theorem TM.of {nt : Nat} {T : Nat → Nat → Int32} {σ σ' : Sg} (h : TM nt T σ) (e : Kp σ σ') : TM nt T σ' := by
  obtain ⟨h0, h1, h2⟩ := h
  exact ⟨h0, (e 66 14 (by unfold scC; omega) (by unfold scM; omega)).trans h1, fun t k ht hk => (e 76 _ (by unfold scC; omega) (by unfold scM; omega)).trans (h2 t k ht hk)⟩
theorem Rel.trips {σ : Sg} (h : Rel σ) : ∃ nt T, TC nt T σ ∧ TM nt T σ ∧ ∀ t, t < nt → tOk (T t) := by
  obtain ⟨-, -, ⟨nt, h1, h2, h3, h4⟩, -⟩ := h
  exact ⟨nt, fun t k => σ.1 (21 + t) k, ⟨h1, h2, fun _ _ _ _ => rfl⟩, ⟨h1, h3, fun t k ht hk => (h4 t ht).2 k hk⟩, fun t ht => (h4 t ht).1⟩
theorem five_k {t k : Nat} : (5 * nI t + nI k : Int32) = nI (5 * t + k) := by rw [show (5 : Int32) = nI 5 from rfl, pk_mul, nI_add]
theorem five_0 {t : Nat} : (5 * nI t : Int32) = nI (5 * t + 0) := by rw [show (5 : Int32) = nI 5 from rfl, pk_mul, Nat.add_zero]
/-- a trip's number, as the model reads it -/
theorem TM.get {nt : Nat} {T : Nat → Nat → Int32} {σ : Sg} (h : TM nt T σ) {t k : Nat} (ht : t < nt) (hk : k < 5) : vin (nI (5 * t + k)) 100 = true ∧ σ.1 76 (nI (5 * t + k)).toNatClampNeg = T t k := by
  obtain ⟨h0, h1, h2⟩ := h
  exact ⟨vin_nI (by omega) (by decide), by rw [nI_clamp (by omega)]; exact h2 t k ht hk⟩
theorem fray_loop {nt : Nat} {T : Nat → Nat → Int32} {σ σ' : Sg} (hC : TC nt T σ) (hM : TM nt T σ') (r : Int32) : ∀ (d f1 f2 i : Nat) (v : Int32), i + d = nt → d < f1 → d < f2 → ∃ x, f_Ts_frayOf_4 f1 σ r v (nI i) = some x ∧ f_Md_frayedOf_5 f2 σ' r 0 v (nI i) = some x := by
  have h20 := hC.1
  intro d
  induction d with
  | zero =>
    intro f1 f2 i v hi h1 h2
    obtain ⟨m1, rfl⟩ : ∃ m, f1 = m + 1 := ⟨f1 - 1, by omega⟩
    obtain ⟨m2, rfl⟩ : ∃ m, f2 = m + 1 := ⟨f2 - 1, by omega⟩
    have : i = nt := by omega
    subst this
    refine ⟨v, ?_, ?_⟩
    · rw [f_Ts_frayOf_4_s, hC.2.1, if_pos (nI_le (Nat.le_refl _) (by omega))]
    · rw [f_Md_frayedOf_5_s, hM.2.1, if_pos (nI_le (Nat.le_refl _) (by omega)), if_pos rfl]
  | succ d ih =>
    intro f1 f2 i v hi h1 h2
    obtain ⟨m1, rfl⟩ : ∃ m, f1 = m + 1 := ⟨f1 - 1, by omega⟩
    obtain ⟨m2, rfl⟩ : ∃ m, f2 = m + 1 := ⟨f2 - 1, by omega⟩
    rw [f_Ts_frayOf_4_s, hC.2.1, if_neg (nI_ge (by omega) (by omega)), ts_at (by omega), hC.2.2 i 0 (by omega) (by omega), hC.2.2 i 3 (by omega) (by omega)]
    rw [f_Md_frayedOf_5_s, hM.2.1, if_neg (nI_ge (by omega) (by omega)), show (3 : Int32) = nI 3 from rfl, five_k, five_0, gd_of (hM.get (t := i) (k := 0) (by omega) (by omega)).1, gd_of (hM.get (t := i) (k := 3) (by omega) (by omega)).1, (hM.get (t := i) (k := 0) (by omega) (by omega)).2, (hM.get (t := i) (k := 3) (by omega) (by omega)).2]
    unfold f_Ts_frayOf_38 f_Md_frayedOf_45 f_Md_frayedOf_78
    rw [nI_1]
    by_cases c : T i 0 = r
    · rw [if_pos c, if_pos c, if_neg (show ¬ (0 : Int32) = 1 by decide)]
      exact ih m1 m2 (i + 1) _ (by omega) (by omega) (by omega)
    · rw [if_neg c, if_neg c, if_neg (show ¬ (0 : Int32) = 1 by decide), Int32.add_zero]
      exact ih m1 m2 (i + 1) _ (by omega) (by omega) (by omega)
theorem fray_k {nt : Nat} {T : Nat → Nat → Int32} {σ σ' : Sg} (hC : TC nt T σ) (hM : TM nt T σ') (r : Int32) : ∃ x, f_Ts_frayOf σ r = some x ∧ f_Md_frayedOf σ' r 0 = some x := by
  have h20 := hC.1
  exact fray_loop hC hM r nt FU FU 0 0 (by omega) (by unfold FU; omega) (by unfold FU; omega)
theorem break_loop {nt : Nat} {T : Nat → Nat → Int32} {σ σ' : Sg} (hC : TC nt T σ) (hM : TM nt T σ') (r : Int32) {lim : Int32} (hl : σ'.1 75 1 = lim) : ∀ (d f1 f2 i : Nat) (v : Int32), i + d = nt → d < f1 → d < f2 → ∃ x, f_Ts_breakerOf_5 f1 σ r lim v (nI i) = some x ∧ f_Md_frayedOf_5 f2 σ' r 1 v (nI i) = some x := by
  have h20 := hC.1
  intro d
  induction d with
  | zero =>
    intro f1 f2 i v hi h1 h2
    obtain ⟨m1, rfl⟩ : ∃ m, f1 = m + 1 := ⟨f1 - 1, by omega⟩
    obtain ⟨m2, rfl⟩ : ∃ m, f2 = m + 1 := ⟨f2 - 1, by omega⟩
    have : i = nt := by omega
    subst this
    refine ⟨-1, ?_, ?_⟩
    · rw [f_Ts_breakerOf_5_s, hC.2.1, if_pos (nI_le (Nat.le_refl _) (by omega))]
    · rw [f_Md_frayedOf_5_s, hM.2.1, if_pos (nI_le (Nat.le_refl _) (by omega)), if_neg (show ¬ (1 : Int32) = 0 by decide)]
  | succ d ih =>
    intro f1 f2 i v hi h1 h2
    obtain ⟨m1, rfl⟩ : ∃ m, f1 = m + 1 := ⟨f1 - 1, by omega⟩
    obtain ⟨m2, rfl⟩ : ∃ m, f2 = m + 1 := ⟨f2 - 1, by omega⟩
    rw [f_Ts_breakerOf_5_s, hC.2.1, if_neg (nI_ge (by omega) (by omega)), ts_at (by omega), hC.2.2 i 0 (by omega) (by omega), hC.2.2 i 3 (by omega) (by omega)]
    rw [f_Md_frayedOf_5_s, hM.2.1, if_neg (nI_ge (by omega) (by omega)), show (3 : Int32) = nI 3 from rfl, five_k, five_0, gd_of (hM.get (t := i) (k := 0) (by omega) (by omega)).1, gd_of (hM.get (t := i) (k := 3) (by omega) (by omega)).1, (hM.get (t := i) (k := 0) (by omega) (by omega)).2, (hM.get (t := i) (k := 3) (by omega) (by omega)).2]
    unfold f_Ts_breakerOf_49 f_Md_frayedOf_45 f_Md_frayedOf_78
    rw [nI_1, five_0, gd_of (hM.get (t := i) (k := 0) (by omega) (by omega)).1, gd_of (hM.get (t := i) (k := 0) (by omega) (by omega)).1, (hM.get (t := i) (k := 0) (by omega) (by omega)).2, hl]
    by_cases c : T i 0 = r
    · rw [if_pos c, if_pos c, if_pos (show (1 : Int32) = 1 from rfl), if_pos c]
      by_cases c2 : v + (T i 3 + 1) ≤ lim
      · rw [if_pos c2, if_pos c2]
        exact ih m1 m2 (i + 1) _ (by omega) (by omega) (by omega)
      · rw [if_neg c2, if_neg c2]
        exact ⟨_, rfl, rfl⟩
    · rw [if_neg c, if_neg c, if_pos (show (1 : Int32) = 1 from rfl), if_neg c, Int32.add_zero]
      exact ih m1 m2 (i + 1) _ (by omega) (by omega) (by omega)
theorem break_k {nt : Nat} {T : Nat → Nat → Int32} {σ σ' : Sg} (hC : TC nt T σ) (hM : TM nt T σ') (r : Int32) {lim : Int32} (hl : σ'.1 75 1 = lim) : ∃ x, f_Ts_breakerOf σ r lim = some x ∧ f_Md_frayedOf σ' r 1 = some x := by
  have h20 := hC.1
  exact break_loop hC hM r hl nt FU FU 0 0 (by omega) (by unfold FU; omega) (by unfold FU; omega)
theorem Rel.setK {σ : Sg} (h : Rel σ) {σ' : Sg} (e : Kp σ σ') {k : Nat} (hk : k < 3) : σ'.1 75 k = σ.1 17 k := by
  obtain ⟨-, ⟨h1, -⟩, -⟩ := h
  rw [e 75 k (by unfold scC; omega) (by unfold scM; omega)]
  exact h1 k hk
theorem e_frayed : E_frayed Rel := by
  intro σ a1 a2 hR
  obtain ⟨nr, fa, rk, fv, σ', e1, e2, e3, hc, hm, hin, -⟩ := hR.find
  obtain ⟨nt, T, hC, hM, hI⟩ := hR.trips
  unfold f_GR_frayed f_Md_frayed
  rw [md_hasRope e1 hm, bd_s, rs_has hc.2.1 hc.1]
  by_cases c : isR nr a1 = true
  · rw [if_pos c, if_neg (show ¬ (1 : Int32) = 0 by decide), if_neg (show ¬ (1 : Int32) = 0 by decide)]
    rcases arg_in a2 2 (by decide) with h | ⟨s, hs, rfl⟩
    · exact ⟨-2, σ', by rw [if_pos (two_no h).1], by rw [if_pos (two_no h).2], hR.of e3⟩
    rw [if_neg (n10 (two_yes hs).1), if_neg (n10 (two_yes hs).2)]
    rcases (show s = 0 ∨ s = 1 by omega) with rfl | rfl
    · obtain ⟨x, x1, x2⟩ := fray_k hC (hM.of e3) a1
      have x2' : f_Md_frayedOf σ' a1 (nI 0) = some x := x2
      rw [if_pos (show nI 0 = 0 from rfl), x1, x2']
      exact ⟨x, σ', rfl, rfl, hR.of e3⟩
    · obtain ⟨x, x1, x2⟩ := break_k hC (hM.of e3) a1 (hR.setK e3 (k := 1) (by omega))
      have x2' : f_Md_frayedOf σ' a1 (nI 1) = some x := x2
      rw [if_neg (show ¬ nI 1 = 0 by decide), x1, x2']
      exact ⟨x, σ', rfl, rfl, hR.of e3⟩
  · rw [if_neg c]
    exact ⟨-2, σ', rfl, rfl, hR.of e3⟩
theorem yet_dec : ∀ j : Fin 10, ¬ (nI j.val + 1 : Int32) = 0 ∧ (0 : Int32) / (nI j.val + 1) = 0 := by decide +kernel
theorem e_yet : E_yet Rel := by
  intro σ a1 a2 hR
  obtain ⟨nr, fa, rk, fv, σ', e1, e2, e3, hc, hm, hin, -⟩ := hR.find
  obtain ⟨nt, T, hC, hM, hI⟩ := hR.trips
  unfold f_GR_yet f_Md_yet
  rw [md_hasRope e1 hm, bd_s, rs_has hc.2.1 hc.1]
  by_cases c : isR nr a1 = true
  · rw [if_pos c, if_neg (show ¬ (1 : Int32) = 0 by decide), if_neg (show ¬ (1 : Int32) = 0 by decide)]
    rcases arg_in a2 10 (by decide) with h | ⟨s, hs, rfl⟩
    · exact ⟨-2, σ', by rw [if_pos (fig_no h).1], by rw [if_pos (fig_no h).2], hR.of e3⟩
    rw [if_neg (n10 (fig_yes hs).1), if_neg (n10 (fig_yes hs).2)]
    obtain ⟨x, x1, x2⟩ := fray_k hC (hM.of e3) a1
    have hy := yet_dec ⟨s, hs⟩
    have hmx := mx0_eq (σ.1 17 1 - x)
    unfold mx0 at hmx
    rw [x1, x2, Option.bind_some, Option.bind_some, hR.setK e3 (k := 1) (by omega), gd_of (decide_eq_true hy.1), gd_of (decide_eq_true hy.1), hmx]
    by_cases q : 0 ≤ σ.1 17 1 - x
    · rw [if_pos q, if_pos q]
      exact ⟨_, σ', rfl, rfl, hR.of e3⟩
    · rw [if_neg q, if_neg q, hy.2]
      exact ⟨_, σ', rfl, rfl, hR.of e3⟩
  · rw [if_neg c]
    exact ⟨-2, σ', rfl, rfl, hR.of e3⟩
theorem heavy_loop {nr : Nat} {fa : Nat → Nat → Int32} {rk : Nat → Nat} {nt : Nat} {T : Nat → Nat → Int32} {σ σ' : Sg} (hc : CV nr fa rk σ) (hm : MV' nr fa rk σ') (hC : TC nt T σ) (hM : TM nt T σ') : ∀ (d f1 f2 i : Nat) (v : Int32), i + d = nt → d < f1 → d < f2 → ∃ x, f_GR_heavy_4 f1 σ v (nI i) = some x ∧ f_Md_heavyNow_4 f2 σ' v (nI i) = some x := by
  have h20 := hC.1
  intro d
  induction d with
  | zero =>
    intro f1 f2 i v hi h1 h2
    obtain ⟨m1, rfl⟩ : ∃ m, f1 = m + 1 := ⟨f1 - 1, by omega⟩
    obtain ⟨m2, rfl⟩ : ∃ m, f2 = m + 1 := ⟨f2 - 1, by omega⟩
    have : i = nt := by omega
    subst this
    refine ⟨v, ?_, ?_⟩
    · rw [f_GR_heavy_4_s, hC.2.1, if_pos (nI_le (Nat.le_refl _) (by omega))]
    · rw [f_Md_heavyNow_4_s, hM.2.1, if_pos (nI_le (Nat.le_refl _) (by omega))]
  | succ d ih =>
    intro f1 f2 i v hi h1 h2
    obtain ⟨m1, rfl⟩ : ∃ m, f1 = m + 1 := ⟨f1 - 1, by omega⟩
    obtain ⟨m2, rfl⟩ : ∃ m, f2 = m + 1 := ⟨f2 - 1, by omega⟩
    rw [f_GR_heavy_4_s, hC.2.1, if_neg (nI_ge (by omega) (by omega)), ts_at (by omega), hC.2.2 i 0 (by omega) (by omega), hC.2.2 i 3 (by omega) (by omega), rs_has hc.2.1 hc.1]
    rw [f_Md_heavyNow_4_s, hM.2.1, if_neg (nI_ge (by omega) (by omega))]
    unfold f_Md_counts
    rw [five_0, gd_of (hM.get (t := i) (k := 0) (by omega) (by omega)).1, (hM.get (t := i) (k := 0) (by omega) (by omega)).2, md_isRope hm.2.1 hm.1, zb10, Option.bind_some]
    unfold f_GR_heavy_65 f_Md_heavyNow_58 f_Md_heavyNow_59
    rw [nI_1]
    by_cases c : isR nr (T i 0) = true
    · rw [if_pos c, if_neg (show ¬ (1 : Int32) = 0 by decide), if_neg (show ¬ (1 : Int32) = 0 by decide)]
      obtain ⟨r, hr, er⟩ := isR_nI c hc.1
      have h8 := hc.1
      have e6 : (6 * nI r + 3 : Int32) = nI (6 * r + 3) := by rw [show (6 : Int32) = nI 6 from rfl, show (3 : Int32) = nI 3 from rfl, pk_mul, nI_add]
      rw [er, rs_at (by omega), (hc.2.2 r hr).1 3 (by omega), e6, show (nI (5 * i + 0) + 3 : Int32) = nI (5 * i + 3) from nI_add (5 * i) 3, gd_of (hM.get (t := i) (k := 3) (by omega) (by omega)).1, gd_of (hM.get (t := i) (k := 0) (by omega) (by omega)).1, (hM.get (t := i) (k := 3) (by omega) (by omega)).2, gd_of (vin_nI (by omega) (by decide)), nI_clamp (by omega), hm.2.2.1 r 3 hr (by omega)]
      by_cases c2 : T i 3 ≤ fa r 3
      · rw [if_pos c2, if_pos c2, Int32.or_zero]
        exact ih m1 m2 (i + 1) _ (by omega) (by omega) (by omega)
      · rw [if_neg c2, if_neg c2]
        exact ih m1 m2 (i + 1) _ (by omega) (by omega) (by omega)
    · rw [if_neg c, if_pos rfl, if_pos rfl, Int32.or_zero]
      exact ih m1 m2 (i + 1) _ (by omega) (by omega) (by omega)
theorem heavy_k {nr : Nat} {fa : Nat → Nat → Int32} {rk : Nat → Nat} {nt : Nat} {T : Nat → Nat → Int32} {σ σ' : Sg} (hc : CV nr fa rk σ) (hm : MV' nr fa rk σ') (hC : TC nt T σ) (hM : TM nt T σ') : ∃ x, f_GR_heavy σ = some x ∧ f_Md_heavyNow σ' = some x := by
  have h20 := hC.1
  exact heavy_loop hc hm hC hM nt FU FU 0 0 (by omega) (by unfold FU; omega) (by unfold FU; omega)
theorem e_heavy : E_heavy Rel := by
  intro σ hR
  obtain ⟨nr, fa, rk, fv, σ', e1, e2, e3, hc, hm, hin, -⟩ := hR.find
  obtain ⟨nt, T, hC, hM, hI⟩ := hR.trips
  obtain ⟨x, x1, x2⟩ := heavy_k hc hm hC (hM.of e3)
  refine ⟨x, σ', x1, ?_, hR.of e3⟩
  unfold f_Md_heavy
  rw [e1, bd_s, x2]
  rfl
