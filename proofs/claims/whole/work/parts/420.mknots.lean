/-! knots, the model's side -/
theorem m96 {k69 : Sg → Int32 → Int32 → Int32 → Int32 → Option (Int64 × Sg)} {k78 : Sg → Int32 → Int32 → Int32 → Int32 → Int32 → Option (Int64 × Sg)} {r L m : Nat} {w : Nat → Int64} {v2 v3 v4 : Int32} (hr : r < 8) (hL : L < 10) (hm : m < 100) : ∀ (d f j : Nat) (σ : Sg), σ.1 73 (6 * r + 3) = nI L → (∀ i, i < 100 → σ.2 85 i = w i) → σ.2 86 m = sumT w m j → j + d = cnT L m → d < f → ∃ σ', f_Md_knots_96 k69 k78 f σ (nI r) v2 v3 v4 (nI m) (nI j) = k78 σ' (nI r) v2 v3 v4 (nI m + 1) ∧ σ'.1 = σ.1 ∧ σ'.2 86 m = stW L w m ∧ ∀ a b, ¬ (a = 86 ∧ b = m) → σ'.2 a b = σ.2 a b := by
  have e6 : (6 * nI r + 3 : Int32) = nI (6 * r + 3) := by rw [show (6 : Int32) = nI 6 from rfl, show (3 : Int32) = nI 3 from rfl, pk_mul, nI_add]
  intro d
  induction d with
  | zero =>
    intro f j σ h73 h85 h86 hj hf
    obtain ⟨z, rfl⟩ : ∃ z, f = z + 1 := ⟨f - 1, by omega⟩
    refine ⟨σ, ?_, rfl, by rw [h86]; unfold stW; rw [show j = cnT L m by omega], fun _ _ _ => rfl⟩
    rw [f_Md_knots_96_s, e6, gd_of (vin_nI (by omega) (by decide)), nI_clamp (by omega), h73]
    unfold f_Md_knots_147
    unfold cnT at hj
    by_cases c : L + 1 ≤ m
    · rw [if_pos c] at hj
      rw [if_pos (nI_lt (by omega) (by omega))]
    · rw [if_neg c] at hj
      rw [if_neg (nI_nlt (by omega) (by omega)), if_pos (nI_le (by omega) (by omega))]
  | succ d ih =>
    intro f j σ h73 h85 h86 hj hf
    obtain ⟨z, rfl⟩ : ∃ z, f = z + 1 := ⟨f - 1, by omega⟩
    have hj' : j < L + 1 ∧ j < m := by unfold cnT at hj; split at hj <;> omega
    have e1 : (nI m - nI j - 1 : Int32) = nI (m - j - 1) := by rw [pk_sub (by omega)]; exact pk_sub (b := 1) (by omega)
    obtain ⟨σ', k1, k2, k3, k4⟩ := ih z (j + 1) (pL σ 86 m (sumT w m (j + 1))) h73 (fun i hi => by rw [pL_ne (by omega)]; exact h85 i hi) pL_eq (by omega) (by omega)
    refine ⟨σ', ?_, k2, k3, fun a b g => by rw [k4 a b g, pL_ne g]⟩
    rw [f_Md_knots_96_s, e6, gd_of (vin_nI (by omega) (by decide)), nI_clamp (show 6 * r + 3 < 2 ^ 31 by omega), h73, if_neg (nI_nlt (by omega) (by omega)), if_neg (nI_ge (by omega) (by omega)), gd_of (vin_nI hm (by decide)), e1, gd_of (vin_nI (by omega) (by decide)), gd_of (vin_nI hm (by decide)), nI_clamp (show m < 2 ^ 31 by omega), nI_clamp (show m - j - 1 < 2 ^ 31 by omega), h86, h85 (m - j - 1) (by omega), nI_1]
    exact k1
theorem m78 {k69 : Sg → Int32 → Int32 → Int32 → Int32 → Option (Int64 × Sg)} {r L : Nat} {w : Nat → Int64} {v2 v3 v4 : Int32} (hr : r < 8) (hL : L < 10) : ∀ (d f m : Nat) (σ : Sg), σ.1 73 (6 * r + 3) = nI L → (∀ i, i < 100 → σ.2 85 i = w i) → (∀ i, i < m → σ.2 86 i = stW L w i) → m + d = 100 → d < f → ∃ σ', f_Md_knots_78 k69 f σ (nI r) v2 v3 v4 (nI m) = f_Md_knots_156 k69 FU σ' (nI r) v2 v3 v4 0 ∧ σ'.1 = σ.1 ∧ ∀ i, i < 100 → σ'.2 86 i = stW L w i := by
  intro d
  induction d with
  | zero =>
    intro f m σ h73 h85 h86 hm hf
    obtain ⟨z, rfl⟩ : ∃ z, f = z + 1 := ⟨f - 1, by omega⟩
    have : m = 100 := by omega
    subst this
    exact ⟨σ, by rw [f_Md_knots_78_s, if_pos (show (100 : Int32) ≤ nI 100 by decide)], rfl, h86⟩
  | succ d ih =>
    intro f m σ h73 h85 h86 hm hf
    obtain ⟨z, rfl⟩ : ∃ z, f = z + 1 := ⟨f - 1, by omega⟩
    obtain ⟨σ1, k1, k2, k3, k4⟩ := m96 (k69 := k69) (k78 := f_Md_knots_78 k69 z) (r := r) (L := L) (m := m) (w := w) (v2 := v2) (v3 := v3) (v4 := v4) hr hL (by omega) (cnT L m) FU 0 (pL σ 86 m 0) h73 (fun i hi => by rw [pL_ne (by omega)]; exact h85 i hi) pL_eq (by omega) (by unfold FU cnT; split <;> omega)
    obtain ⟨σ', w1, w2, w3⟩ := ih z (m + 1) σ1 (by rw [k2]; exact h73) (fun i hi => by rw [k4 _ _ (by omega), pL_ne (by omega)]; exact h85 i hi) (fun i hi => by
      by_cases q : i = m
      · subst q; exact k3
      · rw [k4 _ _ (by omega), pL_ne (by omega)]; exact h86 i (by omega)) (by omega) (by omega)
    refine ⟨σ', ?_, w2.trans k2, w3⟩
    rw [f_Md_knots_78_s, if_neg (show ¬ (100 : Int32) ≤ nI m from nI_ge (b := 100) (by omega) (by omega)), gd_of (vin_nI (by omega) (by decide)), nI_clamp (by omega)]
    refine Eq.trans k1 ?_
    rw [nI_1]
    exact w1
theorem m156 {k69 : Sg → Int32 → Int32 → Int32 → Int32 → Option (Int64 × Sg)} {u : Nat → Int64} {v1 v2 v3 v4 : Int32} : ∀ (d f i : Nat) (σ : Sg), (∀ j, j < 100 → σ.2 86 j = u j) → (∀ j, j < i → σ.2 85 j = u j) → i + d = 100 → d < f → ∃ σ', f_Md_knots_156 k69 f σ v1 v2 v3 v4 (nI i) = k69 σ' v1 v2 v3 (v4 + 1) ∧ σ'.1 = σ.1 ∧ ∀ j, j < 100 → σ'.2 85 j = u j := by
  intro d
  induction d with
  | zero =>
    intro f i σ h86 h85 hi hf
    obtain ⟨z, rfl⟩ : ∃ z, f = z + 1 := ⟨f - 1, by omega⟩
    have : i = 100 := by omega
    subst this
    exact ⟨σ, by rw [f_Md_knots_156_s, if_pos (show (100 : Int32) ≤ nI 100 by decide)], rfl, h85⟩
  | succ d ih =>
    intro f i σ h86 h85 hi hf
    obtain ⟨z, rfl⟩ : ∃ z, f = z + 1 := ⟨f - 1, by omega⟩
    obtain ⟨σ', k1, k2, k3⟩ := ih z (i + 1) (pL σ 85 i (u i)) (fun j hj => by rw [pL_ne (by omega)]; exact h86 j hj) (fun j hj => by
      by_cases q : j = i
      · subst q; exact pL_eq
      · rw [pL_ne (by omega)]; exact h85 j (by omega)) (by omega) (by omega)
    refine ⟨σ', ?_, k2, k3⟩
    rw [f_Md_knots_156_s, if_neg (show ¬ (100 : Int32) ≤ nI i from nI_ge (b := 100) (by omega) (by omega)), gd_of (vin_nI (by omega) (by decide)), gd_of (vin_nI (by omega) (by decide)), nI_clamp (by omega), h86 i (by omega), nI_1]
    exact k1
theorem m69 {r L n v : Nat} (hr : r < 8) (hL : L < 10) (hn : n < 10) (hv : v < 100) : ∀ (d f t : Nat) (σ : Sg), σ.1 73 (6 * r + 3) = nI L → (∀ i, i < 100 → σ.2 85 i = itW L t i) → t + d = n → d < f → ∃ σ', f_Md_knots_69 f σ (nI r) (nI n) (nI v) (nI t) = some (itW L n v, σ') ∧ σ'.1 = σ.1 := by
  intro d
  induction d with
  | zero =>
    intro f t σ h73 h85 ht hf
    obtain ⟨z, rfl⟩ : ∃ z, f = z + 1 := ⟨f - 1, by omega⟩
    have : t = n := by omega
    subst this
    exact ⟨σ, by rw [f_Md_knots_69_s, if_pos (nI_le (Nat.le_refl _) (by omega)), gd_of (vin_nI hv (by decide)), nI_clamp (by omega), h85 v hv], rfl⟩
  | succ d ih =>
    intro f t σ h73 h85 ht hf
    obtain ⟨z, rfl⟩ : ∃ z, f = z + 1 := ⟨f - 1, by omega⟩
    obtain ⟨σ1, k1, k2, k3⟩ := m78 (k69 := f_Md_knots_69 z) (r := r) (L := L) (w := itW L t) (v2 := nI n) (v3 := nI v) (v4 := nI t) hr hL 100 FU 0 σ h73 h85 (fun i hi => by omega) (by omega) (by unfold FU; omega)
    obtain ⟨σ2, w1, w2, w3⟩ := m156 (k69 := f_Md_knots_69 z) (u := stW L (itW L t)) (v1 := nI r) (v2 := nI n) (v3 := nI v) (v4 := nI t) 100 FU 0 σ1 k3 (fun j hj => by omega) (by omega) (by unfold FU; omega)
    obtain ⟨σ', x1, x2⟩ := ih z (t + 1) σ2 (by rw [w2, k2]; exact h73) w3 (by omega) (by omega)
    refine ⟨σ', ?_, by rw [x2, w2, k2]⟩
    rw [f_Md_knots_69_s, if_neg (nI_ge (by omega) (by omega))]
    refine (k1.trans w1).trans ?_
    rw [nI_1]
    exact x1
theorem m36 {r L n v : Nat} (hr : r < 8) (hL : L < 10) (hn : n < 10) (hv : v < 100) : ∀ (d f i : Nat) (σ : Sg), σ.1 73 (6 * r + 3) = nI L → (∀ j, j < i → σ.2 85 j = itW L 0 j) → i + d = 100 → d < f → ∃ σ', f_Md_knots_36 f σ (nI r) (nI n) (nI v) (nI i) = some (itW L n v, σ') ∧ σ'.1 = σ.1 := by
  intro d
  induction d with
  | zero =>
    intro f i σ h73 h85 hi hf
    obtain ⟨z, rfl⟩ : ∃ z, f = z + 1 := ⟨f - 1, by omega⟩
    have : i = 100 := by omega
    subst this
    obtain ⟨σ', k1, k2⟩ := m69 hr hL hn hv n FU 0 σ h73 h85 (by omega) (by unfold FU; omega)
    refine ⟨σ', ?_, k2⟩
    rw [f_Md_knots_36_s, if_pos (show (100 : Int32) ≤ nI 100 by decide)]
    exact k1
  | succ d ih =>
    intro f i σ h73 h85 hi hf
    obtain ⟨z, rfl⟩ : ∃ z, f = z + 1 := ⟨f - 1, by omega⟩
    obtain ⟨σ', k1, k2⟩ := ih z (i + 1) (pL σ 85 i (itW L 0 i)) h73 (fun j hj => by
      by_cases q : j = i
      · subst q; exact pL_eq
      · rw [pL_ne (by omega)]; exact h85 j (by omega)) (by omega) (by omega)
    refine ⟨σ', ?_, k2⟩
    rw [f_Md_knots_36_s, if_neg (show ¬ (100 : Int32) ≤ nI i from nI_ge (b := 100) (by omega) (by omega))]
    unfold f_Md_knots_59
    rw [gd_of (vin_nI (by omega) (by decide)), gd_of (vin_nI (by omega) (by decide)), nI_clamp (by omega), nI_1]
    by_cases q : i = 0
    · subst q
      rw [if_pos (show nI 0 = 0 from rfl)]
      exact k1
    · rw [if_neg (nI_ne0 (by omega) (by omega))]
      rw [show itW L 0 i = 0 from if_neg q] at k1
      exact k1
theorem e_knots : E_knots Rel := by
  intro σ a1 a2 a3 hR
  obtain ⟨nr, fa, rk, fv, σ', e1, e2, e3, hc, hm, hin, -⟩ := hR.find
  unfold f_GR_knots
  rw [rs_has hc.2.1 hc.1]
  have mk : ∀ x : Int32, (isR nr a1 = true → f_Md_isFigure a2 = 1 → f_Md_in a3.toInt64 0 99 = 1 → False) → ∃ (r : Int64) (σ1 σ2 : Sg), f_GR_knots_30 σ = some (r, σ1) ∧ f_Md_knots σ1 a1 a2 a3 = some (r, σ2) ∧ Rel σ2 := fun _ h => by
    refine ⟨_, σ, σ', rfl, ?_, hR.of e3⟩
    unfold f_Md_knots
    rw [md_hasRope e1 hm, bd_s]
    by_cases c : isR nr a1 = true
    · rw [if_pos c, if_neg (show ¬ (1 : Int32) = 0 by decide)]
      by_cases c2 : f_Md_isFigure a2 = 0
      · rw [if_pos c2]; rfl
      · rw [if_neg c2]
        by_cases c3 : f_Md_in a3.toInt64 0 99 = 0
        · rw [if_pos c3]; rfl
        · refine absurd (h c ?_ ?_) id
          · rcases arg_in a2 10 (by decide) with g | ⟨j, hj, rfl⟩
            · exact absurd (fig_no g).2 c2
            · exact (fig_yes hj).2
          · rcases arg_in a3 100 (by decide) with g | ⟨j, hj, rfl⟩
            · exact absurd (in_no g (by decide)) c3
            · exact in_yes hj (by decide) (by decide)
    · rw [if_neg c, if_pos rfl]; rfl
  by_cases c : isR nr a1 = true
  case neg =>
    rw [if_neg c, if_pos rfl]
    exact mk 0 (fun h => absurd h c)
  rw [if_pos c, if_neg (show ¬ (1 : Int32) = 0 by decide)]
  rcases arg_in a2 10 (by decide) with h | ⟨n, hn, rfl⟩
  · have no := mk 0 (fun _ g => by rw [(fig_no h).2] at g; exact absurd g (by decide))
    have z0 : (0 : Int32).toInt = 0 := by decide
    have z9 : (9 : Int32).toInt = 9 := by decide
    by_cases c1 : a2 < 0
    · rw [if_pos c1]; exact no
    · have c1' : (0 : Int32).toInt ≤ a2.toInt := Int.not_lt.mp (fun q => c1 (Int32.lt_iff_toInt_lt.mpr q))
      rw [if_neg c1, if_pos (show 9 < a2 from Int32.lt_iff_toInt_lt.mpr (by omega))]
      exact no
  rw [if_neg (show ¬ nI n < 0 from nI_pos (by omega)), if_neg (show ¬ 9 < nI n from nI_nlt (a := 9) (by omega) (by omega))]
  rcases arg_in a3 100 (by decide) with h | ⟨v, hv, rfl⟩
  · rw [if_pos (below_no h (by decide))]
    exact mk 0 (fun _ _ g => by rw [in_no h (by decide)] at g; exact absurd g (by decide))
  rw [if_neg (n10 (below_yes hv (by decide) (by decide)))]
  obtain ⟨r, hr, rfl⟩ := isR_nI c hc.1
  have h8 := hc.1
  obtain ⟨L, hL, eL⟩ := hin r 3 hr (by omega)
  have hL : L < 10 := hL
  rw [rs_at (by omega), (hc.2.2 r hr).1 3 (by omega), eL]
  obtain ⟨σ1, k1, k2⟩ := cways_k (σ := σ) hL hn hv
  rw [k1, bd_s]
  have kp1 : Kp σ σ1 := fun i k _ _ => by rw [k2]
  have hR1 : Rel σ1 := hR.of kp1
  obtain ⟨nr', fa', rk', fv', σ2, u1, u2, u3, hc', hm', -, -⟩ := hR1.find
  have hcs : CV nr fa rk σ1 := hc.of (by rw [k2]) (fun i k _ _ => by rw [k2])
  have en : nr' = nr := by
    have := hc'.2.1.symm.trans hcs.2.1
    exact (nI_eq (by have := hc'.1; omega) (by omega)).mp this
  subst en
  have ef : fa' r 3 = nI L := by rw [← eL, ← (hcs.2.2 r hr).1 3 (by omega), (hc'.2.2 r hr).1 3 (by omega)]
  obtain ⟨σ3, x1, x2⟩ := m36 (r := r) (L := L) (n := n) (v := v) (by omega) hL hn hv 100 FU 0 σ2 (by rw [hm'.2.2.1 r 3 hr (by omega), ef]) (fun j hj => by omega) (by omega) (by unfold FU; omega)
  refine ⟨_, σ1, σ3, rfl, ?_, hR1.of (u3.tr (fun i k _ _ => by rw [x2]))⟩
  unfold f_Md_knots
  rw [md_hasRope u1 hm', bd_s, if_pos c, if_neg (show ¬ (1 : Int32) = 0 by decide), if_neg (n10 (fig_yes hn).2), if_neg (n10 (in_yes hv (by decide) (by decide)))]
  exact x1
