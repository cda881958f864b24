/-! settled: the model's groups -/
section
variable {M : Nat → Int32}
theorem sum_loop {σ : Sg} {X : Nat} (hX : X < 32) (hM : ∀ o, o < 5 → σ.1 83 o = M o) : ∀ (d f i : Nat), i + d = 5 → d < f → f_Md_sumOf_4 f σ (nI X) (psm (fun o => if X.testBit o = true then M o else 0) i) (nI i) = some (sS M X) := by
  intro d
  induction d with
  | zero =>
    intro f i hi hf
    obtain ⟨m, rfl⟩ : ∃ m, f = m + 1 := ⟨f - 1, by omega⟩
    have : i = 5 := by omega
    subst this
    rw [f_Md_sumOf_4_s, if_pos (show (5 : Int32) ≤ nI 5 by decide)]
    rfl
  | succ d ih =>
    intro f i hi hf
    obtain ⟨m, rfl⟩ : ∃ m, f = m + 1 := ⟨f - 1, by omega⟩
    have h := ih m (i + 1) (by omega) (by omega)
    have eb : ((nI X >>> (nI i &&& 31)) &&& 1) = if X.testBit i = true then (1 : Int32) else 0 := mk_bit ⟨X, hX⟩ ⟨i, by omega⟩
    have es : psm (fun o => if X.testBit o = true then M o else 0) (i + 1) = psm (fun o => if X.testBit o = true then M o else 0) i + (if X.testBit i = true then M i else 0) := rfl
    rw [f_Md_sumOf_4_s, if_neg (show ¬ (5 : Int32) ≤ nI i from nI_ge (b := 5) (by omega) (by omega)), eb]
    unfold f_Md_sumOf_29
    rw [nI_1, gd_of (vin_nI (show i < 5 by omega) (by decide)), nI_clamp (by omega), hM i (by omega)]
    rw [es] at h
    by_cases c : X.testBit i = true
    · rw [if_pos c] at h ⊢
      rw [if_pos rfl]
      exact h
    · rw [if_neg c] at h ⊢
      rw [if_neg (show ¬ (0 : Int32) = 1 by decide)]
      exact h
theorem sum_k {σ : Sg} {X : Nat} (hX : X < 32) (hM : ∀ o, o < 5 → σ.1 83 o = M o) : f_Md_sumOf σ (nI X) = some (sS M X) := sum_loop hX hM 5 FU 0 (by omega) (by unfold FU; omega)
theorem sb_le {X A : Nat} (h : sbB X A = true) : X ≤ A := by
  unfold sbB at h
  have e : (X &&& A) = X := by simpa using h
  rw [← e]
  exact Nat.and_le_right
theorem sb_nx {h A : Nat} : sbB ((h - 1) &&& A) A = true := by
  unfold sbB
  rw [Nat.and_assoc, Nat.and_self]
  simp
theorem m1_toInt : (-1 : Int32).toInt = -1 := by decide
set_option maxHeartbeats 1000000 in
theorem sg_in {k59 : Sg → Int32 → Int32 → Int32 → Option (Int32 × Sg)} {A w : Nat} {g : Nat → Int} {n : Int32} (hA : A < 32) (hw : w < 32) : ∀ (d f h : Nat) (y : Int) (σ : Sg), h ≤ d → sbB h A = true → d < f → (∀ o, o < 5 → σ.1 83 o = M o) → (∀ X, X < A → (σ.1 84 X).toInt = g X ∧ -1 ≤ g X ∧ g X ≤ X) → (σ.1 84 A).toInt = y → -1 ≤ y → y ≤ A → (∀ X, h < X → okG2 M w g A X → g (dfB A X) + 1 ≤ y) → (0 ≤ y → A = 0 ∨ ∃ X, okG2 M w g A X ∧ y = g (dfB A X) + 1) → ∃ y' σ', f_Md_settledNow_83 k59 f σ (nI w) n (nI A) (nI h) = k59 σ' (nI w) n (nI (A + 1)) ∧ (∀ a b, ¬ (a = 84 ∧ b = A) → σ'.1 a b = σ.1 a b) ∧ (σ'.1 84 A).toInt = y' ∧ y ≤ y' ∧ y' ≤ A ∧ (∀ X, okG2 M w g A X → g (dfB A X) + 1 ≤ y') ∧ (0 ≤ y' → A = 0 ∨ ∃ X, okG2 M w g A X ∧ y' = g (dfB A X) + 1) := by
  intro d
  induction d with
  | zero =>
    intro f h y σ hd hs hf hM hX hy y1 y2 h1 h2
    obtain ⟨m, rfl⟩ : ∃ m, f = m + 1 := ⟨f - 1, by omega⟩
    have : h = 0 := by omega
    subst this
    refine ⟨y, σ, ?_, fun _ _ _ => rfl, hy, Int.le_refl _, y2, fun X q => h1 X q.1 q, h2⟩
    rw [f_Md_settledNow_83_s, if_pos (show nI 0 ≤ 0 by decide), nI_1]
  | succ d ih =>
    intro f h y σ hd hs hf hM hX hy y1 y2 h1 h2
    obtain ⟨m, rfl⟩ : ∃ m, f = m + 1 := ⟨f - 1, by omega⟩
    by_cases h0 : h = 0
    · subst h0
      refine ⟨y, σ, ?_, fun _ _ _ => rfl, hy, Int.le_refl _, y2, fun X q => h1 X q.1 q, h2⟩
      rw [f_Md_settledNow_83_s, if_pos (show nI 0 ≤ 0 by decide), nI_1]
    have hA1 := sb_le hs
    have hn : ((h - 1) &&& A) < h := by
      have : ((h - 1) &&& A) ≤ h - 1 := Nat.and_le_left
      omega
    have en : ((nI h - 1) &&& nI A) = nI ((h - 1) &&& A) := mk_nx ⟨A, hA⟩ ⟨h, by omega⟩ (by show 0 < h; omega)
    have ed : (nI A &&& (nI h ^^^ (-1))) = nI (dfB A h) := mk_df ⟨A, hA⟩ ⟨h, by omega⟩
    have ew : (nI A &&& (nI w ^^^ (-1))) = nI (dfB A w) := mk_df ⟨A, hA⟩ ⟨w, hw⟩
    have dl := df_l hA (by omega) hs (show 0 < h by omega)
    obtain ⟨g1, g2, g3⟩ := hX _ dl
    have vis : ∀ X, ((h - 1) &&& A) < X → okG2 M w g A X → X = h ∨ h < X := fun X q1 q2 => by
      rcases Nat.lt_trichotomy X h with q | q | q
      · have := mk_vis hA (show h < 32 by omega) q2.2.1 q2.2.2.1 hs q
        omega
      · exact Or.inl q
      · exact Or.inr q
    have stp : ∀ (val : Int32) (z : Int), val.toInt = z → y ≤ z → z ≤ A → (okG2 M w g A h → g (dfB A h) + 1 ≤ z) → (0 ≤ z → A = 0 ∨ ∃ X, okG2 M w g A X ∧ z = g (dfB A X) + 1) → ∃ y' σ', f_Md_settledNow_181 k59 (f_Md_settledNow_83 k59 m) σ (nI w) n (nI A) (nI h) val (nI A) = k59 σ' (nI w) n (nI (A + 1)) ∧ (∀ a b, ¬ (a = 84 ∧ b = A) → σ'.1 a b = σ.1 a b) ∧ (σ'.1 84 A).toInt = y' ∧ y ≤ y' ∧ y' ≤ A ∧ (∀ X, okG2 M w g A X → g (dfB A X) + 1 ≤ y') ∧ (0 ≤ y' → A = 0 ∨ ∃ X, okG2 M w g A X ∧ y' = g (dfB A X) + 1) := fun val z z1 z2 z3 z4 z5 => by
      obtain ⟨y', σ', e1, e2, e3, e4, e5⟩ := ih m ((h - 1) &&& A) z (pI σ 84 A val) (by omega) sb_nx (by omega) (fun o ho => by rw [pI_ne (by omega)]; exact hM o ho) (fun X q => by rw [pI_ne (by omega)]; exact hX X q) (by rw [pI_eq]; exact z1) (by omega) z3 (fun X q1 q2 => by
        rcases vis X q1 q2 with q | q
        · subst q; exact z4 q2
        · have := h1 X q q2; omega) z5
      refine ⟨y', σ', ?_, fun a b q => (e2 a b q).trans (pI_ne q), e3, by omega, e5⟩
      unfold f_Md_settledNow_181
      rw [gd_of (vin_nI hA (by decide)), nI_clamp (by omega), en]
      exact e1
    have keep : (okG2 M w g A h → g (dfB A h) + 1 ≤ y) → ∃ y' σ', f_Md_settledNow_175 k59 (f_Md_settledNow_83 k59 m) σ (nI w) n (nI A) (nI h) (nI A) = k59 σ' (nI w) n (nI (A + 1)) ∧ (∀ a b, ¬ (a = 84 ∧ b = A) → σ'.1 a b = σ.1 a b) ∧ (σ'.1 84 A).toInt = y' ∧ y ≤ y' ∧ y' ≤ A ∧ (∀ X, okG2 M w g A X → g (dfB A X) + 1 ≤ y') ∧ (0 ≤ y' → A = 0 ∨ ∃ X, okG2 M w g A X ∧ y' = g (dfB A X) + 1) := fun hk => by
      unfold f_Md_settledNow_175
      rw [gd_of (vin_nI hA (by decide)), nI_clamp (by omega)]
      exact stp _ y hy (Int.le_refl _) y2 hk h2
    rw [f_Md_settledNow_83_s, if_neg (nI_nle (by omega) (by omega)), ew, ed]
    unfold f_Md_settledNow_124 f_Md_settledNow_125
    rw [if_pos (rfl : (0 : Int32) = 0)]
    by_cases cw : sbB A w = true
    · have e0 : dfB A w = 0 := (mk_df0 ⟨A, hA⟩ ⟨w, hw⟩).mpr cw
      rw [if_pos (show nI (dfB A w) = 0 by rw [e0]; rfl), sum_k (by omega) hM, Option.bind_some]
      by_cases cs : sS M h = 0
      · rw [if_pos cs, ed, gd_of (vin_nI (show dfB A h < 32 by omega) (by decide)), gd_of (vin_nI (show dfB A h < 32 by omega) (by decide)), gd_of (vin_nI hA (by decide)), nI_clamp (show dfB A h < 2 ^ 31 by omega), nI_clamp (show A < 2 ^ 31 by omega)]
        by_cases cg : σ.1 84 (dfB A h) = -1
        · rw [if_pos cg]
          exact keep (fun q => by rw [cg, m1_toInt] at g1; have := q.2.2.2.2.2; omega)
        · rw [if_neg cg, if_neg (show ¬ (1 : Int32) = 0 by decide)]
          have gp : 0 ≤ g (dfB A h) := by
            have : ¬ g (dfB A h) = -1 := fun q => cg (Int32.toInt_inj.mp (by rw [g1, q, m1_toInt]))
            omega
          obtain ⟨k, hk⟩ : ∃ k : Nat, g (dfB A h) = k := ⟨(g (dfB A h)).toNat, by omega⟩
          have ek : σ.1 84 (dfB A h) = nI k := of_toInt (by omega) (by omega)
          have e1 : (nI (k + 1)).toInt = k + 1 := by rw [nI_toInt (by omega)]; omega
          rw [ek, nI_1]
          by_cases cl : nI (k + 1) ≤ σ.1 84 A
          · rw [if_pos cl]
            have := Int32.le_iff_toInt_le.mp cl
            exact keep (fun _ => by omega)
          · rw [if_neg cl, gd_of (vin_nI (show dfB A h < 32 by omega) (by decide))]
            have cl' : ¬ (nI (k + 1)).toInt ≤ (σ.1 84 A).toInt := fun q => cl (Int32.le_iff_toInt_le.mpr q)
            exact stp _ (k + 1) e1 (by omega) (by omega) (fun _ => by omega) (fun _ => Or.inr ⟨h, ⟨by omega, by omega, hs, cw, cs, gp⟩, by omega⟩)
      · rw [if_neg cs]
        exact keep (fun q => absurd q.2.2.2.2.1 cs)
    · have e0 : ¬ dfB A w = 0 := fun q => cw ((mk_df0 ⟨A, hA⟩ ⟨w, hw⟩).mp q)
      have := df_32 (X := w) hA
      rw [if_neg (nI_ne0 (by omega) (by omega))]
      exact keep (fun q => absurd q.2.2.2.1 cw)
theorem sg_out {w : Nat} {n : Int32} (hw : w < 32) : ∀ (d f A : Nat) (g : Nat → Int) (σ : Sg), (∀ o, o < 5 → σ.1 83 o = M o) → (∀ X, X < A → (σ.1 84 X).toInt = g X ∧ -1 ≤ g X ∧ g X ≤ X) → GP M w g A → A + d = 32 → d < f → ∃ g' σ', f_Md_settledNow_59 f σ (nI w) n (nI A) = some (n - σ'.1 84 w, σ') ∧ (σ'.1 84 w).toInt = g' w ∧ GP M w g' 32 ∧ (g' w ≤ w) ∧ ∀ a b, a ≠ 84 → σ'.1 a b = σ.1 a b := by
  intro d
  induction d with
  | zero =>
    intro f A g σ hM hX hG hA hf
    obtain ⟨m, rfl⟩ : ∃ m, f = m + 1 := ⟨f - 1, by omega⟩
    have : A = 32 := by omega
    subst this
    obtain ⟨x1, -, x3⟩ := hX w hw
    refine ⟨g, σ, ?_, x1, hG, x3, fun _ _ _ => rfl⟩
    rw [f_Md_settledNow_59_s, if_pos (show (32 : Int32) ≤ nI 32 by decide), gd_of (vin_nI hw (by decide)), nI_clamp (by omega)]
  | succ d ih =>
    intro f A g σ hM hX hG hA hf
    obtain ⟨m, rfl⟩ : ∃ m, f = m + 1 := ⟨f - 1, by omega⟩
    obtain ⟨v, y, e0, v1, v2, v3, v4⟩ : ∃ (v : Int32) (y : Int), f_Md_settledNow_59 (m + 1) σ (nI w) n (nI A) = f_Md_settledNow_83 (f_Md_settledNow_59 m) FU (pI σ 84 A v) (nI w) n (nI A) (nI A) ∧ v.toInt = y ∧ (A = 0 → y = 0) ∧ (A ≠ 0 → y = -1) ∧ y ≤ A := by
      rw [f_Md_settledNow_59_s, if_neg (show ¬ (32 : Int32) ≤ nI A from nI_ge (b := 32) (by omega) (by omega))]
      unfold f_Md_settledNow_79
      rw [gd_of (vin_nI (show A < 32 by omega) (by decide)), gd_of (vin_nI (show A < 32 by omega) (by decide)), nI_clamp (by omega)]
      by_cases c : A = 0
      · subst c
        rw [if_pos (show nI 0 = 0 from rfl)]
        exact ⟨0, 0, rfl, by decide, fun _ => rfl, fun q => absurd rfl q, by omega⟩
      · rw [if_neg (nI_ne0 (by omega) (by omega))]
        exact ⟨-1, -1, rfl, by decide, fun q => absurd q c, fun _ => rfl, by omega⟩
    obtain ⟨y', σ1, e1, e2, e3, e4, e5, e6, e7⟩ := sg_in (M := M) (k59 := f_Md_settledNow_59 m) (A := A) (w := w) (g := g) (n := n) (by omega) hw 32 FU A y (pI σ 84 A v) (by omega) (sb_refl ⟨A, by omega⟩) (by unfold FU; omega) (fun o ho => by rw [pI_ne (by omega)]; exact hM o ho) (fun X q => by rw [pI_ne (by omega)]; exact hX X q) (by rw [pI_eq]; exact v1) (by rcases Nat.eq_zero_or_pos A with c | c <;> omega) v4 (fun X q1 q2 => by have := sb_le q2.2.2.1; omega) (fun q => by
      by_cases c : A = 0
      · exact Or.inl c
      · have := v3 c; omega)
    obtain ⟨g2, gt, gn⟩ : ∃ g2 : Nat → Int, g2 A = y' ∧ ∀ a, a ≠ A → g2 a = g a := ⟨fun a => if a = A then y' else g a, if_pos rfl, fun a q => if_neg q⟩
    have okn : ∀ B X, B < A + 1 → (okG2 M w g2 B X ↔ okG2 M w g B X) ∧ (okG2 M w g B X → g2 (dfB B X) = g (dfB B X)) := fun B X hB => by
      have q : 0 < X → X < 32 → sbB X B = true → g2 (dfB B X) = g (dfB B X) := fun q1 q2 q3 => gn _ (by have := df_l (show B < 32 by omega) q2 q3 q1; omega)
      refine ⟨⟨fun ⟨a1, a2, a3, a4, a5, a6⟩ => ⟨a1, a2, a3, a4, a5, by rw [← q a1 a2 a3]; exact a6⟩, fun ⟨a1, a2, a3, a4, a5, a6⟩ => ⟨a1, a2, a3, a4, a5, by rw [q a1 a2 a3]; exact a6⟩⟩, fun ⟨a1, a2, a3, _⟩ => q a1 a2 a3⟩
    have hG2 : GP M w g2 (A + 1) := by
      refine ⟨?_, fun B b0 b1 => ?_⟩
      · by_cases c : A = 0
        · subst c
          have := v2 rfl
          rw [gt]; omega
        · rw [gn 0 (by omega)]; exact hG.1
      · by_cases c : B = A
        · subst c
          rw [gt]
          refine ⟨fun X q => ?_, fun q => ?_⟩
          · have q' := (okn B X b1).1.mp q
            rw [(okn B X b1).2 q']
            exact e6 X q'
          · rcases e7 q with z | ⟨X, x1, x2⟩
            · omega
            · exact ⟨X, (okn B X b1).1.mpr x1, by rw [(okn B X b1).2 x1]; exact x2⟩
        · rw [gn B c]
          obtain ⟨z1, z2⟩ := hG.2 B b0 (by omega)
          refine ⟨fun X q => ?_, fun q => ?_⟩
          · have q' := (okn B X b1).1.mp q
            rw [(okn B X b1).2 q']
            exact z1 X q'
          · obtain ⟨X, x1, x2⟩ := z2 q
            exact ⟨X, (okn B X b1).1.mpr x1, by rw [(okn B X b1).2 x1]; exact x2⟩
    obtain ⟨g', σ', k1, k2, k3, k4, k5⟩ := ih m (A + 1) g2 σ1 (fun o ho => by rw [e2 _ _ (by omega), pI_ne (by omega)]; exact hM o ho) (fun X q => by
      by_cases c : X = A
      · subst c
        rw [gt]
        refine ⟨e3, ?_, e5⟩
        by_cases c : X = 0
        · have := v2 c; omega
        · have := v3 c; omega
      · rw [gn X c, e2 _ _ (by omega), pI_ne (by omega)]
        exact hX X (by omega)) hG2 (by omega) (by omega)
    refine ⟨g', σ', ?_, k2, k3, k4, fun a b q => by rw [k5 a b q, e2 a b (by omega), pI_ne (by omega)]⟩
    rw [e0]
    exact e1.trans k1
end
