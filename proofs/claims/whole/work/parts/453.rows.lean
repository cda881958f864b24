/-! the mill: rows of ropes, the model -/
def cd (B : Nat) (f : Nat → Nat) : Nat → Nat
  | 0 => 0
  | n + 1 => cd B f n * B + f n
theorem cd_congr {B : Nat} {f g : Nat → Nat} : ∀ n, (∀ p, p < n → f p = g p) → cd B f n = cd B g n
  | 0, _ => rfl
  | n + 1, h => by unfold cd; rw [cd_congr n (fun p hp => h p (by omega)), h n (by omega)]
theorem cd_le {f g : Nat → Nat} : ∀ n, (∀ p, p < n → f p ≤ g p) → cd 10 f n ≤ cd 10 g n
  | 0, _ => Nat.le_refl _
  | n + 1, h => by
    have a := cd_le n (fun p hp => h p (by omega))
    have b := h n (by omega)
    unfold cd
    omega
theorem cd_bd {f : Nat → Nat} : ∀ n, (∀ p, p < n → f p < 10) → cd 10 f n < 10 ^ n
  | 0, _ => by unfold cd; omega
  | n + 1, h => by
    have a := cd_bd n (fun p hp => h p (by omega))
    have b := h n (by omega)
    rw [Nat.pow_succ]
    unfold cd
    omega
theorem cd_inj {f g : Nat → Nat} : ∀ n, (∀ p, p < n → f p < 10) → (∀ p, p < n → g p < 10) → cd 10 f n = cd 10 g n → ∀ p, p < n → f p = g p
  | 0, _, _, _ => fun p hp => by omega
  | n + 1, h1, h2, e => fun p hp => by
    have a := h1 n (by omega)
    have b := h2 n (by omega)
    unfold cd at e
    by_cases c : p = n
    · subst c; omega
    · exact cd_inj n (fun p hp => h1 p (by omega)) (fun p hp => h2 p (by omega)) (by omega) p (by omega)
theorem cd_next {f f' : Nat → Nat} {k : Nat} (he : ∀ p, p < k → f' p = f p) (hk : f k < f' k) : ∀ n, k < n → (∀ p, p < n → f p < 10 ∧ f' p < 10) → cd 10 f n < cd 10 f' n ∧ ∀ g : Nat → Nat, (∀ p, p < n → g p < 10) → (g k ≤ f k ∨ f' k ≤ g k) → (∀ p, k < p → p < n → g p ≤ f p ∧ f' p ≤ g p) → cd 10 g n ≤ cd 10 f n ∨ cd 10 f' n ≤ cd 10 g n
  | 0, h, _ => by omega
  | n + 1, h, hd => by
    obtain ⟨d1, d2⟩ := hd n (by omega)
    unfold cd
    by_cases c : k = n
    · subst c
      have e := cd_congr (B := 10) k he
      rw [e]
      refine ⟨by omega, fun g hg h1 h2 => ?_⟩
      have := hg k (by omega)
      generalize cd 10 g k = y
      generalize cd 10 f k = x
      omega
    · obtain ⟨a, b⟩ := cd_next he hk n (by omega) (fun p hp => hd p (by omega))
      refine ⟨by omega, fun g hg h1 h2 => ?_⟩
      have q := h2 n (by omega) (by omega)
      rcases b g (fun p hp => hg p (by omega)) h1 (fun p p1 p2 => h2 p p1 (by omega)) with b | b
      · left; omega
      · right; omega
section
variable {R np lim : Nat} {F : Nat → Nat → Nat} {W K : Nat → Nat} {wo : Int32} {σ σ' : Sg}
/-- ropes and parts as the model holds them -/
def MW (R : Nat) (F : Nat → Nat → Nat) (np lim : Nat) (W K : Nat → Nat) (σ : Sg) : Prop := R ≤ 9 ∧ np ≤ 5 ∧ lim ≤ 999 ∧ (∀ p, W p < 10 ∧ K p < 10) ∧ (∀ r k, r < R → k < 5 → F r k < 10 ∧ σ.1 73 (6 * r + k) = nI (F r k)) ∧ σ.1 66 18 = nI np ∧ σ.1 75 2 = nI lim ∧ ∀ p, p < np → σ.1 78 p = nI (W p) ∧ σ.1 79 p = nI (K p)
def KS (σ σ' : Sg) : Prop := ∀ i k, i ≠ 80 → i ≠ 81 → i ≠ 82 → ¬ (i = 66 ∧ (k = 24 ∨ k = 25)) → σ'.1 i k = σ.1 i k
def K80 (σ σ' : Sg) : Prop := ∀ i k, i ≠ 80 → σ'.1 i k = σ.1 i k
def K82 (σ σ' : Sg) : Prop := ∀ i k, i ≠ 82 → σ'.1 i k = σ.1 i k
theorem KS.rf : KS σ σ := fun _ _ _ _ _ _ => rfl
theorem KS.tr {σ σ' σ'' : Sg} (h1 : KS σ σ') (h2 : KS σ' σ'') : KS σ σ'' := fun i k a b c d => (h2 i k a b c d).trans (h1 i k a b c d)
theorem K80.ks (h : K80 σ σ') : KS σ σ' := fun i k a _ _ _ => h i k a
theorem K82.ks (h : K82 σ σ') : KS σ σ' := fun i k _ _ c _ => h i k c
theorem MW.of (h : MW R F np lim W K σ) (e : KS σ σ') : MW R F np lim W K σ' := by
  obtain ⟨h1, h2, h3, h4, h5, h6, h7, h8⟩ := h
  refine ⟨h1, h2, h3, h4, fun r k hr hk => ?_, (e _ _ (by omega) (by omega) (by omega) (by omega)).trans h6, (e _ _ (by omega) (by omega) (by omega) (by omega)).trans h7, fun p hp => ?_⟩
  · rw [e _ _ (by omega) (by omega) (by omega) (by omega)]; exact h5 r k hr hk
  · rw [e _ _ (by omega) (by omega) (by omega) (by omega), e _ _ (by omega) (by omega) (by omega) (by omega)]; exact h8 p hp
theorem six_k {r k : Nat} : (6 * nI r + nI k : Int32) = nI (6 * r + k) := by rw [show (6 : Int32) = nI 6 from rfl, pk_mul, nI_add]
theorem mayGo_1 (h : MW R F np lim W K σ) {r p : Nat} (hr : r < R) (hp : p < np) : (al F W K wo r p → f_Md_mayGo σ (nI p) (nI r) wo = some 1) ∧ (¬ al F W K wo r p → f_Md_mayGo σ (nI p) (nI r) wo = some 0) := by
  obtain ⟨h1, h2, h3, h4, h5, h6, h7, h8⟩ := h
  obtain ⟨w1, k1⟩ := h4 p
  obtain ⟨a2, b2⟩ := h5 r 2 hr (by omega)
  obtain ⟨a3, b3⟩ := h5 r 3 hr (by omega)
  obtain ⟨q1, q2⟩ := h8 p hp
  have e2 : (6 * nI r + 2 : Int32) = nI (6 * r + 2) := six_k (k := 2)
  have e3 : (6 * nI r + 3 : Int32) = nI (6 * r + 3) := six_k (k := 3)
  have k2 : (nI (F r 2) = nI (K p)) ↔ F r 2 = K p := nI_eq (by omega) (by omega)
  have k3 : (nI (F r 3) < nI (W p)) ↔ F r 3 < W p := nI_ltI (by omega) (by omega)
  unfold f_Md_mayGo
  rw [e2, e3, gd_of (vin_nI (by omega) (by decide)), gd_of (vin_nI (show p < 5 by omega) (by decide)), gd_of (vin_nI (by omega) (by decide)), gd_of (vin_nI (show p < 5 by omega) (by decide)), nI_clamp (by omega), nI_clamp (by omega), nI_clamp (by omega), b2, b3, q1, q2]
  simp only [k2, k3]
  unfold al ok1
  constructor
  · rintro ⟨g1, g2, g3⟩
    rw [if_neg g1, if_pos g2, if_neg (by omega)]
  · intro g
    by_cases g1 : nI r = wo
    · rw [if_pos g1]
    · rw [if_neg g1]
      by_cases g2 : F r 2 = K p
      · rw [if_pos g2]
        have : ¬ W p ≤ F r 3 := fun q => g ⟨g1, g2, q⟩
        rw [if_pos (by omega)]
      · rw [if_neg g2]
theorem next_5 (h : MW R F np lim W K σ) {p : Nat} (hp : p < np) : ∀ (d f s : Nat), s + d = R → d < f → (∃ r, s ≤ r ∧ r < R ∧ al F W K wo r p ∧ (∀ q, s ≤ q → q < r → ¬ al F W K wo q p) ∧ f_Md_nextRope_5 f σ (nI p) (nI R) wo (nI s) = some (nI r)) ∨ ((∀ q, s ≤ q → q < R → ¬ al F W K wo q p) ∧ f_Md_nextRope_5 f σ (nI p) (nI R) wo (nI s) = some (-1)) := by
  have h9 := h.1
  intro d
  induction d with
  | zero =>
    intro f s hs hf
    obtain ⟨m, rfl⟩ : ∃ m, f = m + 1 := ⟨f - 1, by omega⟩
    exact Or.inr ⟨fun q q1 q2 => by omega, by rw [f_Md_nextRope_5_s, if_pos (nI_le (by omega) (by omega))]⟩
  | succ d ih =>
    intro f s hs hf
    obtain ⟨m, rfl⟩ : ∃ m, f = m + 1 := ⟨f - 1, by omega⟩
    rw [f_Md_nextRope_5_s, if_neg (nI_ge (by omega) (by omega)), nI_1]
    have mg := mayGo_1 (wo := wo) h (r := s) (p := p) (by omega) hp
    by_cases c : al F W K wo s p
    · rw [mg.1 c, Option.bind_some, if_neg (show ¬ (1 : Int32) = 0 by decide)]
      exact Or.inl ⟨s, Nat.le_refl _, by omega, c, fun q q1 q2 => by omega, rfl⟩
    · rw [mg.2 c, Option.bind_some, if_pos rfl]
      rcases ih m (s + 1) (by omega) (by omega) with ⟨r, r1, r2, r3, r4, r5⟩ | ⟨r1, r2⟩
      · exact Or.inl ⟨r, by omega, r2, r3, fun q q1 q2 => by
          by_cases z : q = s
          · subst z; exact c
          · exact r4 q (by omega) q2, r5⟩
      · exact Or.inr ⟨fun q q1 q2 => by
          by_cases z : q = s
          · subst z; exact c
          · exact r1 q (by omega) q2, r2⟩
/-- the first rope for a part, the next one behind x -/
theorem first_k (h : MW R F np lim W K σ) {p : Nat} (hp : p < np) : (∃ r, r < R ∧ al F W K wo r p ∧ (∀ q, q < r → ¬ al F W K wo q p) ∧ f_Md_nextRope σ (nI p) (-1) (nI R) wo = some (nI r)) ∨ ((∀ q, q < R → ¬ al F W K wo q p) ∧ f_Md_nextRope σ (nI p) (-1) (nI R) wo = some (-1)) := by
  have h9 := h.1
  have e : ((-1 : Int32) + 1) = nI 0 := by decide
  unfold f_Md_nextRope
  rw [e]
  rcases next_5 (wo := wo) h hp R FU 0 (by omega) (by unfold FU; omega) with ⟨r, -, r2, r3, r4, r5⟩ | ⟨r1, r2⟩
  · exact Or.inl ⟨r, r2, r3, fun q hq => r4 q (by omega) hq, r5⟩
  · exact Or.inr ⟨fun q hq => r1 q (by omega) hq, r2⟩
theorem behind_k (h : MW R F np lim W K σ) {p x : Nat} (hp : p < np) (hx : x < R) : (∃ r, x < r ∧ r < R ∧ al F W K wo r p ∧ (∀ q, x < q → q < r → ¬ al F W K wo q p) ∧ f_Md_nextRope σ (nI p) (nI x) (nI R) wo = some (nI r)) ∨ ((∀ q, x < q → q < R → ¬ al F W K wo q p) ∧ f_Md_nextRope σ (nI p) (nI x) (nI R) wo = some (-1)) := by
  have h9 := h.1
  unfold f_Md_nextRope
  rw [nI_1]
  rcases next_5 (wo := wo) h hp (R - (x + 1)) FU (x + 1) (by omega) (by unfold FU; omega) with ⟨r, r1, r2, r3, r4, r5⟩ | ⟨r1, r2⟩
  · exact Or.inl ⟨r, by omega, r2, r3, fun q q1 q2 => r4 q (by omega) q2, r5⟩
  · exact Or.inr ⟨fun q q1 q2 => r1 q (by omega) q2, r2⟩
/-- a row of ropes, each for its part -/
def vr (F : Nat → Nat → Nat) (W K : Nat → Nat) (wo : Int32) (R np : Nat) (f : Nat → Nat) : Prop := ∀ p, p < np → f p < R ∧ al F W K wo (f p) p
def row (c np : Nat) (f : Nat → Nat) (σ : Sg) : Prop := ∀ p, p < np → σ.1 c p = nI (f p)
theorem goes_83 : ∀ (d f p : Nat) (σ : Sg), MW R F np lim W K σ → p + d = np → d < f → ∃ ok σ', f_Md_goesOn_83 f σ (nI R) wo (nI p) = some (ok, σ') ∧ K80 σ σ' ∧ (∀ q, q < p → σ'.1 80 q = σ.1 80 q) ∧ ((ok = 1 ∧ ∃ g : Nat → Nat, ∀ q, p ≤ q → q < np → σ'.1 80 q = nI (g q) ∧ g q < R ∧ al F W K wo (g q) q ∧ ∀ r, r < g q → ¬ al F W K wo r q) ∨ (ok = 0 ∧ ∃ q, q < np ∧ p ≤ q ∧ ∀ r, r < R → ¬ al F W K wo r q)) := by
  intro d
  induction d with
  | zero =>
    intro f p σ h hp hf
    have n5 := h.2.1
    obtain ⟨m, rfl⟩ : ∃ m, f = m + 1 := ⟨f - 1, by omega⟩
    exact ⟨1, σ, by rw [f_Md_goesOn_83_s, h.2.2.2.2.2.1, if_pos (nI_le (by omega) (by omega))], fun _ _ _ => rfl, fun _ _ => rfl, Or.inl ⟨rfl, fun _ => 0, fun q q1 q2 => by omega⟩⟩
  | succ d ih =>
    intro f p σ h hp hf
    have n5 := h.2.1
    have h9 := h.1
    obtain ⟨m, rfl⟩ : ∃ m, f = m + 1 := ⟨f - 1, by omega⟩
    rw [f_Md_goesOn_83_s, h.2.2.2.2.2.1, if_neg (nI_ge (by omega) (by omega))]
    rcases first_k (wo := wo) h (p := p) (by omega) with ⟨r, r1, r2, r3, r4⟩ | ⟨r1, r2⟩
    · have hk : K80 σ (pI σ 80 p (nI r)) := fun x y q => pI_ne (by omega)
      obtain ⟨ok, σ', e1, e2, e3, e4⟩ := ih m (p + 1) (pI σ 80 p (nI r)) (h.of hk.ks) (by omega) (by omega)
      rw [r4, Option.bind_some, gd_of (vin_nI (show p < 5 by omega) (by decide)), gd_of (vin_nI (show p < 5 by omega) (by decide)), nI_clamp (by omega), pI_eq, if_neg (nI_m1 (by omega)), nI_1]
      refine ⟨ok, σ', e1, fun x y q => (e2 x y q).trans (hk x y q), fun q hq => by rw [e3 q (by omega), pI_ne (by omega)], ?_⟩
      rcases e4 with ⟨e4, g, hg⟩ | ⟨e4, q, q1, q2, q3⟩
      · refine Or.inl ⟨e4, fun q => if q = p then r else g q, fun q q1 q2 => ?_⟩
        by_cases z : q = p
        · subst z
          simp only [if_pos rfl]
          exact ⟨by rw [e3 q (by omega), pI_eq]; simp, r1, r2, r3⟩
        · simp only [if_neg z]
          exact hg q (by omega) q2
      · exact Or.inr ⟨e4, q, q1, by omega, q3⟩
    · rw [r2, Option.bind_some, gd_of (vin_nI (show p < 5 by omega) (by decide)), gd_of (vin_nI (show p < 5 by omega) (by decide)), nI_clamp (by omega), pI_eq, if_pos rfl]
      exact ⟨0, _, rfl, fun x y q => pI_ne (by omega), fun q hq => pI_ne (by omega), Or.inr ⟨rfl, p, by omega, Nat.le_refl _, r1⟩⟩
/-- the first row -/
theorem goes_first (h : MW R F np lim W K σ) : ∃ ok σ', f_Md_goesOn σ 1 (nI R) wo = some (ok, σ') ∧ K80 σ σ' ∧ ((ok = 1 ∧ ∃ f, row 80 np f σ' ∧ vr F W K wo R np f ∧ ∀ g, vr F W K wo R np g → cd 10 f np ≤ cd 10 g np) ∨ (ok = 0 ∧ ∀ g, ¬ vr F W K wo R np g)) := by
  have n5 := h.2.1
  have e : ((-1 : Int32) + 1) = nI 0 := by decide
  unfold f_Md_goesOn f_Md_goesOn_77
  rw [if_neg (show ¬ (1 : Int32) = 0 by decide), e]
  obtain ⟨ok, σ', e1, e2, -, e4⟩ := goes_83 (wo := wo) np FU 0 σ h (by omega) (by unfold FU; omega)
  refine ⟨ok, σ', e1, e2, ?_⟩
  rcases e4 with ⟨e4, g, hg⟩ | ⟨e4, q, q1, q2, q3⟩
  · refine Or.inl ⟨e4, g, fun p hp => (hg p (by omega) hp).1, fun p hp => ⟨(hg p (by omega) hp).2.1, (hg p (by omega) hp).2.2.1⟩, fun f hf => cd_le np (fun p hp => ?_)⟩
    apply Nat.le_of_not_lt
    intro z
    exact (hg p (by omega) hp).2.2.2 _ z (hf p hp).2
  · exact Or.inr ⟨e4, fun f hf => q3 _ (hf q q1).1 (hf q q1).2⟩
/-- the row behind -/
theorem goes_12 {f : Nat → Nat} (h : MW R F np lim W K σ) (hrow : row 80 np f σ) (hv : vr F W K wo R np f) : ∀ (m fu : Nat), m ≤ np → m < fu → (∀ p, m ≤ p → p < np → ∀ q, f p < q → q < R → ¬ al F W K wo q p) → ∃ ok σ', f_Md_goesOn_12 fu σ (nI R) wo (nI m + (-1)) = some (ok, σ') ∧ K80 σ σ' ∧ ((ok = 1 ∧ ∃ f', row 80 np f' σ' ∧ vr F W K wo R np f' ∧ cd 10 f np < cd 10 f' np ∧ ∀ g, vr F W K wo R np g → cd 10 g np ≤ cd 10 f np ∨ cd 10 f' np ≤ cd 10 g np) ∨ (ok = 0 ∧ ∀ g, vr F W K wo R np g → cd 10 g np ≤ cd 10 f np)) := by
  have n5 := h.2.1
  have h9 := h.1
  intro m
  induction m with
  | zero =>
    intro fu hm hf hn
    obtain ⟨z, rfl⟩ : ∃ z, fu = z + 1 := ⟨fu - 1, by omega⟩
    have e : (nI 0 + (-1) : Int32) < 0 := by decide
    have e2 : ¬ (0 : Int32) ≤ nI 0 + (-1) := by decide
    refine ⟨0, σ, ?_, fun _ _ _ => rfl, Or.inr ⟨rfl, fun g hg => cd_le np (fun p hp => ?_)⟩⟩
    · rw [f_Md_goesOn_12_s, if_pos e]
      unfold f_Md_goesOn_42
      rw [if_neg e2]
    · apply Nat.le_of_not_lt
      intro q
      exact hn p (by omega) hp _ q (hg p hp).1 (hg p hp).2
  | succ m ih =>
    intro fu hm hf hn
    obtain ⟨z, rfl⟩ : ∃ z, fu = z + 1 := ⟨fu - 1, by omega⟩
    have hfm := hv m (by omega)
    rw [f_Md_goesOn_12_s, pk_m1, if_neg (nI_pos (by omega)), gd_of (vin_nI (show m < 5 by omega) (by decide)), nI_clamp (by omega), hrow m (by omega)]
    rcases behind_k (wo := wo) h (p := m) (x := f m) (by omega) hfm.1 with ⟨r, r1, r2, r3, r4, r5⟩ | ⟨r1, r2⟩
    · rw [r5, Option.bind_some, if_neg (nI_m1 (by omega))]
      unfold f_Md_goesOn_42 f_Md_goesOn_77
      rw [if_pos (nI_pos' (by omega)), gd_of (vin_nI (show m < 5 by omega) (by decide)), nI_clamp (by omega), hrow m (by omega), r5, Option.bind_some, gd_of (vin_nI (show m < 5 by omega) (by decide)), nI_1]
      have hk : K80 σ (pI σ 80 m (nI r)) := fun x y q => pI_ne (by omega)
      obtain ⟨ok, σ', e1, e2, e3, e4⟩ := goes_83 (wo := wo) (np - (m + 1)) FU (m + 1) (pI σ 80 m (nI r)) (h.of hk.ks) (by omega) (by unfold FU; omega)
      refine ⟨ok, σ', e1, fun x y q => (e2 x y q).trans (hk x y q), Or.inl ?_⟩
      rcases e4 with ⟨e4, g, hg⟩ | ⟨e4, q, q1, q2, q3⟩
      · obtain ⟨f', f1, f2, f3⟩ : ∃ f' : Nat → Nat, (∀ p, p < m → f' p = f p) ∧ f' m = r ∧ ∀ p, m < p → f' p = g p := ⟨fun p => if p < m then f p else if p = m then r else g p, fun p q => if_pos q, by simp, fun p q => by simp [show ¬ p < m by omega, show ¬ p = m by omega]⟩
        have hv' : vr F W K wo R np f' := fun p hp => by
          rcases Nat.lt_trichotomy p m with q | q | q
          · rw [f1 p q]; exact hv p hp
          · subst q; rw [f2]; exact ⟨r2, r3⟩
          · rw [f3 p q]; exact ⟨(hg p (by omega) hp).2.1, (hg p (by omega) hp).2.2.1⟩
        obtain ⟨c1, c2⟩ := cd_next (f := f) (f' := f') (k := m) f1 (by rw [f2]; exact r1) np (by omega) (fun p hp => by
          have := (hv p hp).1
          have := (hv' p hp).1
          omega)
        refine ⟨e4, f', fun p hp => ?_, hv', c1, fun w hw => c2 w (fun p hp => by have := (hw p hp).1; omega) ?_ (fun p p1 p2 => ⟨?_, ?_⟩)⟩
        · rcases Nat.lt_trichotomy p m with q | q | q
          · rw [e3 p (by omega), pI_ne (by omega), f1 p q]; exact hrow p hp
          · subst q; rw [e3 p (by omega), pI_eq, f2]
          · rw [f3 p q]; exact (hg p (by omega) hp).1
        · rw [f2]
          have hwm := hw m (by omega)
          by_cases q1 : w m ≤ f m
          · exact Or.inl q1
          · right
            apply Nat.le_of_not_lt
            intro q2
            exact r4 _ (by omega) q2 hwm.2
        · apply Nat.le_of_not_lt
          intro q
          exact hn p (by omega) p2 _ q (hw p p2).1 (hw p p2).2
        · rw [f3 p p1]
          apply Nat.le_of_not_lt
          intro q
          exact (hg p (by omega) p2).2.2.2 _ q (hw p p2).2
      · exact absurd (hv q q1).2 (q3 _ (hv q q1).1)
    · rw [r2, Option.bind_some, if_pos rfl]
      exact ih z (by omega) (by omega) (fun p p1 p2 => by
        by_cases q : p = m
        · subst q; exact r1
        · exact hn p (by omega) p2)
theorem goes_next {f : Nat → Nat} (h : MW R F np lim W K σ) (hrow : row 80 np f σ) (hv : vr F W K wo R np f) : ∃ ok σ', f_Md_goesOn σ 0 (nI R) wo = some (ok, σ') ∧ K80 σ σ' ∧ ((ok = 1 ∧ ∃ f', row 80 np f' σ' ∧ vr F W K wo R np f' ∧ cd 10 f np < cd 10 f' np ∧ ∀ g, vr F W K wo R np g → cd 10 g np ≤ cd 10 f np ∨ cd 10 f' np ≤ cd 10 g np) ∨ (ok = 0 ∧ ∀ g, vr F W K wo R np g → cd 10 g np ≤ cd 10 f np)) := by
  have n5 := h.2.1
  unfold f_Md_goesOn
  rw [if_pos rfl, h.2.2.2.2.2.1, show (nI np - 1 : Int32) = nI np + (-1) from Int32.sub_eq_add_neg _ _]
  exact goes_12 h hrow hv np FU (Nat.le_refl _) (by unfold FU; omega) (fun p p1 p2 => by omega)
end
