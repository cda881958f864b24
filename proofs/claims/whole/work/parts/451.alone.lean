/-! the mill: one rope alone, the class -/
theorem mk_new : ∀ p : Fin 5, ∀ i : Fin 16, i.val < 2 ^ p.val → (2 ^ p.val + i.val).testBit p.val = true ∧ rmB (2 ^ p.val + i.val) p.val = i.val ∧ 2 ^ p.val + i.val < 32 := by decide +kernel
theorem mk_sh1 : ∀ p : Fin 6, ((1 : Int32) <<< (nI p.val &&& 31)) = nI (2 ^ p.val) := by decide +kernel
theorem mk_bc : ∀ s : Fin 32, f_JI_bitCount (nI s.val) = nI (pcS s.val) ∧ pcS s.val ≤ 5 := by decide +kernel
theorem mk_rs : ∀ p : Fin 5, f_Mi_rowShift (nI p.val) = nI (3 * (4 - p.val)) ∧ 3 * (4 - p.val) < 32 ∧ 2 ^ (3 * (4 - p.val)) ≤ 4096 := by decide +kernel
theorem p2_16 : ∀ p : Fin 5, 2 ^ p.val ≤ 16 := by decide +kernel
theorem p2_32 : ∀ p : Fin 6, 2 ^ p.val ≤ 32 := by decide +kernel
/-- a rope's cell -/
def RC (c : Nat) (a : Nat → Nat) (σ : Sg) : Prop := (∀ k, k < 5 → a k < 10) ∧ σ.1 c 2 = nI (a 2) ∧ σ.1 c 3 = nI (a 3) ∧ σ.1 c 4 = nI (a 4) ∧ σ.1 c 7 = nI (a 1 - a 0) ∧ σ.1 c 8 = nI (a 0 - a 1)
/-- the parts in the class -/
def CM (np : Nat) (W K : Nat → Nat) (σ : Sg) : Prop := np ≤ 5 ∧ (∀ p, W p < 10 ∧ K p < 10) ∧ σ.1 43 5 = nI np ∧ ∀ p, p < np → σ.1 44 p = nI (W p) ∧ σ.1 45 p = nI (K p)
def K47 (σ σ' : Sg) : Prop := ∀ i k, i ≠ 47 → σ'.1 i k = σ.1 i k
section
variable {c np num lim p : Nat} {a W K : Nat → Nat} {σ σ' : Sg}
theorem RC.of (h : RC c a σ) (e : ∀ k, σ'.1 c k = σ.1 c k) : RC c a σ' := by
  unfold RC
  simp only [e]
  exact h
theorem CM.of (h : CM np W K σ) (e1 : σ'.1 43 5 = σ.1 43 5) (e2 : ∀ p, σ'.1 44 p = σ.1 44 p) (e3 : ∀ p, σ'.1 45 p = σ.1 45 p) : CM np W K σ' := ⟨h.1, h.2.1, e1.trans h.2.2.1, fun p hp => by rw [e2, e3]; exact h.2.2.2 p hp⟩
theorem fare_1 (h : RC c a σ) (w : Nat) : f_Ro_fare σ c 0 (nI w) = nI (cs1 a w) := by
  unfold f_Ro_fare cs1
  rw [if_pos rfl, h.2.2.2.1, h.2.2.2.2.1, nI_1, pk_mul, nI_add]
theorem min_0 (h : RC c a σ) : f_Ro_minutes σ c 0 = nI (m01 a) := by
  unfold f_Ro_minutes m01
  rw [if_pos rfl, h.2.2.2.2.1, show (2 : Int32) = nI 2 from rfl, show (12 : Int32) = nI 12 from rfl, pk_mul, nI_add]
theorem min_1 (h : RC c a σ) : f_Ro_minutes σ c 1 = nI (m11 a) := by
  unfold f_Ro_minutes m11
  rw [if_neg (show ¬ (1 : Int32) = 0 by decide), h.2.2.2.2.2, show (2 : Int32) = nI 2 from rfl, show (12 : Int32) = nI 12 from rfl, pk_mul, nI_add]
theorem time_1 (h : RC c a σ) {n : Nat} (hn : n < 2 ^ 31) : f_Mi_timeOf σ c (nI n) = nI (tm1 a n) := by
  unfold f_Mi_timeOf tm1
  by_cases c0 : n = 0
  · subst c0
    rw [if_neg (show ¬ (1 : Int32) ≤ nI 0 by decide), Nat.zero_mul, Nat.zero_sub, Nat.zero_mul]
    rfl
  · rw [if_pos (show (1 : Int32) ≤ nI n from nI_le (a := 1) (by omega) hn), min_0 h, min_1 h, show (nI n - 1 : Int32) = nI (n - 1) from pk_sub (b := 1) (by omega), pk_mul, pk_mul, nI_add]
theorem cs1_le (ha : ∀ k, k < 5 → a k < 10) {w : Nat} (hw : w < 10) : cs1 a w ≤ 99 := by
  have h1 : a 4 * (w + 1) ≤ 9 * 10 := Nat.mul_le_mul (by have := ha 4 (by omega); omega) (by omega)
  have h2 := ha 1 (by omega)
  unfold cs1
  omega
theorem tm1_le (ha : ∀ k, k < 5 → a k < 10) {n : Nat} (hn : n ≤ 6) : tm1 a n ≤ 360 := by
  have h0 := ha 0 (by omega)
  have h1 := ha 1 (by omega)
  have a1 : n * m01 a ≤ 6 * 30 := Nat.mul_le_mul hn (by unfold m01; omega)
  have a2 : (n - 1) * m11 a ≤ 6 * 30 := Nat.mul_le_mul (by omega) (by unfold m11; omega)
  unfold tm1
  omega
theorem ky1_le (ha : ∀ k, k < 5 → a k < 10) (hw : ∀ p, W p < 10) (hn : num ≤ 7) (hp : p < 5) : ky1 W a num p ≤ 3300000 := by
  have h1 := cs1_le ha (hw p)
  have h2 : num * 2 ^ (3 * (4 - p)) ≤ 7 * 4096 := Nat.mul_le_mul hn (mk_rs ⟨p, hp⟩).2.2
  unfold ky1
  omega
theorem fsk_lt {X : Nat} (ha : ∀ k, k < 5 → a k < 10) (hw : ∀ p, W p < 10) (hn : num ≤ 7) : fs X (ky1 W a num) ≤ 16500000 := fs_le (m := 3300000) (fun p hp _ => ky1_le ha hw hn hp)
theorem key_1 (h : RC c a σ) (hm : CM np W K σ) (hp : p < np) (hn : num ≤ 7) : (ok1 W K a p → f_Mi_keyOf σ c (nI num) (nI p) = nI (ky1 W a num p)) ∧ (¬ ok1 W K a p → f_Mi_keyOf σ c (nI num) (nI p) = nI NW) := by
  obtain ⟨n5, hWK, -, hq⟩ := hm
  have hp5 : p < 5 := by omega
  obtain ⟨hw, hk⟩ := hWK p
  obtain ⟨q1, q2⟩ := hq p hp
  have a2 := h.1 2 (by omega)
  have a3 := h.1 3 (by omega)
  have c1 := cs1_le h.1 hw
  obtain ⟨r1, r2, r3⟩ := mk_rs ⟨p, hp5⟩
  have h2 : num * 2 ^ (3 * (4 - p)) ≤ 7 * 4096 := Nat.mul_le_mul hn r3
  have k1 : (nI (a 2) = nI (K p)) ↔ a 2 = K p := nI_eq (by omega) (by omega)
  have k2 : (nI (W p) ≤ nI (a 3)) ↔ W p ≤ a 3 := nI_leI (by omega) (by omega)
  have e1 : (nI (cs1 a (W p)) <<< ((15 : Int32) &&& 31)) = nI (cs1 a (W p) * 2 ^ 15) := pk_shlN _ 15 (by decide) (by omega)
  have e2 : (nI num <<< (nI (3 * (4 - p)) &&& 31)) = nI (num * 2 ^ (3 * (4 - p))) := pk_shlN _ _ (s_l _ r2) (by omega)
  have r1' : f_Mi_rowShift (nI p) = nI (3 * (4 - p)) := r1
  have nw : (268435456 : Int32) = nI NW := rfl
  unfold f_Mi_keyOf
  rw [if_neg (n10 (below_yes (n := 5) hp5 (by decide) (by decide))), nI_clamp (show p < 2 ^ 31 by omega), h.2.1, h.2.2.1, q1, q2, fare_1 h, r1', e1, e2, nI_add, nw]
  simp only [k1, k2]
  unfold ok1
  constructor
  · rintro ⟨g1, g2⟩
    rw [if_pos g1, if_pos g2]
    rfl
  · intro g
    by_cases g1 : a 2 = K p
    · rw [if_pos g1, if_neg (fun g2 => g ⟨g1, g2⟩)]
    · rw [if_neg g1]
theorem okA_new {i : Nat} (hp : p < 5) (hi : i < 2 ^ p) : (okA a W K lim (2 ^ p + i) ↔ okA a W K lim i ∧ ok1 W K a p ∧ tm1 a (pcS i + 1) ≤ lim) ∧ fs (2 ^ p + i) (ky1 W a num) = fs i (ky1 W a num) + ky1 W a num p := by
  have i16 : i < 16 := Nat.lt_of_lt_of_le hi (p2_16 ⟨p, hp⟩)
  obtain ⟨b1, b2, b3⟩ := mk_new ⟨p, hp⟩ ⟨i, i16⟩ hi
  have b1' : (2 ^ p + i).testBit p = true := b1
  have b2' : rmB (2 ^ p + i) p = i := b2
  have b3' : 2 ^ p + i < 32 := b3
  have ek : ∀ u : Nat → Nat, fs (2 ^ p + i) u = fs i u + u p := fun u => by
    have := fs_rm (u := u) b3' hp b1'
    rw [b2'] at this
    exact this
  have et : ∀ q, q < 5 → i.testBit q = ((2 ^ p + i).testBit q && decide (q ≠ p)) := fun q hq => by
    have := rm_t b3' hp hq
    rw [b2'] at this
    exact this
  refine ⟨⟨fun h => ⟨⟨fun q hq hb => h.1 q hq ?_, ?_⟩, h.1 p hp b1', ?_⟩, fun ⟨h1, h2, h3⟩ => ⟨fun q hq hb => ?_, ?_⟩⟩, ek _⟩
  · rw [et q hq] at hb
    cases z : (2 ^ p + i).testBit q
    · rw [z] at hb; exact absurd hb (by simp)
    · rfl
  · have := h.2
    unfold pcS at this ⊢
    rw [ek] at this
    exact Nat.le_trans (tm1_mono (by omega)) this
  · have := h.2
    unfold pcS at this ⊢
    rw [ek] at this
    exact this
  · by_cases z : q = p
    · subst z; exact h2
    · refine h1.1 q hq ?_
      rw [et q hq, hb, decide_eq_true z]; rfl
  · unfold pcS at h3 ⊢
    rw [ek]
    exact h3
set_option maxHeartbeats 1000000 in
theorem alone_42 {k10 : Sg → Nat → Int32 → Int32 → Int32 → Option Sg} {kv : Int32} {av : Nat → Nat} (hav : AP a W K lim num av) (hc47 : c ≠ 47) (hn : num ≤ 7) (hl : lim ≤ 999) (hp : p < np) (hkv : (ok1 W K a p → kv = nI (ky1 W a num p)) ∧ (¬ ok1 W K a p → kv = nI NW)) : ∀ (d f i : Nat) (σ : Sg), RC c a σ → CM np W K σ → (∀ X, X < 2 ^ p + i → σ.1 47 X = nI (av X)) → i + d = 2 ^ p → d < f → ∃ σ', f_Mi_reckonAlone_42 k10 f σ c (nI num) (nI lim) (nI p) (nI (2 ^ p)) kv (nI i) = k10 σ' c (nI num) (nI lim) (nI p + 1) ∧ K47 σ σ' ∧ ∀ X, X < 2 ^ (p + 1) → σ'.1 47 X = nI (av X) := by
  intro d
  induction d with
  | zero =>
    intro f i σ hr hm hX hi hf
    have hp5 : p < 5 := by have := hm.1; omega
    have p16 := p2_16 ⟨p, hp5⟩
    have p16' : 2 ^ p ≤ 16 := p16
    obtain ⟨m, rfl⟩ : ∃ m, f = m + 1 := ⟨f - 1, by omega⟩
    refine ⟨σ, by rw [f_Mi_reckonAlone_42_s, if_pos (nI_le (by omega) (by omega))], fun _ _ _ => rfl, fun X q => hX X ?_⟩
    rw [Nat.pow_succ] at q
    omega
  | succ d ih =>
    intro f i σ hr hm hX hi hf
    have hp5 : p < 5 := by have := hm.1; omega
    have p16' : 2 ^ p ≤ 16 := p2_16 ⟨p, hp5⟩
    obtain ⟨m, rfl⟩ : ∃ m, f = m + 1 := ⟨f - 1, by omega⟩
    obtain ⟨bc, pc5⟩ := mk_bc ⟨i, by omega⟩
    have bc' : f_JI_bitCount (nI i) = nI (pcS i) := bc
    have pc5' : pcS i ≤ 5 := pc5
    have tl := tm1_le hr.1 (n := pcS i + 1) (by omega)
    have hw : ∀ p, W p < 10 := fun p => (hm.2.1 p).1
    obtain ⟨oN, fN⟩ := okA_new (a := a) (W := W) (K := K) (lim := lim) (num := num) (i := i) hp5 (by omega)
    have stp : ∀ v : Int32, v = nI (av (2 ^ p + i)) → ∃ σ', f_Mi_reckonAlone_105 k10 (f_Mi_reckonAlone_42 k10 m) σ c (nI num) (nI lim) (nI p) (nI (2 ^ p)) kv (nI i) v (nI (2 ^ p) + nI i) = k10 σ' c (nI num) (nI lim) (nI p + 1) ∧ K47 σ σ' ∧ ∀ X, X < 2 ^ (p + 1) → σ'.1 47 X = nI (av X) := fun v hv => by
      have hk : K47 σ (pI σ 47 (2 ^ p + i) v) := fun x y q => pI_ne (by omega)
      obtain ⟨σ', e1, e2, e3⟩ := ih m (i + 1) (pI σ 47 (2 ^ p + i) v) (hr.of (fun k => hk _ _ hc47)) (hm.of (hk _ _ (by omega)) (fun _ => hk _ _ (by omega)) (fun _ => hk _ _ (by omega))) (fun X q => by
        by_cases z : X = 2 ^ p + i
        · subst z; rw [pI_eq]; exact hv
        · rw [pI_ne (by omega)]; exact hX X (by omega)) (by omega) (by omega)
      refine ⟨σ', ?_, fun x y q => (e2 x y q).trans (hk x y q), e3⟩
      unfold f_Mi_reckonAlone_105
      rw [nI_add, gd_of (vin_nI (by omega) (by decide)), nI_clamp (by omega), nI_1]
      exact e1
    have nw : (268435456 : Int32) = nI NW := rfl
    have nwv : NW = 268435456 := rfl
    rw [f_Mi_reckonAlone_42_s, if_neg (nI_ge (by omega) (by omega)), bc', nI_1, time_1 hr (by omega)]
    unfold f_Mi_reckonAlone_69
    rw [if_pos (rfl : (0 : Int32) = 0), if_neg (show ¬ (1 : Int32) = 0 by decide), gd_of (vin_nI (show i < 32 by omega) (by decide)), nI_clamp (show i < 2 ^ 31 by omega), hX i (by omega), nw]
    by_cases ct : lim < tm1 a (pcS i + 1)
    · rw [if_pos (nI_lt ct (by omega))]
      exact stp _ (by rw [(hav (2 ^ p + i)).2 (fun q => by have := (oN.mp q).2.2; omega)])
    · rw [if_neg (nI_nlt (by omega) (by omega))]
      refine stp _ ?_
      unfold f_JM_min
      have fi := fsk_lt (X := i) hr.1 hw hn
      have kb := ky1_le hr.1 hw hn hp5
      by_cases o1 : ok1 W K a p
      · rw [hkv.1 o1]
        by_cases oi : okA a W K lim i
        · have fx := fsk_lt (X := 2 ^ p + i) hr.1 hw hn
          rw [(hav i).1 oi, nI_add, ← fN, if_pos (nI_lt (by omega) (by omega)), (hav (2 ^ p + i)).1 (oN.mpr ⟨oi, o1, by omega⟩)]
        · rw [(hav i).2 oi, nI_add, if_neg (nI_nlt (by omega) (by omega)), (hav (2 ^ p + i)).2 (fun q => oi (oN.mp q).1)]
      · rw [hkv.2 o1, (hav (2 ^ p + i)).2 (fun q => o1 (oN.mp q).2.1)]
        by_cases oi : okA a W K lim i
        · rw [(hav i).1 oi, nI_add, if_neg (nI_nlt (by omega) (by omega))]
        · rw [(hav i).2 oi, nI_add, if_neg (nI_nlt (by omega) (by omega))]
theorem min5 (h : CM np W K σ) : f_JM_min (σ.1 43 5) 5 = nI np := by
  have h5 := h.1
  unfold f_JM_min
  rw [h.2.2.1, if_neg (show ¬ (5 : Int32) < nI np from nI_nlt (a := 5) (by omega) (by omega))]
theorem alone_10 {av : Nat → Nat} (hav : AP a W K lim num av) (hc47 : c ≠ 47) (hn : num ≤ 7) (hl : lim ≤ 999) : ∀ (d f p : Nat) (σ : Sg), RC c a σ → CM np W K σ → (∀ X, X < 2 ^ p → σ.1 47 X = nI (av X)) → p + d = np → d < f → ∃ σ', f_Mi_reckonAlone_10 f σ c (nI num) (nI lim) (nI p) = some σ' ∧ K47 σ σ' ∧ ∀ X, X < 2 ^ np → σ'.1 47 X = nI (av X) := by
  intro d
  induction d with
  | zero =>
    intro f p σ hr hm hX hi hf
    have h5 := hm.1
    obtain ⟨m, rfl⟩ : ∃ m, f = m + 1 := ⟨f - 1, by omega⟩
    have : p = np := by omega
    subst this
    exact ⟨σ, by rw [f_Mi_reckonAlone_10_s, min5 hm, if_pos (nI_le (Nat.le_refl _) (by omega))], fun _ _ _ => rfl, hX⟩
  | succ d ih =>
    intro f p σ hr hm hX hi hf
    have h5 := hm.1
    obtain ⟨m, rfl⟩ : ∃ m, f = m + 1 := ⟨f - 1, by omega⟩
    have p16 : 2 ^ p ≤ 16 := p2_16 ⟨p, by omega⟩
    have sh : ((1 : Int32) <<< (nI p &&& 31)) = nI (2 ^ p) := mk_sh1 ⟨p, by omega⟩
    obtain ⟨σ1, e1, e2, e3⟩ := alone_42 (k10 := f_Mi_reckonAlone_10 m) (c := c) (np := np) (num := num) (p := p) hav hc47 hn hl (by omega) (key_1 hr hm (by omega) hn) (2 ^ p) FU 0 σ hr hm (fun X q => hX X (by omega)) (by omega) (by unfold FU; omega)
    obtain ⟨σ', k1, k2, k3⟩ := ih m (p + 1) σ1 (hr.of (fun k => e2 _ _ hc47)) (hm.of (e2 _ _ (by omega)) (fun _ => e2 _ _ (by omega)) (fun _ => e2 _ _ (by omega))) e3 (by omega) (by omega)
    refine ⟨σ', ?_, fun x y q => (k2 x y q).trans (e2 x y q), k3⟩
    rw [f_Mi_reckonAlone_10_s, min5 hm, if_neg (nI_ge (by omega) (by omega)), sh]
    refine Eq.trans e1 ?_
    rw [nI_1]
    exact k1
theorem alone_k {av : Nat → Nat} (hav : AP a W K lim num av) (hc47 : c ≠ 47) (hn : num ≤ 7) (hl : lim ≤ 999) (hr : RC c a σ) (hm : CM np W K σ) : ∃ σ', f_Mi_reckonAlone σ c (nI num) (nI lim) = some σ' ∧ K47 σ σ' ∧ ∀ X, X < 2 ^ np → σ'.1 47 X = nI (av X) := by
  have h5 := hm.1
  have z : ∀ q, ¬ (0 : Nat).testBit q = true := fun q => by rw [Nat.zero_testBit]; decide
  have p0 : pcS 0 = 0 := fs_zero (fun q _ b => absurd b (z q))
  have a0 : av 0 = 0 := by
    rw [(hav 0).1 ⟨fun q _ b => absurd b (z q), by rw [p0, tm1_0]; omega⟩]
    exact fs_zero (fun q _ b => absurd b (z q))
  have hk : K47 σ (pI σ 47 0 0) := fun x y q => pI_ne (by omega)
  obtain ⟨σ', e1, e2, e3⟩ := alone_10 (c := c) (np := np) (num := num) hav hc47 hn hl np FU 0 (pI σ 47 0 0) (hr.of (fun k => hk _ _ hc47)) (hm.of (hk _ _ (by omega)) (fun _ => hk _ _ (by omega)) (fun _ => hk _ _ (by omega))) (fun X q => by
    have : X = 0 := by rw [Nat.pow_zero] at q; omega
    subst this
    rw [pI_eq, a0]; rfl) (by omega) (by unfold FU; omega)
  exact ⟨σ', e1, fun x y q => (e2 x y q).trans (hk x y q), e3⟩
end
