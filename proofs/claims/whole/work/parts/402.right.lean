def bt (x : Int32) (i : Nat) : Bool := x.toBitVec.getLsbD i
theorem b_ext {x y : Int32} (h : ∀ i, i < 32 → bt x i = bt y i) : x = y := Int32.toBitVec_inj.mp (BitVec.eq_of_getLsbD_eq (fun i hi => h i hi))
theorem b_or (x y : Int32) (i : Nat) : bt (x ||| y) i = (bt x i || bt y i) := by unfold bt; rw [Int32.toBitVec_or, BitVec.getLsbD_or]
theorem b_and (x y : Int32) (i : Nat) : bt (x &&& y) i = (bt x i && bt y i) := by unfold bt; rw [Int32.toBitVec_and, BitVec.getLsbD_and]
theorem b_xor (x y : Int32) (i : Nat) : bt (x ^^^ y) i = (bt x i ^^ bt y i) := by unfold bt; rw [Int32.toBitVec_xor, BitVec.getLsbD_xor]
theorem b_big {x : Int32} {i : Nat} (h : 32 ≤ i) : bt x i = false := BitVec.getLsbD_of_ge _ _ h
theorem b_255 (i : Nat) : bt 255 i = decide (i < 8) := by
  rcases Nat.lt_or_ge i 32 with h | h
  · exact (by decide +kernel : ∀ i, i < 32 → bt 255 i = decide (i < 8)) i h
  · rw [b_big h, decide_eq_false (by omega)]
theorem b_65535 (i : Nat) : bt 65535 i = decide (i < 16) := by
  rcases Nat.lt_or_ge i 32 with h | h
  · exact (by decide +kernel : ∀ i, i < 32 → bt 65535 i = decide (i < 16)) i h
  · rw [b_big h, decide_eq_false (by omega)]
theorem b_m1 : ∀ i, i < 32 → bt (-1) i = true := by decide +kernel
theorem b_0 (i : Nat) : bt 0 i = false := BitVec.getLsbD_zero
theorem s_l : ∀ n, n < 32 → ((nI n &&& 31).toBitVec.smod 32).toNat = n := by decide +kernel
theorem s_u : ∀ n, n < 32 → (((nI n).toUInt32 &&& Int32.toUInt32 31).toBitVec % 32).toNat = n := by decide +kernel
theorem b_shl (n : Nat) (hn : n < 32) (x : Int32) {i : Nat} (hi : i < 32) : bt (x <<< (nI n &&& 31)) i = (decide (n ≤ i) && bt x (i - n)) := by
  unfold bt
  rw [Int32.toBitVec_shiftLeft]
  show (x.toBitVec <<< ((nI n &&& 31).toBitVec.smod 32).toNat).getLsbD i = _
  rw [s_l n hn, BitVec.getLsbD_shiftLeft]
  rcases Nat.lt_or_ge i n with h | h
  · simp [h, Nat.not_le.mpr h]
  · simp [hi, h, Nat.not_lt.mpr h]
theorem bt_one (l : Nat) (hl : l < 32) (i : Nat) (hi : i < 32) : bt ((1 : Int32) <<< (nI l &&& 31)) i = decide (i = l) := by
  rw [b_shl l hl 1 hi]
  have h1 : ∀ j, j < 32 → bt 1 j = decide (j = 0) := by decide +kernel
  rw [h1 (i - l) (by omega)]
  by_cases h : i = l
  · subst h; simp
  · by_cases h2 : l ≤ i
    · have : ¬ i - l = 0 := by omega
      simp [h, this]
    · simp [h, h2]
theorem and_bit (m : Int32) (l : Nat) (hl : l < 32) : (m &&& ((1 : Int32) <<< (nI l &&& 31))) = 0 ↔ bt m l = false := by
  constructor
  · intro h
    have := congrArg (fun x => bt x l) h
    simp only [b_and, bt_one l hl l hl, b_0] at this
    simpa using this
  · intro h
    apply b_ext
    intro i hi
    rw [b_and, bt_one l hl i hi, b_0]
    by_cases e : i = l
    · subst e; simp [h]
    · simp [e]
theorem or_bit (m : Int32) (l : Nat) (hl : l < 32) (i : Nat) (hi : i < 32) : bt (m ||| ((1 : Int32) <<< (nI l &&& 31))) i = (bt m i || decide (i = l)) := by
  rw [b_or, bt_one l hl i hi]
theorem dec_nI {r i : Nat} (hr : r < 2 ^ 31) (hi : i < 2 ^ 31) : decide (nI r = nI i) = decide (i = r) := by
  have h : (nI r = nI i) ↔ (r = i) := nI_eq hr hi
  by_cases e : i = r
  · subst e; simp
  · have : ¬ nI r = nI i := fun q => e (h.mp q).symm
    simp [e, this]
/-! the right of way -/
def isR (nr : Nat) (x : Int32) : Bool := decide (0 ≤ x.toInt ∧ x.toInt < nr)
def seen (b : Nat → Int32) : Nat → Int32 → Bool
  | 0, _ => false
  | p + 1, x => seen b p x || decide (fig (b p) = x)
theorem seen_s (b : Nat → Int32) (p : Nat) (x : Int32) : seen b (p + 1) x = (seen b p x || decide (fig (b p) = x)) := rfl
def badR (nr : Nat) (b : Nat → Int32) (p : Nat) : Bool := !isR nr (fig (b p)) || seen b p (fig (b p))
def f1 (nr n : Nat) (b : Nat → Int32) : Int32 := if fbG (badR nr b) n < n then nI (fbG (badR nr b) n) else -1
theorem rs_has {nr : Nat} {σ : Sg} (h : σ.1 5 3 = nI nr) (hn : nr ≤ 8) (x : Int32) : f_Rs_has σ x = if isR nr x = true then 1 else 0 := by
  unfold f_Rs_has isR
  rw [h, gr_below, zb10, nI_toInt (by omega)]
  by_cases c : 0 ≤ x.toInt ∧ x.toInt < nr
  · rw [if_pos c, if_pos (decide_eq_true c)]
  · rw [if_neg c, if_neg (by simp [c])]
theorem isR_nI {nr : Nat} {x : Int32} (h : isR nr x = true) (hn : nr ≤ 8) : ∃ r, r < nr ∧ x = nI r := by
  have h := of_decide_eq_true h
  exact ⟨x.toInt.toNat, by omega, of_toInt (by omega) (by omega)⟩
theorem good_R {nr : Nat} {b : Nat → Int32} {p : Nat} (h : badR nr b p = false) (hn : nr ≤ 8) : ∃ r, r < nr ∧ fig (b p) = nI r ∧ seen b p (nI r) = false := by
  unfold badR at h
  simp only [Bool.or_eq_false_iff, Bool.not_eq_false'] at h
  obtain ⟨r, h1, h2⟩ := isR_nI h.1 hn
  exact ⟨r, h1, h2, by rw [← h2]; exact h.2⟩
theorem seen_of {b : Nat → Int32} : ∀ {p q : Nat}, q < p → seen b p (fig (b q)) = true
  | 0, q, h => by omega
  | p + 1, q, h => by
    unfold seen
    by_cases e : q = p
    · subst e; simp
    · rw [seen_of (p := p) (by omega)]; rfl
theorem seen_ex {b : Nat → Int32} {x : Int32} : ∀ {p : Nat}, seen b p x = true → ∃ q, q < p ∧ fig (b q) = x
  | 0, h => by simp [seen] at h
  | p + 1, h => by
    unfold seen at h
    simp only [Bool.or_eq_true, decide_eq_true_eq] at h
    rcases h with h | h
    · obtain ⟨q, h1, h2⟩ := seen_ex h
      exact ⟨q, by omega, h2⟩
    · exact ⟨p, by omega, h⟩
theorem fault_loop {nr n : Nat} {b : Nat → Int32} {σ : Sg} (hT : TX 3 n b σ) (hr : σ.1 5 3 = nI nr) (hn : nr ≤ 8) : ∀ (d fuel p : Nat) (mask : Int32), p + d = n → d < fuel → (∀ q, q < p → badR nr b q = false) → (∀ r, r < 8 → bt mask r = seen b p (nI r)) → f_Rs_faultOfRight_4 fuel σ 3 mask (nI p) = some (f1 nr n b) := by
  intro d
  have h60 := hT.1
  induction d with
  | zero =>
    intro fuel p mask hp hf hb hm
    obtain ⟨m, rfl⟩ : ∃ m, fuel = m + 1 := ⟨fuel - 1, by omega⟩
    have hpn : p = n := by omega
    subst hpn
    rw [f_Rs_faultOfRight_4_s, hT.2.1, if_pos (nI_le (Nat.le_refl _) (by omega))]
    unfold f1
    rw [fbG_none hb, if_neg (Nat.lt_irrefl p)]
  | succ d ih =>
    intro fuel p mask hp hf hb hm
    obtain ⟨m, rfl⟩ : ∃ m, fuel = m + 1 := ⟨fuel - 1, by omega⟩
    rw [f_Rs_faultOfRight_4_s, hT.2.1, if_neg (nI_ge (by omega) (by omega)), te_fig hT (by omega)]
    simp only [Option.bind_some]
    rw [rs_has hr hn, if_ite10]
    by_cases c1 : isR nr (fig (b p)) = true
    · rw [if_pos c1]
      obtain ⟨r, hr1, hr2⟩ := isR_nI c1 hn
      by_cases c2 : seen b p (fig (b p)) = true
      · have hbad : badR nr b p = true := by unfold badR; simp [c2]
        have hbit : ¬ (mask &&& ((1 : Int32) <<< (nI r &&& 31))) = 0 := fun h => by
          have := (and_bit mask r (by omega)).mp h
          rw [hm r (by omega), ← hr2, c2] at this
          cases this
        rw [hr2, if_neg hbit]
        unfold f1
        rw [fbG_first hb hbad (n := n) (by omega), if_pos (by omega)]
      · have c2f : seen b p (fig (b p)) = false := by simpa using c2
        have hgood : badR nr b p = false := by unfold badR; simp [c1, c2f]
        have hbit : (mask &&& ((1 : Int32) <<< (nI r &&& 31))) = 0 := (and_bit mask r (by omega)).mpr (by rw [hm r (by omega), ← hr2, c2f])
        rw [hr2, if_pos hbit, nI_1]
        refine ih m (p + 1) _ (by omega) (by omega) (fun q hq => ?_) (fun i hi => ?_)
        · by_cases e : q = p
          · subst e; exact hgood
          · exact hb q (by omega)
        · rw [or_bit mask r (by omega) i (by omega), hm i hi]
          rw [seen_s, hr2, dec_nI (by omega) (by omega)]
    · rw [if_neg c1]
      have hbad : badR nr b p = true := by unfold badR; simp [c1]
      unfold f1
      rw [fbG_first hb hbad (n := n) (by omega), if_pos (by omega)]
theorem fault_right {nr n : Nat} {b : Nat → Int32} {σ : Sg} (hT : TX 3 n b σ) (hr : σ.1 5 3 = nI nr) (hn : nr ≤ 8) : f_Rs_faultOfRight σ 3 = some (f1 nr n b) :=
  fault_loop hT hr hn n FU 0 0 (Nat.zero_add n) (by have := hT.1; unfold FU; omega) (fun q hq => by omega) (fun r _ => by rw [b_0]; rfl)
/-- how many are not told -/
def cU (tb : Nat → Bool) : Nat → Nat
  | 0 => 0
  | r + 1 => cU tb r + if tb r then 0 else 1
theorem cU_mono {tb : Nat → Bool} {r : Nat} : ∀ {m : Nat}, r ≤ m → cU tb r ≤ cU tb m
  | 0, h => by have : r = 0 := by omega
               subst this; exact Nat.le_refl _
  | m + 1, h => by
    by_cases e : r = m + 1
    · subst e; exact Nat.le_refl _
    · have := cU_mono (tb := tb) (r := r) (m := m) (by omega)
      have e2 : cU tb (m + 1) = cU tb m + (if tb m then 0 else 1) := rfl
      rw [e2]; omega
theorem cU_lt {tb : Nat → Bool} {r m : Nat} (h : r < m) (ht : tb r = false) : cU tb r < cU tb m := by
  have h1 : cU tb (r + 1) ≤ cU tb m := cU_mono h
  have h2 : cU tb (r + 1) = cU tb r + 1 := by simp [cU, ht]
  omega
theorem cU_add {s : Nat → Bool} {r0 : Nat} (h0 : s r0 = false) : ∀ (m : Nat), cU s m = cU (fun r => s r || decide (r = r0)) m + if r0 < m then 1 else 0
  | 0 => by simp [cU]
  | m + 1 => by
    have ih := cU_add h0 m
    by_cases e : m = r0
    · subst e
      rw [if_neg (Nat.lt_irrefl m)] at ih
      simp only [cU, ih, h0, if_pos (Nat.lt_succ_self m)]
      simp
    · simp only [cU, ih]
      have : (s m || decide (m = r0)) = s m := by simp [e]
      have k : (r0 < m + 1) ↔ (r0 < m) := by omega
      simp only [this, k]
      omega
theorem cU_congr {s t : Nat → Bool} : ∀ {m : Nat}, (∀ r, r < m → s r = t r) → cU s m = cU t m
  | 0, _ => rfl
  | m + 1, h => by
    unfold cU
    rw [cU_congr (fun r hr => h r (by omega)), h m (by omega)]
theorem cU_false : ∀ (m : Nat), cU (fun _ => false) m = m
  | 0 => rfl
  | m + 1 => by simp [cU, cU_false m]
theorem cU_all {nr : Nat} {b : Nat → Int32} (hn : nr ≤ 8) : ∀ {n : Nat}, (∀ q, q < n → badR nr b q = false) → n + cU (fun r => seen b n (nI r)) nr = nr
  | 0, _ => by simp [seen, cU_false]
  | n + 1, h => by
    have ih := cU_all hn (n := n) (fun q hq => h q (by omega))
    obtain ⟨r0, h1, h2, h3⟩ := good_R (h n (by omega)) hn
    have e := cU_add (s := fun r => seen b n (nI r)) (r0 := r0) h3 nr
    rw [if_pos h1] at e
    have e2 : cU (fun r => seen b (n + 1) (nI r)) nr = cU (fun r => seen b n (nI r) || decide (r = r0)) nr := cU_congr (fun r hr => by
      show (seen b n (nI r) || decide (fig (b n) = nI r)) = _
      rw [h2, dec_nI (by omega) (by omega)])
    omega
