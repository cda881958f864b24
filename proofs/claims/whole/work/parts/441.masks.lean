/-! settled: masks of five, and why both count the same groups -/
def rmB (A o : Nat) : Nat := if A.testBit o = true then A - 2 ^ o else A
def dfB (A X : Nat) : Nat := A &&& (X ^^^ 31)
def sbB (X A : Nat) : Bool := (X &&& A) == X
theorem mk_rm : ∀ A : Fin 32, ∀ o : Fin 5, (nI A.val &&& (((1 : Int32) <<< (nI o.val &&& 31)) ^^^ (-1))) = nI (rmB A.val o.val) := by decide +kernel
theorem mk_rmt : ∀ A : Fin 32, ∀ o q : Fin 5, (rmB A.val o.val).testBit q.val = (A.val.testBit q.val && decide (q.val ≠ o.val)) := by decide +kernel
theorem mk_rml : ∀ A : Fin 32, ∀ o : Fin 5, A.val.testBit o.val = true → rmB A.val o.val < A.val := by decide +kernel
theorem mk_rmn : ∀ A : Fin 32, ∀ o : Fin 5, ¬ A.val.testBit o.val = true → rmB A.val o.val = A.val := by decide +kernel
theorem mk_df : ∀ A X : Fin 32, (nI A.val &&& (nI X.val ^^^ (-1))) = nI (dfB A.val X.val) := by decide +kernel
theorem mk_dft : ∀ A X : Fin 32, ∀ q : Fin 5, (dfB A.val X.val).testBit q.val = (A.val.testBit q.val && !X.val.testBit q.val) := by decide +kernel
theorem mk_bit : ∀ A : Fin 32, ∀ o : Fin 5, ((nI A.val >>> (nI o.val &&& 31)) &&& 1) = if A.val.testBit o.val = true then (1 : Int32) else 0 := by decide +kernel
theorem mk_or : ∀ A : Fin 32, ∀ o : Fin 5, (nI A.val ||| ((1 : Int32) <<< (nI o.val &&& 31))) = nI (A.val ||| 2 ^ o.val) := by decide +kernel
theorem mk_nx : ∀ A h : Fin 32, 0 < h.val → ((nI h.val - 1) &&& nI A.val) = nI ((h.val - 1) &&& A.val) := by decide +kernel
theorem mk_sb : ∀ X A : Fin 32, (sbB X.val A.val = true) ↔ ∀ o : Fin 5, X.val.testBit o.val = true → A.val.testBit o.val = true := by decide +kernel
theorem mk_ex : ∀ A B : Fin 32, sbB B.val A.val = true → A.val ≠ B.val → ∃ o : Fin 5, A.val.testBit o.val = true ∧ B.val.testBit o.val = false := by decide +kernel
theorem mk_dfl : ∀ A X : Fin 32, sbB X.val A.val = true → 0 < X.val → dfB A.val X.val < A.val := by decide +kernel
theorem mk_df0 : ∀ A X : Fin 32, dfB A.val X.val = 0 ↔ sbB A.val X.val = true := by decide +kernel
theorem mk_vis0 : ((List.range 32).all fun A => (List.range 32).all fun h => (List.range 32).all fun X => !(sbB X A && sbB h A && decide (X < h)) || decide (X ≤ ((h - 1) &&& A))) = true := by decide +kernel
theorem mk_vis {A h X : Nat} (hA : A < 32) (hh : h < 32) (hX : X < 32) (h1 : sbB X A = true) (h2 : sbB h A = true) (h3 : X < h) : X ≤ ((h - 1) &&& A) := by
  have a := List.all_eq_true.mp (List.all_eq_true.mp (List.all_eq_true.mp mk_vis0 A (List.mem_range.mpr hA)) h (List.mem_range.mpr hh)) X (List.mem_range.mpr hX)
  rw [h1, h2, decide_eq_true h3] at a
  exact of_decide_eq_true a
theorem sb_refl : ∀ A : Fin 32, sbB A.val A.val = true := by decide +kernel
theorem sb_31 : ∀ A : Fin 32, sbB A.val 31 = true ∧ (31 &&& A.val) = A.val := by decide +kernel
theorem sb_and : ∀ A w : Fin 32, sbB (A.val &&& w.val) A.val = true ∧ sbB (A.val &&& w.val) w.val = true ∧ (A.val &&& w.val) < 32 := by decide +kernel
theorem sb_i {X A : Nat} (hX : X < 32) (hA : A < 32) (h : ∀ o, o < 5 → X.testBit o = true → A.testBit o = true) : sbB X A = true := (mk_sb ⟨X, hX⟩ ⟨A, hA⟩).mpr (fun o => h o.val o.isLt)
theorem sb_e {X A : Nat} (hX : X < 32) (hA : A < 32) (h : sbB X A = true) {o : Nat} (ho : o < 5) (hb : X.testBit o = true) : A.testBit o = true := (mk_sb ⟨X, hX⟩ ⟨A, hA⟩).mp h ⟨o, ho⟩ hb
theorem b_ex {A : Nat} (hA : A < 32) (h : 0 < A) : ∃ o, o < 5 ∧ A.testBit o = true := by
  obtain ⟨o, h1, -⟩ := mk_ex ⟨A, hA⟩ ⟨0, by omega⟩ (sb_i (by omega) hA (fun o _ q => by rw [Nat.zero_testBit] at q; exact absurd q (by decide))) (by show A ≠ 0; omega)
  exact ⟨o.val, o.isLt, h1⟩
theorem m_ext {A B : Nat} (hA : A < 32) (hB : B < 32) (h : ∀ o, o < 5 → A.testBit o = B.testBit o) : A = B := by
  apply Classical.byContradiction
  intro q
  obtain ⟨o, h1, h2⟩ := mk_ex ⟨A, hA⟩ ⟨B, hB⟩ (sb_i hB hA (fun o ho hb => by rw [h o ho]; exact hb)) q
  have := h o.val o.isLt
  rw [h1, h2] at this
  exact absurd this (by decide)
theorem rm_t {A o q : Nat} (hA : A < 32) (ho : o < 5) (hq : q < 5) : (rmB A o).testBit q = (A.testBit q && decide (q ≠ o)) := mk_rmt ⟨A, hA⟩ ⟨o, ho⟩ ⟨q, hq⟩
theorem rm_l {A o : Nat} (hA : A < 32) (ho : o < 5) (h : A.testBit o = true) : rmB A o < A := mk_rml ⟨A, hA⟩ ⟨o, ho⟩ h
theorem df_t {A X q : Nat} (hA : A < 32) (hX : X < 32) (hq : q < 5) : (dfB A X).testBit q = (A.testBit q && !X.testBit q) := mk_dft ⟨A, hA⟩ ⟨X, hX⟩ ⟨q, hq⟩
theorem df_l {A X : Nat} (hA : A < 32) (hX : X < 32) (h : sbB X A = true) (h0 : 0 < X) : dfB A X < A := mk_dfl ⟨A, hA⟩ ⟨X, hX⟩ h h0
theorem df_32 {A X : Nat} (hA : A < 32) : dfB A X < 32 := Nat.lt_of_le_of_lt Nat.and_le_left hA
/-- sums -/
def psm (f : Nat → Int32) : Nat → Int32
  | 0 => 0
  | n + 1 => psm f n + f n
theorem psm_congr {f g : Nat → Int32} : ∀ n, (∀ i, i < n → f i = g i) → psm f n = psm g n
  | 0, _ => rfl
  | n + 1, h => by unfold psm; rw [psm_congr n (fun i hi => h i (by omega)), h n (by omega)]
theorem psm_add (f g : Nat → Int32) : ∀ n, psm (fun i => f i + g i) n = psm f n + psm g n
  | 0 => rfl
  | n + 1 => by
    show psm (fun i => f i + g i) n + (f n + g n) = (psm f n + f n) + (psm g n + g n)
    rw [psm_add f g n]
    ac_rfl
theorem psm_ind (q : Nat) (w : Int32) : ∀ n, psm (fun i => if q = i then w else 0) n = if q < n then w else 0
  | 0 => by rw [if_neg (by omega)]; rfl
  | n + 1 => by
    show psm (fun i => if q = i then w else 0) n + (if q = n then w else 0) = _
    rw [psm_ind q w n]
    by_cases c : q = n
    · rw [if_neg (by omega), if_pos c, if_pos (by omega), Int32.zero_add]
    · rw [if_neg c, Int32.add_zero]
      by_cases c2 : q < n
      · rw [if_pos c2, if_pos (by omega)]
      · rw [if_neg c2, if_neg (by omega)]
theorem psm_zero : ∀ n, psm (fun _ => 0) n = 0
  | 0 => rfl
  | n + 1 => by
    show psm (fun _ => 0) n + 0 = 0
    rw [psm_zero n, Int32.add_zero]
def sS (M : Nat → Int32) (A : Nat) : Int32 := psm (fun o => if A.testBit o = true then M o else 0) 5
def zN (M : Nat → Int32) (A : Nat) : Nat := smN (fun o => if A.testBit o = true ∧ M o = 0 then 1 else 0) 5
section
variable {M : Nat → Int32}
theorem sS_rm {A o : Nat} (hA : A < 32) (ho : o < 5) (h : A.testBit o = true) : sS M A = sS M (rmB A o) + M o := by
  have e : sS M A = psm (fun q => (if (rmB A o).testBit q = true then M q else 0) + (if o = q then M o else 0)) 5 := psm_congr 5 (fun q hq => by
    rw [rm_t hA ho hq]
    by_cases c : q = o
    · subst c
      rw [if_pos h, if_pos rfl, h]
      simp
    · rw [if_neg (show ¬ o = q from fun w => c w.symm), Int32.add_zero, decide_eq_true c, Bool.and_true])
  rw [e, psm_add, psm_ind, if_pos ho]
  rfl
theorem sS_df {A X : Nat} (hA : A < 32) (hX : X < 32) (h : sbB X A = true) : sS M A = sS M X + sS M (dfB A X) := by
  have e : sS M A = psm (fun q => (if X.testBit q = true then M q else 0) + (if (dfB A X).testBit q = true then M q else 0)) 5 := psm_congr 5 (fun q hq => by
    rw [df_t hA hX hq]
    by_cases c : X.testBit q = true
    · rw [if_pos c, if_pos (sb_e hX hA h hq c), c]
      simp
    · have c' : X.testBit q = false := by simpa using c
      rw [if_neg c, c', Int32.zero_add]
      simp)
  rw [e, psm_add]
  rfl
theorem zN_rm {A o : Nat} (hA : A < 32) (ho : o < 5) (h : A.testBit o = true) : zN M A = zN M (rmB A o) + if M o = 0 then 1 else 0 := by
  have ind : ∀ (q w n : Nat), smN (fun i => if q = i then w else 0) n = if q < n then w else 0 := fun q w n => by
    induction n with
    | zero => rfl
    | succ n ih =>
      show smN (fun i => if q = i then w else 0) n + (if q = n then w else 0) = _
      rw [ih]
      split <;> split <;> split <;> omega
  have e : zN M A = smN (fun q => (if (rmB A o).testBit q = true ∧ M q = 0 then 1 else 0) + (if o = q then (if M o = 0 then 1 else 0) else 0)) 5 := smN_congr 5 (fun q hq => by
    rw [rm_t hA ho hq]
    by_cases c : q = o
    · subst c
      rw [if_pos rfl, h]
      simp
    · rw [if_neg (show ¬ o = q from fun w => c w.symm), decide_eq_true c, Bool.and_true, Nat.add_zero])
  rw [e, smN_add, ind, if_pos ho]
  rfl
theorem sS_0 : sS M 0 = 0 := by
  unfold sS
  rw [psm_congr (g := fun _ => 0) 5 (fun q _ => by rw [Nat.zero_testBit]; rfl)]
  exact psm_zero 5
theorem zN_0 : zN M 0 = 0 := by
  unfold zN
  rw [smN_congr (g := fun _ => 0) 5 (fun q _ => by rw [Nat.zero_testBit]; simp)]
  rfl
theorem sS_ow {A w : Nat} (hw : ∀ q, q < 5 → w.testBit q = decide (M q ≠ 0)) : sS M A = sS M (A &&& w) := psm_congr 5 (fun q hq => by
  rw [Nat.testBit_and, hw q hq]
  by_cases c : M q = 0
  · rw [c]; simp
  · simp [c])
end
def eS (M : Nat → Int32) (X : Nat) : Nat := if sS M X = 0 then 1 else 0
section
variable {M : Nat → Int32} {w : Nat} {c : Nat → Nat} {g : Nat → Int}
def CP (M : Nat → Int32) (c : Nat → Nat) (N : Nat) : Prop := c 0 = 0 ∧ ∀ X, 0 < X → X < N → (∀ o, o < 5 → X.testBit o = true → c (rmB X o) + eS M X ≤ c X) ∧ ∃ o, o < 5 ∧ X.testBit o = true ∧ c X = c (rmB X o) + eS M X
def okG2 (M : Nat → Int32) (w : Nat) (g : Nat → Int) (A X : Nat) : Prop := 0 < X ∧ X < 32 ∧ sbB X A = true ∧ sbB A w = true ∧ sS M X = 0 ∧ 0 ≤ g (dfB A X)
def GP (M : Nat → Int32) (w : Nat) (g : Nat → Int) (N : Nat) : Prop := g 0 = 0 ∧ ∀ A, 0 < A → A < N → (∀ X, okG2 M w g A X → g (dfB A X) + 1 ≤ g A) ∧ (0 ≤ g A → ∃ X, okG2 M w g A X ∧ g A = g (dfB A X) + 1)
theorem g_zero (hG : GP M w g 32) : ∀ B, B < 32 → 0 ≤ g B → sS M B = 0 := by
  intro B
  induction B using Nat.strongRecOn with
  | _ B ih =>
    intro hB h
    by_cases c0 : B = 0
    · rw [c0]; exact sS_0
    obtain ⟨X, ⟨x1, x2, x3, x4, x5, x6⟩, -⟩ := (hG.2 B (by omega) hB).2 h
    rw [sS_df hB x2 x3, x5, ih _ (df_l hB x2 x3 x1) (df_32 hB) x6]
    rfl
theorem c_mono (hC : CP M c 32) : ∀ A, A < 32 → ∀ B, B < 32 → sbB B A = true → c B ≤ c A := by
  intro A
  induction A using Nat.strongRecOn with
  | _ A ih =>
    intro hA B hB h
    by_cases e : A = B
    · rw [e]; exact Nat.le_refl _
    obtain ⟨o, o1, o2⟩ := mk_ex ⟨A, hA⟩ ⟨B, hB⟩ h e
    have l := rm_l hA o.isLt o1
    have a := ih (rmB A o.val) l (by omega) B hB (sb_i hB (by omega) (fun q hq hb => by
      rw [rm_t hA o.isLt hq, sb_e hB hA h hq hb]
      have : q ≠ o.val := fun z => by rw [z] at hb; exact absurd (hb.symm.trans o2) (by decide)
      rw [decide_eq_true this]; rfl))
    have b := (hC.2 A (by omega) hA).1 o.val o.isLt o1
    omega
theorem rm_ow {A o : Nat} (hw : ∀ q, q < 5 → w.testBit q = decide (M q ≠ 0)) (hw32 : w < 32) (hA : A < 32) (ho : o < 5) (h : A.testBit o = true) (hz : M o = 0) : (rmB A o &&& w) = (A &&& w) := by
  have l := rm_l hA ho h
  refine m_ext (sb_and ⟨rmB A o, by omega⟩ ⟨w, hw32⟩).2.2 (sb_and ⟨A, hA⟩ ⟨w, hw32⟩).2.2 (fun q hq => ?_)
  rw [Nat.testBit_and, Nat.testBit_and, rm_t hA ho hq, hw q hq]
  by_cases e : q = o
  · subst e; simp [hz]
  · simp [e]
theorem lower (hw : ∀ q, q < 5 → w.testBit q = decide (M q ≠ 0)) (hw32 : w < 32) (hC : CP M c 32) (hG : GP M w g 32) : ∀ A, A < 32 → 0 ≤ g (A &&& w) → (zN M A : Int) + g (A &&& w) ≤ c A := by
  intro A
  induction A using Nat.strongRecOn with
  | _ A ih =>
    intro hA h
    have sA : sS M A = 0 := by rw [sS_ow hw]; exact g_zero hG _ (sb_and ⟨A, hA⟩ ⟨w, hw32⟩).2.2 h
    have eA : eS M A = 1 := if_pos sA
    by_cases hu : ∃ u, u < 5 ∧ A.testBit u = true ∧ M u = 0
    · obtain ⟨u, u1, u2, u3⟩ := hu
      have l := rm_l hA u1 u2
      have e := rm_ow hw hw32 hA u1 u2 u3
      have a := ih (rmB A u) l (by omega) (by rw [e]; exact h)
      have b := (hC.2 A (by omega) hA).1 u u1 u2
      have d := zN_rm (M := M) hA u1 u2
      rw [if_pos u3] at d
      rw [e] at a
      omega
    · have hAw : (A &&& w) = A := m_ext (sb_and ⟨A, hA⟩ ⟨w, hw32⟩).2.2 hA (fun q hq => by
        rw [Nat.testBit_and, hw q hq]
        by_cases b : A.testBit q = true
        · have : M q ≠ 0 := fun z => hu ⟨q, hq, b, z⟩
          rw [decide_eq_true this, Bool.and_true]
        · have b' : A.testBit q = false := by simpa using b
          rw [b']; rfl)
      have hz : zN M A = 0 := by
        unfold zN
        rw [smN_congr (g := fun _ => 0) 5 (fun q hq => if_neg (fun z => hu ⟨q, hq, z.1, z.2⟩))]
        rfl
      rw [hAw] at h ⊢
      by_cases c0 : A = 0
      · subst c0
        have := hG.1
        omega
      obtain ⟨X, ⟨x1, x2, x3, x4, x5, x6⟩, x7⟩ := (hG.2 A (by omega) hA).2 h
      have l := df_l hA x2 x3 x1
      have d32 := df_32 (X := X) hA
      have dw : (dfB A X &&& w) = dfB A X := m_ext (sb_and ⟨dfB A X, d32⟩ ⟨w, hw32⟩).2.2 d32 (fun q hq => by
        rw [Nat.testBit_and]
        by_cases b : (dfB A X).testBit q = true
        · have b2 := b
          rw [df_t hA x2 hq] at b2
          have b3 : A.testBit q = true := by
            cases h1 : A.testBit q
            · rw [h1] at b2; exact absurd b2 (by simp)
            · rfl
          rw [sb_e hA hw32 x4 hq b3, Bool.and_true]
        · have b' : (dfB A X).testBit q = false := by simpa using b
          rw [b']; rfl)
      have a := ih (dfB A X) l d32 (by rw [dw]; exact x6)
      rw [dw] at a
      obtain ⟨o, o1, o2⟩ := b_ex x2 x1
      have oA := sb_e x2 hA x3 o1 o2
      have b := (hC.2 A (by omega) hA).1 o o1 oA
      have rl := rm_l hA o1 oA
      have m := c_mono hC (rmB A o) (by omega) (dfB A X) d32 (sb_i d32 (by omega) (fun q hq hb => by
        rw [df_t hA x2 hq] at hb
        rw [rm_t hA o1 hq]
        by_cases e : q = o
        · subst e; rw [o2] at hb; exact absurd hb (by simp)
        · rw [decide_eq_true e, Bool.and_true]
          cases h1 : A.testBit q
          · rw [h1] at hb; exact absurd hb (by simp)
          · rfl))
      omega
theorem upper (hw : ∀ q, q < 5 → w.testBit q = decide (M q ≠ 0)) (hw32 : w < 32) (hC : CP M c 32) (hG : GP M w g 32) : ∀ A, A < 32 → ∃ B, B < 32 ∧ sbB B (A &&& w) = true ∧ 0 ≤ g B ∧ (c A : Int) ≤ zN M A + g B ∧ (sS M A = 0 → B = (A &&& w)) := by
  intro A
  induction A using Nat.strongRecOn with
  | _ A ih =>
    intro hA
    have aw := sb_and ⟨A, hA⟩ ⟨w, hw32⟩
    by_cases c0 : A = 0
    · subst c0
      refine ⟨0, by omega, by rw [Nat.zero_and]; rfl, by rw [hG.1]; exact Int.le_refl 0, ?_, fun _ => (Nat.zero_and w).symm⟩
      rw [hC.1, hG.1]
      omega
    obtain ⟨o, o1, o2, o3⟩ := (hC.2 A (by omega) hA).2
    have l := rm_l hA o1 o2
    have zr := zN_rm (M := M) hA o1 o2
    obtain ⟨B, b1, b2, b3, b4, b5⟩ := ih (rmB A o) l (by omega)
    have rw32 := (sb_and ⟨rmB A o, by omega⟩ ⟨w, hw32⟩).2.2
    have sub : sbB B (A &&& w) = true := sb_i b1 aw.2.2 (fun q hq hb => by
      have := sb_e b1 rw32 b2 hq hb
      rw [Nat.testBit_and, rm_t hA o1 hq] at this
      rw [Nat.testBit_and]
      cases h1 : A.testBit q
      · rw [h1] at this; exact absurd this (by simp)
      · cases h2 : w.testBit q
        · rw [h2] at this; exact absurd this (by simp)
        · rfl)
    by_cases sA : sS M A = 0
    · have eA : eS M A = 1 := if_pos sA
      by_cases hz : M o = 0
      · have sr : sS M (rmB A o) = 0 := by
          have := sS_rm (M := M) hA o1 o2
          rw [sA, hz, Int32.add_zero] at this
          exact this.symm
        have eB := b5 sr
        rw [rm_ow hw hw32 hA o1 o2 hz] at eB
        refine ⟨B, b1, sub, b3, ?_, fun _ => eB⟩
        rw [if_pos hz] at zr
        omega
      · have sAw : sS M (A &&& w) = 0 := by rw [← sS_ow hw]; exact sA
        have sB := g_zero hG B b1 b3
        have ob : B.testBit o = false := by
          cases h1 : B.testBit o
          · rfl
          · have := sb_e b1 rw32 b2 o1 h1
            rw [Nat.testBit_and, rm_t hA o1 o1] at this
            exact absurd this (by simp)
        have oaw : (A &&& w).testBit o = true := by
          rw [Nat.testBit_and, o2, hw o o1, decide_eq_true hz]; rfl
        have x32 := df_32 (X := B) aw.2.2
        have xpos : 0 < dfB (A &&& w) B := by
          apply Nat.pos_of_ne_zero
          intro z
          have t := df_t (q := o) aw.2.2 b1 o1
          have t' : (dfB (A &&& w) B).testBit o = ((A &&& w).testBit o && !B.testBit o) := t
          rw [z, Nat.zero_testBit, oaw, ob] at t'
          exact absurd t' (by decide)
        have xs : sbB (dfB (A &&& w) B) (A &&& w) = true := sb_i x32 aw.2.2 (fun q hq hb => by
          have t : (dfB (A &&& w) B).testBit q = ((A &&& w).testBit q && !B.testBit q) := df_t aw.2.2 b1 hq
          rw [t] at hb
          cases h1 : (A &&& w).testBit q
          · rw [h1] at hb; exact absurd hb (by simp)
          · rfl)
        have dd : dfB (A &&& w) (dfB (A &&& w) B) = B := m_ext (df_32 aw.2.2) b1 (fun q hq => by
          have t : (dfB (A &&& w) B).testBit q = ((A &&& w).testBit q && !B.testBit q) := df_t aw.2.2 b1 hq
          have t2 : (dfB (A &&& w) (dfB (A &&& w) B)).testBit q = ((A &&& w).testBit q && !(dfB (A &&& w) B).testBit q) := df_t aw.2.2 x32 hq
          rw [t2, t]
          cases h1 : B.testBit q
          · cases h2 : (A &&& w).testBit q <;> rfl
          · rw [sb_e b1 aw.2.2 sub hq h1]; rfl)
        have sX : sS M (dfB (A &&& w) B) = 0 := by
          have t : sS M (A &&& w) = sS M B + sS M (dfB (A &&& w) B) := sS_df aw.2.2 b1 sub
          rw [sAw, sB, Int32.zero_add] at t
          exact t.symm
        have awpos : 0 < (A &&& w) := by
          apply Nat.pos_of_ne_zero
          intro z
          rw [z, Nat.zero_testBit] at oaw
          exact absurd oaw (by decide)
        have gl := (hG.2 (A &&& w) awpos aw.2.2).1 (dfB (A &&& w) B) ⟨xpos, x32, xs, aw.2.1, sX, by rw [dd]; exact b3⟩
        rw [dd] at gl
        refine ⟨A &&& w, aw.2.2, sb_refl ⟨A &&& w, aw.2.2⟩, by omega, ?_, fun _ => rfl⟩
        rw [if_neg hz] at zr
        omega
    · have eA : eS M A = 0 := if_neg sA
      refine ⟨B, b1, sub, b3, ?_, fun q => absurd q sA⟩
      omega
theorem set_main (hw : ∀ q, q < 5 → w.testBit q = decide (M q ≠ 0)) (hw32 : w < 32) (hC : CP M c 32) (hG : GP M w g 32) (h31 : sS M 31 = 0) : (c 31 : Int) = zN M 31 + g w ∧ 0 ≤ g w := by
  have e : (31 &&& w) = w := (sb_31 ⟨w, hw32⟩).2
  obtain ⟨B, b1, b2, b3, b4, b5⟩ := upper hw hw32 hC hG 31 (by omega)
  have eB := b5 h31
  rw [e] at eB
  subst eB
  have l := lower hw hw32 hC hG 31 (by omega) (by rw [e]; exact b3)
  rw [e] at l
  exact ⟨by omega, b3⟩
end
