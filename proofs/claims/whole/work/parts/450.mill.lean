/-! the mill: what both seek, over sets of parts -/
def cs1 (a : Nat → Nat) (w : Nat) : Nat := a 4 * (w + 1) + (a 1 - a 0)
def m01 (a : Nat → Nat) : Nat := 12 + 2 * (a 1 - a 0)
def m11 (a : Nat → Nat) : Nat := 12 + 2 * (a 0 - a 1)
def tm1 (a : Nat → Nat) (n : Nat) : Nat := n * m01 a + (n - 1) * m11 a
def ok1 (W K : Nat → Nat) (a : Nat → Nat) (p : Nat) : Prop := a 2 = K p ∧ W p ≤ a 3
def ky1 (W : Nat → Nat) (a : Nat → Nat) (num p : Nat) : Nat := cs1 a (W p) * 32768 + num * 2 ^ (3 * (4 - p))
def fs (S : Nat) (u : Nat → Nat) : Nat := smN (fun p => if S.testBit p = true then u p else 0) 5
def pcS (S : Nat) : Nat := fs S (fun _ => 1)
def cnS (S : Nat) (f : Nat → Nat) (r : Nat) : Nat := fs S (fun p => if f p = r then 1 else 0)
theorem tm1_mono {a : Nat → Nat} {n m : Nat} (h : n ≤ m) : tm1 a n ≤ tm1 a m := Nat.add_le_add (Nat.mul_le_mul h (Nat.le_refl _)) (Nat.mul_le_mul (by omega) (Nat.le_refl _))
theorem tm1_0 (a : Nat → Nat) : tm1 a 0 = 0 := by unfold tm1; simp
theorem smN_ind (q w : Nat) : ∀ n, smN (fun i => if q = i then w else 0) n = if q < n then w else 0
  | 0 => by rw [if_neg (by omega)]; rfl
  | n + 1 => by
    show smN (fun i => if q = i then w else 0) n + (if q = n then w else 0) = _
    rw [smN_ind q w n]
    split <;> split <;> split <;> omega
theorem fs_rm {S o : Nat} {u : Nat → Nat} (hS : S < 32) (ho : o < 5) (h : S.testBit o = true) : fs S u = fs (rmB S o) u + u o := by
  have e : fs S u = smN (fun q => (if (rmB S o).testBit q = true then u q else 0) + (if o = q then u o else 0)) 5 := smN_congr 5 (fun q hq => by
    rw [rm_t hS ho hq]
    by_cases c : q = o
    · subst c
      rw [if_pos h, if_pos rfl, h]
      simp
    · rw [if_neg (show ¬ o = q from fun w => c w.symm), decide_eq_true c, Bool.and_true, Nat.add_zero])
  rw [e, smN_add, smN_ind, if_pos ho]
  rfl
theorem fs_df {S X : Nat} {u : Nat → Nat} (hS : S < 32) (hX : X < 32) (h : sbB X S = true) : fs S u = fs X u + fs (dfB S X) u := by
  have e : fs S u = smN (fun q => (if X.testBit q = true then u q else 0) + (if (dfB S X).testBit q = true then u q else 0)) 5 := smN_congr 5 (fun q hq => by
    rw [df_t hS hX hq]
    by_cases c : X.testBit q = true
    · rw [if_pos c, if_pos (sb_e hX hS h hq c), c]
      simp
    · have c' : X.testBit q = false := by simpa using c
      rw [if_neg c, c', Nat.zero_add]
      simp)
  rw [e, smN_add]
  rfl
theorem fs_congr {S : Nat} {u v : Nat → Nat} (h : ∀ p, p < 5 → S.testBit p = true → u p = v p) : fs S u = fs S v := smN_congr 5 (fun p hp => by
  by_cases c : S.testBit p = true
  · rw [if_pos c, if_pos c, h p hp c]
  · rw [if_neg c, if_neg c])
theorem fs_zero {S : Nat} {u : Nat → Nat} (h : ∀ p, p < 5 → S.testBit p = true → u p = 0) : fs S u = 0 := by
  rw [fs_congr (v := fun _ => 0) h]
  unfold fs
  rw [smN_congr (g := fun _ => 0) 5 (fun p _ => ite_self _)]
  rfl
theorem fs_le {S : Nat} {u : Nat → Nat} {m : Nat} (h : ∀ p, p < 5 → S.testBit p = true → u p ≤ m) : fs S u ≤ 5 * m := smN_le 5 (fun p hp => by
  by_cases c : S.testBit p = true
  · rw [if_pos c]; exact h p hp c
  · rw [if_neg c]; omega)
section
variable {F : Nat → Nat → Nat} {W K : Nat → Nat} {wo : Int32} {lim : Nat} {num : Nat → Nat}
/-- a rope may carry a part -/
def al (F : Nat → Nat → Nat) (W K : Nat → Nat) (wo : Int32) (r p : Nat) : Prop := ¬ nI r = wo ∧ ok1 W K (F r) p
/-- the parts of a set go by ropes below j, each in time -/
def okS (F : Nat → Nat → Nat) (W K : Nat → Nat) (wo : Int32) (lim j S : Nat) (f : Nat → Nat) : Prop := (∀ p, p < 5 → S.testBit p = true → f p < j ∧ al F W K wo (f p) p) ∧ ∀ r, r < j → tm1 (F r) (cnS S f r) ≤ lim
def kyS (F : Nat → Nat → Nat) (W num : Nat → Nat) (S : Nat) (f : Nat → Nat) : Nat := fs S (fun p => ky1 W (F (f p)) (num (f p)) p)
def NW : Nat := 268435456
/-- the least keys of sets, by ropes below j -/
def LPk (F : Nat → Nat → Nat) (W K : Nat → Nat) (wo : Int32) (lim : Nat) (num : Nat → Nat) (N j : Nat) (ls : Nat → Nat) : Prop := ∀ S, S < N → ls S ≤ NW ∧ (ls S = NW ∨ ∃ f, okS F W K wo lim j S f ∧ ls S = kyS F W num S f) ∧ ∀ f, okS F W K wo lim j S f → ls S ≤ kyS F W num S f
/-- the keys of sets that one rope carries alone -/
def okA (a : Nat → Nat) (W K : Nat → Nat) (lim X : Nat) : Prop := (∀ p, p < 5 → X.testBit p = true → ok1 W K a p) ∧ tm1 a (pcS X) ≤ lim
def AP (a : Nat → Nat) (W K : Nat → Nat) (lim n : Nat) (av : Nat → Nat) : Prop := ∀ X, (okA a W K lim X → av X = fs X (ky1 W a n)) ∧ (¬ okA a W K lim X → av X = NW)
/-- one more rope is joined -/
def LJ (ls av : Nat → Nat) (S b : Nat) : Prop := b ≤ ls S ∧ (∀ X, 0 < X → X < 32 → sbB X S = true → b ≤ ls (dfB S X) + av X) ∧ (b = ls S ∨ ∃ X, 0 < X ∧ X < 32 ∧ sbB X S = true ∧ b = ls (dfB S X) + av X)
theorem AP_ex (a : Nat → Nat) (W K : Nat → Nat) (lim n : Nat) : ∃ av, AP a W K lim n av := ⟨fun X => @ite Nat (okA a W K lim X) (Classical.propDecidable _) (fs X (ky1 W a n)) NW, fun X => ⟨fun h => if_pos h, fun h => if_neg h⟩⟩
theorem okS_skip {j S : Nat} {f : Nat → Nat} (h : okS F W K wo lim j S f) : okS F W K wo lim (j + 1) S f := by
  refine ⟨fun p hp hb => ⟨by have := (h.1 p hp hb).1; omega, (h.1 p hp hb).2⟩, fun r hr => ?_⟩
  by_cases c : r = j
  · subst c
    have : cnS S f r = 0 := fs_zero (fun p hp hb => if_neg (by have := (h.1 p hp hb).1; omega))
    rw [this, tm1_0]
    omega
  · exact h.2 r (by omega)
theorem okS_back {j S : Nat} {f : Nat → Nat} (h : okS F W K wo lim (j + 1) S f) (hn : ∀ p, p < 5 → S.testBit p = true → ¬ f p = j) : okS F W K wo lim j S f := ⟨fun p hp hb => ⟨by have := (h.1 p hp hb).1; have := hn p hp hb; omega, (h.1 p hp hb).2⟩, fun r hr => h.2 r (by omega)⟩
/-- the rope j is none of those sought: nothing changes -/
theorem LP_skip {N j : Nat} {ls : Nat → Nat} (h : LPk F W K wo lim num N j ls) (hw : nI j = wo) : LPk F W K wo lim num N (j + 1) ls := fun S hS => by
  obtain ⟨h1, h2, h3⟩ := h S hS
  refine ⟨h1, ?_, fun f hf => h3 f (okS_back hf (fun p hp hb e => (hf.1 p hp hb).2.1 (by rw [e]; exact hw)))⟩
  rcases h2 with h2 | ⟨f, h2, h4⟩
  · exact Or.inl h2
  · exact Or.inr ⟨f, okS_skip h2, h4⟩
/-- the parts that go by one rope -/
theorem part_of (S : Nat) (hS : S < 32) (P : Nat → Prop) : ∃ X, X < 32 ∧ ∀ p, p < 5 → (X.testBit p = true ↔ S.testBit p = true ∧ P p) := by
  have h : ∀ n, n ≤ 5 → ∃ X, X < 32 ∧ ∀ p, p < 5 → (X.testBit p = true ↔ p < n ∧ S.testBit p = true ∧ P p) := by
    intro n
    induction n with
    | zero => intro _; exact ⟨0, by omega, fun p hp => ⟨fun q => by rw [Nat.zero_testBit] at q; exact absurd q (by decide), fun q => by omega⟩⟩
    | succ n ih =>
      intro hn
      obtain ⟨X, h1, h2⟩ := ih (by omega)
      by_cases c : S.testBit n = true ∧ P n
      · refine ⟨X ||| 2 ^ n, (or_dec ⟨X, h1⟩ ⟨n, by omega⟩ ⟨0, by omega⟩).1, fun p hp => ?_⟩
        have t : (X ||| 2 ^ n).testBit p = (X.testBit p || decide (p = n)) := (or_dec ⟨X, h1⟩ ⟨n, by omega⟩ ⟨p, hp⟩).2
        rw [t]
        by_cases e : p = n
        · subst e
          rw [decide_eq_true rfl, Bool.or_true]
          exact ⟨fun _ => ⟨by omega, c⟩, fun _ => rfl⟩
        · rw [decide_eq_false e, Bool.or_false, h2 p hp]
          exact ⟨fun q => ⟨by omega, q.2⟩, fun q => ⟨by omega, q.2⟩⟩
      · refine ⟨X, h1, fun p hp => ?_⟩
        rw [h2 p hp]
        exact ⟨fun q => ⟨by omega, q.2⟩, fun q => ⟨by
          by_cases e : p = n
          · subst e; exact absurd q.2 c
          · omega, q.2⟩⟩
  obtain ⟨X, h1, h2⟩ := h 5 (by omega)
  exact ⟨X, h1, fun p hp => ⟨fun q => ((h2 p hp).mp q).2, fun q => (h2 p hp).mpr ⟨hp, q⟩⟩⟩
theorem LP_join {N j : Nat} {ls ls' av : Nat → Nat} (hN : N ≤ 32) (hdf : ∀ S X, S < N → dfB S X < N) (h : LPk F W K wo lim num N j ls) (ha : AP (F j) W K lim (num j) av) (hw : ¬ nI j = wo) (h0 : ls' 0 = ls 0) (hj : ∀ S, 0 < S → S < N → LJ ls av S (ls' S)) : LPk F W K wo lim num N (j + 1) ls' := by
  intro S hS
  obtain ⟨h1, h2, h3⟩ := h S hS
  have zero : ∀ f, kyS F W num 0 f = 0 := fun f => fs_zero (fun p _ q => by rw [Nat.zero_testBit] at q; exact absurd q (by decide))
  by_cases s0 : S = 0
  · subst s0
    rw [h0]
    refine ⟨h1, ?_, fun f hf => h3 f (okS_back hf (fun p hp hb => by rw [Nat.zero_testBit] at hb; exact absurd hb (by decide)))⟩
    rcases h2 with h2 | ⟨f, h2, h4⟩
    · exact Or.inl h2
    · exact Or.inr ⟨f, okS_skip h2, h4⟩
  obtain ⟨j1, j2, j3⟩ := hj S (by omega) hS
  refine ⟨by omega, ?_, fun f hf => ?_⟩
  · rcases j3 with j3 | ⟨X, x0, x1, x2, x3⟩
    · rw [j3]
      rcases h2 with h2 | ⟨f, h2, h4⟩
      · exact Or.inl h2
      · exact Or.inr ⟨f, okS_skip h2, h4⟩
    · obtain ⟨d1, d2, d3⟩ := h (dfB S X) (hdf S X hS)
      by_cases c1 : ls (dfB S X) = NW
      · exact Or.inl (by omega)
      by_cases c2 : okA (F j) W K lim X
      · right
        rcases d2 with d2 | ⟨f, f1, f2⟩
        · exact absurd d2 c1
        obtain ⟨f', ft, fn⟩ : ∃ f' : Nat → Nat, (∀ p, X.testBit p = true → f' p = j) ∧ ∀ p, ¬ X.testBit p = true → f' p = f p := ⟨fun p => if X.testBit p = true then j else f p, fun p q => if_pos q, fun p q => if_neg q⟩
        have inD : ∀ p, p < 5 → S.testBit p = true → ¬ X.testBit p = true → (dfB S X).testBit p = true := fun p hp hs hx => by
          rw [df_t (by omega) x1 hp, hs]
          have : X.testBit p = false := by simpa using hx
          rw [this]; rfl
        have nX : ∀ p, p < 5 → (dfB S X).testBit p = true → ¬ X.testBit p = true := fun p hp hd hx => by
          rw [df_t (by omega) x1 hp, hx] at hd
          exact absurd hd (by simp)
        have cD : ∀ r, cnS (dfB S X) f' r = cnS (dfB S X) f r := fun r => fs_congr (fun p hp hb => by rw [fn p (nX p hp hb)])
        refine ⟨f', ⟨fun p hp hb => ?_, fun r hr => ?_⟩, ?_⟩
        · by_cases cx : X.testBit p = true
          · rw [ft p cx]
            exact ⟨by omega, hw, c2.1 p hp cx⟩
          · rw [fn p cx]
            have := f1.1 p hp (inD p hp hb cx)
            exact ⟨by omega, this.2⟩
        · have e : cnS S f' r = cnS X f' r + cnS (dfB S X) f' r := fs_df (by omega) x1 x2
          rw [e, cD]
          by_cases cr : r = j
          · subst cr
            have e1 : cnS X f' r = pcS X := fs_congr (fun p hp hb => if_pos (ft p hb))
            have e2 : cnS (dfB S X) f r = 0 := fs_zero (fun p hp hb => if_neg (by have := (f1.1 p hp hb).1; omega))
            rw [e1, e2]
            exact c2.2
          · have e1 : cnS X f' r = 0 := fs_zero (fun p hp hb => if_neg (by rw [ft p hb]; omega))
            rw [e1, Nat.zero_add]
            exact f1.2 r (by omega)
        · have e : kyS F W num S f' = kyS F W num X f' + kyS F W num (dfB S X) f' := fs_df (by omega) x1 x2
          have e1 : kyS F W num X f' = fs X (ky1 W (F j) (num j)) := fs_congr (fun p hp hb => by rw [ft p hb])
          have e2 : kyS F W num (dfB S X) f' = kyS F W num (dfB S X) f := fs_congr (fun p hp hb => by rw [fn p (nX p hp hb)])
          rw [x3, e, e1, e2, f2, (ha X).1 c2]
          omega
      · left
        have := (ha X).2 c2
        omega
  · obtain ⟨X, x1, x2⟩ := part_of S (by omega) (fun p => f p = j)
    by_cases x0 : X = 0
    · have := h3 f (okS_back hf (fun p hp hb e => by
        have := (x2 p hp).mpr ⟨hb, e⟩
        rw [x0, Nat.zero_testBit] at this
        exact absurd this (by decide)))
      omega
    · have xs : sbB X S = true := sb_i x1 (by omega) (fun p hp hb => ((x2 p hp).mp hb).1)
      have nX : ∀ p, p < 5 → (dfB S X).testBit p = true → S.testBit p = true ∧ ¬ f p = j := fun p hp hd => by
        rw [df_t (by omega) x1 hp] at hd
        have a : S.testBit p = true := by
          cases q : S.testBit p
          · rw [q] at hd; exact absurd hd (by simp)
          · rfl
        refine ⟨a, fun e => ?_⟩
        rw [(x2 p hp).mpr ⟨a, e⟩] at hd
        exact absurd hd (by simp)
      have e : kyS F W num S f = kyS F W num X f + kyS F W num (dfB S X) f := fs_df (by omega) x1 xs
      have e1 : kyS F W num X f = fs X (ky1 W (F j) (num j)) := fs_congr (fun p hp hb => by rw [((x2 p hp).mp hb).2])
      have cj : cnS S f j = pcS X := by
        have e : cnS S f j = cnS X f j + cnS (dfB S X) f j := fs_df (by omega) x1 xs
        have e1 : cnS X f j = pcS X := fs_congr (fun p hp hb => if_pos ((x2 p hp).mp hb).2)
        have e2 : cnS (dfB S X) f j = 0 := fs_zero (fun p hp hb => if_neg (nX p hp hb).2)
        rw [e, e1, e2]; rfl
      have hA : okA (F j) W K lim X := ⟨fun p hp hb => by
        obtain ⟨q1, q2⟩ := (x2 p hp).mp hb
        have := (hf.1 p hp q1).2.2
        rw [q2] at this
        exact this, by rw [← cj]; exact hf.2 j (by omega)⟩
      have hD : okS F W K wo lim j (dfB S X) f := by
        refine ⟨fun p hp hb => ?_, fun r hr => ?_⟩
        · obtain ⟨q1, q2⟩ := nX p hp hb
          have := hf.1 p hp q1
          exact ⟨by omega, this.2⟩
        · have e : cnS S f r = cnS X f r + cnS (dfB S X) f r := fs_df (by omega) x1 xs
          exact Nat.le_trans (tm1_mono (by omega)) (hf.2 r (by omega))
      have b1 := j2 X (by omega) x1 xs
      have b2 := (h (dfB S X) (hdf S X hS)).2.2 f hD
      rw [(ha X).1 hA] at b1
      omega
end
