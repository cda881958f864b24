/-! the pure part: tools -/
theorem pI_get (σ : Sg) (i k a b : Nat) (v : Int32) : (pI σ i k v).1 a b = if a = i ∧ b = k then v else σ.1 a b := rfl
theorem pI_ne {σ : Sg} {i k a b : Nat} {v : Int32} (h : ¬ (a = i ∧ b = k)) : (pI σ i k v).1 a b = σ.1 a b := if_neg h
theorem pI_eq {σ : Sg} {i k : Nat} {v : Int32} : (pI σ i k v).1 i k = v := if_pos ⟨rfl, rfl⟩
theorem gd_t {α : Type} (k : Option α) : gd true k = k := rfl
theorem gd_of {α : Type} {b : Bool} {k : Option α} (h : b = true) : gd b k = k := by rw [h]; rfl
theorem bd_s {α β : Type} (a : α) (s : Sg) (k : α → Sg → Option β) : bd (some (a, s)) k = k a s := rfl
theorem vin_nI {n N : Nat} (h : n < N) (hN : N < 2 ^ 31) : vin (nI n) N = true := decide_eq_true (vp_in_nI h hN)
theorem md_in (u v w : Int64) : f_Md_in u v w = if v.toInt ≤ u.toInt ∧ u.toInt ≤ w.toInt then 1 else 0 := by
  unfold f_Md_in lg_cmp
  by_cases h1 : u < v
  · have h1' := Int64.lt_iff_toInt_lt.mp h1
    have a1 : ¬ u > v := fun h => by have := Int64.lt_iff_toInt_lt.mp h; omega
    have a2 : ¬ u = v := fun h => by subst h; omega
    simp only [if_neg a1, if_neg a2]
    rw [if_pos (by decide), if_neg (by omega)]
  · have h1' : v.toInt ≤ u.toInt := Int.not_lt.mp (fun h => h1 (Int64.lt_iff_toInt_lt.mpr h))
    have e : ¬ ((if u > v then (1 : Int32) else if u = v then 0 else -1) < 0) := by
      by_cases h2 : u > v
      · rw [if_pos h2]; decide
      · have h2' : u.toInt ≤ v.toInt := Int.not_lt.mp (fun h => h2 (Int64.lt_iff_toInt_lt.mpr h))
        have h3 : u = v := Int64.toInt_inj.mp (by omega)
        rw [if_neg h2, if_pos h3]; decide
    rw [if_neg e]
    by_cases h4 : u > w
    · have := Int64.lt_iff_toInt_lt.mp h4
      rw [if_pos h4, if_pos (by decide), if_neg (by omega)]
    · have h5 : u.toInt ≤ w.toInt := Int.not_lt.mp (fun h => h4 (Int64.lt_iff_toInt_lt.mpr h))
      have e2 : ¬ (0 < (if u > w then (1 : Int32) else if u = w then 0 else -1)) := by
        rw [if_neg h4]
        split <;> decide
      rw [if_neg e2, if_pos (And.intro h1' h5)]
theorem gr_below (x n : Int32) : f_GR_isBelow x n = if 0 ≤ x.toInt ∧ x.toInt < n.toInt then 1 else 0 := by
  have z : (0 : Int32).toInt = 0 := by decide
  unfold f_GR_isBelow
  by_cases h1 : x < 0
  · have := Int32.lt_iff_toInt_lt.mp h1
    rw [if_pos h1, if_neg (by omega)]
  · have h1' : (0 : Int32).toInt ≤ x.toInt := Int.not_lt.mp (fun h => h1 (Int32.lt_iff_toInt_lt.mpr h))
    rw [if_neg h1]
    by_cases h2 : n ≤ x
    · have := Int32.le_iff_toInt_le.mp h2
      rw [if_pos h2, if_neg (by omega)]
    · have h3 : x.toInt < n.toInt := Int.not_le.mp (fun h => h2 (Int32.le_iff_toInt_le.mpr h))
      rw [if_neg h2, if_pos (And.intro (by omega) h3)]
theorem ite10 (p : Prop) [Decidable p] : ((if p then (1 : Int32) else 0) = 0) ↔ ¬ p := by
  split
  · simp_all
  · simp_all
theorem zb10 (p : Prop) [Decidable p] : zb (if p then (1 : Int32) else 0) = if p then 1 else 0 := by split <;> rfl
theorem if_ite10 {α : Type} (p : Prop) [Decidable p] (a b : α) : (if (if p then (1 : Int32) else 0) = 0 then a else b) = if p then b else a := by
  by_cases h : p
  · rw [if_pos h, if_pos h, if_neg (by decide)]
  · rw [if_neg h, if_neg h, if_pos rfl]
theorem of_toInt {x : Int32} {n : Nat} (h : x.toInt = n) (hn : n < 2 ^ 31) : x = nI n := Int32.toInt_inj.mp (h.trans (nI_toInt hn).symm)
theorem arg_in (x : Int32) (n : Nat) (hn : n < 2 ^ 31) : (¬ (0 ≤ x.toInt ∧ x.toInt < n)) ∨ ∃ j : Nat, j < n ∧ x = nI j := by
  by_cases h : 0 ≤ x.toInt ∧ x.toInt < n
  · exact Or.inr ⟨x.toInt.toNat, by omega, of_toInt (by omega) (by omega)⟩
  · exact Or.inl h
/-- what the class and the model ask of an argument -/
theorem below_no {x : Int32} {m : Int32} {n : Nat} (h : ¬ (0 ≤ x.toInt ∧ x.toInt < n)) (hm : m.toInt = n) : f_GR_isBelow x m = 0 := by rw [gr_below, hm, if_neg h]
theorem below_yes {m : Int32} {n j : Nat} (h : j < n) (hm : m.toInt = n) (hn : n < 2 ^ 31) : f_GR_isBelow (nI j) m = 1 := by rw [gr_below, hm, nI_toInt (by omega), if_pos (by omega)]
theorem in_no {x : Int32} {w : Int64} {n : Nat} (h : ¬ (0 ≤ x.toInt ∧ x.toInt < n)) (hw : w.toInt + 1 = n) : f_Md_in x.toInt64 0 w = 0 := by
  have z : (0 : Int64).toInt = 0 := by decide
  rw [md_in, Int32.toInt_toInt64, if_neg (by omega)]
theorem in_yes {w : Int64} {n j : Nat} (h : j < n) (hw : w.toInt + 1 = n) (hn : n < 2 ^ 31) : f_Md_in (nI j).toInt64 0 w = 1 := by
  have z : (0 : Int64).toInt = 0 := by decide
  rw [md_in, Int32.toInt_toInt64, nI_toInt (by omega), if_pos (by omega)]
theorem zb0 : zb 0 = 0 := rfl
theorem zb1 : zb 1 = 1 := rfl
/-- cells of the groups -/
def gSet (i _k : Nat) : Prop := i = 17 ∨ i = 75
def gT (i k : Nat) : Prop := (i = 18 ∧ k = 2) ∨ (i = 66 ∧ k = 14) ∨ (21 ≤ i ∧ i < 41) ∨ i = 76
def gP (i k : Nat) : Prop := (i = 43 ∧ k = 5) ∨ (i = 66 ∧ k = 18) ∨ i = 44 ∨ i = 45 ∨ i = 78 ∨ i = 79
def gS (i _k : Nat) : Prop := (58 ≤ i ∧ i < 66) ∨ i = 67 ∨ i = 68 ∨ i = 69
def gL (i k : Nat) : Prop := (i = 54 ∧ k = 2) ∨ (i = 66 ∧ k = 4) ∨ (i = 51 ∧ k = 0) ∨ (i = 52 ∧ k = 0)
def gX (i k : Nat) : Prop := (1 ≤ i ∧ i < 5) ∨ (i = 5 ∧ (k = 3 ∨ k = 4 ∨ k = 5)) ∨ (8 ≤ i ∧ i < 17) ∨ i = 71 ∨ i = 72
def Same (g : Nat → Nat → Prop) (σ σ' : Sg) : Prop := ∀ i k, g i k → σ'.1 i k = σ.1 i k
theorem Same.rf {g : Nat → Nat → Prop} {σ : Sg} : Same g σ σ := fun _ _ _ => rfl
theorem Same.tr {g : Nat → Nat → Prop} {σ σ' σ'' : Sg} (h1 : Same g σ σ') (h2 : Same g σ' σ'') : Same g σ σ'' := fun i k h => (h2 i k h).trans (h1 i k h)
theorem Same.pI {g : Nat → Nat → Prop} {σ σ' : Sg} {i k : Nat} {v : Int32} (h1 : Same g σ σ') (h : ¬ g i k) : Same g σ (pI σ' i k v) := fun a b hg => by
  rw [pI_ne]
  · exact h1 a b hg
  · rintro ⟨rfl, rfl⟩; exact h hg
theorem Same.sub {g g' : Nat → Nat → Prop} {σ σ' : Sg} (h : Same g σ σ') (hs : ∀ i k, g' i k → g i k) : Same g' σ σ' := fun i k hg => h i k (hs i k hg)
/-- what the class's, the model's reckoning may change -/
def scC (i k : Nat) : Prop := i = 41 ∨ i = 42 ∨ (i = 43 ∧ 6 ≤ k) ∨ (46 ≤ i ∧ i < 54 ∧ ¬ (i = 51 ∧ k = 0) ∧ ¬ (i = 52 ∧ k = 0))
def scM (i k : Nat) : Prop := (i = 66 ∧ k ≠ 4 ∧ k ≠ 14 ∧ k ≠ 18) ∨ i = 70 ∨ i = 73 ∨ i = 74 ∨ i = 77 ∨ (80 ≤ i ∧ i < 87)
def RSet (σ : Sg) : Prop := (∀ k, k < 3 → σ.1 75 k = σ.1 17 k) ∧ (1 ≤ (σ.1 17 0).toInt ∧ (σ.1 17 0).toInt ≤ 9) ∧ (1 ≤ (σ.1 17 1).toInt ∧ (σ.1 17 1).toInt ≤ 99) ∧ (0 ≤ (σ.1 17 2).toInt ∧ (σ.1 17 2).toInt ≤ 999)
/-- a trip's numbers -/
def tOk (f : Nat → Int32) : Prop := (∃ j : Nat, j < 8 ∧ f 0 = nI j) ∧ (∃ j : Nat, j < 2 ∧ f 1 = nI j) ∧ (∃ j : Nat, j < 200 ∧ f 2 = nI j) ∧ (∃ j : Nat, j < 10 ∧ f 3 = nI j) ∧ (∃ j : Nat, j < 5 ∧ f 4 = nI j)
def RT (nt : Nat) (σ : Sg) : Prop := nt ≤ 20 ∧ σ.1 18 2 = nI nt ∧ σ.1 66 14 = nI nt ∧ ∀ t, t < nt → tOk (σ.1 (21 + t)) ∧ ∀ k, k < 5 → σ.1 76 (5 * t + k) = σ.1 (21 + t) k
def RP (np : Nat) (σ : Sg) : Prop := np ≤ 5 ∧ σ.1 43 5 = nI np ∧ σ.1 66 18 = nI np ∧ ∀ p, p < np → (∃ j : Nat, j < 10 ∧ σ.1 44 p = nI j) ∧ (∃ j : Nat, j < 3 ∧ σ.1 45 p = nI j) ∧ σ.1 78 p = σ.1 44 p ∧ σ.1 79 p = σ.1 45 p
def RS1 (s : Nat) (σ : Sg) : Prop := σ.1 67 s = σ.1 (58 + 2 * s) 1 ∧ (σ.1 67 s = -1 ∨ ((σ.1 67 s = 0 ∨ σ.1 67 s = 1 ∨ σ.1 67 s = 2) ∧ ∃ n : Nat, n ≤ 60 ∧ σ.1 (58 + 2 * s) 2 = nI n ∧ σ.1 68 s = nI n ∧ ∀ i, i < n → σ.1 69 (60 * s + i) = σ.1 (59 + 2 * s) i))
def RS (σ : Sg) : Prop := ∀ s, s < 4 → RS1 s σ
def RL (σ : Sg) : Prop := σ.1 66 4 = σ.1 54 2 ∧ σ.1 51 0 = 0 ∧ σ.1 52 0 = 0
theorem RSet.of {σ σ' : Sg} (h : RSet σ) (e : Same gSet σ σ') : RSet σ' := by
  have e17 : ∀ k, σ'.1 17 k = σ.1 17 k := fun k => e 17 k (Or.inl rfl)
  have e75 : ∀ k, σ'.1 75 k = σ.1 75 k := fun k => e 75 k (Or.inr rfl)
  unfold RSet
  simp only [e17, e75]
  exact h
theorem RT.of {nt : Nat} {σ σ' : Sg} (h : RT nt σ) (e : Same gT σ σ') : RT nt σ' := by
  obtain ⟨h1, h2, h3, h4⟩ := h
  refine ⟨h1, (e 18 2 (by unfold gT; omega)).trans h2, (e 66 14 (by unfold gT; omega)).trans h3, fun t ht => ?_⟩
  have e1 : σ'.1 (21 + t) = σ.1 (21 + t) := funext fun k => e (21 + t) k (by unfold gT; omega)
  rw [e1]
  exact ⟨(h4 t ht).1, fun k hk => (e 76 _ (by unfold gT; omega)).trans ((h4 t ht).2 k hk)⟩
theorem RP.of {np : Nat} {σ σ' : Sg} (h : RP np σ) (e : Same gP σ σ') : RP np σ' := by
  obtain ⟨h1, h2, h3, h4⟩ := h
  refine ⟨h1, (e 43 5 (by unfold gP; omega)).trans h2, (e 66 18 (by unfold gP; omega)).trans h3, fun p hp => ?_⟩
  rw [e 44 p (by unfold gP; omega), e 45 p (by unfold gP; omega), e 78 p (by unfold gP; omega), e 79 p (by unfold gP; omega)]
  exact h4 p hp
theorem RS1.of {s : Nat} (hs : s < 4) {σ σ' : Sg} (h : RS1 s σ) (e1 : σ'.1 67 s = σ.1 67 s) (e2 : ∀ k, σ'.1 (58 + 2 * s) k = σ.1 (58 + 2 * s) k) (e3 : σ'.1 68 s = σ.1 68 s) (e4 : ∀ i, i < 60 → σ'.1 69 (60 * s + i) = σ.1 69 (60 * s + i)) (e5 : ∀ i, i < 60 → σ'.1 (59 + 2 * s) i = σ.1 (59 + 2 * s) i) : RS1 s σ' := by
  unfold RS1
  rw [e1, e2 1, e2 2, e3]
  obtain ⟨h1, h2⟩ := h
  refine ⟨h1, ?_⟩
  rcases h2 with h2 | ⟨h2, n, hn, h3, h4, h5⟩
  · exact Or.inl h2
  · exact Or.inr ⟨h2, n, hn, h3, h4, fun i hi => by rw [e4 i (by omega), e5 i (by omega)]; exact h5 i hi⟩
theorem RS.of {σ σ' : Sg} (h : RS σ) (e : Same gS σ σ') : RS σ' := fun s hs => (h s hs).of hs (e 67 s (by unfold gS; omega)) (fun k => e (58 + 2 * s) k (by unfold gS; omega)) (e 68 s (by unfold gS; omega)) (fun i _ => e 69 _ (by unfold gS; omega)) (fun i _ => e (59 + 2 * s) i (by unfold gS; omega))
theorem RL.of {σ σ' : Sg} (h : RL σ) (e : Same gL σ σ') : RL σ' := by
  unfold RL
  rw [e 66 4 (by unfold gL; omega), e 54 2 (by unfold gL; omega), e 51 0 (by unfold gL; omega), e 52 0 (by unfold gL; omega)]
  exact h
