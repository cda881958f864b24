/-! two trips collide -/
def apN (fa : Nat → Nat → Int32) (r s k : Nat) : Nat := ((fa r k).toInt - (fa s k).toInt).natAbs
def spN (fa : Nat → Nat → Int32) (r s : Nat) : Nat := apN fa r s 0 + apN fa r s 1
def mnN (fa : Nat → Nat → Int32) (r d : Nat) : Nat := (minO fa r d).toNatClampNeg
def moN (fa : Nat → Nat → Int32) (r s d x : Nat) : Nat := x * spN fa r s + mnN fa r d * apN fa r s d
def colP (fa : Nat → Nat → Int32) (g ra da x rb db y : Nat) : Prop := if ra = rb then (x < y + mnN fa rb db ∧ y < x + mnN fa ra da) else (¬ crs fa ra rb = 0 ∧ moN fa ra rb da x < moN fa rb ra db y + g * spN fa ra rb ∧ moN fa rb ra db y < moN fa ra rb da x + g * spN fa ra rb)
theorem apN_comm (fa : Nat → Nat → Int32) (r s k : Nat) : apN fa r s k = apN fa s r k := by unfold apN; omega
theorem spN_comm (fa : Nat → Nat → Int32) (r s : Nat) : spN fa r s = spN fa s r := by unfold spN; rw [apN_comm fa r s 0, apN_comm fa r s 1]
theorem abs_dec : ∀ a c : Fin 10, f_JM_abs (nI a.val - nI c.val) = nI ((nI a.val).toInt - (nI c.val).toInt).natAbs ∧ ((nI a.val).toInt - (nI c.val).toInt).natAbs < 10 := by decide +kernel
theorem min_dec : ∀ a c : Fin 10, (12 + 2 * mx0 (nI a.val - nI c.val) : Int32) = nI (12 + 2 * mx0 (nI a.val - nI c.val) : Int32).toNatClampNeg ∧ 12 ≤ (12 + 2 * mx0 (nI a.val - nI c.val) : Int32).toNatClampNeg ∧ (12 + 2 * mx0 (nI a.val - nI c.val) : Int32).toNatClampNeg ≤ 30 := by decide +kernel
theorem min_k {nr : Nat} {fa : Nat → Nat → Int32} (hin : ∀ r k, r < nr → k < 6 → ∃ j : Nat, j < hiN k ∧ fa r k = nI j) {r d : Nat} (hr : r < nr) (hd : d < 2) : minO fa r d = nI (mnN fa r d) ∧ 12 ≤ mnN fa r d ∧ mnN fa r d ≤ 30 := by
  unfold mnN minO ris
  obtain ⟨a, ha, ea⟩ := hin r (1 - d) hr (by omega)
  obtain ⟨b, hb, eb⟩ := hin r d hr (by omega)
  have ha : a < 10 := by rcases (show d = 0 ∨ d = 1 by omega) with rfl | rfl <;> exact ha
  have hb : b < 10 := by rcases (show d = 0 ∨ d = 1 by omega) with rfl | rfl <;> exact hb
  rw [ea, eb]
  exact min_dec ⟨a, ha⟩ ⟨b, hb⟩
theorem ap_k {nr : Nat} {fa : Nat → Nat → Int32} {rk : Nat → Nat} {σ : Sg} (hc : CV nr fa rk σ) (hin : ∀ r k, r < nr → k < 6 → ∃ j : Nat, j < hiN k ∧ fa r k = nI j) {r s d : Nat} (hr : r < nr) (hs : s < nr) (hd : d < 2) : f_Ro_apart σ (9 + r) (9 + s) (nI d) = nI (apN fa r s d) ∧ apN fa r s d < 10 := by
  obtain ⟨a, ha, ea⟩ := hin r d hr (by omega)
  obtain ⟨b, hb, eb⟩ := hin s d hs (by omega)
  have ha : a < 10 := by rcases (show d = 0 ∨ d = 1 by omega) with rfl | rfl <;> exact ha
  have hb : b < 10 := by rcases (show d = 0 ∨ d = 1 by omega) with rfl | rfl <;> exact hb
  have h := abs_dec ⟨a, ha⟩ ⟨b, hb⟩
  unfold apN f_Ro_apart
  rcases (show d = 0 ∨ d = 1 by omega) with rfl | rfl
  · rw [if_pos (show nI 0 = 0 from rfl), (hc.2.2 r hr).1 0 (by omega), (hc.2.2 s hs).1 0 (by omega), ea, eb]
    exact h
  · rw [if_neg (show ¬ nI 1 = 0 by decide), (hc.2.2 r hr).1 1 (by omega), (hc.2.2 s hs).1 1 (by omega), ea, eb]
    exact h
theorem sp_k {nr : Nat} {fa : Nat → Nat → Int32} {rk : Nat → Nat} {σ : Sg} (hc : CV nr fa rk σ) (hin : ∀ r k, r < nr → k < 6 → ∃ j : Nat, j < hiN k ∧ fa r k = nI j) {r s : Nat} (hr : r < nr) (hs : s < nr) : f_Ro_span σ (9 + r) (9 + s) = nI (spN fa r s) ∧ spN fa r s < 19 := by
  have h0 := ap_k hc hin hr hs (d := 0) (by omega)
  have h1 := ap_k hc hin hr hs (d := 1) (by omega)
  have h0' : f_Ro_apart σ (9 + r) (9 + s) 0 = nI (apN fa r s 0) := h0.1
  have h1' : f_Ro_apart σ (9 + r) (9 + s) 1 = nI (apN fa r s 1) := h1.1
  unfold f_Ro_span spN
  rw [h0', h1', nI_add]
  exact ⟨rfl, by omega⟩
theorem mo_lt {nr : Nat} {fa : Nat → Nat → Int32} (hin : ∀ r k, r < nr → k < 6 → ∃ j : Nat, j < hiN k ∧ fa r k = nI j) {r s d x : Nat} (hr : r < nr) (hd : d < 2) (hx : x < 2 ^ 20) (h1 : spN fa r s < 19) (h2 : apN fa r s d < 10) : moN fa r s d x < 2 ^ 25 := by
  obtain ⟨-, -, h3⟩ := min_k hin hr hd
  unfold moN
  have a1 : x * spN fa r s ≤ 2 ^ 20 * 18 := Nat.mul_le_mul (by omega) (by omega)
  have a2 : mnN fa r d * apN fa r s d ≤ 30 * 9 := Nat.mul_le_mul (by omega) (by omega)
  omega
/-- a difference against a bound, both ways of asking -/
theorem abs_lt {u v w : Nat} (hu : u < 2 ^ 25) (hv : v < 2 ^ 25) (hw : w < 2 ^ 25) : (nI w ≤ f_JM_abs (nI u - nI v) ↔ ¬ (u < v + w ∧ v < u + w)) ∧ (nI w ≤ nI u - nI v ↔ ¬ u < v + w) ∧ (nI u - nI v ≤ -(nI w) ↔ ¬ v < u + w) := by
  have e1 : (nI u - nI v).toInt = (u : Int) - v := pk_sub_toInt (by omega) (by omega)
  have e2 : (nI w).toInt = w := nI_toInt (by omega)
  have z : (0 : Int32).toInt = 0 := by decide
  have e3 : (-(nI w)).toInt = -(w : Int) := by
    rw [Int32.toInt_neg, e2]
    exact Int.bmod_eq_of_le (by omega) (by omega)
  have e4 : (-(nI u - nI v)).toInt = (v : Int) - u := by
    rw [Int32.toInt_neg, e1]
    have : (-((u : Int) - v)).bmod (2 ^ 32) = -((u : Int) - v) := Int.bmod_eq_of_le (by omega) (by omega)
    rw [this]; omega
  refine ⟨?_, ?_, ?_⟩
  · unfold f_JM_abs
    by_cases c : 0 ≤ nI u - nI v
    · have c' := Int32.le_iff_toInt_le.mp c
      rw [if_pos c, Int32.le_iff_toInt_le, e1, e2]
      omega
    · have c' : (nI u - nI v).toInt < (0 : Int32).toInt := Int.not_le.mp (fun h => c (Int32.le_iff_toInt_le.mpr h))
      rw [if_neg c, Int32.le_iff_toInt_le, e4, e2]
      omega
  · rw [Int32.le_iff_toInt_le, e1, e2]; omega
  · rw [Int32.le_iff_toInt_le, e1, e3]; omega
