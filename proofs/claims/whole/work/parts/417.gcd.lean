/-! crossing: the place of a crossing in lowest terms -/
theorem low_loop {x y g : Nat} (hx : x < 2 ^ 30) (hy : y < 2 ^ 30) (hy0 : 0 < y) (hg : g = Nat.gcd x y) (w : Int32) : ∀ (k f : Nat), g + k < 2 ^ 30 → k < f → f_GR_lowestTerm_2 f (nI x) (nI y) w (nI (g + k)) = some (if w = 0 then nI (x / g) else nI (y / g)) := by
  have g0 : 0 < g := by rw [hg]; exact Nat.gcd_pos_of_pos_right x hy0
  intro k
  induction k with
  | zero =>
    intro f hk hf
    obtain ⟨m, rfl⟩ : ∃ m, f = m + 1 := ⟨f - 1, by omega⟩
    have d1 : x % g = 0 := by rw [hg]; exact Nat.mod_eq_zero_of_dvd (Nat.gcd_dvd_left x y)
    have d2 : y % g = 0 := by rw [hg]; exact Nat.mod_eq_zero_of_dvd (Nat.gcd_dvd_right x y)
    have nz : ¬ nI g = 0 := nI_ne0 g0 (by omega)
    show f_GR_lowestTerm_2 (m + 1) (nI x) (nI y) w (nI g) = _
    rw [f_GR_lowestTerm_2_s, if_neg (show ¬ nI g < 1 from nI_nlt (b := 1) (by omega) (by omega)), gd_of (decide_eq_true nz), gd_of (decide_eq_true nz), gd_of (decide_eq_true nz), gd_of (decide_eq_true nz), pk_rem (by omega) g0 (by omega), pk_rem (by omega) g0 (by omega), d1, d2, if_pos (show nI 0 = 0 from rfl), if_pos (show nI 0 = 0 from rfl), pk_div (by omega) g0 (by omega), pk_div (by omega) g0 (by omega)]
    by_cases c : w = 0
    · rw [if_pos c, if_pos c]
    · rw [if_neg c, if_neg c]
  | succ k ih =>
    intro f hk hf
    obtain ⟨m, rfl⟩ : ∃ m, f = m + 1 := ⟨f - 1, by omega⟩
    have h := ih m (by omega) (by omega)
    have nz : ¬ nI (g + (k + 1)) = 0 := nI_ne0 (by omega) (by omega)
    have pr : (nI (g + (k + 1)) + (-1) : Int32) = nI (g + k) := pk_m1 (g + k)
    rw [f_GR_lowestTerm_2_s, if_neg (show ¬ nI (g + (k + 1)) < 1 from nI_nlt (b := 1) (by omega) (by omega)), gd_of (decide_eq_true nz), gd_of (decide_eq_true nz), pk_rem (by omega) (by omega) (by omega), pk_rem (by omega) (by omega) (by omega)]
    unfold f_GR_lowestTerm_31
    rw [pr, h]
    have lx : x % (g + (k + 1)) < g + (k + 1) := Nat.mod_lt _ (by omega)
    have ly : y % (g + (k + 1)) < g + (k + 1) := Nat.mod_lt _ (by omega)
    by_cases c1 : x % (g + (k + 1)) = 0
    · by_cases c2 : y % (g + (k + 1)) = 0
      · have := Nat.dvd_gcd (Nat.dvd_of_mod_eq_zero c1) (Nat.dvd_of_mod_eq_zero c2)
        rw [← hg] at this
        have := Nat.le_of_dvd g0 this
        omega
      · rw [if_pos (by rw [c1]; rfl), if_neg (nI_ne0 (Nat.pos_of_ne_zero c2) (by omega))]
    · rw [if_neg (nI_ne0 (Nat.pos_of_ne_zero c1) (by omega))]
theorem low_k {x y : Nat} (hx : x < 2 ^ 10) (hy : y < 2 ^ 10) (hy0 : 0 < y) (w : Int32) : f_GR_lowestTerm (nI x) (nI y) w = some (if w = 0 then nI (x / Nat.gcd x y) else nI (y / Nat.gcd x y)) := by
  have hl : Nat.gcd x y ≤ y := Nat.le_of_dvd hy0 (Nat.gcd_dvd_right x y)
  have := low_loop (x := x) (y := y) (by omega) (by omega) hy0 rfl w (y - Nat.gcd x y) FU (by omega) (by unfold FU; omega)
  rw [show Nat.gcd x y + (y - Nat.gcd x y) = y by omega] at this
  exact this
theorem share_loop {x y g : Nat} (hx : x < 2 ^ 30) (hy : y < 2 ^ 30) (g0 : 0 < g) (w : Int32) : ∀ (k b a f : Nat), b ≤ k → k < f → a < 2 ^ 30 → b < 2 ^ 30 → Nat.gcd a b = g → f_Md_shareOf_17 f (lN x) (lN y) w (lN a) (lN b) = some (if w = 0 then lN (x / g) else lN (y / g)) := by
  have fin : ∀ m a : Nat, a < 2 ^ 30 → a = g → f_Md_shareOf_17 (m + 1) (lN x) (lN y) w (lN a) (lN 0) = some (if w = 0 then lN (x / g) else lN (y / g)) := fun m a ha e => by
    subst e
    have nz : ¬ lN a = 0 := fun h => by have := (pk_lEQ (b := 0) (by omega) (by omega)).mp h; omega
    rw [f_Md_shareOf_17_s, if_pos (show lg_cmp (lN 0) 0 = 0 from (lg_cmp_eq (lN 0) 0).mpr rfl), gd_of (decide_eq_true nz), gd_of (decide_eq_true nz), pk_lDiv (by omega) g0 (by omega), pk_lDiv (by omega) g0 (by omega)]
    by_cases c : w = 0
    · rw [if_pos c, if_pos c]
    · rw [if_neg c, if_neg c]
  intro k
  induction k with
  | zero =>
    intro b a f h1 h2 ha hb hg
    obtain ⟨m, rfl⟩ : ∃ m, f = m + 1 := ⟨f - 1, by omega⟩
    have : b = 0 := by omega
    subst this
    exact fin m a ha (by rw [← hg, Nat.gcd_zero_right])
  | succ k ih =>
    intro b a f h1 h2 ha hb hg
    obtain ⟨m, rfl⟩ : ∃ m, f = m + 1 := ⟨f - 1, by omega⟩
    by_cases c : b = 0
    · subst c
      exact fin m a ha (by rw [← hg, Nat.gcd_zero_right])
    · have nz : ¬ lN b = 0 := fun h => c ((pk_lEQ (b := 0) (by omega) (by omega)).mp h)
      have lt : a % b < b := Nat.mod_lt _ (by omega)
      rw [f_Md_shareOf_17_s, if_neg (fun h => nz ((lg_cmp_eq _ _).mp h)), gd_of (decide_eq_true nz), pk_lRem (by omega) (by omega) (by omega)]
      exact ih (a % b) b m (by omega) (by omega) hb (by omega) (by rw [← hg, Nat.gcd_comm a b, Nat.gcd_rec b a, Nat.gcd_comm])
theorem share_k {x y : Nat} (hx : x < 2 ^ 10) (hy : y < 2 ^ 10) (hy0 : 0 < y) (w : Int32) : f_Md_shareOf (nI x).toInt64 (nI y).toInt64 w = some (if w = 0 then nI (x / Nat.gcd x y) else nI (y / Nat.gcd x y)).toInt64 := by
  have q1 : x / Nat.gcd x y ≤ x := Nat.div_le_self _ _
  have q2 : y / Nat.gcd x y ≤ y := Nat.div_le_self _ _
  unfold f_Md_shareOf f_Md_shareOf_12
  rw [nI_l (show x < 2 ^ 31 by omega), nI_l (show y < 2 ^ 31 by omega), if_pos (show 0 ≤ lg_cmp (lN x) 0 from (lg_cmp_ge _ _).mpr ((pk_lLE (a := 0) (by omega) (by omega)).mpr (Nat.zero_le x))), share_loop (g := Nat.gcd x y) (by omega) (by omega) (Nat.gcd_pos_of_pos_right x hy0) w y y x FU (Nat.le_refl _) (by unfold FU; omega) (by omega) (by omega) rfl]
  by_cases c : w = 0
  · rw [if_pos c, if_pos c, nI_l (by omega)]
  · rw [if_neg c, if_neg c, nI_l (by omega)]
def ab9 (i : Nat) : Nat := if 9 ≤ i then i - 9 else 9 - i
theorem pl_dec : ∀ i j : Fin 19, f_JM_abs (nI i.val - 9) = nI (ab9 i.val) ∧ (if (0 : Int32) ≤ nI i.val - 9 then nI i.val - 9 else -(nI i.val - 9)) = nI (ab9 i.val) ∧ (crP (nI i.val - 9) (nI j.val - 9) = 0 ∨ ((if nI j.val - 9 ≤ nI i.val - 9 then (nI i.val - 9) - (nI j.val - 9) else (nI j.val - 9) - (nI i.val - 9)) = nI (ab9 i.val + ab9 j.val) ∧ 0 < ab9 i.val + ab9 j.val)) := by decide +kernel
theorem num_k {a b p q : Nat} (hp : b = b) : (nI a * nI (p + q) + (nI b - nI a) * nI p : Int32) = nI (a * q + b * p) := by
  have h : ∀ u v w : Int32, u + v + (w - v) = u + w := fun u v w => by
    rw [Int32.add_assoc, Int32.add_comm v, Int32.sub_add_cancel]
  rw [Int32.sub_mul, pk_mul, pk_mul, pk_mul, show a * (p + q) = a * q + a * p by rw [Nat.mul_add, Nat.add_comm], ← nI_add, h, nI_add]
theorem place_k {nr : Nat} {fa : Nat → Nat → Int32} {rk : Nat → Nat} {σ σ' : Sg} (hc : CV nr fa rk σ) (hm : MV' nr fa rk σ') (hin : ∀ r k, r < nr → k < 6 → ∃ j : Nat, j < hiN k ∧ fa r k = nI j) {r s : Nat} (hr : r < nr) (hs : s < nr) (hx : ¬ crs fa r s = 0) : ∃ p q : Nat, p < 10 ∧ q < 10 ∧ 0 < p + q ∧ f_Ro_apart σ (9 + r) (9 + s) 0 = nI p ∧ f_Ro_span σ (9 + r) (9 + s) = nI (p + q) ∧ f_Md_findPlace σ' (nI r) (nI s) = some (pI (pI σ' 66 12 (nI p)) 66 13 (nI (p + q))) := by
  obtain ⟨a, ha, ea⟩ := hin r 0 hr (by omega)
  obtain ⟨b, hb, eb⟩ := hin r 1 hr (by omega)
  obtain ⟨c, hc', ec⟩ := hin s 0 hs (by omega)
  obtain ⟨d, hd, ed⟩ := hin s 1 hs (by omega)
  have ha : a < 10 := ha
  have hb : b < 10 := hb
  have hc' : c < 10 := hc'
  have hd : d < 10 := hd
  have e0 : fa r 0 - fa s 0 = nI (a + 9 - c) - 9 := by rw [ea, ec, sub9 ha hc']
  have e1 : fa r 1 - fa s 1 = nI (b + 9 - d) - 9 := by rw [eb, ed, sub9 hb hd]
  obtain ⟨k1, k2, k3⟩ := pl_dec ⟨a + 9 - c, by omega⟩ ⟨b + 9 - d, by omega⟩
  obtain ⟨j1, -, -⟩ := pl_dec ⟨b + 9 - d, by omega⟩ ⟨a + 9 - c, by omega⟩
  simp only [← e0, ← e1] at k1 k2 k3 j1
  have k4 := k3.resolve_left hx
  have a0 : f_Ro_apart σ (9 + r) (9 + s) 0 = nI (ab9 (a + 9 - c)) := by
    unfold f_Ro_apart
    rw [if_pos rfl, (hc.2.2 r hr).1 0 (by omega), (hc.2.2 s hs).1 0 (by omega), k1]
  have a1 : f_Ro_apart σ (9 + r) (9 + s) 1 = nI (ab9 (b + 9 - d)) := by
    unfold f_Ro_apart
    rw [if_neg (show ¬ (1 : Int32) = 0 by decide), (hc.2.2 r hr).1 1 (by omega), (hc.2.2 s hs).1 1 (by omega), j1]
  refine ⟨ab9 (a + 9 - c), ab9 (b + 9 - d), by unfold ab9; split <;> omega, by unfold ab9; split <;> omega, k4.2, a0, by unfold f_Ro_span; rw [a0, a1, nI_add], ?_⟩
  have h0 := above_k hm hr hs (k := 0) (by omega)
  have h1 := above_k hm hr hs (k := 1) (by omega)
  have h0' : f_Md_above σ' (nI r) (nI s) 0 = some (fa r 0 - fa s 0) := h0
  have h1' : f_Md_above σ' (nI r) (nI s) 1 = some (fa r 1 - fa s 1) := h1
  unfold f_Md_findPlace
  rw [h0', h1', Option.bind_some, Option.bind_some]
  unfold f_Md_findPlace_28
  have k4' := k4.1
  by_cases c1 : 0 ≤ fa r 0 - fa s 0
  · rw [if_pos c1] at k2
    rw [if_pos c1]
    by_cases c2 : fa r 1 - fa s 1 ≤ fa r 0 - fa s 0
    · rw [if_pos c2] at k4'
      rw [if_pos c2, k4', k2]
    · rw [if_neg c2] at k4'
      rw [if_neg c2, k4', k2]
  · rw [if_neg c1] at k2
    rw [if_neg c1]
    by_cases c2 : fa r 1 - fa s 1 ≤ fa r 0 - fa s 0
    · rw [if_pos c2] at k4'
      rw [if_pos c2, k4', k2]
    · rw [if_neg c2] at k4'
      rw [if_neg c2, k4', k2]
