/-! clash -/
theorem has_k {nt : Nat} {T : Nat → Nat → Int32} {σ : Sg} (hC : TC nt T σ) (x : Int32) : f_Ts_has σ x = if isR nt x = true then 1 else 0 := by
  have h20 := hC.1
  unfold f_Ts_has isR
  rw [hC.2.1, gr_below, zb10, nI_toInt (by omega)]
  by_cases c : 0 ≤ x.toInt ∧ x.toInt < nt
  · rw [if_pos c, if_pos (decide_eq_true c)]
  · rw [if_neg c, if_neg (fun h => c (of_decide_eq_true h))]
theorem isTrip_k {nt : Nat} {T : Nat → Nat → Int32} {σ : Sg} (hM : TM nt T σ) (x : Int32) : f_Md_isTrip σ x = if isR nt x = true then 1 else 0 := by
  have h20 := hM.1
  unfold f_Md_isTrip isR
  have e : (nI nt - 1).toInt = (nt : Int) - 1 := pk_sub_toInt (a := nt) (b := 1) (by omega) (by omega)
  have z : (0 : Int64).toInt = 0 := by decide
  rw [hM.2.1, md_in, zb10, Int32.toInt_toInt64, Int32.toInt_toInt64, e, z]
  by_cases c : 0 ≤ x.toInt ∧ x.toInt < nt
  · rw [if_pos (by omega), if_pos (decide_eq_true c)]
  · rw [if_neg (by omega), if_neg (fun h => c (of_decide_eq_true h))]
theorem isR_nI' {n : Nat} {x : Int32} (h : isR n x = true) (hn : n ≤ 20) : ∃ r, r < n ∧ x = nI r := by
  have h := of_decide_eq_true h
  exact ⟨x.toInt.toNat, by omega, of_toInt (by omega) (by omega)⟩
theorem rk_inj {nr : Nat} {fa : Nat → Nat → Int32} {rk : Nat → Nat} {σ : Sg} (hc : CV nr fa rk σ) {r s : Nat} (hr : r < nr) (hs : s < nr) (h : rk r = rk s) : r = s := by
  have h8 := hc.1
  obtain ⟨-, -, -, -, -, a⟩ := hc.2.2 r hr
  obtain ⟨-, -, -, -, -, b⟩ := hc.2.2 s hs
  rw [h] at a
  exact (nI_eq (by omega) (by omega)).mp (a.symm.trans b)
theorem guilty_k {nr : Nat} {fa : Nat → Nat → Int32} {rk : Nat → Nat} {nt : Nat} {T : Nat → Nat → Int32} {σ : Sg} (hc : CV nr fa rk σ) (hC : TC nt T σ) {a b ra rb : Nat} (ha : a < nt) (hb : b < nt) (hra : ra < nr) (hrb : rb < nr) (ea : T a 0 = nI ra) (eb : T b 0 = nI rb) : f_GR_guilty σ (nI a) (nI b) = if nI (rk ra) = nI (rk rb) then (if nI b ≤ nI a then nI a else nI b) else if nI (rk rb) ≤ nI (rk ra) then nI a else nI b := by
  have h8 := hc.1
  have h20 := hC.1
  have ka := (hc.2.2 ra hra).2.2.2.2.1
  have kb := (hc.2.2 rb hrb).2.2.2.2.1
  unfold f_GR_guilty
  rw [ts_at (show a < 20 by omega), ts_at (show b < 20 by omega), hC.2.2 a 0 ha (by omega), hC.2.2 b 0 hb (by omega), ea, eb, rs_at (show ra < 8 by omega), rs_at (show rb < 8 by omega), (hc.2.2 ra hra).2.1, (hc.2.2 rb hrb).2.1]
  by_cases c : ra = rb
  · subst c
    rw [if_pos rfl, if_pos rfl]
    unfold f_JM_max
    by_cases q : b ≤ a
    · rw [if_pos (nI_le q (by omega))]
      first
        | rw [if_pos (nI_le q (by omega))]
        | rw [if_neg (nI_nlt q (by omega))]
    · rw [if_neg (nI_ge (by omega) (by omega))]
      first
        | rw [if_neg (nI_ge (by omega) (by omega))]
        | rw [if_pos (nI_lt (by omega) (by omega))]
  · have nk : ¬ rk ra = rk rb := fun h => c (rk_inj hc hra hrb h)
    rw [if_neg (fun h => c ((nI_eq (by omega) (by omega)).mp h)), if_neg (fun h => nk ((nI_eq (by omega) (by omega)).mp h))]
    by_cases q : rk ra ≤ rk rb
    · rw [if_pos (nI_le q (by omega)), if_neg (nI_ge (by omega) (by omega))]
    · rw [if_neg (nI_ge (by omega) (by omega)), if_pos (nI_le (by omega) (by omega))]
