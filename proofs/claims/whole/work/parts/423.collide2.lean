/-! two trips collide: the class -/
theorem st_at {σ : Sg} {a : Nat} (ha : a < 20) : f_Tt_startOf σ (nI a) = σ.1 42 a := by
  unfold f_Tt_startOf
  rw [if_neg (n10 (below_yes (n := 20) ha (by decide) (by decide))), nI_clamp (by omega)]
theorem gsp {g s : Nat} (hg : g ≤ 9) (hs : s < 19) : g * s < 2 ^ 25 := by
  have : g * s ≤ 9 * 18 := Nat.mul_le_mul hg (by omega)
  omega
theorem collide_k {nr : Nat} {fa : Nat → Nat → Int32} {rk : Nat → Nat} {nt : Nat} {T : Nat → Nat → Int32} {σ : Sg} (hc : CV nr fa rk σ) (hin : ∀ r k, r < nr → k < 6 → ∃ j : Nat, j < hiN k ∧ fa r k = nI j) (hC : TC nt T σ) {a b g ra da x rb db y : Nat} (hg : g ≤ 9) (ha : a < nt) (hb : b < nt) (hra : ra < nr) (hrb : rb < nr) (hda : da < 2) (hdb : db < 2) (hx : x < 2 ^ 20) (hy : y < 2 ^ 20) (ea : T a 0 = nI ra) (eda : T a 1 = nI da) (eb : T b 0 = nI rb) (edb : T b 1 = nI db) (sa : σ.1 42 a = nI x) (sb : σ.1 42 b = nI y) : (colP fa g ra da x rb db y → f_Tt_collide σ (nI a) (nI b) (nI g) = 1) ∧ (¬ colP fa g ra da x rb db y → f_Tt_collide σ (nI a) (nI b) (nI g) = 0) := by
  have h20 := hC.1
  have h8 := hc.1
  obtain ⟨ma, -, ma3⟩ := min_k hin hra hda
  obtain ⟨mb, -, mb3⟩ := min_k hin hrb hdb
  have key : f_Tt_collide σ (nI a) (nI b) (nI g) = if ra = rb then (if y + mnN fa rb db ≤ x then 0 else if x + mnN fa ra da ≤ y then 0 else 1) else if crs fa ra rb = 0 then 0 else if nI (g * spN fa ra rb) ≤ f_JM_abs (nI (moN fa ra rb da x) - nI (moN fa rb ra db y)) then 0 else 1 := by
    unfold f_Tt_collide
    rw [st_at (show a < 20 by omega), st_at (show b < 20 by omega), sa, sb, if_neg (nI_m1 (by omega)), if_neg (nI_m1 (by omega)), ts_at (show a < 20 by omega), ts_at (show b < 20 by omega), hC.2.2 a 0 ha (by omega), hC.2.2 b 0 hb (by omega), hC.2.2 a 1 ha (by omega), hC.2.2 b 1 hb (by omega), ea, eda, eb, edb, rs_at (show ra < 8 by omega), rs_at (show rb < 8 by omega), minutes_k hc hra hda, minutes_k hc hrb hdb, ma, mb, meets_k hc hra hrb, (sp_k hc hin hra hrb).1, (ap_k hc hin hra hrb hda).1, (ap_k hc hin hrb hra hdb).1, nI_add, nI_add, pk_mul, pk_mul, pk_mul, pk_mul, pk_mul, nI_add, nI_add]
    have q1 : (nI ra = nI rb) ↔ ra = rb := nI_eq (by omega) (by omega)
    have q2 : (nI (y + mnN fa rb db) ≤ nI x) ↔ y + mnN fa rb db ≤ x := nI_leI (by omega) (by omega)
    have q3 : (nI (x + mnN fa ra da) ≤ nI y) ↔ x + mnN fa ra da ≤ y := nI_leI (by omega) (by omega)
    unfold moN
    rw [spN_comm fa rb ra]
    simp only [q1, q2, q3]
  rw [key]
  unfold colP
  by_cases c : ra = rb
  · rw [if_pos c, if_pos c]
    constructor
    · intro h
      rw [if_neg (by omega), if_neg (by omega)]
    · intro h
      by_cases c1 : y + mnN fa rb db ≤ x
      · rw [if_pos c1]
      · rw [if_neg c1, if_pos (by omega)]
  · rw [if_neg c, if_neg c]
    have s1 := (sp_k hc hin hra hrb).2
    have s2 := (sp_k hc hin hrb hra).2
    have al := abs_lt (mo_lt hin (s := rb) hra hda hx s1 (ap_k hc hin hra hrb hda).2) (mo_lt hin (s := ra) hrb hdb hy s2 (ap_k hc hin hrb hra hdb).2) (gsp hg s1)
    by_cases c0 : crs fa ra rb = 0
    · rw [if_pos c0]
      exact ⟨fun h => absurd c0 h.1, fun _ => rfl⟩
    · rw [if_neg c0]
      constructor
      · intro h
        rw [if_neg (fun w => al.1.mp w h.2)]
      · intro h
        rw [if_pos (al.1.mpr (fun w => h ⟨c0, w⟩))]
