/-! two trips collide: the model -/
theorem lasts_k {nr : Nat} {fa : Nat → Nat → Int32} {rk : Nat → Nat} {nt : Nat} {T : Nat → Nat → Int32} {σ : Sg} (hm : MV' nr fa rk σ) (hM : TM nt T σ) {a ra da : Nat} (ha : a < nt) (hra : ra < nr) (hda : da < 2) (ea : T a 0 = nI ra) (eda : T a 1 = nI da) : f_Md_lasts σ (nI a) = some (minO fa ra da) := by
  have g0 := hM.get (t := a) (k := 0) ha (by omega)
  have g1 := hM.get (t := a) (k := 1) ha (by omega)
  have x1 : (5 * nI a + 1 : Int32) = nI (5 * a + 1) := five_k (k := 1)
  unfold f_Md_lasts
  rw [x1, five_0, gd_of g0.1, gd_of g1.1, g0.2, g1.2, ea, eda, mminutes_k hm hra hda]
  rfl
theorem moment_k {nr : Nat} {fa : Nat → Nat → Int32} {rk : Nat → Nat} {nt : Nat} {T : Nat → Nat → Int32} {σ : Sg} (hm : MV' nr fa rk σ) (hin : ∀ r k, r < nr → k < 6 → ∃ j : Nat, j < hiN k ∧ fa r k = nI j) (hM : TM nt T σ) {a ra rb da x : Nat} (ha : a < nt) (hra : ra < nr) (hda : da < 2) (ea : T a 0 = nI ra) (eda : T a 1 = nI da) (sa : σ.1 77 a = nI x) (e12 : σ.1 66 12 = nI (apN fa ra rb 0)) (e13 : σ.1 66 13 = nI (spN fa ra rb)) : f_Md_moment σ (nI a) = some (nI (moN fa ra rb da x)) := by
  have h20 := hM.1
  have g1 := hM.get (t := a) (k := 1) ha (by omega)
  have x1 : (5 * nI a + 1 : Int32) = nI (5 * a + 1) := five_k (k := 1)
  unfold f_Md_moment f_Md_moment_29
  rw [x1, gd_of g1.1, g1.2, eda, gd_of (vin_nI (by omega) (by decide)), gd_of (vin_nI (by omega) (by decide)), nI_clamp (show a < 2 ^ 31 by omega), sa, lasts_k hm hM ha hra hda ea eda, e12, e13, (min_k hin hra hda).1, Option.bind_some, Option.bind_some, pk_sub (show apN fa ra rb 0 ≤ spN fa ra rb by unfold spN; omega), pk_mul, pk_mul, pk_mul, nI_add, nI_add]
  unfold moN
  rcases (show da = 0 ∨ da = 1 by omega) with rfl | rfl
  · rw [if_pos (show nI 0 = 0 from rfl)]
  · rw [if_neg (show ¬ nI 1 = 0 by decide), show spN fa ra rb - apN fa ra rb 0 = apN fa ra rb 1 by unfold spN; omega]
/-- only the model's place changes -/
def KPl (σ σ' : Sg) : Prop := ∀ i k, ¬ (i = 66 ∧ (k = 12 ∨ k = 13)) → σ'.1 i k = σ.1 i k
theorem KPl.rf {σ : Sg} : KPl σ σ := fun _ _ _ => rfl
theorem KPl.tr {σ σ' σ'' : Sg} (h1 : KPl σ σ') (h2 : KPl σ' σ'') : KPl σ σ'' := fun i k g => (h2 i k g).trans (h1 i k g)
theorem KPl.kp {σ σ' : Sg} (h : KPl σ σ') : Kp σ σ' := fun i k _ w => h i k (by unfold scM at w; omega)
set_option maxHeartbeats 1000000 in
theorem doClash_k {nr : Nat} {fa : Nat → Nat → Int32} {rk : Nat → Nat} {nt : Nat} {T : Nat → Nat → Int32} {σc σ : Sg} (hc : CV nr fa rk σc) (hm : MV' nr fa rk σ) (hin : ∀ r k, r < nr → k < 6 → ∃ j : Nat, j < hiN k ∧ fa r k = nI j) (hM : TM nt T σ) {a b g ra da x rb db y : Nat} (hg : g ≤ 9) (eg : σ.1 75 0 = nI g) (ha : a < nt) (hb : b < nt) (hra : ra < nr) (hrb : rb < nr) (hda : da < 2) (hdb : db < 2) (hx : x < 2 ^ 20) (hy : y < 2 ^ 20) (ea : T a 0 = nI ra) (eda : T a 1 = nI da) (eb : T b 0 = nI rb) (edb : T b 1 = nI db) (sa : σ.1 77 a = nI x) (sb : σ.1 77 b = nI y) : ∃ v σ', f_Md_doClash σ (nI a) (nI b) = some (v, σ') ∧ (colP fa g ra da x rb db y → v = 1) ∧ (¬ colP fa g ra da x rb db y → v = 0) ∧ KPl σ σ' := by
  have h20 := hM.1
  have h8 := hc.1
  obtain ⟨ma, -, ma3⟩ := min_k hin hra hda
  obtain ⟨mb, -, mb3⟩ := min_k hin hrb hdb
  have ia : isR nr (T a 0) = true := by rw [ea]; exact decide_eq_true ⟨by rw [nI_toInt (by omega)]; omega, by rw [nI_toInt (by omega)]; omega⟩
  have ib : isR nr (T b 0) = true := by rw [eb]; exact decide_eq_true ⟨by rw [nI_toInt (by omega)]; omega, by rw [nI_toInt (by omega)]; omega⟩
  have g0 := hM.get (t := a) (k := 0) ha (by omega)
  have g1 := hM.get (t := b) (k := 0) hb (by omega)
  unfold f_Md_doClash colP
  rw [counts_k hm hM ha, counts_k hm hM hb, if_pos ia, if_pos ib, Option.bind_some, if_neg (show ¬ (1 : Int32) = 0 by decide), Option.bind_some, if_neg (show ¬ (1 : Int32) = 0 by decide), five_0, five_0, gd_of g0.1, gd_of g1.1, g0.2, g1.2, ea, eb]
  by_cases c : ra = rb
  · rw [if_pos (show nI ra = nI rb by rw [c]), if_pos c, gd_of (vin_nI (show a < 20 by omega) (by decide)), gd_of (vin_nI (show b < 20 by omega) (by decide)), lasts_k hm hM hb hrb hdb eb edb, lasts_k hm hM ha hra hda ea eda, Option.bind_some, Option.bind_some, gd_of (vin_nI (show a < 20 by omega) (by decide)), gd_of (vin_nI (show b < 20 by omega) (by decide)), nI_clamp (show a < 2 ^ 31 by omega), nI_clamp (show b < 2 ^ 31 by omega), sa, sb, ma, mb, nI_add, nI_add]
    by_cases c1 : y + mnN fa rb db ≤ x
    · rw [if_pos (nI_le c1 (by omega))]
      exact ⟨0, σ, rfl, fun h => by omega, fun _ => rfl, KPl.rf⟩
    · rw [if_neg (nI_ge (by omega) (by omega))]
      by_cases c2 : x + mnN fa ra da ≤ y
      · rw [if_pos (nI_le c2 (by omega))]
        exact ⟨0, σ, rfl, fun h => by omega, fun _ => rfl, KPl.rf⟩
      · rw [if_neg (nI_ge (by omega) (by omega))]
        exact ⟨1, σ, rfl, fun _ => rfl, fun h => absurd ⟨by omega, by omega⟩ h, KPl.rf⟩
  · rw [if_neg (fun h => c ((nI_eq (by omega) (by omega)).mp h)), if_neg c, doCross_k hm hin hra hrb, Option.bind_some]
    by_cases c0 : crs fa ra rb = 0
    · rw [if_pos c0]
      exact ⟨0, σ, rfl, fun h => absurd c0 h.1, fun _ => rfl, KPl.rf⟩
    rw [if_neg c0]
    obtain ⟨p, q, hp, hq, hpq, a0, sp, fp⟩ := place_k hc hm hin hra hrb c0
    have s1 := sp_k hc hin hra hrb
    have s2 := (sp_k hc hin hrb hra).2
    have p0 := ap_k hc hin hra hrb (d := 0) (by omega)
    have ep : p = apN fa ra rb 0 := (nI_eq (by omega) (by omega)).mp (a0.symm.trans p0.1)
    have es : p + q = spN fa ra rb := (nI_eq (by omega) (by omega)).mp (sp.symm.trans s1.1)
    rw [es, ep] at fp
    rw [fp, Option.bind_some]
    have kpl : KPl σ (pI (pI σ 66 12 (nI (apN fa ra rb 0))) 66 13 (nI (spN fa ra rb))) := fun i k w => by rw [pI_ne (by omega), pI_ne (by omega)]
    have z12 : (pI (pI σ 66 12 (nI (apN fa ra rb 0))) 66 13 (nI (spN fa ra rb))).1 66 12 = nI (apN fa ra rb 0) := by rw [pI_ne (by omega), pI_eq]
    have z13 : (pI (pI σ 66 12 (nI (apN fa ra rb 0))) 66 13 (nI (spN fa ra rb))).1 66 13 = nI (spN fa ra rb) := pI_eq
    generalize pI (pI σ 66 12 (nI (apN fa ra rb 0))) 66 13 (nI (spN fa ra rb)) = σ1 at kpl z12 z13
    have hm1 : MV' nr fa rk σ1 := hm.of (kpl _ _ (by omega)) (fun k => kpl _ _ (by omega)) (fun k => kpl _ _ (by omega))
    have hM1 : TM nt T σ1 := hM.of kpl.kp
    have m1 := moment_k hm1 hin hM1 ha hra hda ea eda (by rw [kpl _ _ (by omega)]; exact sa) z12 z13
    have m2 := moment_k (rb := ra) hm1 hin hM1 hb hrb hdb eb edb (by rw [kpl _ _ (by omega)]; exact sb) (by rw [apN_comm fa rb ra]; exact z12) (by rw [spN_comm fa rb ra]; exact z13)
    rw [m1, m2, Option.bind_some, Option.bind_some, z13, kpl _ _ (by omega), eg, pk_mul]
    have al := abs_lt (mo_lt hin (s := rb) hra hda hx s1.2 (ap_k hc hin hra hrb hda).2) (mo_lt hin (s := ra) hrb hdb hy s2 (ap_k hc hin hrb hra hdb).2) (gsp hg s1.2)
    by_cases c1 : moN fa ra rb da x < moN fa rb ra db y + g * spN fa ra rb
    · rw [if_neg (fun w => al.2.1.mp w c1)]
      by_cases c2 : moN fa rb ra db y < moN fa ra rb da x + g * spN fa ra rb
      · rw [if_neg (fun w => al.2.2.mp w c2)]
        exact ⟨1, σ1, rfl, fun _ => rfl, fun h => absurd ⟨c0, c1, c2⟩ h, kpl⟩
      · rw [if_pos (al.2.2.mpr c2)]
        exact ⟨0, σ1, rfl, fun h => absurd h.2.2 c2, fun _ => rfl, kpl⟩
    · rw [if_pos (al.2.1.mpr c1)]
      exact ⟨0, σ1, rfl, fun h => absurd h.2.1 c1, fun _ => rfl, kpl⟩
