/-! as told; clash -/
def K42 (σ σ' : Sg) : Prop := ∀ i k, i ≠ 42 → σ'.1 i k = σ.1 i k
def K77 (σ σ' : Sg) : Prop := ∀ i k, i ≠ 77 → σ'.1 i k = σ.1 i k
theorem K42.kp {σ σ' : Sg} (h : K42 σ σ') : Kp σ σ' := fun i k w _ => h i k (by unfold scC at w; omega)
theorem K77.kp {σ σ' : Sg} (h : K77 σ σ') : Kp σ σ' := fun i k _ w => h i k (by unfold scM at w; omega)
theorem K42.cv {σ σ' : Sg} (h : K42 σ σ') {nr : Nat} {fa : Nat → Nat → Int32} {rk : Nat → Nat} (hc : CV nr fa rk σ) : CV nr fa rk σ' := hc.of (h _ _ (by omega)) (fun i k _ _ => h _ _ (by omega))
theorem K77.mv {σ σ' : Sg} (h : K77 σ σ') {nr : Nat} {fa : Nat → Nat → Int32} {rk : Nat → Nat} (hm : MV' nr fa rk σ) : MV' nr fa rk σ' := hm.of (h _ _ (by omega)) (fun k => h _ _ (by omega)) (fun k => h _ _ (by omega))
theorem begin_k {σ : Sg} {t : Nat} {v : Int32} (ht : t < 20) : f_Tt_begin σ (nI t) v = some (pI σ 42 t v) := by
  unfold f_Tt_begin
  rw [if_neg (n10 (below_yes (n := 20) ht (by decide) (by decide))), nI_clamp (by omega)]
def B0 (T : Nat → Nat → Int32) (t : Nat) : Nat := (T t 2).toNatClampNeg % 200
theorem B0_k {nt : Nat} {T : Nat → Nat → Int32} (hI : ∀ t, t < nt → tOk (T t)) {t : Nat} (ht : t < nt) : T t 2 = nI (B0 T t) := by
  obtain ⟨-, -, ⟨j, hj, e⟩, -⟩ := hI t ht
  unfold B0
  rw [e, nI_clamp (show j < 2 ^ 31 by omega), Nat.mod_eq_of_lt hj]
theorem B0_lt (T : Nat → Nat → Int32) (t : Nat) : B0 T t < 200 := Nat.mod_lt _ (by omega)
theorem casTold {nr : Nat} {fa : Nat → Nat → Int32} {rk : Nat → Nat} {nt : Nat} {T : Nat → Nat → Int32} (hI : ∀ t, t < nt → tOk (T t)) : ∀ (d f i : Nat) (σ : Sg), CV nr fa rk σ → TC nt T σ → BC nr i T (B0 T) σ → i + d = nt → d < f → ∃ σ', f_Tt_beginAsTold_2 f σ (nI i) = some σ' ∧ K42 σ σ' ∧ BC nr nt T (B0 T) σ' := by
  intro d
  induction d with
  | zero =>
    intro f i σ hc hC hB hi hf
    have h20 := hC.1
    obtain ⟨m, rfl⟩ : ∃ m, f = m + 1 := ⟨f - 1, by omega⟩
    have : i = nt := by omega
    subst this
    exact ⟨σ, by rw [f_Tt_beginAsTold_2_s, hC.2.1, if_pos (nI_le (Nat.le_refl _) (by omega))], fun _ _ _ => rfl, hB⟩
  | succ d ih =>
    intro f i σ hc hC hB hi hf
    have h20 := hC.1
    obtain ⟨m, rfl⟩ : ∃ m, f = m + 1 := ⟨f - 1, by omega⟩
    have stp : ∀ v : Int32, (cntT nr T i → v = nI (B0 T i)) → (¬ cntT nr T i → v = -1) → ∃ σ', f_Tt_beginAsTold_40 (f_Tt_beginAsTold_2 m) σ (nI i) v (nI i) = some σ' ∧ K42 σ σ' ∧ BC nr nt T (B0 T) σ' := fun v h1 h2 => by
      have hk : K42 σ (pI σ 42 i v) := fun a b g => pI_ne (by omega)
      obtain ⟨σ', k1, k2, k3⟩ := ih m (i + 1) (pI σ 42 i v) (hk.cv hc) (hC.of hk.kp) (fun t ht => by
        by_cases q : t = i
        · subst q
          exact ⟨fun c => by rw [pI_eq, h1 c], fun c => by rw [pI_eq, h2 c]⟩
        · rw [pI_ne (by omega)]
          exact hB t (by omega)) (by omega) (by omega)
      refine ⟨σ', ?_, fun a b g => (k2 a b g).trans (hk a b g), k3⟩
      unfold f_Tt_beginAsTold_40
      rw [begin_k (by omega), Option.bind_some, nI_1]
      exact k1
    rw [f_Tt_beginAsTold_2_s, hC.2.1, if_neg (nI_ge (by omega) (by omega)), ts_at (by omega), hC.2.2 i 0 (by omega) (by omega), hC.2.2 i 2 (by omega) (by omega), rs_has hc.2.1 hc.1]
    by_cases c : isR nr (T i 0) = true
    · rw [if_pos c, if_neg (show ¬ (1 : Int32) = 0 by decide)]
      exact stp _ (fun _ => B0_k hI (by omega)) (fun h => absurd c h)
    · rw [if_neg c, if_pos rfl]
      exact stp _ (fun h => absurd h c) (fun _ => rfl)
theorem casTold_k {nr : Nat} {fa : Nat → Nat → Int32} {rk : Nat → Nat} {nt : Nat} {T : Nat → Nat → Int32} {σ : Sg} (hI : ∀ t, t < nt → tOk (T t)) (hc : CV nr fa rk σ) (hC : TC nt T σ) : ∃ σ', f_Tt_beginAsTold σ = some σ' ∧ K42 σ σ' ∧ BC nr nt T (B0 T) σ' := by
  have h20 := hC.1
  exact casTold hI nt FU 0 σ hc hC (fun t ht => by omega) (by omega) (by unfold FU; omega)
theorem masTold {nr : Nat} {nt : Nat} {T : Nat → Nat → Int32} (hI : ∀ t, t < nt → tOk (T t)) : ∀ (d f i : Nat) (σ : Sg), TM nt T σ → (∀ t, t < i → σ.1 77 t = nI (B0 T t)) → i + d = nt → d < f → ∃ σ', f_Md_asTold_7 f σ (nI i) = some σ' ∧ K77 σ σ' ∧ BM nr nt T (B0 T) σ' := by
  intro d
  induction d with
  | zero =>
    intro f i σ hM hB hi hf
    have h20 := hM.1
    obtain ⟨m, rfl⟩ : ∃ m, f = m + 1 := ⟨f - 1, by omega⟩
    have : i = nt := by omega
    subst this
    exact ⟨σ, by rw [f_Md_asTold_7_s, hM.2.1, if_pos (nI_le (Nat.le_refl _) (by omega))], fun _ _ _ => rfl, fun t ht _ => hB t ht⟩
  | succ d ih =>
    intro f i σ hM hB hi hf
    have h20 := hM.1
    obtain ⟨m, rfl⟩ : ∃ m, f = m + 1 := ⟨f - 1, by omega⟩
    have g2 := hM.get (t := i) (k := 2) (by omega) (by omega)
    have x2 : (5 * nI i + 2 : Int32) = nI (5 * i + 2) := five_k (k := 2)
    have hk : K77 σ (pI σ 77 i (nI (B0 T i))) := fun a b g => pI_ne (by omega)
    obtain ⟨σ', k1, k2, k3⟩ := ih m (i + 1) (pI σ 77 i (nI (B0 T i))) (hM.of hk.kp) (fun t ht => by
      by_cases q : t = i
      · subst q; exact pI_eq
      · rw [pI_ne (by omega)]; exact hB t (by omega)) (by omega) (by omega)
    refine ⟨σ', ?_, fun a b g => (k2 a b g).trans (hk a b g), k3⟩
    rw [f_Md_asTold_7_s, hM.2.1, if_neg (nI_ge (by omega) (by omega)), x2, gd_of g2.1, gd_of (vin_nI (by omega) (by decide)), g2.2, B0_k hI (by omega), nI_clamp (by omega), nI_1]
    exact k1
theorem masTold_k {nr : Nat} {nt : Nat} {T : Nat → Nat → Int32} {σ σ1 : Sg} {v : Int32} (he : f_Md_find σ = some (v, σ1)) (hI : ∀ t, t < nt → tOk (T t)) (hM : TM nt T σ1) : ∃ σ', f_Md_asTold σ = some σ' ∧ K77 σ1 σ' ∧ BM nr nt T (B0 T) σ' := by
  have h20 := hM.1
  unfold f_Md_asTold
  rw [he, bd_s]
  exact masTold hI nt FU 0 σ1 hM (fun t ht => by omega) (by omega) (by unfold FU; omega)
