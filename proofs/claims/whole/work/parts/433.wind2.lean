/-! wind: the class's timetable -/
theorem cwind {nr : Nat} {fa : Nat → Nat → Int32} {rk : Nat → Nat} {nt : Nat} {T : Nat → Nat → Int32} {v : Int32} (hI : ∀ t, t < nt → tOk (T t)) : ∀ (d f i : Nat) (σ : Sg), CV nr fa rk σ → TC nt T σ → BC nr i T (BW nr T v) σ → σ.1 41 1 = sdW nr T v i → i + d = nt → d < f → ∃ σ', f_Tt_beginBlown_8 f σ (nI i) = some σ' ∧ (∀ a b, a ≠ 41 → a ≠ 42 → σ'.1 a b = σ.1 a b) ∧ BC nr nt T (BW nr T v) σ' := by
  intro d
  induction d with
  | zero =>
    intro f i σ hc hC hB hs hi hf
    have h20 := hC.1
    obtain ⟨m, rfl⟩ : ∃ m, f = m + 1 := ⟨f - 1, by omega⟩
    have : i = nt := by omega
    subst this
    exact ⟨σ, by rw [f_Tt_beginBlown_8_s, hC.2.1, if_pos (nI_le (Nat.le_refl _) (by omega))], fun _ _ _ _ => rfl, hB⟩
  | succ d ih =>
    intro f i σ hc hC hB hs hi hf
    have h20 := hC.1
    obtain ⟨m, rfl⟩ : ∃ m, f = m + 1 := ⟨f - 1, by omega⟩
    have stp : ∀ (w : Int32) (σ1 : Sg), (∀ a b, a ≠ 41 → σ1.1 a b = σ.1 a b) → σ1.1 41 1 = sdW nr T v (i + 1) → (cntT nr T i → w = nI (BW nr T v i)) → (¬ cntT nr T i → w = -1) → ∃ σ', f_Tt_beginBlown_54 (f_Tt_beginBlown_8 m) σ1 (nI i) w (nI i) = some σ' ∧ (∀ a b, a ≠ 41 → a ≠ 42 → σ'.1 a b = σ.1 a b) ∧ BC nr nt T (BW nr T v) σ' := fun w σ1 h0 hs1 h1 h2 => by
      have hk : ∀ a b, a ≠ 41 → a ≠ 42 → (pI σ1 42 i w).1 a b = σ.1 a b := fun a b g1 g2 => by rw [pI_ne (by omega), h0 a b g1]
      have kp : Kp σ (pI σ1 42 i w) := fun a b g _ => hk a b (by unfold scC at g; omega) (by unfold scC at g; omega)
      obtain ⟨σ', k1, k2, k3⟩ := ih m (i + 1) (pI σ1 42 i w) (hc.of (hk _ _ (by omega) (by omega)) (fun a b _ _ => hk _ _ (by omega) (by omega))) (hC.of kp) (fun t ht => by
        by_cases q : t = i
        · subst q
          exact ⟨fun c => by rw [pI_eq, h1 c], fun c => by rw [pI_eq, h2 c]⟩
        · rw [pI_ne (by omega), h0 _ _ (by omega)]
          exact hB t (by omega)) (by rw [pI_ne (by omega)]; exact hs1) (by omega) (by omega)
      refine ⟨σ', ?_, fun a b g1 g2 => (k2 a b g1 g2).trans (hk a b g1 g2), k3⟩
      unfold f_Tt_beginBlown_54
      rw [begin_k (by omega), Option.bind_some, nI_1]
      exact k1
    rw [f_Tt_beginBlown_8_s, hC.2.1, if_neg (nI_ge (by omega) (by omega)), ts_at (by omega), hC.2.2 i 0 (by omega) (by omega), hC.2.2 i 2 (by omega) (by omega), rs_has hc.2.1 hc.1]
    by_cases c : isR nr (T i 0) = true
    · rw [if_pos c, if_neg (show ¬ (1 : Int32) = 0 by decide)]
      unfold f_Tt_windLot
      rw [pI_eq, hs, bd_s]
      refine stp _ _ (fun a b g => pI_ne (by omega)) ?_ (fun _ => ?_) (fun h => absurd c h)
      · rw [pI_eq]
        show _ = if isR nr (T i 0) = true then nxS (sdW nr T v i) else sdW nr T v i
        rw [if_pos c]; rfl
      · have := lot_k (nxS (sdW nr T v i))
        unfold nxS at this
        rw [this, B0_k hI (by omega), nI_add]
        rfl
    · rw [if_neg c, if_pos rfl]
      refine stp _ _ (fun a b g => rfl) ?_ (fun h => absurd h c) (fun _ => rfl)
      rw [hs]
      show _ = if isR nr (T i 0) = true then nxS (sdW nr T v i) else sdW nr T v i
      rw [if_neg c]
