/-! wind: the model's -/
theorem mwind {nr : Nat} {fa : Nat → Nat → Int32} {rk : Nat → Nat} {nt : Nat} {T : Nat → Nat → Int32} {v : Int32} : ∀ (d f i : Nat) (σ : Sg), MV' nr fa rk σ → TM nt T σ → (∀ t, t < i → cntT nr T t → σ.1 77 t = nI (BW nr T v t)) → (∀ t, i ≤ t → t < nt → cntT nr T t → σ.1 77 t = nI (B0 T t)) → σ.1 66 17 = sdW nr T v i → i + d = nt → d < f → ∃ σ', f_Md_wind_11 f σ (nI i) = (bd (f_Md_clashesNow σ') fun r6 σ5 => some (r6, σ5)) ∧ (∀ a b, a ≠ 77 → ¬ (a = 66 ∧ b = 17) → σ'.1 a b = σ.1 a b) ∧ BM nr nt T (BW nr T v) σ' := by
  intro d
  induction d with
  | zero =>
    intro f i σ hm hM hB hB0 hs hi hf
    have h20 := hM.1
    obtain ⟨m, rfl⟩ : ∃ m, f = m + 1 := ⟨f - 1, by omega⟩
    have : i = nt := by omega
    subst this
    exact ⟨σ, by rw [f_Md_wind_11_s, hM.2.1, if_pos (nI_le (Nat.le_refl _) (by omega))], fun _ _ _ _ => rfl, hB⟩
  | succ d ih =>
    intro f i σ hm hM hB hB0 hs hi hf
    have h20 := hM.1
    obtain ⟨m, rfl⟩ : ∃ m, f = m + 1 := ⟨f - 1, by omega⟩
    rw [f_Md_wind_11_s, hM.2.1, if_neg (nI_ge (by omega) (by omega)), counts_k hm hM (by omega), Option.bind_some]
    unfold f_Md_wind_41
    rw [nI_1]
    by_cases c : isR nr (T i 0) = true
    · rw [if_pos c, if_neg (show ¬ (1 : Int32) = 0 by decide), gd_of (vin_nI (by omega) (by decide))]
      unfold f_Md_lot
      rw [gd_of (show decide (¬ (4 : Int32) = 0) = true by decide), pI_eq, hs, bd_s, gd_of (vin_nI (by omega) (by decide)), nI_clamp (by omega), hB0 i (by omega) (by omega) c]
      have l := lot_k (nxS (sdW nr T v i))
      unfold nxS at l
      rw [l, nI_add]
      have fr : ∀ a b, a ≠ 77 → ¬ (a = 66 ∧ b = 17) → (pI (pI σ 66 17 (1103515245 * sdW nr T v i + 12345)) 77 i (nI (B0 T i + ltN (1103515245 * sdW nr T v i + 12345)))).1 a b = σ.1 a b := fun a b g1 g2 => by rw [pI_ne (by omega), pI_ne g2]
      have kp : Kp σ (pI (pI σ 66 17 (1103515245 * sdW nr T v i + 12345)) 77 i (nI (B0 T i + ltN (1103515245 * sdW nr T v i + 12345)))) := fun a b _ g => fr a b (by unfold scM at g; omega) (by unfold scM at g; omega)
      obtain ⟨σ', k1, k2, k3⟩ := ih m (i + 1) _ (hm.of (fr _ _ (by omega) (by omega)) (fun k => fr _ _ (by omega) (by omega)) (fun k => fr _ _ (by omega) (by omega))) (hM.of kp) (fun t ht ct => by
        by_cases q : t = i
        · subst q; rw [pI_eq]; rfl
        · rw [pI_ne (by omega), pI_ne (by omega)]; exact hB t (by omega) ct) (fun t h1 h2 ct => by rw [pI_ne (by omega), pI_ne (by omega)]; exact hB0 t (by omega) h2 ct) (by
        rw [pI_ne (by omega), pI_eq]
        show _ = if isR nr (T i 0) = true then nxS (sdW nr T v i) else sdW nr T v i
        rw [if_pos c]; rfl) (by omega) (by omega)
      exact ⟨σ', k1, fun a b g1 g2 => (k2 a b g1 g2).trans (fr a b g1 g2), k3⟩
    · rw [if_neg c, if_pos rfl]
      exact ih m (i + 1) σ hm hM (fun t ht ct => by
        by_cases q : t = i
        · subst q; exact absurd ct c
        · exact hB t (by omega) ct) (fun t h1 h2 ct => hB0 t (by omega) h2 ct) (by
        rw [hs]
        show _ = if isR nr (T i 0) = true then nxS (sdW nr T v i) else sdW nr T v i
        rw [if_neg c]) (by omega) (by omega)
