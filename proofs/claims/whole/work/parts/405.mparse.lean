/-! the model reads the texts -/
def MT (n : Nat) (b : Nat → Int32) (σ : Sg) : Prop := n ≤ 60 ∧ σ.1 72 0 = nI n ∧ ∀ i, i < n → σ.1 71 i = b i
theorem MT.of {n : Nat} {b : Nat → Int32} {σ σ' : Sg} (h : MT n b σ) (e1 : σ'.1 72 0 = σ.1 72 0) (e2 : ∀ i, σ'.1 71 i = σ.1 71 i) : MT n b σ' := ⟨h.1, e1.trans h.2.1, fun i hi => (e2 i).trans (h.2.2 i hi)⟩
theorem md_here {n p : Nat} {b : Nat → Int32} {σ : Sg} (h : MT n b σ) (hp : σ.1 66 7 = nI p) (hp2 : p ≤ 60) : f_Md_here σ = some (if p < n then b p else -1) := by
  obtain ⟨h1, h2, h3⟩ := h
  unfold f_Md_here
  rw [h2, hp]
  by_cases c : p < n
  · rw [if_neg (nI_ge c (by omega)), gd_of (vin_nI (by omega) (by decide)), nI_clamp (by omega), h3 p c, if_pos c]
  · rw [if_pos (nI_le (by omega) (by omega)), if_neg c]
def mvO (k : Nat) (x : Int32) : Int32 := if k = 2 then f_Md_kindOf x else x - 48
def hiL (k : Nat) : Int64 := if k = 2 then 2 else if k = 5 then 4 else 9
theorem rope13_s (m k : Nat) (σ : Sg) (hk : k < 6) : f_Md_readsRope_13 (m + 1) σ (nI k) = (f_Md_here σ).bind fun x => f_Md_readsRope_70 (f_Md_readsRope_13 m) σ (nI k) (mvO k x) (hiL k) 0 (mvO k x).toInt64 := by
  rw [f_Md_readsRope_13_s]
  rcases (show k = 0 ∨ k = 1 ∨ k = 2 ∨ k = 3 ∨ k = 4 ∨ k = 5 by omega) with rfl | rfl | rfl | rfl | rfl | rfl <;> rfl
theorem kinds_same (x : Int32) : f_Md_kindOf x = f_Rs_kindOf x := by
  unfold f_Md_kindOf f_Rs_kindOf
  by_cases h1 : x = 98
  · rw [if_pos h1, if_pos h1]
  · rw [if_neg h1, if_neg h1]
    by_cases h2 : x = 104
    · subst h2; rfl
    · rw [if_neg h2]
      by_cases h3 : x = 99
      · rw [if_pos h3, if_pos h3]
      · rw [if_neg h3, if_neg h3, if_neg h2]
theorem hiL_n {k : Nat} : (hiL k).toInt + 1 = (hiN k : Nat) := by
  unfold hiL hiN
  by_cases h2 : k = 2
  · rw [if_pos h2, if_pos h2]; decide
  · rw [if_neg h2, if_neg h2]
    by_cases h5 : k = 5
    · rw [if_pos h5, if_pos h5]; decide
    · rw [if_neg h5, if_neg h5]; decide
theorem hiN_le (k : Nat) : hiN k ≤ 10 := by unfold hiN; split; omega; split <;> omega
theorem fig_of {x : Int32} (c : 0 ≤ (x - 48).toInt ∧ (x - 48).toInt < 10) : fig x = x - 48 := by
  unfold fig
  rw [gr_below, show (10 : Int32).toInt = 10 by decide, if_pos c, if_neg (show ¬ (1 : Int32) = 0 by decide)]
/-- the model's check of a byte is the class's -/
theorem mv_ok (b : Nat → Int32) (p : Nat) (h : p % 7 < 6) : (val b p = -1 ∧ f_Md_in (mvO (p % 7) (b p)).toInt64 0 (hiL (p % 7)) = 0) ∨ (val b p ≠ -1 ∧ f_Md_in (mvO (p % 7) (b p)).toInt64 0 (hiL (p % 7)) = 1 ∧ mvO (p % 7) (b p) = val b p) := by
  have hlt := hiN_le (p % 7)
  rcases val_in b p h with hv | ⟨j, hj, hv⟩
  · left
    refine ⟨hv, in_no (n := hiN (p % 7)) ?_ hiL_n⟩
    intro hc
    unfold val at hv
    generalize hk : p % 7 = k at h hv hc hlt
    have hx : mvO k (b p) = nI (mvO k (b p)).toInt.toNat := of_toInt (by omega) (by omega)
    generalize (mvO k (b p)).toInt.toNat = j at hx hc
    rcases (show k = 2 ∨ k = 5 ∨ (k ≠ 2 ∧ k ≠ 5) by omega) with rfl | rfl | ⟨h2, h5⟩
    · have e : f_Rs_valueOf (nI 2) (b p) (fig (b p)) = f_Rs_kindOf (b p) := rfl
      rw [e] at hv
      have e2 : mvO 2 (b p) = f_Md_kindOf (b p) := rfl
      rw [e2, kinds_same, hv] at hc
      have z : (-1 : Int32).toInt = -1 := by decide
      omega
    · have e : f_Rs_valueOf (nI 5) (b p) (fig (b p)) = if fig (b p) < 5 then fig (b p) else -1 := rfl
      rw [e] at hv
      have e2 : mvO 5 (b p) = b p - 48 := rfl
      rw [e2] at hc
      have hz : hiN 5 = 5 := rfl
      rw [hz] at hc
      have hx2 : b p - 48 = nI (b p - 48).toInt.toNat := of_toInt (by omega) (by omega)
      have hfig : fig (b p) = b p - 48 := fig_of (by omega)
      rw [hfig, hx2] at hv
      rw [if_pos (show nI (b p - 48).toInt.toNat < 5 from nI_lt (b := 5) (by omega) (by omega))] at hv
      exact nI_m1 (by omega) hv
    · have e : f_Rs_valueOf (nI k) (b p) (fig (b p)) = fig (b p) := by
        rcases (show k = 0 ∨ k = 1 ∨ k = 3 ∨ k = 4 by omega) with rfl | rfl | rfl | rfl <;> rfl
      rw [e] at hv
      have e2 : mvO k (b p) = b p - 48 := by unfold mvO; rw [if_neg h2]
      rw [e2] at hc
      have hz : hiN k = 10 := by unfold hiN; rw [if_neg h2, if_neg h5]
      rw [hz] at hc
      have hfig : fig (b p) = b p - 48 := fig_of (by omega)
      have hx2 : b p - 48 = nI (b p - 48).toInt.toNat := of_toInt (by omega) (by omega)
      rw [hfig, hx2] at hv
      exact nI_m1 (by omega) hv
  · right
    have hm : mvO (p % 7) (b p) = val b p := by
      have hv2 := hv
      unfold val at hv2 ⊢
      generalize p % 7 = k at h hv2 hj hlt ⊢
      rcases (show k = 2 ∨ k = 5 ∨ (k ≠ 2 ∧ k ≠ 5) by omega) with rfl | rfl | ⟨h2, h5⟩
      · exact kinds_same (b p)
      · have e : f_Rs_valueOf (nI 5) (b p) (fig (b p)) = if fig (b p) < 5 then fig (b p) else -1 := rfl
        rw [e] at hv2 ⊢
        have e2 : mvO 5 (b p) = b p - 48 := rfl
        rw [e2]
        rcases fig_in (b p) with hf | ⟨i, h1, h2, h3⟩
        · rw [hf] at hv2
          exact absurd hv2.symm (nI_m1 (by omega))
        · rw [h2] at hv2 ⊢
          rw [h3]
          by_cases c : nI i < 5
          · rw [if_pos c]
          · rw [if_neg c] at hv2
            exact absurd hv2.symm (nI_m1 (by omega))
      · have e : f_Rs_valueOf (nI k) (b p) (fig (b p)) = fig (b p) := by
          rcases (show k = 0 ∨ k = 1 ∨ k = 3 ∨ k = 4 by omega) with rfl | rfl | rfl | rfl <;> rfl
        rw [e] at hv2 ⊢
        unfold mvO
        rw [if_neg h2]
        rcases fig_in (b p) with hf | ⟨i, h1, h2, h3⟩
        · rw [hf] at hv2
          exact absurd hv2.symm (nI_m1 (by omega))
        · rw [h2, h3]
    refine ⟨by rw [hv]; exact nI_m1 (by omega), ?_, hm⟩
    rw [hm, hv]
    exact in_yes hj hiL_n (by omega)
theorem mv_end {k : Nat} (hk : k < 6) : f_Md_in (mvO k (-1)).toInt64 0 (hiL k) = 0 := by
  rcases (show k = 0 ∨ k = 1 ∨ k = 2 ∨ k = 3 ∨ k = 4 ∨ k = 5 by omega) with rfl | rfl | rfl | rfl | rfl | rfl <;> decide
set_option maxHeartbeats 1000000 in
theorem rope13 {n r : Nat} {b : Nat → Int32} (hr : r < 8) : ∀ (d fuel k : Nat) (σ : Sg), k + d = 6 → d < fuel → MT n b σ → σ.1 66 7 = nI (7 * r + k) → σ.1 66 8 = nI r → 7 * r + k ≤ n → (∀ q, q < 7 * r + k → badB b q = false) →
    ∃ ok σ', f_Md_readsRope_13 fuel σ (nI k) = some (ok, σ') ∧ (∀ i j, ¬ (i = 66 ∧ (j = 7 ∨ j = 8)) → ¬ (i = 73 ∧ 6 * r + k ≤ j) → σ'.1 i j = σ.1 i j) ∧
      ((ok = 1 ∧ 7 * r + 6 ≤ n ∧ (∀ q, q < 7 * r + 6 → badB b q = false) ∧ σ'.1 66 7 = nI (7 * r + 6) ∧ σ'.1 66 8 = nI (r + 1) ∧ ∀ j, k ≤ j → j < 6 → σ'.1 73 (6 * r + j) = val b (7 * r + j)) ∨
       (ok = 0 ∧ ∃ p, p ≤ n ∧ 7 * r + k ≤ p ∧ p < 7 * r + 6 ∧ (∀ q, q < p → badB b q = false) ∧ (p = n ∨ badB b p = true) ∧ σ'.1 66 7 = nI p)) := by
  intro d
  induction d with
  | zero =>
    intro fuel k σ hk hf hT h7 h8 hpn hb
    obtain ⟨m, rfl⟩ : ∃ m, fuel = m + 1 := ⟨fuel - 1, by omega⟩
    have hk6 : k = 6 := by omega
    subst hk6
    refine ⟨1, pI σ 66 8 (nI (r + 1)), ?_, fun i j h1 _ => pI_ne (by omega), Or.inl ⟨rfl, hpn, hb, by rw [pI_ne (by omega)]; exact h7, pI_eq, fun j h1 h2 => by omega⟩⟩
    rw [f_Md_readsRope_13_s, if_pos (show (6 : Int32) ≤ nI 6 by decide), h8, nI_1]
  | succ d ih =>
    intro fuel k σ hk hf hT h7 h8 hpn hb
    obtain ⟨m, rfl⟩ : ∃ m, fuel = m + 1 := ⟨fuel - 1, by omega⟩
    have h60 := hT.1
    rw [rope13_s m k σ (by omega), md_here hT h7 (by omega)]
    simp only [Option.bind_some]
    unfold f_Md_readsRope_70
    by_cases c : 7 * r + k < n
    · rw [if_pos c]
      have hok := mv_ok b (7 * r + k) (by omega)
      rw [show (7 * r + k) % 7 = k by omega] at hok
      rcases hok with ⟨v1, v2⟩ | ⟨v1, v2, v3⟩
      · rw [if_pos v2]
        refine ⟨0, σ, rfl, fun _ _ _ _ => rfl, Or.inr ⟨rfl, 7 * r + k, hpn, Nat.le_refl _, by omega, hb, Or.inr ?_, h7⟩⟩
        unfold badB; simp [v1]
      · have v2' : ¬ f_Md_in (mvO k (b (7 * r + k))).toInt64 0 (hiL k) = 0 := by rw [v2]; decide
        rw [if_neg v2']
        have hgood : badB b (7 * r + k) = false := by
          unfold badB
          simp [v1]
          omega
        have hix : 6 * σ.1 66 8 + nI k = nI (6 * r + k) := by
          rw [h8, show (6 : Int32) = nI 6 from rfl, pk_mul, nI_add]
        rw [hix, gd_of (vin_nI (by omega) (by decide)), nI_clamp (by omega), v3, nI_1]
        generalize hσ1 : pI (pI σ 73 (6 * r + k) (val b (7 * r + k))) 66 7 ((pI σ 73 (6 * r + k) (val b (7 * r + k))).1 66 7 + 1) = σ1
        have q7 : σ1.1 66 7 = nI (7 * r + (k + 1)) := by rw [← hσ1, pI_eq, pI_ne (by omega), h7, nI_1]; rfl
        have q8 : σ1.1 66 8 = nI r := by rw [← hσ1, pI_ne (by omega), pI_ne (by omega)]; exact h8
        have qf : σ1.1 73 (6 * r + k) = val b (7 * r + k) := by rw [← hσ1, pI_ne (by omega), pI_eq]
        have qfr : ∀ i j, ¬ (i = 66 ∧ j = 7) → ¬ (i = 73 ∧ j = 6 * r + k) → σ1.1 i j = σ.1 i j := fun i j g1 g2 => by rw [← hσ1, pI_ne g1, pI_ne g2]
        obtain ⟨ok, σ', e1, e2, e3⟩ := ih m (k + 1) σ1 (by omega) (by omega) (hT.of (qfr _ _ (by omega) (by omega)) (fun i => qfr _ _ (by omega) (by omega))) q7 q8 (by omega) (fun q hq => by
          by_cases hqp : q = 7 * r + k
          · subst hqp; exact hgood
          · exact hb q (by omega))
        refine ⟨ok, σ', e1, fun i j g1 g2 => by rw [e2 i j g1 (by omega), qfr i j (by omega) (by omega)], ?_⟩
        rcases e3 with ⟨z1, z2, z3, z4, z5, z6⟩ | ⟨z1, p, z2, z3, z4⟩
        · refine Or.inl ⟨z1, z2, z3, z4, z5, fun j h1 h2 => ?_⟩
          by_cases hj : j = k
          · subst hj
            rw [e2 73 _ (by omega) (by omega)]
            exact qf
          · exact z6 j (by omega) h2
        · exact Or.inr ⟨z1, p, z2, by omega, z4⟩
    · rw [if_neg c, if_pos (mv_end (by omega))]
      exact ⟨0, σ, rfl, fun _ _ _ _ => rfl, Or.inr ⟨rfl, 7 * r + k, hpn, Nat.le_refl _, by omega, hb, Or.inl (by omega), h7⟩⟩
/-- what is told of a text whose first fault is at p -/
theorem f0_at {n p : Nat} {b : Nat → Int32} (hb : ∀ q, q < p → badB b q = false) (hp : p ≤ n) (h : (p = n ∧ n ≠ 0 ∧ n % 7 ≠ 6) ∨ (p < n ∧ badB b p = true)) : f0 n b = nI p := by
  unfold f0
  rcases h with ⟨rfl, h1, h2⟩ | ⟨h1, h2⟩
  · rw [fbG_none hb, if_neg (Nat.lt_irrefl p), if_neg (by omega)]
  · rw [fbG_first hb h2 h1, if_pos h1]
theorem nrO_0 {n p : Nat} {b : Nat → Int32} (h : f0 n b = nI p) (hp : p < 2 ^ 31) : nrO n b = 0 := by
  unfold nrO
  rw [if_neg (by rw [h]; exact nI_m1 hp)]
set_option maxHeartbeats 1000000 in
theorem ropes25 {n : Nat} {b : Nat → Int32} : ∀ (d fuel r : Nat) (σ : Sg), r + d = 9 → d + 1 < fuel → r ≤ 8 → MT n b σ → σ.1 66 7 = nI (7 * r) → σ.1 66 8 = nI r → 7 * r ≤ n → (r = 0 → n ≠ 0) → (∀ q, q < 7 * r → badB b q = false) → (∀ q j, q < r → j < 6 → σ.1 73 (6 * q + j) = faO b q j) →
    ∃ σ', f_Md_readsRopes_25 fuel σ 1 = some (f0 n b, σ') ∧ (∀ i j, ¬ (i = 66 ∧ (j = 7 ∨ j = 8)) → i ≠ 73 → σ'.1 i j = σ.1 i j) ∧ σ'.1 66 8 = nI (nrO n b) ∧ ∀ q j, q < nrO n b → j < 6 → σ'.1 73 (6 * q + j) = faO b q j := by
  intro d
  induction d with
  | zero => intro fuel r σ hr hf hr8; omega
  | succ d ih =>
    intro fuel r σ hr hf hr8 hT h7 h8 hpn h0 hb hfa
    obtain ⟨m, rfl⟩ : ∃ m, fuel = m + 1 := ⟨fuel - 1, by omega⟩
    have h60 := hT.1
    rw [f_Md_readsRopes_25_s, if_neg (show ¬ (1 : Int32) = 0 by decide)]
    unfold f_Md_readsRope
    rw [h8]
    by_cases c8 : r = 8
    · subst c8
      rw [if_pos (show nI 8 = 8 from rfl), bd_s, if_pos rfl]
      have hf0 : f0 n b = nI 56 := by
        refine f0_at hb hpn ?_
        by_cases c : n = 56
        · exact Or.inl ⟨c.symm, by omega, by omega⟩
        · exact Or.inr ⟨by omega, by simp [badB]⟩
      refine ⟨pI σ 66 8 0, ?_, fun i j g1 _ => pI_ne (by omega), by rw [pI_eq, nrO_0 hf0 (by omega)]; rfl, fun q j g1 => by rw [nrO_0 hf0 (by omega)] at g1; omega⟩
      rw [pI_ne (by omega), h7, hf0]
    · rw [if_neg (show ¬ nI r = 8 from fun h => c8 ((nI_eq (b := 8) (by omega) (by omega)).mp h))]
      obtain ⟨ok, σ1, e1, e2, e3⟩ := rope13 (n := n) (r := r) (b := b) (by omega) 6 FU 0 σ (by omega) (by unfold FU; omega) hT h7 h8 hpn hb
      rw [show (0 : Int32) = nI 0 from rfl, e1, bd_s]
      rcases e3 with ⟨rfl, z2, z3, z4, z5, z6⟩ | ⟨rfl, p, z2, z3, z4, z5, z6, z7⟩
      · rw [if_neg (show ¬ (1 : Int32) = nI 0 by decide)]
        have hT1 : MT n b σ1 := hT.of (e2 _ _ (by omega) (by omega)) (fun i => e2 _ _ (by omega) (by omega))
        rw [hT1.2.1, z4]
        by_cases c : n = 7 * r + 6
        · rw [if_pos (nI_le (by omega) (by omega))]
          have hf0 : f0 n b = -1 := (f0_m1 h60).mpr ⟨fbG_none (fun q hq => z3 q (by omega)), Or.inr (by omega)⟩
          have hnr : nrO n b = r + 1 := by unfold nrO; rw [if_pos hf0]; omega
          unfold f_Md_readsRopes_64 f_Md_readsRopes_88 f_Md_readsRopes_102
          rw [if_pos (show nI 0 = 0 from rfl)]
          obtain ⟨m2, rfl⟩ : ∃ m2, m = m2 + 1 := ⟨m - 1, by omega⟩
          rw [if_pos (show nI 0 = 0 from rfl), f_Md_readsRopes_25_s, if_pos (show nI 0 = 0 from rfl)]
          refine ⟨_, by rw [hf0], fun i j g1 g2 => ?_, ?_, fun q j g1 g2 => ?_⟩
          · rw [pI_ne (by omega), e2 i j g1 (by omega)]
          · rw [pI_ne (by omega), z5, hnr]
          · rw [pI_ne (by omega)]
            by_cases hq : q = r
            · subst hq; exact z6 j (by omega) g2
            · rw [e2 _ _ (by omega) (by omega)]; exact hfa q j (by omega) g2
        · rw [if_neg (nI_ge (by omega) (by omega))]
          unfold f_Md_readsRopes_64
          rw [if_neg (show ¬ (1 : Int32) = 0 by decide), md_here hT1 z4 (by omega), if_pos (by omega)]
          simp only [Option.bind_some]
          have hval : val b (7 * r + 6) = if b (7 * r + 6) = 59 then 0 else -1 := by
            unfold val
            rw [show (7 * r + 6) % 7 = 6 by omega]
            rfl
          by_cases c59 : b (7 * r + 6) = 59
          · rw [if_pos c59]
            have hgood : badB b (7 * r + 6) = false := by
              unfold badB
              rw [hval, if_pos c59]
              simp
              omega
            unfold f_Md_readsRopes_88 f_Md_readsRopes_102
            rw [if_neg (show ¬ (1 : Int32) = 0 by decide), z4, nI_1]
            obtain ⟨σ', k1, k2, k3, k4⟩ := ih m (r + 1) (pI σ1 66 7 (nI (7 * r + 6 + 1))) (by omega) (by omega) (by omega) (hT1.of (pI_ne (by omega)) (fun i => pI_ne (by omega))) (by rw [pI_eq]; congr 1) (by rw [pI_ne (by omega)]; exact z5) (by omega) (by omega) (fun q hq => by
              by_cases hqp : q = 7 * r + 6
              · subst hqp; exact hgood
              · exact z3 q (by omega)) (fun q j g1 g2 => by
              rw [pI_ne (by omega)]
              by_cases hq : q = r
              · subst hq; exact z6 j (by omega) g2
              · rw [e2 _ _ (by omega) (by omega)]; exact hfa q j (by omega) g2)
            refine ⟨σ', k1, fun i j g1 g2 => ?_, k3, k4⟩
            rw [k2 i j g1 g2, pI_ne (by omega), e2 i j g1 (by omega)]
          · rw [if_neg c59]
            have hf0 : f0 n b = nI (7 * r + 6) := f0_at z3 z2 (Or.inr ⟨by omega, by
              unfold badB
              rw [hval, if_neg c59]
              simp⟩)
            refine ⟨pI σ1 66 8 0, ?_, fun i j g1 g2 => ?_, by rw [pI_eq, nrO_0 hf0 (by omega)]; rfl, fun q j g1 => by rw [nrO_0 hf0 (by omega)] at g1; omega⟩
            · rw [pI_ne (by omega), z4, hf0]
            · rw [pI_ne (by omega), e2 i j g1 (by omega)]
      · rw [if_pos (show (0 : Int32) = nI 0 from rfl)]
        have hf0 : f0 n b = nI p := by
          refine f0_at z5 z2 ?_
          rcases z6 with rfl | z6
          · exact Or.inl ⟨rfl, by omega, by omega⟩
          · by_cases c : p = n
            · exact Or.inl ⟨c, by omega, by omega⟩
            · exact Or.inr ⟨by omega, z6⟩
        refine ⟨pI σ1 66 8 (nI 0), ?_, fun i j g1 g2 => ?_, by rw [pI_eq, nrO_0 hf0 (by omega)], fun q j g1 => by rw [nrO_0 hf0 (by omega)] at g1; omega⟩
        · rw [pI_ne (by omega), z7, hf0]
        · rw [pI_ne (by omega), e2 i j g1 (by omega)]
theorem reads_ropes {n : Nat} {b : Nat → Int32} {σ : Sg} (hT : MT n b σ) : ∃ σ', f_Md_readsRopes σ = some (f0 n b, σ') ∧ (∀ i j, ¬ (i = 66 ∧ (j = 7 ∨ j = 8)) → i ≠ 73 → σ'.1 i j = σ.1 i j) ∧ σ'.1 66 8 = nI (nrO n b) ∧ ∀ q j, q < nrO n b → j < 6 → σ'.1 73 (6 * q + j) = faO b q j := by
  have h60 := hT.1
  unfold f_Md_readsRopes f_Md_readsRopes_24
  have e72 : (pI (pI σ 66 7 0) 66 8 0).1 72 0 = nI n := by rw [pI_ne (by omega), pI_ne (by omega)]; exact hT.2.1
  rw [e72]
  by_cases c : n = 0
  · subst c
    rw [if_pos (show nI 0 ≤ 0 by decide)]
    have hf0 : f0 0 b = -1 := rfl
    have hnr : nrO 0 b = 0 := rfl
    refine ⟨pI (pI σ 66 7 0) 66 8 0, ?_, fun i j g1 _ => by rw [pI_ne (by omega), pI_ne (by omega)], by rw [pI_eq, hnr]; rfl, fun q j g1 => by rw [hnr] at g1; omega⟩
    rw [show FU = 999999 + 1 from rfl, f_Md_readsRopes_25_s, if_pos rfl, hf0]
  · rw [if_neg (show ¬ nI n ≤ 0 from nI_nle (by omega) (by omega))]
    obtain ⟨σ', k1, k2, k3, k4⟩ := ropes25 (n := n) (b := b) 9 FU 0 (pI (pI σ 66 7 0) 66 8 0) (by omega) (by unfold FU; omega) (by omega) (hT.of (by rw [pI_ne (by omega), pI_ne (by omega)]) (fun i => by rw [pI_ne (by omega), pI_ne (by omega)])) (by rw [pI_ne (by omega), pI_eq]; rfl) (by rw [pI_eq]; rfl) (by omega) (fun _ => c) (fun q hq => by omega) (fun q j hq => by omega)
    exact ⟨σ', k1, fun i j g1 g2 => by rw [k2 i j g1 g2, pI_ne (by omega), pI_ne (by omega)], k3, k4⟩
