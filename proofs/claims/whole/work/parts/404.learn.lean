/-! what the class has learned of the texts -/
def CV (nr : Nat) (fa : Nat → Nat → Int32) (rk : Nat → Nat) (σ : Sg) : Prop := nr ≤ 8 ∧ σ.1 5 3 = nI nr ∧ ∀ r, r < nr → (∀ k, k < 6 → σ.1 (9 + r) k = fa r k) ∧ σ.1 (9 + r) 6 = nI (rk r) ∧ σ.1 (9 + r) 7 = mx0 (fa r 1 - fa r 0) ∧ σ.1 (9 + r) 8 = mx0 (fa r 0 - fa r 1) ∧ rk r < nr ∧ σ.1 8 (rk r) = nI r
def faO (b : Nat → Int32) (r k : Nat) : Int32 := val b (7 * r + k)
theorem f0_m1 {n : Nat} {b : Nat → Int32} (hn : n ≤ 60) : f0 n b = -1 ↔ (fbG (badB b) n = n ∧ (n = 0 ∨ n % 7 = 6)) := by
  have hle := fbG_le (badB b) n
  have key : ∀ m : Nat, m ≤ 60 → ¬ nI m = -1 := fun m hm h => by
    have := congrArg Int32.toInt h
    rw [nI_toInt (by omega)] at this
    have e : (-1 : Int32).toInt = -1 := by decide
    omega
  unfold f0
  constructor
  · intro h
    by_cases c : fbG (badB b) n < n
    · rw [if_pos c] at h; exact absurd h (key _ (by omega))
    · rw [if_neg c] at h
      by_cases c2 : n = 0 ∨ n % 7 = 6
      · exact ⟨by omega, c2⟩
      · rw [if_neg c2] at h; exact absurd h (key _ (by omega))
  · rintro ⟨h1, h2⟩
    rw [h1, if_neg (Nat.lt_irrefl n), if_pos h2]
theorem good_len {n : Nat} {b : Nat → Int32} (h : fbG (badB b) n = n) : n ≤ 56 := by
  rcases Nat.lt_or_ge 56 n with g | g
  · have := fbG_ok (bad := badB b) (n := n) (p := 56) (by omega)
    simp [badB] at this
  · exact g
theorem nrO_le {n : Nat} {b : Nat → Int32} (hn : n ≤ 60) : nrO n b ≤ 8 := by
  unfold nrO
  by_cases c : f0 n b = -1
  · rw [if_pos c]
    have h := (f0_m1 hn).mp c
    have := good_len h.1
    omega
  · rw [if_neg c]; omega
theorem nrO_pl {n : Nat} {b : Nat → Int32} (hn : n ≤ 60) {r : Nat} (hr : r < nrO n b) : fbG (badB b) n = n ∧ 7 * r + 6 ≤ n := by
  unfold nrO at hr
  by_cases c : f0 n b = -1
  · rw [if_pos c] at hr
    have h := (f0_m1 hn).mp c
    exact ⟨h.1, by omega⟩
  · rw [if_neg c] at hr; omega
set_option maxHeartbeats 1000000 in
theorem rs_learn {n0 n1 : Nat} {b0 b1 : Nat → Int32} {σ : Sg} (h0 : TX 1 n0 b0 σ) (h1 : TX 3 n1 b1 σ) : ∃ σ', f_Rs_learn σ 1 3 = some σ' ∧ σ'.1 5 4 = f0 n0 b0 ∧ σ'.1 5 5 = f1 (nrO n0 b0) n1 b1 ∧ CV (nrO n0 b0) (faO b0) (rkO (nrO n0 b0) n1 b1) σ' ∧ (∀ i j, ¬ (i = 5 ∧ (j = 3 ∨ j = 4 ∨ j = 5)) → ¬ (8 ≤ i ∧ i < 17) → σ'.1 i j = σ.1 i j) := by
  have h60 := h0.1
  have h60' := h1.1
  have hn8 := nrO_le (b := b0) h60
  obtain ⟨σ2, e1, e2, e3⟩ := learn_ropes h0
  unfold f_Rs_learn
  rw [e1, bd_s, pI_eq]
  have hlen : ((pI σ2 5 4 (f0 n0 b0)).1 1 2 + 1) / 7 = nI ((n0 + 1) / 7) := by
    rw [pI_ne (by omega), e2 1 2 (by omega), h0.2.1, nI_1]
    exact pk_div (d := 7) (by omega) (by omega) (by omega)
  have hs : (if f0 n0 b0 = -1 then f_Rs_learn_31 (pI σ2 5 4 (f0 n0 b0)) 3 (((pI σ2 5 4 (f0 n0 b0)).1 1 2 + 1) / 7) else f_Rs_learn_31 (pI σ2 5 4 (f0 n0 b0)) 3 0) = f_Rs_learn_31 (pI σ2 5 4 (f0 n0 b0)) 3 (nI (nrO n0 b0)) := by
    unfold nrO
    by_cases c : f0 n0 b0 = -1
    · rw [if_pos c, if_pos c, hlen]
    · rw [if_neg c, if_neg c]; rfl
  rw [hs]
  unfold f_Rs_learn_31
  have hT3 : TX 3 n1 b1 (pI (pI σ2 5 4 (f0 n0 b0)) 5 3 (nI (nrO n0 b0))) := h1.of (by rw [pI_ne (by omega), pI_ne (by omega), e2 3 2 (by omega)]) (fun i => by rw [pI_ne (by omega), pI_ne (by omega), e2 (3 + 1) i (by omega)])
  rw [fault_right hT3 pI_eq hn8]
  simp only [Option.bind_some]
  generalize hσ3 : pI (pI (pI σ2 5 4 (f0 n0 b0)) 5 3 (nI (nrO n0 b0))) 5 5 (f1 (nrO n0 b0) n1 b1) = σ3
  have g53 : σ3.1 5 3 = nI (nrO n0 b0) := by rw [← hσ3, pI_ne (by omega), pI_eq]
  have g54 : σ3.1 5 4 = f0 n0 b0 := by rw [← hσ3, pI_ne (by omega), pI_ne (by omega), pI_eq]
  have g55 : σ3.1 5 5 = f1 (nrO n0 b0) n1 b1 := by rw [← hσ3, pI_eq]
  have gfr : ∀ i j, i ≠ 5 → σ3.1 i j = σ2.1 i j := fun i j h => by rw [← hσ3, pI_ne (fun q => h q.1), pI_ne (fun q => h q.1), pI_ne (fun q => h q.1)]
  have gfr5 : ∀ j, ¬ (j = 3 ∨ j = 4 ∨ j = 5) → σ3.1 5 j = σ2.1 5 j := fun j h => by rw [← hσ3, pI_ne (by omega), pI_ne (by omega), pI_ne (by omega)]
  have hT3' : TX 3 n1 b1 σ3 := h1.of (by rw [gfr 3 2 (by omega), e2 3 2 (by omega)]) (fun i => by rw [gfr (3 + 1) i (by omega), e2 (3 + 1) i (by omega)])
  obtain ⟨σ4, k1, k2, k3⟩ := rank_ok hn8 hT3' g53 g55
  rw [k1]
  simp only [Option.bind_some]
  refine ⟨σ4, rfl, ?_, ?_, ⟨hn8, ?_, fun r hr => ?_⟩, fun i j q1 q2 => ?_⟩
  · rw [k3 5 4 (by omega) (by omega)]; exact g54
  · rw [k3 5 5 (by omega) (by omega)]; exact g55
  · rw [k3 5 3 (by omega) (by omega)]; exact g53
  · obtain ⟨hfb, hpl⟩ := nrO_pl h60 hr
    have hLR := e3 hfb
    obtain ⟨w1, w2⟩ := k2 r hr
    have hcell : ∀ j, j ≠ 6 → σ4.1 (9 + r) j = σ2.1 (9 + r) j := fun j hj => by rw [k3 _ _ (by omega) (by omega), gfr _ _ (by omega)]
    have hk : ∀ k, k < 6 → σ4.1 (9 + r) k = faO b0 r k := fun k hk => by
      have := (hLR (7 * r + k) (by omega)).1 (by omega)
      rw [show (7 * r + k) / 7 = r by omega, show (7 * r + k) % 7 = k by omega] at this
      rw [hcell k (by omega), this]
      rfl
    have hc := (hLR (7 * r + 1) (by omega)).2 (by omega)
    rw [show (7 * r + 1) / 7 = r by omega, show 7 * r + 1 - 1 = 7 * r + 0 by omega] at hc
    exact ⟨hk, w1, by rw [hcell 7 (by omega)]; exact hc.1, by rw [hcell 8 (by omega)]; exact hc.2, rkO_lt hn8 h60' hr, w2⟩
  · rw [k3 i j (by omega) (by omega)]
    by_cases c : i = 5
    · subst c
      rw [gfr5 j (fun h => q1 ⟨rfl, h⟩), e2 5 j (by omega)]
    · rw [gfr i j c, e2 i j (by omega)]
/-- the figures' bounds -/
theorem fig_in (x : Int32) : fig x = -1 ∨ ∃ j : Nat, j < 10 ∧ fig x = nI j ∧ x - 48 = nI j := by
  unfold fig
  rw [gr_below]
  have e10 : (10 : Int32).toInt = 10 := by decide
  rw [e10]
  by_cases c : 0 ≤ (x - 48).toInt ∧ (x - 48).toInt < 10
  · rw [if_pos c, if_neg (by decide)]
    have : x - 48 = nI (x - 48).toInt.toNat := of_toInt (by omega) (by omega)
    exact Or.inr ⟨_, by omega, this, this⟩
  · rw [if_neg c, if_pos rfl]; exact Or.inl rfl
theorem kind_in (x : Int32) : f_Rs_kindOf x = -1 ∨ ∃ j : Nat, j < 3 ∧ f_Rs_kindOf x = nI j := by
  unfold f_Rs_kindOf
  split
  · exact Or.inr ⟨0, by omega, rfl⟩
  · split
    · exact Or.inr ⟨2, by omega, rfl⟩
    · split
      · exact Or.inr ⟨1, by omega, rfl⟩
      · exact Or.inl rfl
def hiN (k : Nat) : Nat := if k = 2 then 3 else if k = 5 then 5 else 10
theorem nI_m1 {m : Nat} (hm : m < 2 ^ 31) : ¬ nI m = -1 := fun h => by
  have := congrArg Int32.toInt h
  rw [nI_toInt hm] at this
  have e : (-1 : Int32).toInt = -1 := by decide
  omega
theorem val_in (b : Nat → Int32) (p : Nat) (h : p % 7 < 6) : val b p = -1 ∨ ∃ j : Nat, j < hiN (p % 7) ∧ val b p = nI j := by
  unfold val hiN
  generalize p % 7 = k at h ⊢
  rcases (show k = 2 ∨ k = 5 ∨ (k ≠ 2 ∧ k ≠ 5) by omega) with rfl | rfl | ⟨h2, h5⟩
  · show f_Rs_valueOf 2 _ _ = -1 ∨ _
    have : f_Rs_valueOf (nI 2) (b p) (fig (b p)) = f_Rs_kindOf (b p) := rfl
    rw [show (2 : Int32) = nI 2 from rfl, this]
    exact kind_in (b p)
  · have e : f_Rs_valueOf (nI 5) (b p) (fig (b p)) = if fig (b p) < 5 then fig (b p) else -1 := rfl
    rw [e]
    rcases fig_in (b p) with h | ⟨j, h1, h2, _⟩
    · rw [h]; exact Or.inl rfl
    · rw [h2]
      by_cases c : j < 5
      · rw [if_pos (show nI j < 5 from nI_lt (b := 5) c (by omega))]; exact Or.inr ⟨j, c, rfl⟩
      · rw [if_neg (show ¬ nI j < 5 from nI_nlt (b := 5) (by omega) (by omega))]; exact Or.inl rfl
  · have e : f_Rs_valueOf (nI k) (b p) (fig (b p)) = fig (b p) := by
      rcases (show k = 0 ∨ k = 1 ∨ k = 3 ∨ k = 4 by omega) with rfl | rfl | rfl | rfl <;> rfl
    rw [e, if_neg h2, if_neg h5]
    rcases fig_in (b p) with h | ⟨j, h1, h2, _⟩
    · exact Or.inl h
    · exact Or.inr ⟨j, h1, h2⟩
theorem fa_in {n : Nat} {b : Nat → Int32} (hn : n ≤ 60) {r k : Nat} (hr : r < nrO n b) (hk : k < 6) : ∃ j : Nat, j < hiN k ∧ faO b r k = nI j := by
  obtain ⟨h1, h2⟩ := nrO_pl hn hr
  have hg := fbG_ok (bad := badB b) (n := n) (p := 7 * r + k) (by omega)
  rcases val_in b (7 * r + k) (by omega) with h | h
  · simp [badB, h] at hg
  · rw [show (7 * r + k) % 7 = k by omega] at h
    exact h
