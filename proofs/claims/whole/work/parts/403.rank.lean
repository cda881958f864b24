/-! ranks in the class -/
theorem rs_give {σ : Sg} {r p : Nat} (hr : r < 8) (hp : p < 8) : f_Rs_give σ (nI r) (nI p) = some (pI (pI σ 8 p (nI r)) (9 + r) 6 (nI p)) := by
  unfold f_Rs_give
  rw [below_yes hp (by decide) (by decide), if_neg (by decide), nI_clamp (by omega), rs_at hr]
theorem rank52 {nr p0 : Nat} {tb : Nat → Bool} (hn : nr ≤ 8) (h8 : p0 + cU tb nr ≤ 8) : ∀ (d fuel r : Nat) (σ : Sg) (mask : Int32), r + d = nr → d < fuel → σ.1 5 3 = nI nr → (∀ i, i < 8 → bt mask i = tb i) →
    ∃ σ', f_Rs_rank_52 fuel σ mask (nI (p0 + cU tb r)) (nI r) = some σ' ∧ (∀ q, r ≤ q → q < nr → tb q = false → σ'.1 (9 + q) 6 = nI (p0 + cU tb q) ∧ σ'.1 8 (p0 + cU tb q) = nI q) ∧ (∀ i j, ¬ (i = 8 ∧ p0 + cU tb r ≤ j) → ¬ (∃ q, r ≤ q ∧ q < nr ∧ tb q = false ∧ i = 9 + q ∧ j = 6) → σ'.1 i j = σ.1 i j) := by
  intro d
  induction d with
  | zero =>
    intro fuel r σ mask hr hf h5 hm
    obtain ⟨m, rfl⟩ : ∃ m, fuel = m + 1 := ⟨fuel - 1, by omega⟩
    refine ⟨σ, ?_, fun q h1 h2 => by omega, fun _ _ _ _ => rfl⟩
    rw [f_Rs_rank_52_s, h5, if_pos (nI_le (by omega) (by omega))]
  | succ d ih =>
    intro fuel r σ mask hr hf h5 hm
    obtain ⟨m, rfl⟩ : ∃ m, fuel = m + 1 := ⟨fuel - 1, by omega⟩
    rw [f_Rs_rank_52_s, h5, if_neg (nI_ge (by omega) (by omega))]
    have hmono : cU tb (r + 1) ≤ cU tb nr := cU_mono (by omega)
    by_cases ht : tb r = true
    · have hbit : ¬ (mask &&& ((1 : Int32) <<< (nI r &&& 31))) = 0 := fun h => by
        have := (and_bit mask r (by omega)).mp h
        rw [hm r (by omega), ht] at this
        cases this
      have e : cU tb (r + 1) = cU tb r := by simp [cU, ht]
      rw [if_neg hbit]
      unfold f_Rs_rank_80
      rw [nI_1, ← e]
      obtain ⟨σ', e1, e2, e3⟩ := ih m (r + 1) σ mask (by omega) (by omega) h5 hm
      refine ⟨σ', e1, fun q h1 h2 h3 => ?_, fun i j h1 h2 => ?_⟩
      · have : r ≠ q := fun h => by subst h; rw [ht] at h3; cases h3
        exact e2 q (by omega) h2 h3
      · exact e3 i j (by rw [e] at *; exact h1) (fun ⟨q, q1, q2⟩ => h2 ⟨q, by omega, q2⟩)
    · have ht : tb r = false := by simpa using ht
      have hbit : (mask &&& ((1 : Int32) <<< (nI r &&& 31))) = 0 := (and_bit mask r (by omega)).mpr (by rw [hm r (by omega), ht])
      have e : cU tb (r + 1) = cU tb r + 1 := by simp [cU, ht]
      rw [if_pos hbit, rs_give (by omega) (by omega)]
      simp only [Option.bind_some]
      unfold f_Rs_rank_80
      rw [nI_1, nI_1, Nat.add_assoc, ← e]
      obtain ⟨σ', e1, e2, e3⟩ := ih m (r + 1) (pI (pI σ 8 (p0 + cU tb r) (nI r)) (9 + r) 6 (nI (p0 + cU tb r))) mask (by omega) (by omega) (by rw [pI_ne (by omega), pI_ne (by omega)]; exact h5) hm
      refine ⟨σ', e1, fun q h1 h2 h3 => ?_, fun i j h1 h2 => ?_⟩
      · by_cases hq : q = r
        · subst hq
          refine ⟨?_, ?_⟩
          · rw [e3 _ _ (by omega) (fun ⟨z, z1, _, _, z4, _⟩ => by omega), pI_eq]
          · rw [e3 _ _ (by omega) (fun ⟨z, z1, _, _, z4, _⟩ => by omega), pI_ne (by omega), pI_eq]
        · exact e2 q (by omega) h2 h3
      · have g1 : ¬ (i = 9 + r ∧ j = 6) := fun h => h2 ⟨r, Nat.le_refl r, by omega, ht, h.1, h.2⟩
        rw [e3 i j (by omega) (fun ⟨q, q1, q2⟩ => h2 ⟨q, by omega, q2⟩), pI_ne g1, pI_ne (by omega)]
theorem rank14 {nr n : Nat} {b : Nat → Int32} (hn : nr ≤ 8) (hnr : n ≤ nr) (hgood : ∀ q, q < n → badR nr b q = false) : ∀ (d fuel p : Nat) (σ : Sg) (mask : Int32), p + d = n → d < fuel → TX 3 n b σ → (∀ i, i < 8 → bt mask i = seen b p (nI i)) →
    ∃ σ' mask', f_Rs_rank_14 fuel σ 3 mask (nI p) = f_Rs_rank_49 σ' mask' (nI n) ∧ (∀ i, i < 8 → bt mask' i = seen b n (nI i)) ∧ (∀ q r, p ≤ q → q < n → fig (b q) = nI r → r < nr → σ'.1 8 q = nI r ∧ σ'.1 (9 + r) 6 = nI q) ∧ (∀ i j, ¬ (i = 8 ∧ p ≤ j) → ¬ (∃ q r, p ≤ q ∧ q < n ∧ r < nr ∧ fig (b q) = nI r ∧ i = 9 + r ∧ j = 6) → σ'.1 i j = σ.1 i j) := by
  intro d
  induction d with
  | zero =>
    intro fuel p σ mask hp hf hT hm
    obtain ⟨m, rfl⟩ : ∃ m, fuel = m + 1 := ⟨fuel - 1, by omega⟩
    have hpn : p = n := by omega
    subst hpn
    refine ⟨σ, mask, ?_, hm, fun q r h1 h2 => by omega, fun _ _ _ _ => rfl⟩
    rw [f_Rs_rank_14_s, hT.2.1, if_pos (nI_le (Nat.le_refl _) (by omega))]
  | succ d ih =>
    intro fuel p σ mask hp hf hT hm
    obtain ⟨m, rfl⟩ : ∃ m, fuel = m + 1 := ⟨fuel - 1, by omega⟩
    obtain ⟨r, hr1, hr2, hr3⟩ := good_R (hgood p (by omega)) hn
    rw [f_Rs_rank_14_s, hT.2.1, if_neg (nI_ge (by omega) (by omega)), te_fig hT (by omega)]
    simp only [Option.bind_some]
    rw [hr2, rs_give (by omega) (by omega)]
    simp only [Option.bind_some]
    rw [nI_1]
    obtain ⟨σ', mask', e1, e2, e3, e4⟩ := ih m (p + 1) (pI (pI σ 8 p (nI r)) (9 + r) 6 (nI p)) (mask ||| ((1 : Int32) <<< (nI r &&& 31))) (by omega) (by omega) (hT.of (by rw [pI_ne (by omega), pI_ne (by omega)]) (fun i => by rw [pI_ne (by omega), pI_ne (by omega)])) (fun i hi => by
      rw [or_bit mask r (by omega) i (by omega), hm i hi]
      rw [seen_s, hr2, dec_nI (by omega) (by omega)])
    have hdis : ∀ q, p < q → q < n → fig (b q) ≠ nI r := fun q h1 h2 h3 => by
      obtain ⟨r', g1, g2, g3⟩ := good_R (hgood q h2) hn
      rw [h3] at g2
      have := seen_of (b := b) (p := q) (q := p) h1
      rw [hr2, g2, g3] at this
      cases this
    refine ⟨σ', mask', e1, e2, fun q r' h1 h2 h3 h4 => ?_, fun i j h1 h2 => ?_⟩
    · by_cases hq : q = p
      · subst hq
        have : r' = r := (nI_eq (by omega) (by omega)).mp (h3.symm.trans hr2)
        subst this
        refine ⟨?_, ?_⟩
        · rw [e4 _ _ (by omega) (fun ⟨z, w, _, _, _, _, z4, _⟩ => by omega), pI_ne (by omega), pI_eq]
        · rw [e4 _ _ (by omega) (fun ⟨z, w, z1, z2, z3, z4, z5, _⟩ => by
            have : w = r' := by omega
            subst this
            exact hdis z (by omega) z2 z4), pI_eq]
      · exact e3 q r' (by omega) h2 h3 h4
    · have g1 : ¬ (i = 9 + r ∧ j = 6) := fun h => h2 ⟨p, r, Nat.le_refl p, by omega, hr1, hr2, h.1, h.2⟩
      rw [e4 i j (by omega) (fun ⟨q, w, q1, q2⟩ => h2 ⟨q, w, by omega, q2⟩), pI_ne g1, pI_ne (by omega)]
/-- the first place at which a rope is told -/
def posO (b : Nat → Int32) (n r : Nat) : Nat := fbG (fun q => decide (fig (b q) = nI r)) n
def rkO (nr n : Nat) (b : Nat → Int32) (r : Nat) : Nat := if f1 nr n b = -1 then (if seen b n (nI r) = true then posO b n r else n + cU (fun i => seen b n (nI i)) r) else r
theorem posO_spec {b : Nat → Int32} {n r : Nat} (h : seen b n (nI r) = true) : posO b n r < n ∧ fig (b (posO b n r)) = nI r := by
  obtain ⟨q, h1, h2⟩ := seen_ex h
  have hlt : posO b n r < n := by
    rcases Nat.lt_or_ge (posO b n r) n with g | g
    · exact g
    · have hle := fbG_le (fun q => decide (fig (b q) = nI r)) n
      have : posO b n r = n := Nat.le_antisymm hle g
      have h3 := fbG_ok (bad := fun q => decide (fig (b q) = nI r)) (n := n) (p := q) (by show q < posO b n r; omega)
      simp [h2] at h3
  exact ⟨hlt, of_decide_eq_true (fbG_bad (bad := fun q => decide (fig (b q) = nI r)) hlt)⟩
theorem f1_none {nr n : Nat} {b : Nat → Int32} (hn : n < 2 ^ 31) : f1 nr n b = -1 ↔ ∀ q, q < n → badR nr b q = false := by
  unfold f1
  constructor
  · intro h q hq
    by_cases c : fbG (badR nr b) n < n
    · rw [if_pos c] at h
      have := congrArg Int32.toInt h
      rw [nI_toInt (by omega)] at this
      have e : (-1 : Int32).toInt = -1 := by decide
      omega
    · have := fbG_le (badR nr b) n
      exact fbG_ok (n := n) (by omega)
  · intro h
    rw [fbG_none h, if_neg (Nat.lt_irrefl n)]
theorem rkO_lt {nr n : Nat} {b : Nat → Int32} (hn : nr ≤ 8) (hn2 : n ≤ 60) {r : Nat} (hr : r < nr) : rkO nr n b r < nr := by
  unfold rkO
  by_cases c : f1 nr n b = -1
  · rw [if_pos c]
    have hg := (f1_none (by omega)).mp c
    have hall := cU_all hn hg
    by_cases s : seen b n (nI r) = true
    · rw [if_pos s]
      have := (posO_spec s).1
      omega
    · rw [if_neg s]
      have := cU_lt (tb := fun i => seen b n (nI i)) hr (by simpa using s)
      omega
  · rw [if_neg c]; exact hr
theorem rank_ok {nr n : Nat} {b : Nat → Int32} {σ : Sg} (hn : nr ≤ 8) (hT : TX 3 n b σ) (h5 : σ.1 5 3 = nI nr) (hf : σ.1 5 5 = f1 nr n b) : ∃ σ', f_Rs_rank σ 3 = some σ' ∧ (∀ r, r < nr → σ'.1 (9 + r) 6 = nI (rkO nr n b r) ∧ σ'.1 8 (rkO nr n b r) = nI r) ∧ (∀ i j, i ≠ 8 → ¬ (9 ≤ i ∧ i < 17 ∧ j = 6) → σ'.1 i j = σ.1 i j) := by
  have h60 := hT.1
  unfold f_Rs_rank
  rw [hf]
  by_cases c : f1 nr n b = -1
  · rw [if_pos c]
    have hg := (f1_none (by omega)).mp c
    have hall := cU_all hn hg
    obtain ⟨σ1, mask1, e1, e2, e3, e4⟩ := rank14 hn (by omega) hg n FU 0 σ 0 (Nat.zero_add n) (by unfold FU; omega) hT (fun r _ => by rw [b_0]; rfl)
    obtain ⟨σ2, g1, g2, g3⟩ := rank52 (p0 := n) (tb := fun i => seen b n (nI i)) hn (by omega) nr FU 0 σ1 mask1 (Nat.zero_add nr) (by unfold FU; omega) (by rw [e4 5 3 (by omega) (fun ⟨_, _, _, _, _, _, z, _⟩ => by omega)]; exact h5) e2
    refine ⟨σ2, ?_, fun r hr => ?_, fun i j h1 h2 => ?_⟩
    · rw [show (0 : Int32) = nI 0 from rfl]
      rw [show (0 : Int32) = nI 0 from rfl] at e1
      rw [e1]
      unfold f_Rs_rank_49
      exact g1
    · unfold rkO
      rw [if_pos c]
      by_cases s : seen b n (nI r) = true
      · rw [if_pos s]
        obtain ⟨k1, k2⟩ := posO_spec s
        obtain ⟨w1, w2⟩ := e3 _ r (Nat.zero_le _) k1 k2 hr
        refine ⟨?_, ?_⟩
        · rw [g3 _ _ (by omega) (fun ⟨q, _, _, z3, z4, _⟩ => by
            have : q = r := by omega
            subst this
            rw [s] at z3
            cases z3)]
          exact w2
        · rw [g3 _ _ (by omega) (fun ⟨q, _, _, _, z4, _⟩ => by omega)]
          exact w1
      · rw [if_neg s]
        exact g2 r (Nat.zero_le r) hr (by simpa using s)
    · rw [g3 i j (fun h => h1 h.1) (fun ⟨q, _, z2, _, z4, z5⟩ => h2 (by omega)), e4 i j (fun h => h1 h.1) (fun ⟨q, r, _, _, z3, _, z5, z6⟩ => h2 (by omega))]
  · rw [if_neg c]
    unfold f_Rs_rank_49
    have hc := cU_false
    obtain ⟨σ2, g1, g2, g3⟩ := rank52 (p0 := 0) (tb := fun _ => false) hn (by rw [cU_false]; omega) nr FU 0 σ 0 (Nat.zero_add nr) (by unfold FU; omega) h5 (fun i _ => b_0 i)
    refine ⟨σ2, g1, fun r hr => ?_, fun i j h1 h2 => ?_⟩
    · unfold rkO
      rw [if_neg c]
      have := g2 r (Nat.zero_le r) hr rfl
      rw [cU_false, Nat.zero_add] at this
      exact this
    · exact g3 i j (fun h => h1 h.1) (fun ⟨q, _, z2, _, z4, z5⟩ => h2 (by omega))
