/-! what a text of ropes tells -/
def fbG (bad : Nat → Bool) : Nat → Nat
  | 0 => 0
  | n + 1 => if fbG bad n < n then fbG bad n else if bad n then n else n + 1
theorem fbG_le (bad : Nat → Bool) : ∀ n, fbG bad n ≤ n
  | 0 => Nat.le_refl 0
  | n + 1 => by
    have := fbG_le bad n
    unfold fbG
    split
    · omega
    · split <;> omega
theorem fbG_none {bad : Nat → Bool} : ∀ {n : Nat}, (∀ q, q < n → bad q = false) → fbG bad n = n
  | 0, _ => rfl
  | n + 1, h => by
    have h1 := fbG_none (n := n) (fun q hq => h q (by omega))
    unfold fbG
    rw [h1, if_neg (by omega), h n (by omega)]
    rfl
theorem fbG_first {bad : Nat → Bool} {p : Nat} (h : ∀ q, q < p → bad q = false) (hp : bad p = true) : ∀ {n : Nat}, p < n → fbG bad n = p
  | 0, hn => by omega
  | n + 1, hn => by
    by_cases e : p = n
    · subst e
      unfold fbG
      rw [fbG_none h, if_neg (by omega), hp, if_pos rfl]
    · unfold fbG
      rw [fbG_first h hp (n := n) (by omega), if_pos (by omega)]
theorem fbG_ok {bad : Nat → Bool} : ∀ {n p : Nat}, p < fbG bad n → bad p = false
  | 0, p, h => by simp [fbG] at h
  | n + 1, p, h => by
    unfold fbG at h
    split at h
    · exact fbG_ok h
    · have hle := fbG_le bad n
      by_cases hb : bad n = true
      · rw [if_pos hb] at h
        exact fbG_ok (n := n) (by omega)
      · rw [if_neg hb] at h
        by_cases e : p = n
        · subst e; simpa using hb
        · exact fbG_ok (n := n) (by omega)
theorem fbG_bad {bad : Nat → Bool} : ∀ {n : Nat}, fbG bad n < n → bad (fbG bad n) = true
  | 0, h => by simp at h
  | n + 1, h => by
    unfold fbG at h ⊢
    split
    · exact fbG_bad (by assumption)
    · rename_i h1
      rw [if_neg h1] at h
      split
      · assumption
      · rename_i h2
        rw [if_neg h2] at h
        omega
def fig (x : Int32) : Int32 := if f_GR_isBelow (x - 48) 10 = 0 then -1 else x - 48
def val (b : Nat → Int32) (p : Nat) : Int32 := f_Rs_valueOf (nI (p % 7)) (b p) (fig (b p))
def badB (b : Nat → Int32) (p : Nat) : Bool := decide (8 ≤ p / 7) || decide (val b p = -1)
def f0 (n : Nat) (b : Nat → Int32) : Int32 := if fbG (badB b) n < n then nI (fbG (badB b) n) else if n = 0 ∨ n % 7 = 6 then -1 else nI n
def nrO (n : Nat) (b : Nat → Int32) : Nat := if f0 n b = -1 then (n + 1) / 7 else 0
def TX (c n : Nat) (b : Nat → Int32) (σ : Sg) : Prop := n ≤ 60 ∧ σ.1 c 2 = nI n ∧ ∀ i, i < n → σ.1 (c + 1) i = b i
theorem TX.of {c n : Nat} {b : Nat → Int32} {σ σ' : Sg} (h : TX c n b σ) (e1 : σ'.1 c 2 = σ.1 c 2) (e2 : ∀ i, σ'.1 (c + 1) i = σ.1 (c + 1) i) : TX c n b σ' := ⟨h.1, e1.trans h.2.1, fun i hi => (e2 i).trans (h.2.2 i hi)⟩
theorem te_at {c n p : Nat} {b : Nat → Int32} {σ : Sg} (h : TX c n b σ) (hp : p < n) : f_Te_at σ c (nI p) = some (b p) := by
  obtain ⟨h1, h2, h3⟩ := h
  unfold f_Te_at
  rw [h2, below_yes hp (nI_toInt (by omega)) (by omega), if_neg (by decide), gd_of (vin_nI (by omega) (by decide)), nI_clamp (by omega), h3 p hp]
theorem te_fig {c n p : Nat} {b : Nat → Int32} {σ : Sg} (h : TX c n b σ) (hp : p < n) : f_Te_figureAt σ c (nI p) = some (fig (b p)) := by
  unfold f_Te_figureAt
  rw [te_at h hp]
  show (if _ then _ else _) = _
  unfold fig
  split <;> rfl
theorem rs_at {r : Nat} (h : r < 8) : f_Rs_at (nI r) = 9 + r := by
  unfold f_Rs_at
  rw [below_yes h (by decide) (by decide), if_neg (by decide), nI_clamp (by omega)]
def mx0 (x : Int32) : Int32 := f_JM_max 0 x
theorem ro_learn (σ : Sg) (c k : Nat) (v : Int32) (hk : k < 7) : ∃ σ', f_Ro_learn σ c (nI k) v = some σ' ∧ (∀ i j, i ≠ c → σ'.1 i j = σ.1 i j) ∧ (k < 6 → σ'.1 c k = v) ∧ (∀ j, j < 6 → j ≠ k → σ'.1 c j = σ.1 c j) ∧ (k = 1 → σ'.1 c 7 = mx0 (v - σ.1 c 0) ∧ σ'.1 c 8 = mx0 (σ.1 c 0 - v)) ∧ (2 ≤ k → σ'.1 c 7 = σ.1 c 7 ∧ σ'.1 c 8 = σ.1 c 8) := by
  have hn : ∀ (i j : Nat), i ≠ c → ∀ (s : Sg) (q : Nat) (w : Int32), (pI s c q w).1 i j = s.1 i j := fun i j h s q w => pI_ne (fun h2 => h h2.1)
  rcases (show k = 0 ∨ k = 1 ∨ k = 2 ∨ k = 3 ∨ k = 4 ∨ k = 5 ∨ k = 6 by omega) with rfl | rfl | rfl | rfl | rfl | rfl | rfl
  · refine ⟨_, rfl, fun i j h => ?_, fun _ => ?_, fun j hj hne => ?_, fun h => by omega, fun h => by omega⟩
    · rw [hn i j h, hn i j h, hn i j h, hn i j h]
    · simp [pI_get]
    · rcases (show j = 1 ∨ j = 2 ∨ j = 3 ∨ j = 4 ∨ j = 5 by omega) with rfl | rfl | rfl | rfl | rfl <;> simp [pI_get]
  · refine ⟨_, rfl, fun i j h => ?_, fun _ => ?_, fun j hj hne => ?_, fun _ => ?_, fun h => by omega⟩
    · rw [hn i j h, hn i j h, hn i j h, hn i j h]
    · simp [pI_get]
    · rcases (show j = 0 ∨ j = 2 ∨ j = 3 ∨ j = 4 ∨ j = 5 by omega) with rfl | rfl | rfl | rfl | rfl <;> simp [pI_get]
    · simp [pI_get, mx0]
  · exact ⟨_, rfl, fun i j h => hn i j h _ _ _, fun _ => pI_eq, fun j _ hne => pI_ne (fun h => hne h.2), fun h => by omega, fun _ => ⟨pI_ne (by omega), pI_ne (by omega)⟩⟩
  · exact ⟨_, rfl, fun i j h => hn i j h _ _ _, fun _ => pI_eq, fun j _ hne => pI_ne (fun h => hne h.2), fun h => by omega, fun _ => ⟨pI_ne (by omega), pI_ne (by omega)⟩⟩
  · exact ⟨_, rfl, fun i j h => hn i j h _ _ _, fun _ => pI_eq, fun j _ hne => pI_ne (fun h => hne h.2), fun h => by omega, fun _ => ⟨pI_ne (by omega), pI_ne (by omega)⟩⟩
  · exact ⟨_, rfl, fun i j h => hn i j h _ _ _, fun _ => pI_eq, fun j _ hne => pI_ne (fun h => hne h.2), fun h => by omega, fun _ => ⟨pI_ne (by omega), pI_ne (by omega)⟩⟩
  · exact ⟨_, rfl, fun i j h => rfl, fun h => by omega, fun j _ _ => rfl, fun h => by omega, fun _ => ⟨rfl, rfl⟩⟩
/-- the ropes that the first p bytes tell, in the class -/
def LR (b : Nat → Int32) (p : Nat) (σ : Sg) : Prop := ∀ q, q < p → (q % 7 < 6 → σ.1 (9 + q / 7) (q % 7) = val b q) ∧ (q % 7 = 1 → σ.1 (9 + q / 7) 7 = mx0 (val b q - val b (q - 1)) ∧ σ.1 (9 + q / 7) 8 = mx0 (val b (q - 1) - val b q))
set_option maxHeartbeats 1000000 in
theorem learn_loop {n : Nat} {b : Nat → Int32} : ∀ (d fuel p : Nat) (σ : Sg), p + d = n → d < fuel → TX 1 n b σ → LR b p σ → (∀ q, q < p → badB b q = false) →
    ∃ σ', f_Rs_learnRopes_2 fuel σ 1 (nI p) = some (f0 n b, σ') ∧ (∀ i j, ¬ (9 ≤ i ∧ i < 17) → σ'.1 i j = σ.1 i j) ∧ (fbG (badB b) n = n → LR b n σ') := by
  intro d
  induction d with
  | zero =>
    intro fuel p σ hp hf hT hL hb
    obtain ⟨m, rfl⟩ : ∃ m, fuel = m + 1 := ⟨fuel - 1, by omega⟩
    have hpn : p = n := by omega
    subst hpn
    have e := fbG_none hb
    refine ⟨σ, ?_, fun _ _ _ => rfl, fun _ => hL⟩
    rw [f_Rs_learnRopes_2_s, hT.2.1, if_pos (nI_le (Nat.le_refl _) (by have := hT.1; omega))]
    unfold f0 f_Rs_learnRopes_87 f_Rs_learnRopes_92
    rw [hT.2.1, e, if_neg (Nat.lt_irrefl p)]
    have h60 := hT.1
    have e0 : (nI p = 0) ↔ p = 0 := nI_eq (b := 0) (by omega) (by omega)
    have e6 : (nI p - nI p / 7 * 7 = 6) ↔ p % 7 = 6 := by
      rw [show nI p - nI p / 7 * 7 = nI (p % 7) from pk_rem (d := 7) (by omega) (by omega) (by omega)]
      exact nI_eq (b := 6) (by omega) (by omega)
    by_cases c1 : p = 0
    · rw [if_pos (e0.mpr c1), if_neg (by decide), if_pos (Or.inl c1)]
    · rw [if_neg (fun h => c1 (e0.mp h))]
      by_cases c2 : p % 7 = 6
      · rw [if_pos (e6.mpr c2), if_neg (by decide), if_pos (Or.inr c2)]
      · rw [if_neg (fun h => c2 (e6.mp h)), if_pos rfl, if_neg (show ¬ (p = 0 ∨ p % 7 = 6) by omega)]
  | succ d ih =>
    intro fuel p σ hp hf hT hL hb
    obtain ⟨m, rfl⟩ : ∃ m, fuel = m + 1 := ⟨fuel - 1, by omega⟩
    have h60 := hT.1
    rw [f_Rs_learnRopes_2_s, hT.2.1, if_neg (nI_ge (by omega) (by omega)), te_at hT (by omega), te_fig hT (by omega)]
    simp only [Option.bind_some]
    have ed : nI p / 7 = nI (p / 7) := pk_div (d := 7) (by omega) (by omega) (by omega)
    have er : nI p - nI p / 7 * 7 = nI (p % 7) := pk_rem (d := 7) (by omega) (by omega) (by omega)
    rw [er, ed]
    have hv : f_Rs_valueOf (nI (p % 7)) (b p) (fig (b p)) = val b p := rfl
    rw [hv]
    by_cases c1 : 8 ≤ p / 7
    · have hbad : badB b p = true := by unfold badB; simp [c1]
      have e := fbG_first hb hbad (n := n) (by omega)
      rw [if_pos (show (8 : Int32) ≤ nI (p / 7) from nI_le (a := 8) c1 (by omega))]
      refine ⟨σ, ?_, fun _ _ _ => rfl, fun h => by omega⟩
      unfold f0
      rw [e, if_pos (by omega)]
    · rw [if_neg (show ¬ (8 : Int32) ≤ nI (p / 7) from nI_ge (a := p / 7) (b := 8) (by omega) (by omega))]
      by_cases c2 : val b p = -1
      · have hbad : badB b p = true := by unfold badB; simp [c2]
        have e := fbG_first hb hbad (n := n) (by omega)
        rw [if_pos c2]
        refine ⟨σ, ?_, fun _ _ _ => rfl, fun h => by omega⟩
        unfold f0
        rw [e, if_pos (by omega)]
      · have hgood : badB b p = false := by unfold badB; simp [c2]; omega
        rw [if_neg c2, rs_at (by omega)]
        obtain ⟨σ1, h1, h2, h3, h4, h5, h6⟩ := ro_learn σ (9 + p / 7) (p % 7) (val b p) (by omega)
        rw [h1]
        simp only [Option.bind_some]
        have hT1 : TX 1 n b σ1 := hT.of (h2 _ _ (by omega)) (fun i => h2 _ _ (by omega))
        have hL1 : LR b (p + 1) σ1 := by
          intro q hq
          by_cases hqp : q = p
          · subst hqp
            refine ⟨fun h => h3 h, fun h => ?_⟩
            obtain ⟨g1, g2⟩ := h5 h
            have hprev := (hL (q - 1) (by omega)).1 (by omega)
            rw [show (q - 1) / 7 = q / 7 by omega, show (q - 1) % 7 = 0 by omega] at hprev
            rw [g1, g2, hprev]
            exact ⟨rfl, rfl⟩
          · obtain ⟨g1, g2⟩ := hL q (by omega)
            by_cases hsame : q / 7 = p / 7
            · have hlt : q % 7 < p % 7 := by omega
              refine ⟨fun h => ?_, fun h => ?_⟩
              · rw [hsame, h4 _ h (by omega), ← hsame]; exact g1 h
              · obtain ⟨k1, k2⟩ := g2 h
                obtain ⟨w1, w2⟩ := h6 (by omega)
                rw [hsame, w1, w2, ← hsame]; exact ⟨k1, k2⟩
            · have hne : 9 + q / 7 ≠ 9 + p / 7 := by omega
              rw [h2 _ _ hne, h2 _ _ hne, h2 _ _ hne]
              exact ⟨g1, g2⟩
        obtain ⟨σ', e1, e2, e3⟩ := ih m (p + 1) σ1 (by omega) (by omega) hT1 hL1 (fun q hq => by
          by_cases hqp : q = p
          · subst hqp; exact hgood
          · exact hb q (by omega))
        refine ⟨σ', ?_, fun i j h => by rw [e2 i j h, h2 i j (by omega)], e3⟩
        rw [nI_1]
        exact e1
theorem learn_ropes {n : Nat} {b : Nat → Int32} {σ : Sg} (hT : TX 1 n b σ) : ∃ σ', f_Rs_learnRopes σ 1 = some (f0 n b, σ') ∧ (∀ i j, ¬ (9 ≤ i ∧ i < 17) → σ'.1 i j = σ.1 i j) ∧ (fbG (badB b) n = n → LR b n σ') :=
  learn_loop n FU 0 σ (Nat.zero_add n) (by have := hT.1; unfold FU; omega) hT (fun q hq => by omega) (fun q hq => by omega)
