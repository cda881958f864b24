/-! knots -/
theorem pL_ne {σ : Sg} {i k a b : Nat} {v : Int64} (h : ¬ (a = i ∧ b = k)) : (pL σ i k v).2 a b = σ.2 a b := if_neg h
theorem pL_eq {σ : Sg} {i k : Nat} {v : Int64} : (pL σ i k v).2 i k = v := if_pos ⟨rfl, rfl⟩
def sumT (w : Nat → Int64) (m : Nat) : Nat → Int64
  | 0 => 0
  | k + 1 => sumT w m k + w (m - k - 1)
def cnT (L m : Nat) : Nat := if L + 1 ≤ m then L + 1 else m
def stW (L : Nat) (w : Nat → Int64) (m : Nat) : Int64 := sumT w m (cnT L m)
def itW (L : Nat) : Nat → Nat → Int64
  | 0 => fun i => if i = 0 then 1 else 0
  | t + 1 => stW L (itW L t)
theorem cadd_in {k : Sg → Int32 → Int32 → Option Sg} {L m : Nat} {w : Nat → Int64} {σ : Sg} (hL : L < 10) (hm : m < 100) (hw : ∀ i, i < m → σ.2 53 i = w i) : ∀ (d f j : Nat), j + d = cnT L m → d < f → f_Fe_addTrip_12 k f σ (nI L) (nI m) (sumT w m j) (nI j) = k (pL σ 53 m (stW L w m)) (nI L) (nI m + (-1)) := by
  intro d
  induction d with
  | zero =>
    intro f j hj hf
    obtain ⟨z, rfl⟩ : ∃ z, f = z + 1 := ⟨f - 1, by omega⟩
    have e : f_Fe_addTrip_46 k σ (nI L) (nI m) (sumT w m j) = k (pL σ 53 m (stW L w m)) (nI L) (nI m + (-1)) := by
      unfold f_Fe_addTrip_46 stW
      rw [gd_of (vin_nI hm (by decide)), nI_clamp (by omega), show j = cnT L m by omega]
    rw [f_Fe_addTrip_12_s, e]
    unfold cnT at hj
    by_cases c : L + 1 ≤ m
    · rw [if_pos c] at hj
      rw [if_pos (nI_lt (by omega) (by omega))]
    · rw [if_neg c] at hj
      rw [if_neg (nI_nlt (by omega) (by omega)), nI_1, if_pos (nI_lt (by omega) (by omega))]
  | succ d ih =>
    intro f j hj hf
    obtain ⟨z, rfl⟩ : ∃ z, f = z + 1 := ⟨f - 1, by omega⟩
    have hj' : j < L + 1 ∧ j < m := by unfold cnT at hj; split at hj <;> omega
    have e1 : (nI m - nI j - 1 : Int32) = nI (m - j - 1) := by rw [pk_sub (by omega)]; exact pk_sub (b := 1) (by omega)
    rw [f_Fe_addTrip_12_s, if_neg (nI_nlt (by omega) (by omega)), nI_1, if_neg (nI_nlt (by omega) (by omega)), e1, gd_of (vin_nI (by omega) (by decide)), nI_clamp (by omega), hw (m - j - 1) (by omega)]
    exact ih z (j + 1) (by omega) (by omega)
theorem cadd {L : Nat} {w : Nat → Int64} (hL : L < 10) : ∀ (d f : Nat) (σ : Sg), d < f → d ≤ 100 → (∀ i, i < d → σ.2 53 i = w i) → (∀ i, d ≤ i → i < 100 → σ.2 53 i = stW L w i) → ∃ σ', f_Fe_addTrip_3 f σ (nI L) (nI d + (-1)) = some σ' ∧ σ'.1 = σ.1 ∧ ∀ i, i < 100 → σ'.2 53 i = stW L w i := by
  intro d
  induction d with
  | zero =>
    intro f σ hf hd h1 h2
    obtain ⟨z, rfl⟩ : ∃ z, f = z + 1 := ⟨f - 1, by omega⟩
    exact ⟨σ, by rw [f_Fe_addTrip_3_s, if_pos (show (nI 0 + (-1) : Int32) < 0 by decide)], rfl, fun i hi => h2 i (by omega) hi⟩
  | succ d ih =>
    intro f σ hf hd h1 h2
    obtain ⟨z, rfl⟩ : ∃ z, f = z + 1 := ⟨f - 1, by omega⟩
    obtain ⟨σ', k1, k2, k3⟩ := ih z (pL σ 53 d (stW L w d)) (by omega) (by omega) (fun i hi => by rw [pL_ne (by omega)]; exact h1 i (by omega)) (fun i g1 g2 => by
      by_cases q : i = d
      · subst q; exact pL_eq
      · rw [pL_ne (by omega)]; exact h2 i (by omega) g2)
    refine ⟨σ', ?_, k2, k3⟩
    rw [f_Fe_addTrip_3_s, pk_m1, if_neg (show ¬ nI d < 0 from nI_pos (by omega))]
    have := cadd_in (k := f_Fe_addTrip_3 z) (L := L) (m := d) (w := w) (σ := σ) hL (by omega) (fun i hi => h1 i (by omega)) (cnT L d) FU 0 (by omega) (by unfold FU cnT; split <;> omega)
    exact this.trans k1
theorem cways34 {L n v : Nat} (hL : L < 10) (hn : n < 10) (hv : v < 100) : ∀ (d f t : Nat) (σ : Sg), t + d = n → d < f → (∀ i, i < 100 → σ.2 53 i = itW L t i) → ∃ σ', f_Fe_ways_34 f σ (nI L) (nI n) (nI v) (nI t) = some (itW L n v, σ') ∧ σ'.1 = σ.1 := by
  intro d
  induction d with
  | zero =>
    intro f t σ ht hf h1
    obtain ⟨z, rfl⟩ : ∃ z, f = z + 1 := ⟨f - 1, by omega⟩
    have : t = n := by omega
    subst this
    refine ⟨σ, ?_, rfl⟩
    rw [f_Fe_ways_34_s, if_pos (nI_le (Nat.le_refl _) (by omega)), if_neg (n10 (below_yes (n := 100) hv (by decide) (by decide))), nI_clamp (by omega), h1 v hv]
  | succ d ih =>
    intro f t σ ht hf h1
    obtain ⟨z, rfl⟩ : ∃ z, f = z + 1 := ⟨f - 1, by omega⟩
    obtain ⟨σ1, k1, k2, k3⟩ := cadd (L := L) (w := itW L t) hL 100 FU σ (by unfold FU; omega) (by omega) h1 (fun i g1 g2 => by omega)
    have k1' : f_Fe_addTrip σ (nI L) = some σ1 := k1
    obtain ⟨σ2, w1, w2⟩ := ih z (t + 1) σ1 (by omega) (by omega) k3
    refine ⟨σ2, ?_, w2.trans k2⟩
    rw [f_Fe_ways_34_s, if_neg (nI_ge (by omega) (by omega)), k1', Option.bind_some, nI_1]
    exact w1
theorem cways3 {L n v : Nat} (hL : L < 10) (hn : n < 10) (hv : v < 100) : ∀ (d f i : Nat) (σ : Sg), i + d = 100 → d < f → (∀ j, j < i → σ.2 53 j = 0) → ∃ σ', f_Fe_ways_3 f σ (nI L) (nI n) (nI v) (nI i) = some (itW L n v, σ') ∧ σ'.1 = σ.1 := by
  intro d
  induction d with
  | zero =>
    intro f i σ hi hf h1
    obtain ⟨z, rfl⟩ : ∃ z, f = z + 1 := ⟨f - 1, by omega⟩
    have : i = 100 := by omega
    subst this
    obtain ⟨σ', k1, k2⟩ := cways34 hL hn hv n FU 0 (pL σ 53 0 1) (by omega) (by unfold FU; omega) (fun j hj => by
      show (pL σ 53 0 1).2 53 j = if j = 0 then 1 else 0
      by_cases q : j = 0
      · subst q; rw [pL_eq, if_pos rfl]
      · rw [pL_ne (by omega), if_neg q, h1 j hj])
    refine ⟨σ', ?_, k2⟩
    rw [f_Fe_ways_3_s, if_pos (show (100 : Int32) ≤ nI 100 by decide)]
    exact k1
  | succ d ih =>
    intro f i σ hi hf h1
    obtain ⟨z, rfl⟩ : ∃ z, f = z + 1 := ⟨f - 1, by omega⟩
    obtain ⟨σ', k1, k2⟩ := ih z (i + 1) (pL σ 53 i 0) (by omega) (by omega) (fun j hj => by
      by_cases q : j = i
      · subst q; exact pL_eq
      · rw [pL_ne (by omega)]; exact h1 j (by omega))
    refine ⟨σ', ?_, k2⟩
    rw [f_Fe_ways_3_s, if_neg (show ¬ (100 : Int32) ≤ nI i from nI_ge (b := 100) (by omega) (by omega)), gd_of (vin_nI (by omega) (by decide)), nI_clamp (by omega), nI_1]
    exact k1
theorem cways_k {L n v : Nat} {σ : Sg} (hL : L < 10) (hn : n < 10) (hv : v < 100) : ∃ σ', f_Fe_ways σ (nI L) (nI n) (nI v) = some (itW L n v, σ') ∧ σ'.1 = σ.1 := cways3 hL hn hv 100 FU 0 σ (by omega) (by unfold FU; omega) (fun j hj => by omega)
