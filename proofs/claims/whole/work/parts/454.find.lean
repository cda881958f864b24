/-! the mill: the model's search -/
theorem ris_dec : ∀ x y : Fin 10, (if (0 : Int32) ≤ nI x.val - nI y.val then (some (nI x.val - nI y.val) : Option Int32) else some 0) = some (nI (x.val - y.val)) := by decide +kernel
/-- how many parts go by a rope; the most that carrying takes -/
def cnN (f : Nat → Nat) (r n : Nat) : Nat := smN (fun p => if f p = r then 1 else 0) n
def isT (F : Nat → Nat → Nat) (R n : Nat) (f : Nat → Nat) (V : Nat) : Prop := (∀ r, r < R → tm1 (F r) (cnN f r n) ≤ V) ∧ (V = 0 ∨ ∃ r, r < R ∧ V = tm1 (F r) (cnN f r n))
theorem cnN_le (f : Nat → Nat) (r n : Nat) : cnN f r n ≤ n := by
  have := smN_le (f := fun p => if f p = r then 1 else 0) (m := 1) n (fun p _ => by split <;> omega)
  unfold cnN
  omega
def cst (F : Nat → Nat → Nat) (W : Nat → Nat) (np : Nat) (f : Nat → Nat) : Nat := smN (fun p => cs1 (F (f p)) (W p)) np
section
variable {R np lim : Nat} {F : Nat → Nat → Nat} {W K : Nat → Nat} {wo : Int32} {σ σ' : Sg}
theorem rises_0 (h : MW R F np lim W K σ) {r : Nat} (hr : r < R) : f_Md_rises σ (nI r) 0 = some (nI (F r 1 - F r 0)) := by
  obtain ⟨h1, h2, h3, h4, h5, -⟩ := h
  obtain ⟨a0, b0⟩ := h5 r 0 hr (by omega)
  obtain ⟨a1, b1⟩ := h5 r 1 hr (by omega)
  have e0 : (6 * nI r + 0 : Int32) = nI (6 * r + 0) := six_k (k := 0)
  have e1 : (6 * nI r + 1 - 0 : Int32) = nI (6 * r + 1) := by rw [Int32.sub_zero]; exact six_k (k := 1)
  unfold f_Md_rises
  rw [e0, e1, gd_of (vin_nI (by omega) (by decide)), gd_of (vin_nI (by omega) (by decide)), nI_clamp (by omega), nI_clamp (by omega), b0, b1]
  exact ris_dec ⟨F r 1, a1⟩ ⟨F r 0, a0⟩
theorem rises_1 (h : MW R F np lim W K σ) {r : Nat} (hr : r < R) : f_Md_rises σ (nI r) 1 = some (nI (F r 0 - F r 1)) := by
  obtain ⟨h1, h2, h3, h4, h5, -⟩ := h
  obtain ⟨a0, b0⟩ := h5 r 0 hr (by omega)
  obtain ⟨a1, b1⟩ := h5 r 1 hr (by omega)
  have e0 : (6 * nI r + 1 : Int32) = nI (6 * r + 1) := six_k (k := 1)
  have e1 : (nI (6 * r + 1) - 1 : Int32) = nI (6 * r + 0) := pk_sub (b := 1) (by omega)
  unfold f_Md_rises
  rw [e0, e1, gd_of (vin_nI (by omega) (by decide)), gd_of (vin_nI (by omega) (by decide)), nI_clamp (by omega), nI_clamp (by omega), b0, b1]
  exact ris_dec ⟨F r 0, a0⟩ ⟨F r 1, a1⟩
theorem costs_1 (h : MW R F np lim W K σ) {r : Nat} (hr : r < R) (w : Nat) : f_Md_costs σ (nI r) 0 (nI w) = some (nI (cs1 (F r) w)) := by
  have h9 := h.1
  have e4 : (6 * nI r + 4 : Int32) = nI (6 * r + 4) := six_k (k := 4)
  unfold f_Md_costs
  rw [e4, gd_of (vin_nI (by omega) (by decide)), rises_0 h hr, Option.bind_some, nI_clamp (by omega), (h.2.2.2.2.1 r 4 hr (by omega)).2, nI_1, pk_mul, nI_add]
  rfl
theorem mins_0 (h : MW R F np lim W K σ) {r : Nat} (hr : r < R) : f_Md_minutes σ (nI r) 0 = some (nI (m01 (F r))) := by
  unfold f_Md_minutes
  rw [rises_0 h hr, Option.bind_some, show (2 : Int32) = nI 2 from rfl, show (12 : Int32) = nI 12 from rfl, pk_mul, nI_add]
  rfl
theorem mins_1 (h : MW R F np lim W K σ) {r : Nat} (hr : r < R) : f_Md_minutes σ (nI r) 1 = some (nI (m11 (F r))) := by
  unfold f_Md_minutes
  rw [rises_1 h hr, Option.bind_some, show (2 : Int32) = nI 2 from rfl, show (12 : Int32) = nI 12 from rfl, pk_mul, nI_add]
  rfl
theorem cost_loop {f : Nat → Nat} (h : MW R F np lim W K σ) (hrow : row 80 np f σ) (hv : ∀ p, p < np → f p < R) : ∀ (d fu p : Nat), p + d = np → d < fu → f_Md_rowCost_4 fu σ (nI (cst F W p f)) (nI p) = some (nI (cst F W np f)) := by
  have n5 := h.2.1
  intro d
  induction d with
  | zero =>
    intro fu p hp hf
    obtain ⟨m, rfl⟩ : ∃ m, fu = m + 1 := ⟨fu - 1, by omega⟩
    have : p = np := by omega
    subst this
    rw [f_Md_rowCost_4_s, h.2.2.2.2.2.1, if_pos (nI_le (Nat.le_refl _) (by omega))]
  | succ d ih =>
    intro fu p hp hf
    obtain ⟨m, rfl⟩ : ∃ m, fu = m + 1 := ⟨fu - 1, by omega⟩
    rw [f_Md_rowCost_4_s, h.2.2.2.2.2.1, if_neg (nI_ge (by omega) (by omega)), gd_of (vin_nI (show p < 5 by omega) (by decide)), gd_of (vin_nI (show p < 5 by omega) (by decide)), nI_clamp (by omega), hrow p (by omega), (h.2.2.2.2.2.2.2 p (by omega)).1, costs_1 h (hv p (by omega)), Option.bind_some, nI_add, nI_1]
    exact ih m (p + 1) (by omega) (by omega)
theorem rowCost_k {f : Nat → Nat} (h : MW R F np lim W K σ) (hrow : row 80 np f σ) (hv : ∀ p, p < np → f p < R) : f_Md_rowCost σ = some (nI (cst F W np f)) := by
  have n5 := h.2.1
  exact cost_loop h hrow hv np FU 0 (by omega) (by unfold FU; omega)
theorem time_25 {f : Nat → Nat} (hv : ∀ p, p < np → f p < R) : ∀ (d fu p V : Nat) (σ : Sg), MW R F np lim W K σ → row 80 np f σ → (∀ r, r < 9 → σ.1 82 r = nI (cnN f r p)) → isT F R p f V → V ≤ 360 → p + d = np → d < fu → ∃ V' σ', f_Md_rowTime_25 fu σ (nI V) (nI p) = some (nI V', σ') ∧ K82 σ σ' ∧ isT F R np f V' ∧ V' ≤ 360 := by
  intro d
  induction d with
  | zero =>
    intro fu p V σ h hrow h82 hT hV hp hf
    have n5 := h.2.1
    obtain ⟨m, rfl⟩ : ∃ m, fu = m + 1 := ⟨fu - 1, by omega⟩
    have : p = np := by omega
    subst this
    exact ⟨V, σ, by rw [f_Md_rowTime_25_s, h.2.2.2.2.2.1, if_pos (nI_le (Nat.le_refl _) (by omega))], fun _ _ _ => rfl, hT, hV⟩
  | succ d ih =>
    intro fu p V σ h hrow h82 hT hV hp hf
    have n5 := h.2.1
    have h9 := h.1
    obtain ⟨m, rfl⟩ : ∃ m, fu = m + 1 := ⟨fu - 1, by omega⟩
    have hr := hv p (by omega)
    have cl := cnN_le f (f p) p
    have c1 : cnN f (f p) (p + 1) = cnN f (f p) p + 1 := by
      show cnN f (f p) p + (if f p = f p then 1 else 0) = _
      rw [if_pos rfl]
    have cn : ∀ r, r ≠ f p → cnN f r (p + 1) = cnN f r p := fun r q => by
      show cnN f r p + (if f p = r then 1 else 0) = _
      rw [if_neg (fun z => q z.symm), Nat.add_zero]
    have hk : K82 σ (pI σ 82 (f p) (nI (cnN f (f p) p + 1))) := fun x y q => pI_ne (by omega)
    have h1 := h.of hk.ks
    have tl := tm1_le (a := F (f p)) (n := cnN f (f p) p + 1) (fun k hk => (h.2.2.2.2.1 _ k hr hk).1) (by omega)
    have nx : ∀ V', isT F R (p + 1) f V' → V' ≤ 360 → ∃ V2 σ', f_Md_rowTime_25 m (pI σ 82 (f p) (nI (cnN f (f p) p + 1))) (nI V') (nI (p + 1)) = some (nI V2, σ') ∧ K82 σ σ' ∧ isT F R np f V2 ∧ V2 ≤ 360 := fun V' hT' hV' => by
      obtain ⟨V2, σ', e1, e2, e3, e4⟩ := ih m (p + 1) V' (pI σ 82 (f p) (nI (cnN f (f p) p + 1))) h1 (fun q hq => by rw [pI_ne (by omega)]; exact hrow q hq) (fun r hr9 => by
        by_cases q : r = f p
        · subst q; rw [pI_eq, c1]
        · rw [pI_ne (by omega), cn r q]; exact h82 r hr9) hT' hV' (by omega) (by omega)
      exact ⟨V2, σ', e1, fun x y q => (e2 x y q).trans (hk x y q), e3, e4⟩
    have en : (nI (cnN f (f p) p + 1) - 1 : Int32) = nI (cnN f (f p) p) := pk_sub (b := 1) (by omega)
    have et : cnN f (f p) p * m11 (F (f p)) = (cnN f (f p) p + 1 - 1) * m11 (F (f p)) := by rw [Nat.add_sub_cancel]
    rw [f_Md_rowTime_25_s, h.2.2.2.2.2.1, if_neg (nI_ge (by omega) (by omega)), gd_of (vin_nI (show p < 5 by omega) (by decide)), nI_clamp (show p < 2 ^ 31 by omega), hrow p (by omega), gd_of (vin_nI (show f p < 9 by omega) (by decide)), gd_of (vin_nI (show f p < 9 by omega) (by decide)), gd_of (vin_nI (show f p < 9 by omega) (by decide)), nI_clamp (show f p < 2 ^ 31 by omega), h82 _ (by omega), nI_1, mins_0 h1 hr, Option.bind_some, gd_of (vin_nI (show f p < 9 by omega) (by decide)), mins_1 h1 hr, Option.bind_some, pI_eq, en, pk_mul, pk_mul, nI_add, et]
    unfold f_Md_rowTime_93
    rw [nI_1 p]
    have tv : (cnN f (f p) p + 1) * m01 (F (f p)) + (cnN f (f p) p + 1 - 1) * m11 (F (f p)) = tm1 (F (f p)) (cnN f (f p) p + 1) := rfl
    rw [tv]
    by_cases c : tm1 (F (f p)) (cnN f (f p) p + 1) ≤ V
    · rw [if_pos (nI_le c (by omega))]
      refine nx V ⟨fun r hr2 => ?_, ?_⟩ hV
      · by_cases q : r = f p
        · subst q; rw [c1]; exact c
        · rw [cn r q]; exact hT.1 r hr2
      · rcases hT.2 with z | ⟨r, r1, r2⟩
        · exact Or.inl z
        · by_cases q : r = f p
          · subst q
            refine Or.inr ⟨f p, r1, ?_⟩
            have := tm1_mono (a := F (f p)) (show cnN f (f p) p ≤ cnN f (f p) p + 1 by omega)
            rw [c1]
            omega
          · exact Or.inr ⟨r, r1, by rw [cn r q]; exact r2⟩
    · rw [if_neg (nI_ge (by omega) (by omega))]
      refine nx _ ⟨fun r hr2 => ?_, Or.inr ⟨f p, hr, by rw [c1]⟩⟩ tl
      by_cases q : r = f p
      · subst q; rw [c1]; exact Nat.le_refl _
      · rw [cn r q]
        have := hT.1 r hr2
        omega
theorem time_2 : ∀ (d fu i : Nat) (σ : Sg), (∀ r, r < i → σ.1 82 r = 0) → i + d = 9 → d < fu → ∃ σ', f_Md_rowTime_2 fu σ (nI i) = f_Md_rowTime_25 FU σ' 0 0 ∧ K82 σ σ' ∧ ∀ r, r < 9 → σ'.1 82 r = 0 := by
  intro d
  induction d with
  | zero =>
    intro fu i σ h hi hf
    obtain ⟨m, rfl⟩ : ∃ m, fu = m + 1 := ⟨fu - 1, by omega⟩
    have : i = 9 := by omega
    subst this
    exact ⟨σ, by rw [f_Md_rowTime_2_s, if_pos (show (9 : Int32) ≤ nI 9 by decide)], fun _ _ _ => rfl, h⟩
  | succ d ih =>
    intro fu i σ h hi hf
    obtain ⟨m, rfl⟩ : ∃ m, fu = m + 1 := ⟨fu - 1, by omega⟩
    have hk : K82 σ (pI σ 82 i 0) := fun x y q => pI_ne (by omega)
    obtain ⟨σ', e1, e2, e3⟩ := ih m (i + 1) (pI σ 82 i 0) (fun r hr => by
      by_cases q : r = i
      · subst q; exact pI_eq
      · rw [pI_ne (by omega)]; exact h r (by omega)) (by omega) (by omega)
    refine ⟨σ', ?_, fun x y q => (e2 x y q).trans (hk x y q), e3⟩
    rw [f_Md_rowTime_2_s, if_neg (show ¬ (9 : Int32) ≤ nI i from nI_ge (b := 9) (by omega) (by omega)), gd_of (vin_nI (by omega) (by decide)), nI_clamp (by omega), nI_1]
    exact e1
theorem rowTime_k {f : Nat → Nat} (h : MW R F np lim W K σ) (hrow : row 80 np f σ) (hv : ∀ p, p < np → f p < R) : ∃ V σ', f_Md_rowTime σ = some (nI V, σ') ∧ K82 σ σ' ∧ isT F R np f V ∧ V ≤ 360 := by
  have n5 := h.2.1
  obtain ⟨σ1, e1, e2, e3⟩ := time_2 9 FU 0 σ (fun r hr => by omega) (by omega) (by unfold FU; omega)
  obtain ⟨V, σ2, g1, g2, g3, g4⟩ := time_25 (F := F) (lim := lim) (K := K) (W := W) hv np FU 0 0 σ1 (h.of e2.ks) (fun p hp => by rw [e2 _ _ (by omega)]; exact hrow p hp) (fun r hr => by rw [e3 r hr]; rfl) ⟨fun r hr => by show tm1 (F r) 0 ≤ 0; rw [tm1_0]; omega, Or.inl rfl⟩ (by omega) (by omega) (by unfold FU; omega)
  exact ⟨V, σ2, e1.trans g1, fun x y q => (g2 x y q).trans (e2 x y q), g3, g4⟩
theorem isT_uniq {n V V' : Nat} {f : Nat → Nat} (h : isT F R n f V) (h' : isT F R n f V') : V = V' := by
  have a : V ≤ V' := by
    rcases h.2 with z | ⟨r, r1, r2⟩
    · omega
    · rw [r2]; exact h'.1 r r1
  have b : V' ≤ V := by
    rcases h'.2 with z | ⟨r, r1, r2⟩
    · omega
    · rw [r2]; exact h.1 r r1
  omega
def inT (F : Nat → Nat → Nat) (R np lim : Nat) (f : Nat → Nat) : Prop := ∀ r, r < R → tm1 (F r) (cnN f r np) ≤ lim
theorem inT_of {n V : Nat} {f : Nat → Nat} (h : isT F R n f V) : inT F R n lim f ↔ V ≤ lim := by
  constructor
  · intro q
    rcases h.2 with z | ⟨r, r1, r2⟩
    · omega
    · rw [r2]; exact q r r1
  · intro q r hr
    exact Nat.le_trans (h.1 r hr) q
def btr (F : Nat → Nat → Nat) (W : Nat → Nat) (np : Nat) (h g : Nat → Nat) : Prop := cst F W np h < cst F W np g ∨ (cst F W np h = cst F W np g ∧ cd 10 h np ≤ cd 10 g np)
/-- the best row of those below b -/
def BS (F : Nat → Nat → Nat) (W K : Nat → Nat) (wo : Int32) (R np lim b : Nat) (σ : Sg) : Prop := (σ.1 66 24 = -1 ∧ σ.1 66 25 = -1 ∧ ∀ g, vr F W K wo R np g → inT F R np lim g → b ≤ cd 10 g np) ∨ ∃ h V, vr F W K wo R np h ∧ isT F R np h V ∧ V ≤ lim ∧ σ.1 66 24 = nI (cst F W np h) ∧ σ.1 66 25 = nI V ∧ row 81 np h σ ∧ cd 10 h np < b ∧ ∀ g, vr F W K wo R np g → inT F R np lim g → cd 10 g np < b → btr F W np h g
theorem BS.up {b b' : Nat} (h : BS F W K wo R np lim b σ) (hb : b ≤ b') (hn : ∀ g, vr F W K wo R np g → cd 10 g np < b ∨ b' ≤ cd 10 g np) : BS F W K wo R np lim b' σ := by
  rcases h with ⟨h1, h2, h3⟩ | ⟨h, V, h1, h2, h3, h4, h5, h6, h7, h8⟩
  · exact Or.inl ⟨h1, h2, fun g g1 g2 => by have := h3 g g1 g2; rcases hn g g1 with q | q <;> omega⟩
  · exact Or.inr ⟨h, V, h1, h2, h3, h4, h5, h6, by omega, fun g g1 g2 g3 => h8 g g1 g2 (by rcases hn g g1 with q | q <;> omega)⟩
theorem BS.of {b : Nat} (h : BS F W K wo R np lim b σ) (e1 : ∀ k, σ'.1 66 k = σ.1 66 k) (e2 : ∀ k, σ'.1 81 k = σ.1 81 k) : BS F W K wo R np lim b σ' := by
  rcases h with ⟨h1, h2, h3⟩ | ⟨h, V, h1, h2, h3, h4, h5, h6, h7, h8⟩
  · exact Or.inl ⟨by rw [e1]; exact h1, by rw [e1]; exact h2, h3⟩
  · exact Or.inr ⟨h, V, h1, h2, h3, by rw [e1]; exact h4, by rw [e1]; exact h5, fun p hp => by rw [e2]; exact h6 p hp, h7, h8⟩
theorem copy_75 {k18 : Sg → Int32 → Int32 → Int32 → Option Sg} {f : Nat → Nat} : ∀ (d fu p : Nat) (σ : Sg), MW R F np lim W K σ → row 80 np f σ → row 81 p f σ → p + d = np → d < fu → ∃ σ', f_Md_findSent_75 k18 fu σ (nI R) wo (nI p) = f_Md_findSent_104 k18 σ' (nI R) wo ∧ (∀ x y, x ≠ 81 → σ'.1 x y = σ.1 x y) ∧ row 81 np f σ' := by
  intro d
  induction d with
  | zero =>
    intro fu p σ h hrow h81 hp hf
    have n5 := h.2.1
    obtain ⟨m, rfl⟩ : ∃ m, fu = m + 1 := ⟨fu - 1, by omega⟩
    have : p = np := by omega
    subst this
    exact ⟨σ, by rw [f_Md_findSent_75_s, h.2.2.2.2.2.1, if_pos (nI_le (Nat.le_refl _) (by omega))], fun _ _ _ => rfl, h81⟩
  | succ d ih =>
    intro fu p σ h hrow h81 hp hf
    have n5 := h.2.1
    obtain ⟨m, rfl⟩ : ∃ m, fu = m + 1 := ⟨fu - 1, by omega⟩
    have hk : KS σ (pI σ 81 p (nI (f p))) := fun x y _ q _ _ => pI_ne (by omega)
    obtain ⟨σ', e1, e2, e3⟩ := ih m (p + 1) (pI σ 81 p (nI (f p))) (h.of hk) (fun q hq => by rw [pI_ne (by omega)]; exact hrow q hq) (fun q hq => by
      by_cases z : q = p
      · subst z; exact pI_eq
      · rw [pI_ne (by omega)]; exact h81 q (by omega)) (by omega) (by omega)
    refine ⟨σ', ?_, fun x y q => (e2 x y q).trans (pI_ne (by omega)), e3⟩
    rw [f_Md_findSent_75_s, h.2.2.2.2.2.1, if_neg (nI_ge (by omega) (by omega)), gd_of (vin_nI (show p < 5 by omega) (by decide)), gd_of (vin_nI (show p < 5 by omega) (by decide)), nI_clamp (by omega), hrow p (by omega), nI_1]
    exact e1
/-- the best row of all -/
def RS0 (F : Nat → Nat → Nat) (W K : Nat → Nat) (wo : Int32) (R np lim : Nat) (σ : Sg) : Prop := (σ.1 66 24 = -1 ∧ σ.1 66 25 = -1 ∧ ∀ g, vr F W K wo R np g → ¬ inT F R np lim g) ∨ ∃ h V, vr F W K wo R np h ∧ isT F R np h V ∧ V ≤ lim ∧ σ.1 66 24 = nI (cst F W np h) ∧ σ.1 66 25 = nI V ∧ row 81 np h σ ∧ ∀ g, vr F W K wo R np g → inT F R np lim g → btr F W np h g
theorem cst_le {f : Nat → Nat} (h : MW R F np lim W K σ) (hv : ∀ p, p < np → f p < R) : cst F W np f ≤ 495 := by
  have n5 := h.2.1
  have a := smN_le (f := fun p => cs1 (F (f p)) (W p)) (m := 99) np (fun p hp => cs1_le (fun k hk => (h.2.2.2.2.1 _ k (hv p hp) hk).1) (h.2.2.2.1 p).1)
  unfold cst
  omega
set_option maxHeartbeats 1000000 in
theorem find_18 : ∀ (d fu : Nat) (f : Nat → Nat) (σ : Sg), MW R F np lim W K σ → row 80 np f σ → vr F W K wo R np f → BS F W K wo R np lim (cd 10 f np) σ → 100000 ≤ cd 10 f np + d → d < fu → ∃ σ', f_Md_findSent_18 fu σ (nI R) wo 1 = some σ' ∧ KS σ σ' ∧ RS0 F W K wo R np lim σ' := by
  intro d
  induction d with
  | zero =>
    intro fu f σ h hrow hv hb hd hf
    have n5 := h.2.1
    have h9 := h.1
    have b := cd_bd np (f := f) (fun p hp => by have := (hv p hp).1; omega)
    have : 10 ^ np ≤ 10 ^ 5 := Nat.pow_le_pow_right (by omega) n5
    omega
  | succ d ih =>
    intro fu f σ h hrow hv hb hd hf
    have n5 := h.2.1
    have h9 := h.1
    have hl := h.2.2.1
    obtain ⟨m, rfl⟩ : ∃ m, fu = m + 1 := ⟨fu - 1, by omega⟩
    have hvR : ∀ p, p < np → f p < R := fun p hp => (hv p hp).1
    have stp : ∀ σ2 : Sg, KS σ σ2 → row 80 np f σ2 → BS F W K wo R np lim (cd 10 f np + 1) σ2 → ∃ σ', f_Md_findSent_104 (f_Md_findSent_18 m) σ2 (nI R) wo = some σ' ∧ KS σ σ' ∧ RS0 F W K wo R np lim σ' := fun σ2 k2 r2 b2 => by
      obtain ⟨ok, σ3, e1, e2, e3⟩ := goes_next (h.of k2) r2 hv
      unfold f_Md_findSent_104
      rw [e1, bd_s]
      have b3 := b2.of (σ' := σ3) (fun k => e2 _ _ (by omega)) (fun k => e2 _ _ (by omega))
      rcases e3 with ⟨rfl, f', f1, f2, f3, f4⟩ | ⟨rfl, e3⟩
      · obtain ⟨σ', g1, g2, g3⟩ := ih m f' σ3 ((h.of k2).of e2.ks) f1 f2 (b3.up (by omega) (fun g hg => by rcases f4 g hg with q | q <;> omega)) (by omega) (by omega)
        exact ⟨σ', g1, (k2.tr e2.ks).tr g2, g3⟩
      · obtain ⟨z, rfl⟩ : ∃ z, m = z + 1 := ⟨m - 1, by omega⟩
        refine ⟨σ3, by rw [f_Md_findSent_18_s, if_pos rfl], k2.tr e2.ks, ?_⟩
        rcases b3 with ⟨h1, h2, h3⟩ | ⟨h, V, h1, h2, h3, h4, h5, h6, h7, h8⟩
        · exact Or.inl ⟨h1, h2, fun g g1 g2 => by have := h3 g g1 g2; have := e3 g g1; omega⟩
        · exact Or.inr ⟨h, V, h1, h2, h3, h4, h5, h6, fun g g1 g2 => h8 g g1 g2 (by have := e3 g g1; omega)⟩
    have same : ∀ g, vr F W K wo R np g → cd 10 g np = cd 10 f np → cst F W np f = cst F W np g := fun g hg e => by
      have := cd_inj np (f := g) (g := f) (fun p hp => by have := (hg p hp).1; omega) (fun p hp => by have := hvR p hp; omega) e
      exact smN_congr np (fun p hp => by rw [this p hp])
    have cb := cst_le h hvR
    have take : (∀ g, vr F W K wo R np g → inT F R np lim g → cd 10 g np < cd 10 f np → btr F W np f g) → (¬ inT F R np lim f → BS F W K wo R np lim (cd 10 f np + 1) σ) → ∃ σ', f_Md_findSent_45 (f_Md_findSent_18 m) σ (nI R) wo (nI (cst F W np f)) = some σ' ∧ KS σ σ' ∧ RS0 F W K wo R np lim σ' := fun hbt hno => by
      obtain ⟨V, σ1, t1, t2, t3, t4⟩ := rowTime_k h hrow hvR
      have h1 := h.of t2.ks
      unfold f_Md_findSent_45
      rw [t1, bd_s, h1.2.2.2.2.2.2.1]
      by_cases c : lim < V
      · rw [if_pos (nI_lt c (by omega))]
        exact stp σ1 t2.ks (fun p hp => by rw [t2 _ _ (by omega)]; exact hrow p hp) ((hno (fun q => by have := (inT_of t3).mp q; omega)).of (fun k => t2 _ _ (by omega)) (fun k => t2 _ _ (by omega)))
      · rw [if_neg (nI_nlt (by omega) (by omega))]
        have k3 : KS σ1 (pI σ1 66 24 (nI (cst F W np f))) := fun x y _ _ _ q => pI_ne (by omega)
        obtain ⟨V2, σ4, w1, w2, w3, w4⟩ := rowTime_k (h1.of k3) (f := f) (fun p hp => by rw [pI_ne (by omega), t2 _ _ (by omega)]; exact hrow p hp) hvR
        have eV : V2 = V := isT_uniq w3 t3
        subst eV
        rw [w1, bd_s]
        have k5 : KS σ4 (pI σ4 66 25 (nI V2)) := fun x y _ _ _ q => pI_ne (by omega)
        obtain ⟨σ6, y1, y2, y3⟩ := copy_75 (k18 := f_Md_findSent_18 m) (wo := wo) (f := f) np FU 0 (pI σ4 66 25 (nI V2)) (((h1.of k3).of w2.ks).of k5) (fun p hp => by rw [pI_ne (by omega), w2 _ _ (by omega), pI_ne (by omega), t2 _ _ (by omega)]; exact hrow p hp) (fun p hp => by omega) (by omega) (by unfold FU; omega)
        have y1' : f_Md_findSent_75 (f_Md_findSent_18 m) FU (pI σ4 66 25 (nI V2)) (nI R) wo 0 = f_Md_findSent_104 (f_Md_findSent_18 m) σ6 (nI R) wo := y1
        rw [y1']
        have k6 : KS (pI σ4 66 25 (nI V2)) σ6 := fun x y _ q _ _ => y2 x y q
        refine stp σ6 ((((t2.ks.tr k3).tr w2.ks).tr k5).tr k6) (fun p hp => by rw [y2 _ _ (by omega), pI_ne (by omega), w2 _ _ (by omega), pI_ne (by omega), t2 _ _ (by omega)]; exact hrow p hp) (Or.inr ⟨f, V2, hv, w3, by omega, ?_, ?_, y3, by omega, fun g g1 g2 g3 => ?_⟩)
        · rw [y2 _ _ (by omega), pI_ne (by omega), w2 _ _ (by omega), pI_eq]
        · rw [y2 _ _ (by omega), pI_eq]
        · by_cases q : cd 10 g np < cd 10 f np
          · exact hbt g g1 g2 q
          · exact Or.inr ⟨same g g1 (by omega), by omega⟩
    rw [f_Md_findSent_18_s, if_neg (show ¬ (1 : Int32) = 0 by decide), rowCost_k h hrow hvR, Option.bind_some]
    rcases hb with ⟨h1, h2, h3⟩ | ⟨h0, V, h1, h2, h3, h4, h5, h6, h7, h8⟩
    · rw [if_pos h1]
      refine take (fun g g1 g2 g3 => by have := h3 g g1 g2; omega) (fun hno => Or.inl ⟨h1, h2, fun g g1 g2 => ?_⟩)
      have := h3 g g1 g2
      by_cases q : cd 10 g np = cd 10 f np
      · have e := cd_inj np (f := g) (g := f) (fun p hp => by have := (g1 p hp).1; omega) (fun p hp => by have := hvR p hp; omega) q
        refine absurd (fun r hr => ?_) hno
        have ec : cnN f r np = cnN g r np := smN_congr np (fun p hp => by rw [e p hp])
        rw [ec]; exact g2 r hr
      · omega
    · have cb0 := cst_le h (f := h0) (fun p hp => (h1 p hp).1)
      rw [if_neg (show ¬ σ.1 66 24 = -1 by rw [h4]; exact nI_m1 (by omega)), h4]
      by_cases c : cst F W np h0 ≤ cst F W np f
      · rw [if_pos (nI_le c (by omega))]
        refine stp σ KS.rf hrow (Or.inr ⟨h0, V, h1, h2, h3, h4, h5, h6, by omega, fun g g1 g2 g3 => ?_⟩)
        by_cases q : cd 10 g np < cd 10 f np
        · exact h8 g g1 g2 q
        · have e := same g g1 (by omega)
          by_cases z : cst F W np h0 < cst F W np f
          · exact Or.inl (by omega)
          · exact Or.inr ⟨by omega, by omega⟩
      · rw [if_neg (nI_ge (by omega) (by omega))]
        refine take (fun g g1 g2 g3 => ?_) (fun hno => Or.inr ⟨h0, V, h1, h2, h3, h4, h5, h6, by omega, fun g g1 g2 g3 => ?_⟩)
        · rcases h8 g g1 g2 g3 with z | z
          · exact Or.inl (by omega)
          · exact Or.inl (by omega)
        · by_cases q : cd 10 g np < cd 10 f np
          · exact h8 g g1 g2 q
          · have e := cd_inj np (f := g) (g := f) (fun p hp => by have := (g1 p hp).1; omega) (fun p hp => by have := hvR p hp; omega) (by omega)
            refine absurd (fun r hr => ?_) hno
            have ec : cnN f r np = cnN g r np := smN_congr np (fun p hp => by rw [e p hp])
            rw [ec]; exact g2 r hr
theorem find_k (h : MW R F np lim W K σ) : ∃ σ', f_Md_findSent σ (nI R) wo = some σ' ∧ KS σ σ' ∧ RS0 F W K wo R np lim σ' := by
  have k1 : KS σ (pI (pI σ 66 24 (-1)) 66 25 (-1)) := fun x y _ _ _ q => by rw [pI_ne (by omega), pI_ne (by omega)]
  obtain ⟨ok, σ1, e1, e2, e3⟩ := goes_first (wo := wo) (h.of k1)
  unfold f_Md_findSent
  rw [e1, bd_s]
  have z24 : σ1.1 66 24 = -1 := by rw [e2 _ _ (by omega), pI_ne (by omega), pI_eq]
  have z25 : σ1.1 66 25 = -1 := by rw [e2 _ _ (by omega), pI_eq]
  rcases e3 with ⟨rfl, f, f1, f2, f3⟩ | ⟨rfl, e3⟩
  · obtain ⟨σ', g1, g2, g3⟩ := find_18 100000 FU f σ1 ((h.of k1).of e2.ks) f1 f2 (Or.inl ⟨z24, z25, fun g hg _ => f3 g hg⟩) (by omega) (by unfold FU; omega)
    exact ⟨σ', g1, (k1.tr e2.ks).tr g2, g3⟩
  · exact ⟨σ1, by rw [show FU = 999999 + 1 from rfl, f_Md_findSent_18_s, if_pos rfl], k1.tr e2.ks, Or.inl ⟨z24, z25, fun g hg _ => e3 g hg⟩⟩
end
