/-! fares and balances -/
def frT (nr : Nat) (fa : Nat → Nat → Int32) (T : Nat → Nat → Int32) (t : Nat) : Int32 := if isR nr (T t 0) = true then farO fa (T t 0).toNatClampNeg (T t 1).toNatClampNeg (T t 3) else 0
theorem fareOf_k {nr : Nat} {fa : Nat → Nat → Int32} {rk : Nat → Nat} {nt : Nat} {T : Nat → Nat → Int32} {σ : Sg} (hc : CV nr fa rk σ) (hC : TC nt T σ) (hI : ∀ t, t < nt → tOk (T t)) {t : Nat} (ht : t < nt) : f_Fe_fareOf σ (21 + t) = frT nr fa T t := by
  unfold f_Fe_fareOf frT
  rw [hC.2.2 t 0 ht (by omega), hC.2.2 t 1 ht (by omega), hC.2.2 t 3 ht (by omega), rs_has hc.2.1 hc.1]
  by_cases c : isR nr (T t 0) = true
  · obtain ⟨r, hr, er⟩ := isR_nI c hc.1
    obtain ⟨-, ⟨s, hs, es⟩, -⟩ := hI t ht
    have h8 := hc.1
    rw [if_pos c, if_pos c, if_neg (show ¬ (1 : Int32) = 0 by decide), er, es, rs_at (by omega), fare_k hc hr hs, nI_clamp (show r < 2 ^ 31 by omega), nI_clamp (show s < 2 ^ 31 by omega)]
  · rw [if_neg c, if_neg c, if_pos rfl]
theorem cost_k {nr : Nat} {fa : Nat → Nat → Int32} {rk : Nat → Nat} {nt : Nat} {T : Nat → Nat → Int32} {σ : Sg} (hm : MV' nr fa rk σ) (hI : ∀ t, t < nt → tOk (T t)) {t : Nat} (ht : t < nt) (c : isR nr (T t 0) = true) : f_Md_costs σ (T t 0) (T t 1) (T t 3) = some (frT nr fa T t) := by
  unfold frT
  obtain ⟨r, hr, er⟩ := isR_nI c hm.1
  obtain ⟨-, ⟨s, hs, es⟩, -⟩ := hI t ht
  have h8 := hm.1
  rw [if_pos c, er, es, mcosts_k hm hr hs, nI_clamp (show r < 2 ^ 31 by omega), nI_clamp (show s < 2 ^ 31 by omega)]
theorem counts_k {nr : Nat} {fa : Nat → Nat → Int32} {rk : Nat → Nat} {nt : Nat} {T : Nat → Nat → Int32} {σ : Sg} (hm : MV' nr fa rk σ) (hM : TM nt T σ) {t : Nat} (ht : t < nt) : f_Md_counts σ (nI t) = some (if isR nr (T t 0) = true then 1 else 0) := by
  unfold f_Md_counts
  rw [five_0, gd_of (hM.get ht (by omega : 0 < 5)).1, (hM.get ht (by omega : 0 < 5)).2, md_isRope hm.2.1 hm.1, zb10]
def balT (nr : Nat) (fa : Nat → Nat → Int32) (T : Nat → Nat → Int32) (o : Int32) : Nat → Int32
  | 0 => 0
  | n + 1 => if isR nr (T n 0) = true then (if T n 4 = o then (if fa (T n 0).toNatClampNeg 5 = o then balT nr fa T o n else balT nr fa T o n - frT nr fa T n) else (if fa (T n 0).toNatClampNeg 5 = o then balT nr fa T o n + frT nr fa T n else balT nr fa T o n)) else balT nr fa T o n
theorem balT_s (nr : Nat) (fa : Nat → Nat → Int32) (T : Nat → Nat → Int32) (o : Int32) (n : Nat) : balT nr fa T o (n + 1) = if isR nr (T n 0) = true then (if T n 4 = o then (if fa (T n 0).toNatClampNeg 5 = o then balT nr fa T o n else balT nr fa T o n - frT nr fa T n) else (if fa (T n 0).toNatClampNeg 5 = o then balT nr fa T o n + frT nr fa T n else balT nr fa T o n)) else balT nr fa T o n := rfl
theorem bal_loop {nr : Nat} {fa : Nat → Nat → Int32} {rk : Nat → Nat} {nt : Nat} {T : Nat → Nat → Int32} {σ : Sg} (hc : CV nr fa rk σ) (hC : TC nt T σ) (hI : ∀ t, t < nt → tOk (T t)) (o : Int32) : ∀ (d f i : Nat), i + d = nt → d < f → f_Fe_balanceOf_6 f σ o (balT nr fa T o i) (nI i) = some (balT nr fa T o nt) := by
  have h20 := hC.1
  intro d
  induction d with
  | zero =>
    intro f i hi hf
    obtain ⟨m, rfl⟩ : ∃ m, f = m + 1 := ⟨f - 1, by omega⟩
    have : i = nt := by omega
    subst this
    rw [f_Fe_balanceOf_6_s, hC.2.1, if_pos (nI_le (Nat.le_refl _) (by omega))]
  | succ d ih =>
    intro f i hi hf
    obtain ⟨m, rfl⟩ : ∃ m, f = m + 1 := ⟨f - 1, by omega⟩
    have h := ih m (i + 1) (by omega) (by omega)
    rw [f_Fe_balanceOf_6_s, hC.2.1, if_neg (nI_ge (by omega) (by omega)), ts_at (by omega), hC.2.2 i 0 (by omega) (by omega), fareOf_k hc hC hI (by omega)]
    unfold f_Fe_balanceOf_54 f_Fe_balanceOf_70
    rw [hC.2.2 i 4 (by omega) (by omega), nI_1]
    rw [balT_s] at h
    by_cases c : isR nr (T i 0) = true
    · obtain ⟨r, hr, er⟩ := isR_nI c hc.1
      have h8 := hc.1
      rw [if_pos c] at h
      rw [er, rs_at (by omega), (hc.2.2 r hr).1 5 (by omega)]
      rw [er, nI_clamp (show r < 2 ^ 31 by omega)] at h
      by_cases c1 : fa r 5 = o
      · rw [if_pos c1]
        by_cases c2 : T i 4 = o
        · rw [if_pos c2, if_pos c1] at h
          rw [if_pos c2, Int32.add_sub_cancel]
          exact h
        · rw [if_neg c2, if_pos c1] at h
          rw [if_neg c2]
          exact h
      · rw [if_neg c1]
        by_cases c2 : T i 4 = o
        · rw [if_pos c2, if_neg c1] at h
          rw [if_pos c2]
          exact h
        · rw [if_neg c2, if_neg c1] at h
          rw [if_neg c2]
          exact h
    · rw [if_neg c] at h
      have ef : frT nr fa T i = 0 := by unfold frT; rw [if_neg c]
      rw [ef, Int32.add_zero, Int32.sub_zero, ite_self, ite_self]
      exact h
theorem bal_k {nr : Nat} {fa : Nat → Nat → Int32} {rk : Nat → Nat} {nt : Nat} {T : Nat → Nat → Int32} {σ : Sg} (hc : CV nr fa rk σ) (hC : TC nt T σ) (hI : ∀ t, t < nt → tOk (T t)) (o : Int32) : f_Fe_balanceOf σ o = some (balT nr fa T o nt) := by
  have h20 := hC.1
  exact bal_loop hc hC hI o nt FU 0 (by omega) (by unfold FU; omega)
/-- only the model's balances change -/
def K83 (σ σ' : Sg) : Prop := ∀ i k, i ≠ 83 → σ'.1 i k = σ.1 i k
theorem K83.kp {σ σ' : Sg} (h : K83 σ σ') : Kp σ σ' := fun i k _ w => h i k (by unfold scM at w; omega)
theorem MV'.of {nr : Nat} {fa : Nat → Nat → Int32} {rk : Nat → Nat} {σ σ' : Sg} (h : MV' nr fa rk σ) (e1 : σ'.1 66 8 = σ.1 66 8) (e2 : ∀ k, σ'.1 73 k = σ.1 73 k) (e3 : ∀ k, σ'.1 74 k = σ.1 74 k) : MV' nr fa rk σ' := ⟨h.1, e1.trans h.2.1, fun r k hr hk => (e2 _).trans (h.2.2.1 r k hr hk), fun r hr => (e3 _).trans (h.2.2.2 r hr)⟩
theorem mbal_loop {nr : Nat} {fa : Nat → Nat → Int32} {rk : Nat → Nat} {nt : Nat} {T : Nat → Nat → Int32} (hin : ∀ r k, r < nr → k < 6 → ∃ j : Nat, j < hiN k ∧ fa r k = nI j) (hI : ∀ t, t < nt → tOk (T t)) : ∀ (d f i : Nat) (σ : Sg), MV' nr fa rk σ → TM nt T σ → i + d = nt → d < f → (∀ o, o < 5 → σ.1 83 o = balT nr fa T (nI o) i) → ∃ σ', f_Md_findBalances_27 f σ (nI i) = some σ' ∧ K83 σ σ' ∧ ∀ o, o < 5 → σ'.1 83 o = balT nr fa T (nI o) nt := by
  intro d
  induction d with
  | zero =>
    intro f i σ hm hM hi hf hb
    have h20 := hM.1
    obtain ⟨m, rfl⟩ : ∃ m, f = m + 1 := ⟨f - 1, by omega⟩
    have : i = nt := by omega
    subst this
    exact ⟨σ, by rw [f_Md_findBalances_27_s, hM.2.1, if_pos (nI_le (Nat.le_refl _) (by omega))], fun _ _ _ => rfl, hb⟩
  | succ d ih =>
    intro f i σ hm hM hi hf hb
    have h20 := hM.1
    obtain ⟨m, rfl⟩ : ∃ m, f = m + 1 := ⟨f - 1, by omega⟩
    rw [f_Md_findBalances_27_s, hM.2.1, if_neg (nI_ge (by omega) (by omega)), counts_k hm hM (by omega), Option.bind_some]
    unfold f_Md_findBalances_117
    rw [nI_1]
    by_cases c : isR nr (T i 0) = true
    · rw [if_pos c, if_neg (show ¬ (1 : Int32) = 0 by decide)]
      have g0 := hM.get (t := i) (k := 0) (by omega) (by omega)
      have g1 := hM.get (t := i) (k := 1) (by omega) (by omega)
      have g3 := hM.get (t := i) (k := 3) (by omega) (by omega)
      have g4 := hM.get (t := i) (k := 4) (by omega) (by omega)
      have x1 : (5 * nI i + 1 : Int32) = nI (5 * i + 1) := five_k (k := 1)
      have x3 : (5 * nI i + 3 : Int32) = nI (5 * i + 3) := five_k (k := 3)
      have x4 : (5 * nI i + 4 : Int32) = nI (5 * i + 4) := five_k (k := 4)
      rw [x1, x3, x4, five_0, gd_of g0.1, gd_of g1.1, gd_of g3.1, g0.2, g1.2, g3.2, cost_k hm hI (by omega) c, Option.bind_some, gd_of g4.1, g4.2]
      obtain ⟨r, hr, er⟩ := isR_nI c hm.1
      have h8 := hm.1
      obtain ⟨-, -, -, -, ⟨p, hp, ep⟩⟩ := hI i (by omega)
      obtain ⟨q, hq, eq⟩ := hin r 5 hr (by omega)
      have hq5 : q < 5 := hq
      have e6 : (6 * nI r + 5 : Int32) = nI (6 * r + 5) := by rw [show (6 : Int32) = nI 6 from rfl, show (5 : Int32) = nI 5 from rfl, pk_mul, nI_add]
      rw [er, ep, e6, gd_of (vin_nI hp (by decide)), gd_of (vin_nI hp (by decide)), gd_of (vin_nI (by omega) (by decide)), nI_clamp (show p < 2 ^ 31 by omega), nI_clamp (show 6 * r + 5 < 2 ^ 31 by omega), pI_ne (by omega), hm.2.2.1 r 5 hr (by omega), eq, gd_of (vin_nI hq5 (by decide)), gd_of (vin_nI hq5 (by decide)), nI_clamp (show q < 2 ^ 31 by omega)]
      have bt : ∀ o, balT nr fa T o (i + 1) = if nI p = o then (if nI q = o then balT nr fa T o i else balT nr fa T o i - frT nr fa T i) else (if nI q = o then balT nr fa T o i + frT nr fa T i else balT nr fa T o i) := fun o => by
        conv => lhs; unfold balT
        rw [if_pos c, er, nI_clamp (show r < 2 ^ 31 by omega), ep, eq]
      generalize frT nr fa T i = w at bt ⊢
      have hk : K83 σ (pI (pI σ 83 p (σ.1 83 p - w)) 83 q ((pI σ 83 p (σ.1 83 p - w)).1 83 q + w)) := fun a b g => by rw [pI_ne (by omega), pI_ne (by omega)]
      obtain ⟨σ', k1, k2, k3⟩ := ih m (i + 1) _ (hm.of (hk _ _ (by omega)) (fun k => hk _ _ (by omega)) (fun k => hk _ _ (by omega))) (hM.of hk.kp) (by omega) (by omega) (fun o ho => by
        rw [bt]
        have np : (nI p = nI o) ↔ p = o := nI_eq (by omega) (by omega)
        have nq : (nI q = nI o) ↔ q = o := nI_eq (by omega) (by omega)
        simp only [np, nq, ← hb o ho]
        by_cases cq : q = o
        · subst cq
          rw [pI_eq, if_pos rfl, if_pos rfl]
          by_cases cp : p = q
          · subst cp
            rw [pI_eq, if_pos rfl, Int32.sub_add_cancel]
          · rw [if_neg cp, pI_ne (by omega)]
        · rw [pI_ne (by omega), if_neg cq, if_neg cq]
          by_cases cp : p = o
          · subst cp
            rw [pI_eq, if_pos rfl]
          · rw [if_neg cp, pI_ne (by omega)])
      exact ⟨σ', k1, fun a b g => (k2 a b g).trans (hk a b g), k3⟩
    · rw [if_neg c, if_pos rfl]
      exact ih m (i + 1) σ hm hM (by omega) (by omega) (fun o ho => by
        unfold balT
        rw [if_neg c]
        exact hb o ho)
theorem mbal0 {nt : Nat} {T : Nat → Nat → Int32} : ∀ (d f i : Nat) (σ : Sg), i + d = 5 → d < f → (∀ o, o < i → σ.1 83 o = 0) → ∃ σ', f_Md_findBalances_7 f σ (nI i) = f_Md_findBalances_27 FU σ' 0 ∧ K83 σ σ' ∧ ∀ o, o < 5 → σ'.1 83 o = 0 := by
  intro d
  induction d with
  | zero =>
    intro f i σ hi hf hb
    obtain ⟨m, rfl⟩ : ∃ m, f = m + 1 := ⟨f - 1, by omega⟩
    have : i = 5 := by omega
    subst this
    exact ⟨σ, by rw [f_Md_findBalances_7_s, if_pos (show (5 : Int32) ≤ nI 5 by decide)], fun _ _ _ => rfl, hb⟩
  | succ d ih =>
    intro f i σ hi hf hb
    obtain ⟨m, rfl⟩ : ∃ m, f = m + 1 := ⟨f - 1, by omega⟩
    obtain ⟨σ', k1, k2, k3⟩ := ih m (i + 1) (pI σ 83 i 0) (by omega) (by omega) (fun o ho => by
      by_cases q : o = i
      · subst q; exact pI_eq
      · rw [pI_ne (by omega)]; exact hb o (by omega))
    refine ⟨σ', ?_, fun a b g => by rw [k2 a b g, pI_ne (by omega)], k3⟩
    rw [f_Md_findBalances_7_s, if_neg (show ¬ (5 : Int32) ≤ nI i from nI_ge (b := 5) (by omega) (by omega)), gd_of (vin_nI (by omega) (by decide)), nI_clamp (by omega), nI_1]
    exact k1
theorem mbal_k {nr : Nat} {fa : Nat → Nat → Int32} {rk : Nat → Nat} {nt : Nat} {T : Nat → Nat → Int32} {σ σ1 : Sg} {v : Int32} (he : f_Md_find σ = some (v, σ1)) (hm : MV' nr fa rk σ1) (hM : TM nt T σ1) (hin : ∀ r k, r < nr → k < 6 → ∃ j : Nat, j < hiN k ∧ fa r k = nI j) (hI : ∀ t, t < nt → tOk (T t)) : ∃ σ', f_Md_findBalances σ = some σ' ∧ K83 σ1 σ' ∧ ∀ o, o < 5 → σ'.1 83 o = balT nr fa T (nI o) nt := by
  have h20 := hM.1
  unfold f_Md_findBalances
  rw [he, bd_s]
  obtain ⟨σ2, k1, k2, k3⟩ := mbal0 (nt := nt) (T := T) 5 FU 0 σ1 (by omega) (by unfold FU; omega) (fun o ho => by omega)
  obtain ⟨σ3, w1, w2, w3⟩ := mbal_loop hin hI nt FU 0 σ2 (hm.of (k2 _ _ (by omega)) (fun k => k2 _ _ (by omega)) (fun k => k2 _ _ (by omega))) (hM.of k2.kp) (by omega) (by unfold FU; omega) (fun o ho => by rw [k3 o ho]; rfl)
  exact ⟨σ3, k1.trans w1, fun a b g => (w2 a b g).trans (k2 a b g), w3⟩
theorem e_balance : E_balance Rel := by
  intro σ a1 hR
  obtain ⟨nr, fa, rk, fv, σ', e1, e2, e3, hc, hm, hin, -⟩ := hR.find
  obtain ⟨nt, T, hC, hM, hI⟩ := hR.trips
  unfold f_GR_balance f_Md_balance
  rcases arg_in a1 5 (by decide) with h | ⟨o, ho, rfl⟩
  · exact ⟨_, σ, by rw [if_pos (own_no h).1], by rw [if_pos (own_no h).2], hR⟩
  rw [if_neg (n10 (own_yes ho).1), if_neg (n10 (own_yes ho).2), bal_k hc hC hI]
  obtain ⟨σ3, w1, w2, w3⟩ := mbal_k e1 hm (hM.of e3) hin hI
  unfold f_Md_balanceOf
  rw [w1]
  simp only [Option.bind_some]
  rw [gd_of (vin_nI ho (by decide)), nI_clamp (by omega), w3 o ho, bd_s]
  exact ⟨_, σ3, rfl, rfl, hR.of (e3.tr w2.kp)⟩
