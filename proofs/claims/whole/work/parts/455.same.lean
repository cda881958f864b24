/-! the mill: both find the same row -/
theorem smN_cut {u : Nat → Nat} {m : Nat} : ∀ n, m ≤ n → smN (fun p => if p < m then u p else 0) n = smN u m
  | 0, h => by
    have : m = 0 := by omega
    subst this; rfl
  | n + 1, h => by
    by_cases c : m = n + 1
    · subst c
      exact smN_congr (n + 1) (fun p hp => if_pos hp)
    · show smN (fun p => if p < m then u p else 0) n + (if n < m then u n else 0) = _
      rw [smN_cut n (by omega), if_neg (by omega), Nat.add_zero]
theorem full_t : ∀ n : Fin 6, ∀ p : Fin 5, (2 ^ n.val - 1).testBit p.val = decide (p.val < n.val) := by decide +kernel
theorem fs_full {n : Nat} (hn : n ≤ 5) (u : Nat → Nat) : fs (2 ^ n - 1) u = smN u n := by
  rw [← smN_cut 5 hn]
  exact smN_congr 5 (fun p hp => by
    have t : (2 ^ n - 1).testBit p = decide (p < n) := full_t ⟨n, by omega⟩ ⟨p, hp⟩
    rw [t]
    by_cases c : p < n
    · rw [if_pos c, if_pos (decide_eq_true c)]
    · rw [if_neg c, if_neg (by rw [decide_eq_false c]; decide)])
def rco (f : Nat → Nat) (n : Nat) : Nat := smN (fun p => f p * 2 ^ (3 * (4 - p))) n
theorem rco_cd {f : Nat → Nat} : ∀ n, n ≤ 5 → rco f n = cd 8 f n * 2 ^ (3 * (5 - n))
  | 0, _ => by unfold rco smN cd; rw [Nat.zero_mul]
  | n + 1, h => by
    show rco f n + f n * 2 ^ (3 * (4 - n)) = (cd 8 f n * 8 + f n) * 2 ^ (3 * (5 - (n + 1)))
    rw [rco_cd n (by omega), show 5 - (n + 1) = 4 - n by omega, show 3 * (5 - n) = 3 * (4 - n) + 3 by omega, Nat.pow_add, Nat.add_mul]
    generalize 2 ^ (3 * (4 - n)) = x
    generalize cd 8 f n = y
    rw [show (2 : Nat) ^ 3 = 8 from rfl, Nat.mul_assoc y 8 x, Nat.mul_comm 8 x]
theorem rco_lt {f : Nat → Nat} : ∀ n, n ≤ 5 → (∀ p, p < n → f p ≤ 7) → rco f n + 2 ^ (3 * (5 - n)) ≤ 32768
  | 0, _, _ => by unfold rco smN; exact Nat.le_refl _
  | n + 1, h, hd => by
    have a := rco_lt n (by omega) (fun p hp => hd p (by omega))
    have b : f n * 2 ^ (3 * (4 - n)) ≤ 7 * 2 ^ (3 * (4 - n)) := Nat.mul_le_mul (hd n (by omega)) (Nat.le_refl _)
    show rco f n + f n * 2 ^ (3 * (4 - n)) + 2 ^ (3 * (5 - (n + 1))) ≤ 32768
    rw [show 3 * (5 - n) = 3 * (4 - n) + 3 by omega, Nat.pow_add, show (2 : Nat) ^ 3 = 8 from rfl] at a
    rw [show 5 - (n + 1) = 4 - n by omega]
    omega
theorem cd_8 {f g : Nat → Nat} : ∀ n, (∀ p, p < n → f p ≤ 7) → (∀ p, p < n → g p ≤ 7) → (cd 10 f n < cd 10 g n → cd 8 f n < cd 8 g n) ∧ (cd 10 f n = cd 10 g n → cd 8 f n = cd 8 g n)
  | 0, _, _ => by unfold cd; exact ⟨fun h => h, fun h => h⟩
  | n + 1, h1, h2 => by
    obtain ⟨a, b⟩ := cd_8 n (fun p hp => h1 p (by omega)) (fun p hp => h2 p (by omega))
    have d1 := h1 n (by omega)
    have d2 := h2 n (by omega)
    unfold cd
    rcases Nat.lt_trichotomy (cd 10 f n) (cd 10 g n) with q | q | q
    · have := a q
      exact ⟨fun _ => by omega, fun _ => by omega⟩
    · have := b q
      exact ⟨fun _ => by omega, fun _ => by omega⟩
    · exact ⟨fun _ => by omega, fun _ => by omega⟩
theorem rco_exp {f : Nat → Nat} {n : Nat} (hn : n ≤ 5) : ∃ d : Nat → Nat, (∀ p, p < n → d p = f p) ∧ (∀ p, n ≤ p → d p = 0) ∧ rco f n = d 0 * 4096 + d 1 * 512 + d 2 * 64 + d 3 * 8 + d 4 := by
  refine ⟨fun p => if p < n then f p else 0, fun p hp => if_pos hp, fun p hp => if_neg (by omega), ?_⟩
  unfold rco
  rw [← smN_cut 5 hn, smN_congr (g := fun p => (if p < n then f p else 0) * 2 ^ (3 * (4 - p))) 5 (fun p hp => by
    by_cases c : p < n
    · rw [if_pos c, if_pos c]
    · rw [if_neg c, if_neg c, Nat.zero_mul])]
  simp only [smN]
  generalize (if 0 < n then f 0 else 0) = d0
  generalize (if 1 < n then f 1 else 0) = d1
  generalize (if 2 < n then f 2 else 0) = d2
  generalize (if 3 < n then f 3 else 0) = d3
  generalize (if 4 < n then f 4 else 0) = d4
  show 0 + d0 * 4096 + d1 * 512 + d2 * 64 + d3 * 8 + d4 * 1 = _
  omega
theorem dig_k {c n p : Nat} {f : Nat → Nat} (hn : n ≤ 5) (hd : ∀ p, p < n → f p ≤ 7) (hp : p < n) : (c * 32768 + rco f n) / 2 ^ (3 * (4 - p)) % 8 = f p := by
  obtain ⟨d, h1, h2, h3⟩ := rco_exp (f := f) hn
  have b : ∀ q, d q ≤ 7 := fun q => by
    by_cases z : q < n
    · rw [h1 q z]; exact hd q z
    · rw [h2 q (by omega)]; omega
  have b0 := b 0
  have b1 := b 1
  have b2 := b 2
  have b3 := b 3
  have b4 := b 4
  rw [h3, ← h1 p hp]
  rcases (show p = 0 ∨ p = 1 ∨ p = 2 ∨ p = 3 ∨ p = 4 by omega) with rfl | rfl | rfl | rfl | rfl
  · rw [show 2 ^ (3 * (4 - 0)) = 4096 from rfl]; omega
  · rw [show 2 ^ (3 * (4 - 1)) = 512 from rfl]; omega
  · rw [show 2 ^ (3 * (4 - 2)) = 64 from rfl]; omega
  · rw [show 2 ^ (3 * (4 - 3)) = 8 from rfl]; omega
  · rw [show 2 ^ (3 * (4 - 4)) = 1 from rfl]; omega
section
variable {nr np lim : Nat} {F : Nat → Nat → Nat} {W K : Nat → Nat} {wo : Int32}
theorem okS_vr {f : Nat → Nat} (hn : np ≤ 5) : okS F W K wo lim nr (2 ^ np - 1) f ↔ vr F W K wo nr np f ∧ inT F nr np lim f := by
  have t : ∀ p, p < 5 → ((2 ^ np - 1).testBit p = true ↔ p < np) := fun p hp => by
    have e : (2 ^ np - 1).testBit p = decide (p < np) := full_t ⟨np, by omega⟩ ⟨p, hp⟩
    rw [e]
    exact decide_eq_true_iff
  have ec : ∀ r, cnS (2 ^ np - 1) f r = cnN f r np := fun r => fs_full hn _
  unfold okS
  simp only [ec]
  exact ⟨fun h => ⟨fun p hp => h.1 p (by omega) ((t p (by omega)).mpr hp), h.2⟩, fun h => ⟨fun p hp hb => h.1 p ((t p hp).mp hb), h.2⟩⟩
theorem ky_full {f : Nat → Nat} (hn : np ≤ 5) : kyS F W (fun r => r) (2 ^ np - 1) f = cst F W np f * 32768 + rco f np := by
  unfold kyS
  rw [fs_full hn]
  unfold cst rco ky1
  have : ∀ n, smN (fun p => cs1 (F (f p)) (W p) * 32768 + f p * 2 ^ (3 * (4 - p))) n = smN (fun p => cs1 (F (f p)) (W p)) n * 32768 + smN (fun p => f p * 2 ^ (3 * (4 - p))) n := fun n => by
    induction n with
    | zero => simp [smN]
    | succ n ih =>
      simp only [smN]
      rw [ih]
      omega
  exact this np
/-- the class's least key and the model's best row are the same -/
theorem mill_same {ls : Nat → Nat} {σc σm : Sg} (hc : CW nr F np W K σc) (hm : MW nr F np lim W K σm) (hL : LPk F W K wo lim (fun r => r) (2 ^ np) nr ls) (hR : RS0 F W K wo nr np lim σm) : (ls (2 ^ np - 1) = NW ∧ σm.1 66 24 = -1 ∧ σm.1 66 25 = -1) ∨ ∃ h V, (∀ p, p < np → h p < nr) ∧ isT F nr np h V ∧ V ≤ lim ∧ ls (2 ^ np - 1) = cst F W np h * 32768 + rco h np ∧ cst F W np h ≤ 495 ∧ rco h np < 32768 ∧ σm.1 66 24 = nI (cst F W np h) ∧ σm.1 66 25 = nI V ∧ row 81 np h σm := by
  have h8 := hc.1
  have n5 := hm.2.1
  have nwv : NW = 268435456 := rfl
  have p1 : 1 ≤ 2 ^ np := Nat.one_le_two_pow
  obtain ⟨l1, l2, l3⟩ := hL (2 ^ np - 1) (by omega)
  have rl : ∀ f : Nat → Nat, (∀ p, p < np → f p < nr) → rco f np < 32768 := fun f hf => by
    have := rco_lt (f := f) np n5 (fun p hp => by have := hf p hp; omega)
    have : 0 < 2 ^ (3 * (5 - np)) := Nat.pow_pos (by omega)
    omega
  rcases hR with ⟨h1, h2, h3⟩ | ⟨h, V, h1, h2, h3, h4, h5, h6, h7⟩
  · refine Or.inl ⟨?_, h1, h2⟩
    rcases l2 with l2 | ⟨f, f1, f2⟩
    · exact l2
    · have q := (okS_vr n5).mp f1
      exact absurd q.2 (h3 f q.1)
  · have hR' : ∀ p, p < np → h p < nr := fun p hp => (h1 p hp).1
    have cb := cst_le hm hR'
    have hrl := rl h hR'
    have hi : inT F nr np lim h := (inT_of h2).mpr h3
    have kh := l3 h ((okS_vr n5).mpr ⟨h1, hi⟩)
    rw [ky_full n5] at kh
    refine Or.inr ⟨h, V, hR', h2, h3, ?_, cb, hrl, h4, h5, h6⟩
    rcases l2 with l2 | ⟨f, f1, f2⟩
    · omega
    · have q := (okS_vr n5).mp f1
      have fR : ∀ p, p < np → f p < nr := fun p hp => (q.1 p hp).1
      have frl := rl f fR
      rw [ky_full n5] at f2
      have hb := h7 f q.1 q.2
      have d8 := cd_8 (f := h) (g := f) np (fun p hp => by have := hR' p hp; omega) (fun p hp => by have := fR p hp; omega)
      have ec : cst F W np h = cst F W np f := by
        rcases hb with z | z
        · omega
        · exact z.1
      have e10 : cd 10 h np ≤ cd 10 f np := by
        rcases hb with z | z
        · omega
        · exact z.2
      have rle : rco f np ≤ rco h np := by omega
      have e8 : cd 8 h np ≤ cd 8 f np := by
        rcases Nat.lt_or_ge (cd 10 h np) (cd 10 f np) with z | z
        · exact Nat.le_of_lt (d8.1 z)
        · exact Nat.le_of_eq (d8.2 (by omega))
      have rge : rco h np ≤ rco f np := by
        rw [rco_cd np n5, rco_cd np n5]
        exact Nat.mul_le_mul e8 (Nat.le_refl _)
      rw [f2, ec, Nat.le_antisymm rge rle]
theorem cost_c {σ : Sg} {k : Nat} (h : f_Mi_leastKey σ = some (nI k)) (hk : k < 2 ^ 30) : f_Mi_leastCost σ = some (if NW ≤ k then -1 else nI (k / 32768)) := by
  have nwv : NW = 268435456 := rfl
  unfold f_Mi_leastCost f_Mi_costOf
  rw [h, Option.bind_some]
  by_cases c : NW ≤ k
  · rw [if_pos c, if_pos (show (268435456 : Int32) ≤ nI k from nI_le (a := 268435456) (by omega) (by omega))]
  · rw [if_neg c, if_neg (show ¬ (268435456 : Int32) ≤ nI k from nI_ge (b := 268435456) (by omega) (by omega)), pk_shrN (by omega) _ 15 (by decide)]
theorem rope_c {σ : Sg} {c p : Nat} {h : Nat → Nat} (hw : CW nr F np W K σ) (hk : f_Mi_leastKey σ = some (nI (c * 32768 + rco h np))) (hc : c ≤ 495) (hr : rco h np < 32768) (hd : ∀ p, p < np → h p < nr) (hp : p < np) : f_Mi_ropeThen σ (nI p) = some (nI (h p)) := by
  have n5 := hw.2.2.2.1
  have h8 := hw.1
  obtain ⟨r1, r2, r3⟩ := mk_rs ⟨p, by omega⟩
  have r1' : f_Mi_rowShift (nI p) = nI (3 * (4 - p)) := r1
  have e7 : ∀ x : Nat, x < 2 ^ 31 → (nI x &&& 7 : Int32) = nI (x % 8) := fun x hx => pk_andN (by omega) 3 (by decide)
  unfold f_Mi_ropeThen
  rw [hk, Option.bind_some, if_neg (show ¬ (268435456 : Int32) ≤ nI (c * 32768 + rco h np) from nI_ge (b := 268435456) (by omega) (by omega)), hw.2.2.2.2.2.1, if_neg (n10 (below_yes (n := np) hp (nI_toInt (by omega)) (by omega))), Option.bind_some, r1', pk_shrN (by omega) _ _ (s_l _ r2), e7 _ (Nat.lt_of_le_of_lt (Nat.div_le_self _ _) (by omega)), dig_k n5 (fun p hp => by have := hd p hp; omega) hp]
theorem time_29 {k15 : Sg → Int32 → Int32 → Option Int32} {σ : Sg} {h : Nat → Nat} {j V : Nat} (hw : CW nr F np W K σ) (hj : j < nr) (hh : ∀ p, p < np → h p < nr ∧ f_Mi_ropeThen σ (nI p) = some (nI (h p))) : ∀ (d fu i : Nat), i + d = np → d < fu → f_Mi_timeThen_29 k15 fu σ (nI V) (nI j) (nI (cnN h j i)) (nI i) = k15 σ (f_JM_max (nI V) (nI (tm1 (F j) (cnN h j np)))) (nI (j + 1)) := by
  have n5 := hw.2.2.2.1
  have h8 := hw.1
  intro d
  induction d with
  | zero =>
    intro fu i hi hf
    obtain ⟨m, rfl⟩ : ∃ m, fu = m + 1 := ⟨fu - 1, by omega⟩
    have : i = np := by omega
    subst this
    have cl := cnN_le h j i
    rw [f_Mi_timeThen_29_s, hw.2.2.2.2.2.1, if_pos (nI_le (Nat.le_refl _) (by omega)), rs_at (by omega), time_1 (hw.2.2.1 j hj) (by omega), nI_1]
  | succ d ih =>
    intro fu i hi hf
    obtain ⟨m, rfl⟩ : ∃ m, fu = m + 1 := ⟨fu - 1, by omega⟩
    have q := ih m (i + 1) (by omega) (by omega)
    obtain ⟨q1, q2⟩ := hh i (by omega)
    have cs : cnN h j (i + 1) = cnN h j i + if h i = j then 1 else 0 := rfl
    rw [f_Mi_timeThen_29_s, hw.2.2.2.2.2.1, if_neg (nI_ge (by omega) (by omega)), q2, Option.bind_some]
    unfold f_Mi_timeThen_51
    rw [nI_1 i, nI_1]
    rw [cs] at q
    by_cases c : h i = j
    · rw [if_pos (show nI (h i) = nI j by rw [c])]
      rw [if_pos c] at q
      exact q
    · rw [if_neg (fun z => c ((nI_eq (by omega) (by omega)).mp z))]
      rw [if_neg c] at q
      exact q
theorem time_15 {σ : Sg} {h : Nat → Nat} (hw : CW nr F np W K σ) (hh : ∀ p, p < np → h p < nr ∧ f_Mi_ropeThen σ (nI p) = some (nI (h p))) : ∀ (d fu j V : Nat), isT F j np h V → V ≤ 360 → j + d = nr → d < fu → ∃ V', f_Mi_timeThen_15 fu σ (nI V) (nI j) = some (nI V') ∧ isT F nr np h V' := by
  have n5 := hw.2.2.2.1
  have h8 := hw.1
  intro d
  induction d with
  | zero =>
    intro fu j V hT hV hj hf
    obtain ⟨m, rfl⟩ : ∃ m, fu = m + 1 := ⟨fu - 1, by omega⟩
    have : j = nr := by omega
    subst this
    exact ⟨V, by rw [f_Mi_timeThen_15_s, hw.2.1, if_pos (nI_le (Nat.le_refl _) (by omega))], hT⟩
  | succ d ih =>
    intro fu j V hT hV hj hf
    obtain ⟨m, rfl⟩ : ∃ m, fu = m + 1 := ⟨fu - 1, by omega⟩
    have cl := cnN_le h j np
    have tl := tm1_le (a := F j) (n := cnN h j np) ((hw.2.2.1 j (by omega)).1) (by omega)
    have e := time_29 (k15 := f_Mi_timeThen_15 m) (V := V) (j := j) hw (by omega) hh np FU 0 (by omega) (by unfold FU; omega)
    have e' : f_Mi_timeThen_29 (f_Mi_timeThen_15 m) FU σ (nI V) (nI j) 0 0 = f_Mi_timeThen_15 m σ (f_JM_max (nI V) (nI (tm1 (F j) (cnN h j np)))) (nI (j + 1)) := e
    rw [f_Mi_timeThen_15_s, hw.2.1, if_neg (nI_ge (by omega) (by omega)), e']
    unfold f_JM_max
    by_cases c : V < tm1 (F j) (cnN h j np)
    · rw [if_pos (nI_lt c (by omega))]
      refine ih m (j + 1) _ ⟨fun r hr => ?_, Or.inr ⟨j, by omega, rfl⟩⟩ tl (by omega) (by omega)
      by_cases q : r = j
      · subst q; exact Nat.le_refl _
      · have := hT.1 r (by omega); omega
    · rw [if_neg (nI_nlt (by omega) (by omega))]
      refine ih m (j + 1) V ⟨fun r hr => ?_, ?_⟩ hV (by omega) (by omega)
      · by_cases q : r = j
        · subst q; omega
        · exact hT.1 r (by omega)
      · rcases hT.2 with z | ⟨r, r1, r2⟩
        · exact Or.inl z
        · exact Or.inr ⟨r, by omega, r2⟩
/-- what both tell of a search -/
def MR2 (np : Nat) (σc σm : Sg) : Prop := ∃ (x t : Int32) (z : Nat → Int32), f_Mi_leastCost σc = some x ∧ σm.1 66 24 = x ∧ (x = -1 ∨ ∃ c : Nat, c ≤ 495 ∧ x = nI c) ∧ f_Mi_timeThen σc = some t ∧ σm.1 66 25 = t ∧ ∀ p, p < np → f_Mi_ropeThen σc (nI p) = some (z p) ∧ (x = -1 → z p = -1) ∧ (¬ x = -1 → σm.1 81 p = z p)
theorem mill_k {σc σm : Sg} (hc : CW nr F np W K σc) (hm : MW nr F np lim W K σm) (wo : Int32) : ∃ σc' σm', f_Mi_reckon σc wo (nI lim) = some σc' ∧ K67 σc σc' ∧ f_Md_findSent σm (nI nr) wo = some σm' ∧ KS σm σm' ∧ MR2 np σc' σm' := by
  have h8 := hc.1
  have n5 := hm.2.1
  have hl := hm.2.2.1
  have nwv : NW = 268435456 := rfl
  obtain ⟨ls, σ1, c1, c2, c3, c4⟩ := reckon_k (wo := wo) hl hc
  obtain ⟨σ2, m1, m2, m3⟩ := find_k (wo := wo) hm
  have hc1 := hc.of c2
  have hk := key_k hc1 c4
  refine ⟨σ1, σ2, c1, c2, m1, m2, ?_⟩
  rcases mill_same hc1 (hm.of m2) c3 m3 with ⟨e1, e2, e3⟩ | ⟨h, V, e1, e2, e3, e4, e5, e6, e7, e8, e9⟩
  · rw [e1] at hk
    refine ⟨-1, -1, fun _ => -1, ?_, e2, Or.inl rfl, ?_, e3, fun p hp => ⟨?_, fun _ => rfl, fun q => absurd rfl q⟩⟩
    · rw [cost_c hk (by omega), if_pos (Nat.le_refl _)]
    · unfold f_Mi_timeThen
      rw [hk, Option.bind_some, if_neg (show ¬ nI NW < 268435456 by decide)]
    · unfold f_Mi_ropeThen
      rw [hk, Option.bind_some, if_pos (show (268435456 : Int32) ≤ nI NW by decide)]
  · rw [e4] at hk
    have hr : ∀ p, p < np → f_Mi_ropeThen σ1 (nI p) = some (nI (h p)) := fun p hp => rope_c hc1 hk e5 e6 e1 hp
    obtain ⟨V', t1, t2⟩ := time_15 hc1 (fun p hp => ⟨e1 p hp, hr p hp⟩) nr FU 0 0 ⟨fun r q => by omega, Or.inl rfl⟩ (by omega) (by omega) (by unfold FU; omega)
    have eV : V' = V := isT_uniq t2 e2
    subst eV
    refine ⟨nI (cst F W np h), nI V', fun p => nI (h p), ?_, e7, Or.inr ⟨_, e5, rfl⟩, ?_, e8, fun p hp => ⟨hr p hp, fun q => absurd q (nI_m1 (by omega)), fun _ => e9 p hp⟩⟩
    · rw [cost_c hk (by omega), if_neg (by omega), show (cst F W np h * 32768 + rco h np) / 32768 = cst F W np h by omega]
    · unfold f_Mi_timeThen
      rw [hk, Option.bind_some, if_pos (show nI (cst F W np h * 32768 + rco h np) < 268435456 from nI_lt (b := 268435456) (by omega) (by omega))]
      exact t1
end
