/-! copy -/
theorem run_k {σ : Sg} {c n : Nat} {i k : Int32} (hn : n ≤ 60) (h : σ.1 c 2 = nI n) : f_Sh_hasRun σ c i k = if 0 ≤ i.toInt ∧ 0 ≤ k.toInt ∧ i.toInt + k.toInt ≤ n then 1 else 0 := by
  have z : (0 : Int32).toInt = 0 := by decide
  unfold f_Sh_hasRun
  by_cases h1 : i < 0
  · have := Int32.lt_iff_toInt_lt.mp h1
    rw [if_pos h1, if_neg (by omega)]
  have h1' : (0 : Int32).toInt ≤ i.toInt := Int.not_lt.mp (fun q => h1 (Int32.lt_iff_toInt_lt.mpr q))
  rw [if_neg h1]
  by_cases h2 : k < 0
  · have := Int32.lt_iff_toInt_lt.mp h2
    rw [if_pos h2, if_neg (by omega)]
  have h2' : (0 : Int32).toInt ≤ k.toInt := Int.not_lt.mp (fun q => h2 (Int32.lt_iff_toInt_lt.mpr q))
  rw [if_neg h2, h]
  have b1 := Int32.toInt_lt i
  have e : (nI n - i).toInt = (n : Int) - i.toInt := by
    rw [Int32.toInt_sub, nI_toInt (by omega)]
    exact Int.bmod_eq_of_le (by omega) (by omega)
  by_cases h3 : nI n - i < k
  · have := Int32.lt_iff_toInt_lt.mp h3
    rw [if_pos h3, if_neg (by omega)]
  have h3' : k.toInt ≤ (nI n - i).toInt := Int.not_lt.mp (fun q => h3 (Int32.lt_iff_toInt_lt.mpr q))
  rw [if_neg h3, if_pos (by omega)]
theorem sum64 (i k : Int32) : (i.toInt64 + k.toInt64).toInt = i.toInt + k.toInt := by
  have b1 := Int32.toInt_lt i
  have b2 := Int32.toInt_lt k
  have b3 := Int32.le_toInt i
  have b4 := Int32.le_toInt k
  rw [Int64.toInt_add, Int32.toInt_toInt64, Int32.toInt_toInt64]
  exact Int.bmod_eq_of_le (by omega) (by omega)
theorem over_k {n : Nat} {i k : Int32} (hn : n ≤ 60) : (0 < lg_cmp (i.toInt64 + k.toInt64) (nI n).toInt64 ↔ (n : Int) < i.toInt + k.toInt) ∧ (lg_cmp (i.toInt64 + k.toInt64) (nI n).toInt64 ≤ 0 ↔ i.toInt + k.toInt ≤ n) := by
  rw [lg_cmp_gt, lg_cmp_le, Int64.lt_iff_toInt_lt, Int64.le_iff_toInt_le, sum64, Int32.toInt_toInt64, nI_toInt (by omega)]
  exact ⟨Iff.rfl, Iff.rfl⟩
theorem copy_out {s a n : Nat} (ht : s < 4) (ha : a + n ≤ 60) {v : Nat → Int32} : ∀ (d fuel i : Nat) (σ : Sg), i + d = n → d < fuel → (∀ j, j < n → σ.1 70 j = v j) → (∀ j, j < i → σ.1 69 (60 * s + a + j) = v j) → ∃ σ', f_Md_copy_157 fuel σ (nI s) (nI a) (nI n) (nI i) = some (1, σ') ∧ (∀ j, j < n → σ'.1 69 (60 * s + a + j) = v j) ∧ ∀ x j, ¬ (x = 69 ∧ 60 * s + a ≤ j ∧ j < 60 * s + a + n) → σ'.1 x j = σ.1 x j := by
  intro d
  induction d with
  | zero =>
    intro fuel i σ hi hf h0 h1
    obtain ⟨z, rfl⟩ : ∃ z, fuel = z + 1 := ⟨fuel - 1, by omega⟩
    have : i = n := by omega
    subst this
    exact ⟨σ, by rw [f_Md_copy_157_s, if_pos (nI_le (Nat.le_refl _) (by omega))], h1, fun _ _ _ => rfl⟩
  | succ d ih =>
    intro fuel i σ hi hf h0 h1
    obtain ⟨z, rfl⟩ : ∃ z, fuel = z + 1 := ⟨fuel - 1, by omega⟩
    have e : 60 * nI s + nI a + nI i = nI (60 * s + a + i) := by rw [show (60 : Int32) = nI 60 from rfl, pk_mul, nI_add, nI_add]
    obtain ⟨σ', e1, e2, e3⟩ := ih z (i + 1) (pI σ 69 (60 * s + a + i) (v i)) (by omega) (by omega) (fun j hj => by rw [pI_ne (by omega)]; exact h0 j hj) (fun j hj => by
      by_cases q : j = i
      · subst q; exact pI_eq
      · rw [pI_ne (by omega)]; exact h1 j (by omega))
    refine ⟨σ', ?_, e2, fun x j g => by rw [e3 x j g, pI_ne (by omega)]⟩
    rw [f_Md_copy_157_s, if_neg (nI_ge (by omega) (by omega)), gd_of (vin_nI (by omega) (by decide)), e, gd_of (vin_nI (by omega) (by decide)), nI_clamp (show i < 2 ^ 31 by omega), nI_clamp (by omega), h0 i (by omega), nI_1]
    exact e1
theorem copy_in {s a t b n : Nat} (hs : s < 4) (ht : t < 4) (ha : a + n ≤ 60) (hb : b + n ≤ 60) {v : Nat → Int32} : ∀ (d fuel i : Nat) (σ : Sg), i + d = n → d < fuel → (∀ j, j < n → σ.1 69 (60 * s + a + j) = v j) → (∀ j, j < i → σ.1 70 j = v j) → ∃ σ', f_Md_copy_120 fuel σ (nI s) (nI a) (nI t) (nI b) (nI n) (nI i) = some (1, σ') ∧ (∀ j, j < n → σ'.1 69 (60 * t + b + j) = v j) ∧ ∀ x j, ¬ (x = 69 ∧ 60 * t + b ≤ j ∧ j < 60 * t + b + n) → x ≠ 70 → σ'.1 x j = σ.1 x j := by
  intro d
  induction d with
  | zero =>
    intro fuel i σ hi hf h0 h1
    obtain ⟨z, rfl⟩ : ∃ z, fuel = z + 1 := ⟨fuel - 1, by omega⟩
    have : i = n := by omega
    subst this
    obtain ⟨σ', e1, e2, e3⟩ := copy_out (s := t) (a := b) (n := i) ht hb (v := v) i FU 0 σ (by omega) (by unfold FU; omega) h1 (fun j hj => by omega)
    refine ⟨σ', ?_, e2, fun x j g _ => e3 x j g⟩
    rw [f_Md_copy_120_s, if_pos (nI_le (Nat.le_refl _) (by omega))]
    exact e1
  | succ d ih =>
    intro fuel i σ hi hf h0 h1
    obtain ⟨z, rfl⟩ : ∃ z, fuel = z + 1 := ⟨fuel - 1, by omega⟩
    have e : 60 * nI s + nI a + nI i = nI (60 * s + a + i) := by rw [show (60 : Int32) = nI 60 from rfl, pk_mul, nI_add, nI_add]
    obtain ⟨σ', e1, e2, e3⟩ := ih z (i + 1) (pI σ 70 i (v i)) (by omega) (by omega) (fun j hj => by rw [pI_ne (by omega)]; exact h0 j hj) (fun j hj => by
      by_cases q : j = i
      · subst q; exact pI_eq
      · rw [pI_ne (by omega)]; exact h1 j (by omega))
    refine ⟨σ', ?_, e2, fun x j g g2 => by rw [e3 x j g g2, pI_ne (by omega)]⟩
    rw [f_Md_copy_120_s, if_neg (nI_ge (by omega) (by omega)), e, gd_of (vin_nI (by omega) (by decide)), gd_of (vin_nI (by omega) (by decide)), nI_clamp (show i < 2 ^ 31 by omega), nI_clamp (by omega), h0 i (by omega), nI_1]
    exact e1
theorem pC_get (σ : Sg) (i j sp dp n a b : Nat) : (pC σ i j sp dp n).1 a b = if a = j ∧ dp ≤ b ∧ b < dp + n then σ.1 i (sp + (b - dp)) else σ.1 a b := by
  show (if a = j then va_cpy (σ.1 i) (σ.1 j) sp dp n b else σ.1 a b) = _
  unfold va_cpy
  by_cases q : a = j
  · subst q
    rw [if_pos rfl]
    by_cases q2 : dp ≤ b ∧ b < dp + n
    · rw [if_pos q2, if_pos ⟨rfl, q2⟩]
    · rw [if_neg q2, if_neg (fun g => q2 g.2)]
  · rw [if_neg q, if_neg (fun g => q g.1)]
theorem e_copy : E_copy Rel := by
  intro σ a1 a2 a3 a4 a5 hR
  obtain ⟨-, -, -, -, hS, -⟩ := id hR
  unfold f_GR_copy f_Md_copy
  rcases arg_in a1 4 (by decide) with h | ⟨s, hs, rfl⟩
  · exact ⟨-2, σ, σ, by rw [if_pos (sheet_no h).1], by rw [if_pos (sheet_no h).2], hR⟩
  rw [if_neg (n10 (sheet_yes hs).1)]
  rcases arg_in a3 4 (by decide) with h | ⟨t, ht, rfl⟩
  · exact ⟨-2, σ, σ, by rw [if_pos (sheet_no h).1], by rw [if_neg (n10 (sheet_yes hs).2), if_pos (sheet_no h).2], hR⟩
  rw [if_neg (n10 (sheet_yes ht).1), ss_at hs, ss_at ht]
  have cs : (nI s).toNatClampNeg = s := nI_clamp (by omega)
  have ct : (nI t).toNatClampNeg = t := nI_clamp (by omega)
  simp only [if_neg (n10 (sheet_yes hs).2), if_neg (n10 (sheet_yes ht).2), gd_of (vin_nI hs (by decide : 4 < 2 ^ 31)), gd_of (vin_nI ht (by decide : 4 < 2 ^ 31)), cs, ct]
  rcases (hS s hs).cases with ⟨q1, q2, q3⟩ | ⟨q1, q2, q3, q4, q5, n, hn, q6, q7, q8⟩
  · rw [q1, if_neg (show ¬ (1 : Int32) = 0 by decide)]
    refine ⟨-10 - 1, pI σ 54 2 1, pI (pI σ 54 2 1) 66 4 1, rfl, ?_, hR.lat 1⟩
    rw [pI_ne (by omega), if_pos q3]
    rfl
  rw [q1, if_pos rfl]
  rcases (hS t ht).cases with ⟨p1, p2, p3⟩ | ⟨p1, p2, p3, p4, p5, m, hm, p6, p7, p8⟩
  · rw [p1, if_neg (show ¬ (1 : Int32) = 0 by decide)]
    refine ⟨-10 - 1, pI σ 54 2 1, pI (pI σ 54 2 1) 66 4 1, rfl, ?_, hR.lat 1⟩
    rw [pI_ne (by omega), if_neg q3, pI_ne (by omega), if_neg p2]
    rfl
  rw [p1, if_pos rfl, q4, p4]
  by_cases cf : σ.1 67 s = σ.1 67 t
  case neg =>
    rw [if_neg cf]
    refine ⟨-10 - 4, pI σ 54 2 4, pI (pI σ 54 2 4) 66 4 4, rfl, ?_, hR.lat 4⟩
    rw [pI_ne (by omega), if_neg q3, pI_ne (by omega), if_pos p2, if_neg cf]
    rfl
  rw [if_pos cf, run_k hn q6, run_k hm p6]
  have z : (0 : Int32).toInt = 0 := by decide
  by_cases ok : (0 ≤ a2.toInt ∧ 0 ≤ a5.toInt ∧ a2.toInt + a5.toInt ≤ n) ∧ (0 ≤ a4.toInt ∧ 0 ≤ a5.toInt ∧ a4.toInt + a5.toInt ≤ m)
  case neg =>
    have eC : (if (if 0 ≤ a2.toInt ∧ 0 ≤ a5.toInt ∧ a2.toInt + a5.toInt ≤ (n : Int) then (1 : Int32) else 0) = 0 then f_GR_copy_109 σ else if (if 0 ≤ a4.toInt ∧ 0 ≤ a5.toInt ∧ a4.toInt + a5.toInt ≤ (m : Int) then (1 : Int32) else 0) = 0 then f_GR_copy_109 σ else gd (cpok a2 a4 a5) (some (1, pC σ (58 + 2 * s + 1) (58 + 2 * t + 1) a2.toNatClampNeg a4.toNatClampNeg a5.toNatClampNeg))) = f_GR_copy_109 σ := by
      rw [if_ite10, if_ite10]
      by_cases o1 : 0 ≤ a2.toInt ∧ 0 ≤ a5.toInt ∧ a2.toInt + a5.toInt ≤ (n : Int)
      · rw [if_pos o1, if_neg (fun o2 => ok ⟨o1, o2⟩)]
      · rw [if_neg o1]
    rw [eC]
    refine ⟨-10 - 2, pI σ 54 2 2, pI (pI σ 54 2 2) 66 4 2, rfl, ?_, hR.lat 2⟩
    have em : f_Md_copy_111 (pI σ 54 2 2) = some (-10 - 2, pI (pI σ 54 2 2) 66 4 2) := rfl
    rw [pI_ne (by omega), if_neg q3, pI_ne (by omega), if_pos p2, if_pos cf, pI_ne (by omega), pI_ne (by omega), q7, p7, em]
    by_cases c1 : a2 < 0
    · rw [if_pos c1]
    rw [if_neg c1]
    by_cases c2 : a4 < 0
    · rw [if_pos c2]
    rw [if_neg c2]
    by_cases c3 : a5 < 0
    · rw [if_pos c3]
    rw [if_neg c3]
    have c1' : (0 : Int32).toInt ≤ a2.toInt := Int.not_lt.mp (fun q => c1 (Int32.lt_iff_toInt_lt.mpr q))
    have c2' : (0 : Int32).toInt ≤ a4.toInt := Int.not_lt.mp (fun q => c2 (Int32.lt_iff_toInt_lt.mpr q))
    have c3' : (0 : Int32).toInt ≤ a5.toInt := Int.not_lt.mp (fun q => c3 (Int32.lt_iff_toInt_lt.mpr q))
    by_cases c4 : 0 < lg_cmp (a2.toInt64 + a5.toInt64) (nI n).toInt64
    · rw [if_pos c4]
    rw [if_neg c4, if_neg]
    intro c5
    have c4' := fun g => c4 ((over_k hn).1.mpr g)
    have c5' := (over_k hm).2.mp c5
    exact ok ⟨⟨by omega, by omega, Int.not_lt.mp c4'⟩, by omega, by omega, c5'⟩
  obtain ⟨⟨o1, o2, o3⟩, o4, o5, o6⟩ := ok
  rw [if_pos (show 0 ≤ a2.toInt ∧ 0 ≤ a5.toInt ∧ a2.toInt + a5.toInt ≤ (n : Int) from ⟨o1, o2, o3⟩), if_neg (show ¬ (1 : Int32) = 0 by decide), if_pos (show 0 ≤ a4.toInt ∧ 0 ≤ a5.toInt ∧ a4.toInt + a5.toInt ≤ (m : Int) from ⟨o4, o5, o6⟩), if_neg (show ¬ (1 : Int32) = 0 by decide)]
  obtain ⟨x, hx, rfl⟩ : ∃ x : Nat, a2.toInt = x ∧ a2 = nI x := ⟨a2.toInt.toNat, by omega, of_toInt (by omega) (by omega)⟩
  obtain ⟨y, hy, rfl⟩ : ∃ y : Nat, a4.toInt = y ∧ a4 = nI y := ⟨a4.toInt.toNat, by omega, of_toInt (by omega) (by omega)⟩
  obtain ⟨k, hk, rfl⟩ : ∃ k : Nat, a5.toInt = k ∧ a5 = nI k := ⟨a5.toInt.toNat, by omega, of_toInt (by omega) (by omega)⟩
  have hxk : x + k ≤ n := by omega
  have hyk : y + k ≤ m := by omega
  have cx : (nI x).toNatClampNeg = x := nI_clamp (by omega)
  have cy : (nI y).toNatClampNeg = y := nI_clamp (by omega)
  have ck : (nI k).toNatClampNeg = k := nI_clamp (by omega)
  have nx : ¬ nI x < 0 := fun g => by have := Int32.lt_iff_toInt_lt.mp g; omega
  have ny : ¬ nI y < 0 := fun g => by have := Int32.lt_iff_toInt_lt.mp g; omega
  have nk : ¬ nI k < 0 := fun g => by have := Int32.lt_iff_toInt_lt.mp g; omega
  rw [gd_of (show cpok (nI x) (nI y) (nI k) = true from decide_eq_true ⟨nx, ny, nk, by rw [cx, ck]; omega, by rw [cy, ck]; omega⟩), cx, cy, ck, show 58 + 2 * s + 1 = 59 + 2 * s by omega, show 58 + 2 * t + 1 = 59 + 2 * t by omega]
  have fr : ∀ a b, a ≠ 59 + 2 * t → (pC σ (59 + 2 * s) (59 + 2 * t) x y k).1 a b = σ.1 a b := fun a b g => by rw [pC_get, if_neg (fun w => g w.1)]
  obtain ⟨σ2, g1, g2, g3⟩ := copy_in (s := s) (a := x) (t := t) (b := y) (n := k) hs ht (by omega) (by omega) (v := fun j => σ.1 (59 + 2 * s) (x + j)) k FU 0 (pC σ (59 + 2 * s) (59 + 2 * t) x y k) (by omega) (by unfold FU; omega) (fun j hj => by
    rw [fr _ _ (by omega), Nat.add_assoc]
    exact q8 (x + j) (by omega)) (fun j hj => by omega)
  refine ⟨1, pC σ (59 + 2 * s) (59 + 2 * t) x y k, σ2, rfl, ?_, ?_⟩
  · rw [fr _ _ (by omega), if_neg q3, fr _ _ (by omega), if_pos p2, if_pos cf, if_neg nx, if_neg ny, if_neg nk, fr _ _ (by omega), q7, if_neg (fun g => by have := (over_k hn).1.mp g; omega), fr _ _ (by omega), p7, if_pos ((over_k hm).2.mpr (by omega))]
    exact g1
  · have f2 : ∀ i j, ¬ (i = 69 ∧ 60 * t + y ≤ j ∧ j < 60 * t + y + k) → i ≠ 70 → i ≠ 59 + 2 * t → σ2.1 i j = σ.1 i j := fun i j w1 w2 w3 => by rw [g3 i j w1 w2, fr i j w3]
    have hR' : Rel ((fun i j => if i = 70 then σ2.1 70 j else σ.1 i j, σ.2) : Sg) := hR.of (fun i j _ w => if_neg (by unfold scM at w; omega))
    refine hR'.sheetG (fun i j w => ?_) (fun u hu => ?_)
    · unfold gS at w
      show σ2.1 i j = if i = 70 then σ2.1 70 j else σ.1 i j
      by_cases q : i = 70
      · rw [if_pos q, q]
      · rw [if_neg q, f2 i j (by omega) q (by omega)]
    · by_cases q : u = t
      · subst q
        refine ⟨by rw [f2 _ _ (by omega) (by omega) (by omega), f2 _ _ (by omega) (by omega) (by omega)]; exact p4.symm, Or.inr ⟨by rw [f2 _ _ (by omega) (by omega) (by omega)]; exact p5, m, hm, by rw [f2 _ _ (by omega) (by omega) (by omega)]; exact p6, by rw [f2 _ _ (by omega) (by omega) (by omega)]; exact p7, fun i hi => ?_⟩⟩
        have e1 : σ2.1 (59 + 2 * u) i = if y ≤ i ∧ i < y + k then σ.1 (59 + 2 * s) (x + (i - y)) else σ.1 (59 + 2 * u) i := by
          rw [g3 _ _ (by omega) (by omega), pC_get]
          by_cases w : y ≤ i ∧ i < y + k
          · rw [if_pos ⟨rfl, w⟩, if_pos w]
          · rw [if_neg (fun g => w g.2), if_neg w]
        rw [e1]
        by_cases w : y ≤ i ∧ i < y + k
        · rw [if_pos w]
          have := g2 (i - y) (by omega)
          rw [show 60 * u + y + (i - y) = 60 * u + i by omega] at this
          exact this
        · rw [if_neg w, f2 _ _ (by omega) (by omega) (by omega)]
          exact p8 i hi
      · exact (hS u hu).of hu (f2 _ _ (by omega) (by omega) (by omega)) (fun j => f2 _ _ (by omega) (by omega) (by omega)) (f2 _ _ (by omega) (by omega) (by omega)) (fun i hi => f2 _ _ (by omega) (by omega) (by omega)) (fun i hi => f2 _ _ (by omega) (by omega) (by omega))
