/-! read -/
def stp (n nt : Nat) (I : Nat → Int32) (c : Nat) : Prop := n < 4 * c + 4 ∨ 20 ≤ nt + c ∨ ¬ okG (I (4 * c)) (I (4 * c + 1)) (I (4 * c + 2)) (I (4 * c + 3))
def rwv (I : Nat → Int32) (o : Int32) (e k : Nat) : Int32 := if k = 4 then o else I (4 * e + k)
theorem item_k {σ : Sg} {s i : Nat} {I : Nat → Int32} (h : ∀ i, i < 60 → σ.1 (59 + 2 * s) i = I i) (hi : i < 60) : f_Sh_item σ (58 + 2 * s) (nI i) = I i := by
  unfold f_Sh_item
  rw [if_neg (n10 (below_yes (n := 60) hi (by decide) (by decide))), nI_clamp (by omega), show 58 + 2 * s + 1 = 59 + 2 * s by omega, h i hi]
set_option maxHeartbeats 1000000 in
theorem cread {n nt s : Nat} {I : Nat → Int32} (o : Int32) (hs : s < 4) (hn : n ≤ 60) : ∀ (d f c : Nat) (σ : Sg), c + d = 16 → d < f → nt + c ≤ 20 → σ.1 18 2 = nI (nt + c) → σ.1 (58 + 2 * s) 2 = nI n → (∀ i, i < 60 → σ.1 (59 + 2 * s) i = I i) → ∃ C σ', c ≤ C ∧ f_GR_read_50 f σ o (58 + 2 * s) (nI c) (nI (4 * c)) = some (nI C, σ') ∧ (∀ e, c ≤ e → e < C → ¬ stp n nt I e) ∧ stp n nt I C ∧ nt + C ≤ 20 ∧ σ'.1 18 2 = nI (nt + C) ∧ (∀ e k, c ≤ e → e < C → k < 5 → σ'.1 (21 + (nt + e)) k = rwv I o e k) ∧ ∀ i j, ¬ (i = 18 ∧ j = 2) → ¬ (21 + (nt + c) ≤ i ∧ i < 21 + (nt + C)) → σ'.1 i j = σ.1 i j := by
  intro d
  induction d with
  | zero =>
    intro f c σ hc hf h20 hl hz hI
    obtain ⟨m, rfl⟩ : ∃ m, f = m + 1 := ⟨f - 1, by omega⟩
    refine ⟨c, σ, Nat.le_refl _, ?_, fun e h1 h2 => by omega, Or.inl (by omega), h20, hl, fun e k h1 h2 => by omega, fun _ _ _ _ => rfl⟩
    rw [f_GR_read_50_s, hz, show (nI (4 * c) + 4 : Int32) = nI (4 * c + 4) from nI_add (4 * c) 4, if_pos (nI_lt (by omega) (by omega))]
  | succ d ih =>
    intro f c σ hc hf h20 hl hz hI
    obtain ⟨m, rfl⟩ : ∃ m, f = m + 1 := ⟨f - 1, by omega⟩
    have stop : stp n nt I c → f_GR_read_50 (m + 1) σ o (58 + 2 * s) (nI c) (nI (4 * c)) = some (nI c, σ) → ∃ C σ', c ≤ C ∧ f_GR_read_50 (m + 1) σ o (58 + 2 * s) (nI c) (nI (4 * c)) = some (nI C, σ') ∧ (∀ e, c ≤ e → e < C → ¬ stp n nt I e) ∧ stp n nt I C ∧ nt + C ≤ 20 ∧ σ'.1 18 2 = nI (nt + C) ∧ (∀ e k, c ≤ e → e < C → k < 5 → σ'.1 (21 + (nt + e)) k = rwv I o e k) ∧ ∀ i j, ¬ (i = 18 ∧ j = 2) → ¬ (21 + (nt + c) ≤ i ∧ i < 21 + (nt + C)) → σ'.1 i j = σ.1 i j := fun h1 h2 => ⟨c, σ, Nat.le_refl _, h2, fun e h1 h2 => by omega, h1, h20, hl, fun e k h1 h2 => by omega, fun _ _ _ _ => rfl⟩
    have e4 : (nI (4 * c) + 4 : Int32) = nI (4 * c + 4) := nI_add (4 * c) 4
    have x1 : (nI (4 * c) + 1 : Int32) = nI (4 * c + 1) := nI_add (4 * c) 1
    have x2 : (nI (4 * c) + 2 : Int32) = nI (4 * c + 2) := nI_add (4 * c) 2
    have x3 : (nI (4 * c) + 3 : Int32) = nI (4 * c + 3) := nI_add (4 * c) 3
    by_cases c1 : n < 4 * c + 4
    · exact stop (Or.inl c1) (by rw [f_GR_read_50_s, hz, e4, if_pos (nI_lt (by omega) (by omega))])
    by_cases c2 : nt + c < 20
    case neg =>
      refine stop (Or.inr (Or.inl (by omega))) ?_
      rw [f_GR_read_50_s, hz, e4, if_neg (nI_nlt (by omega) (by omega))]
      unfold f_Ts_isFull
      rw [hl, if_neg (show ¬ nI (nt + c) < 20 from nI_nlt (b := 20) (by omega) (by omega)), if_neg (show ¬ (1 : Int32) = 0 by decide)]
    by_cases c3 : okG (I (4 * c)) (I (4 * c + 1)) (I (4 * c + 2)) (I (4 * c + 3))
    case neg =>
      refine stop (Or.inr (Or.inr c3)) ?_
      rw [f_GR_read_50_s, hz, e4, if_neg (nI_nlt (by omega) (by omega))]
      unfold f_Ts_isFull
      rw [hl, if_pos (show nI (nt + c) < 20 from nI_lt (b := 20) c2 (by omega)), if_pos rfl, x1, x2, x3, item_k hI (by omega), item_k hI (by omega), item_k hI (by omega), item_k hI (by omega), if_pos (mayGo_no c3)]
    obtain ⟨σ1, k0, k1, k2, k3⟩ := cls_append hl c2 (I (4 * c)) (I (4 * c + 1)) (I (4 * c + 2)) (I (4 * c + 3)) o
    obtain ⟨C, σ', w1, w2, w3, w4, w5, w6, w7, w8⟩ := ih m (c + 1) σ1 (by omega) (by omega) (by omega) k1 (by rw [k3 _ _ (by omega) (by omega)]; exact hz) (fun i hi => by rw [k3 _ _ (by omega) (by omega)]; exact hI i hi)
    refine ⟨C, σ', by omega, ?_, fun e h1 h2 => ?_, w4, w5, w6, fun e k h1 h2 h3 => ?_, fun i j g1 g2 => ?_⟩
    · rw [f_GR_read_50_s, hz, e4, if_neg (nI_nlt (by omega) (by omega))]
      unfold f_Ts_isFull
      rw [hl, if_pos (show nI (nt + c) < 20 from nI_lt (b := 20) c2 (by omega)), if_pos rfl, x1, x2, x3, item_k hI (by omega), item_k hI (by omega), item_k hI (by omega), item_k hI (by omega), if_neg (n10 (mayGo_yes c3)), k0, Option.bind_some, nI_1]
      exact w2
    · by_cases q : e = c
      · subst q
        intro h
        rcases h with h | h | h
        · omega
        · omega
        · exact h c3
      · exact w3 e (by omega) h2
    · by_cases q : e = c
      · subst q
        rw [w8 _ _ (by omega) (by omega)]
        unfold rwv
        rcases (show k = 0 ∨ k = 1 ∨ k = 2 ∨ k = 3 ∨ k = 4 by omega) with rfl | rfl | rfl | rfl | rfl
        · exact k2.1
        · exact k2.2.1
        · exact k2.2.2.1
        · exact k2.2.2.2.1
        · exact k2.2.2.2.2
      · exact w7 e k (by omega) h2 h3
    · rw [w8 i j g1 (by omega), k3 i j g1 (by omega)]
theorem mread_zero {f : Nat} {σ : Sg} {a b v : Int32} (hf : 0 < f) : f_Md_read_37 f σ a b v 0 = some (v, σ) := by
  obtain ⟨m, rfl⟩ : ∃ m, f = m + 1 := ⟨f - 1, by omega⟩
  rw [f_Md_read_37_s, if_pos rfl]
set_option maxHeartbeats 1000000 in
theorem mread {n nt s C : Nat} {I : Nat → Int32} {o : Int32} (ho : 0 ≤ o.toInt ∧ o.toInt < (5 : Nat)) (hs : s < 4) (hn : n ≤ 60) (hC : nt + C ≤ 20) (hst : stp n nt I C) : ∀ (d f c : Nat) (σ : Sg), c + d = C → d + 1 < f → σ.1 66 14 = nI (nt + c) → σ.1 68 s = nI n → (∀ i, i < n → σ.1 69 (60 * s + i) = I i) → (∀ e, c ≤ e → e < C → ¬ stp n nt I e) → ∃ σ', f_Md_read_37 f σ (nI s) o (nI c) 1 = some (nI C, σ') ∧ σ'.1 66 14 = nI (nt + C) ∧ (∀ e k, c ≤ e → e < C → k < 5 → σ'.1 76 (5 * (nt + e) + k) = rwv I o e k) ∧ ∀ i j, ¬ (i = 66 ∧ j = 14) → ¬ (i = 76 ∧ 5 * (nt + c) ≤ j ∧ j < 5 * (nt + C)) → σ'.1 i j = σ.1 i j := by
  have lay : ∀ c, 4 * c + 4 ≤ n → (60 * nI s + 4 * nI c : Int32) = nI (60 * s + 4 * c) := fun c _ => by rw [show (60 : Int32) = nI 60 from rfl, show (4 : Int32) = nI 4 from rfl, pk_mul, pk_mul, nI_add]
  have e4 : ∀ c : Nat, (4 * nI c + 4 : Int32) = nI (4 * c + 4) := fun c => by rw [show (4 : Int32) = nI 4 from rfl, pk_mul, nI_add]
  have go : ∀ (c m : Nat) (σ : Sg), 4 * c + 4 ≤ n → σ.1 68 s = nI n → (∀ i, i < n → σ.1 69 (60 * s + i) = I i) → f_Md_read_37 (m + 1) σ (nI s) o (nI c) 1 = bd (f_Md_trip σ (I (4 * c)) (I (4 * c + 1)) (I (4 * c + 2)) (I (4 * c + 3)) o) fun r14 σ13 => if r14 < 0 then f_Md_read_113 (f_Md_read_37 m) σ13 (nI s) o (nI c) 0 else f_Md_read_113 (f_Md_read_37 m) σ13 (nI s) o (nI c) 1 := fun c m σ h4 h1 h2 => by
    have hx : ∀ k, k < 4 → σ.1 69 (nI (60 * s + 4 * c + k)).toNatClampNeg = I (4 * c + k) := fun k hk => by
      rw [nI_clamp (by omega), Nat.add_assoc]
      exact h2 (4 * c + k) (by omega)
    have hv : ∀ k, k < 4 → vin (nI (60 * s + 4 * c + k)) 240 = true := fun k hk => vin_nI (by omega) (by decide)
    have y1 : (nI (60 * s + 4 * c) + 1 : Int32) = nI (60 * s + 4 * c + 1) := nI_add _ 1
    have y2 : (nI (60 * s + 4 * c) + 2 : Int32) = nI (60 * s + 4 * c + 2) := nI_add _ 2
    have y3 : (nI (60 * s + 4 * c) + 3 : Int32) = nI (60 * s + 4 * c + 3) := nI_add _ 3
    rw [f_Md_read_37_s, if_neg (show ¬ (1 : Int32) = 0 by decide), gd_of (vin_nI hs (by decide)), nI_clamp (show s < 2 ^ 31 by omega), h1, e4, if_neg (nI_nlt (by omega) (by omega)), lay c h4, y1, y2, y3, gd_of (show vin (nI (60 * s + 4 * c)) 240 = true from hv 0 (by omega)), gd_of (hv 1 (by omega)), gd_of (hv 2 (by omega)), gd_of (hv 3 (by omega)), show σ.1 69 (nI (60 * s + 4 * c)).toNatClampNeg = I (4 * c) from hx 0 (by omega), hx 1 (by omega), hx 2 (by omega), hx 3 (by omega)]
  intro d
  induction d with
  | zero =>
    intro f c σ hc hf h1 h2 h3 h4
    have : c = C := by omega
    subst this
    obtain ⟨m, rfl⟩ : ∃ m, f = m + 1 := ⟨f - 1, by omega⟩
    refine ⟨σ, ?_, h1, fun e k g1 g2 => by omega, fun _ _ _ _ => rfl⟩
    by_cases c1 : n < 4 * c + 4
    · rw [f_Md_read_37_s, if_neg (show ¬ (1 : Int32) = 0 by decide), gd_of (vin_nI hs (by decide)), nI_clamp (show s < 2 ^ 31 by omega), h2, e4, if_pos (nI_lt (by omega) (by omega))]
    · rw [go c m σ (by omega) h2 h3]
      have fin : ∀ r : Int32, r < 0 → (bd (some (r, σ)) fun r14 σ13 => if r14 < 0 then f_Md_read_113 (f_Md_read_37 m) σ13 (nI s) o (nI c) 0 else f_Md_read_113 (f_Md_read_37 m) σ13 (nI s) o (nI c) 1) = some (nI c, σ) := fun r hr => by
        rw [bd_s, if_pos hr]
        unfold f_Md_read_113 f_Md_read_126
        rw [if_pos rfl, Int32.add_zero]
        exact mread_zero (by omega)
      by_cases c3 : okG (I (4 * c)) (I (4 * c + 1)) (I (4 * c + 2)) (I (4 * c + 3))
      · have : nt + c = 20 := by
          rcases hst with h | h | h
          · omega
          · omega
          · exact absurd c3 h
        rw [md_trip_full (by rw [h1, this]) c3 ho]
        exact fin (-4) (by decide)
      · rw [md_trip_no (fun h => c3 h.1)]
        exact fin (-2) (by decide)
  | succ d ih =>
    intro f c σ hc hf h1 h2 h3 h4
    obtain ⟨m, rfl⟩ : ∃ m, f = m + 1 := ⟨f - 1, by omega⟩
    have ns := h4 c (Nat.le_refl _) (by omega)
    have n1 : 4 * c + 4 ≤ n := Nat.not_lt.mp (fun h => ns (Or.inl h))
    have n2 : nt + c < 20 := Nat.not_le.mp (fun h => ns (Or.inr (Or.inl h)))
    have n3 : okG (I (4 * c)) (I (4 * c + 1)) (I (4 * c + 2)) (I (4 * c + 3)) := Classical.not_not.mp (fun h => ns (Or.inr (Or.inr h)))
    rw [go c m σ n1 h2 h3]
    obtain ⟨σ1, k0, k1, k2, k3⟩ := md_trip_ok h1 n2 n3 ho
    obtain ⟨σ', w1, w2, w3, w4⟩ := ih m (c + 1) σ1 (by omega) (by omega) k1 (by rw [k3 _ _ (by omega) (by omega)]; exact h2) (fun i hi => by rw [k3 _ _ (by omega) (by omega)]; exact h3 i hi) (fun e g1 g2 => h4 e (by omega) g2)
    refine ⟨σ', ?_, w2, fun e k g1 g2 g3 => ?_, fun i j g1 g2 => ?_⟩
    · rw [k0, bd_s, if_neg (show ¬ nI (nt + c) < 0 from nI_nlt (b := 0) (by omega) (by omega))]
      unfold f_Md_read_113 f_Md_read_126
      rw [if_neg (show ¬ (1 : Int32) = 0 by decide), nI_1]
      exact w1
    · by_cases q : e = c
      · subst q
        rw [w4 _ _ (by omega) (by omega)]
        unfold rwv
        rcases (show k = 0 ∨ k = 1 ∨ k = 2 ∨ k = 3 ∨ k = 4 by omega) with rfl | rfl | rfl | rfl | rfl
        · exact k2.1
        · exact k2.2.1
        · exact k2.2.2.1
        · exact k2.2.2.2.1
        · exact k2.2.2.2.2
      · exact w3 e k (by omega) g2 g3
    · rw [w4 i j g1 (by omega), k3 i j g1 (by omega)]
theorem e_read : E_read Rel := by
  intro σ a1 a2 hR
  obtain ⟨-, -, ⟨nt, t1, t2, t3, t4⟩, -, hS, -⟩ := id hR
  unfold f_GR_read f_Md_read
  rcases arg_in a1 4 (by decide) with h | ⟨s, hs, rfl⟩
  · exact ⟨-2, σ, σ, by rw [if_pos (sheet_no h).1], by rw [if_pos (sheet_no h).2], hR⟩
  rw [if_neg (n10 (sheet_yes hs).1)]
  by_cases c5 : 0 ≤ a2.toInt ∧ a2.toInt < (5 : Nat)
  case neg => exact ⟨-2, σ, σ, by rw [if_pos (own_no c5).1], by rw [if_neg (n10 (sheet_yes hs).2), if_pos (own_no c5).2], hR⟩
  have ow : f_GR_isBelow a2 5 = 1 ∧ f_Md_isOwner a2 = 1 := by
    obtain ⟨o, ho, eo⟩ := in_nI (by decide) c5
    rw [eo]
    exact own_yes ho
  rw [if_neg (n10 ow.1), ss_at hs]
  have cs : (nI s).toNatClampNeg = s := nI_clamp (by omega)
  simp only [if_neg (n10 (sheet_yes hs).2), if_neg (n10 ow.2), gd_of (vin_nI hs (by decide : 4 < 2 ^ 31)), cs]
  rcases (hS s hs).cases with ⟨q1, q2, q3⟩ | ⟨q1, q2, q3, q4, q5, n, hn, q6, q7, q8⟩
  · rw [q1, if_neg (show ¬ (1 : Int32) = 0 by decide)]
    refine ⟨-10 - 1, pI σ 54 2 1, pI (pI σ 54 2 1) 66 4 1, rfl, ?_, hR.lat 1⟩
    rw [pI_ne (by omega), if_neg q2]
    rfl
  rw [q1, if_pos rfl]
  obtain ⟨C, σ1, -, w2, w3, w4, w5, w6, w7, w8⟩ := cread (n := n) (nt := nt) (s := s) (I := fun i => σ.1 (59 + 2 * s) i) a2 hs hn 16 FU 0 σ (by omega) (by unfold FU; omega) (by omega) t2 q6 (fun _ _ => rfl)
  obtain ⟨σ2, v1, v2, v3, v4⟩ := mread (n := n) (nt := nt) (s := s) (C := C) (I := fun i => σ.1 (59 + 2 * s) i) c5 hs hn w5 w4 C FU 0 σ1 (by omega) (by unfold FU; omega) (by rw [w8 _ _ (by omega) (by omega)]; exact t3) (by rw [w8 _ _ (by omega) (by omega)]; exact q7) (fun i hi => by rw [w8 _ _ (by omega) (by omega)]; exact q8 i hi) w3
  refine ⟨nI C, σ1, σ2, w2, ?_, ?_⟩
  · rw [w8 _ _ (by omega) (by omega), if_pos q2]
    exact v1
  · refine hR.tripG (fun i j g => by unfold gT at g; rw [v4 _ _ (by omega) (by omega), w8 _ _ (by omega) (by omega)]) ⟨nt + C, w5, by rw [v4 _ _ (by omega) (by omega)]; exact w6, v2, fun t ht => ?_⟩
    have hrow : σ2.1 (21 + t) = σ1.1 (21 + t) := funext fun j => v4 _ _ (by omega) (by omega)
    rw [hrow]
    by_cases q : t < nt
    · have hrow2 : σ1.1 (21 + t) = σ.1 (21 + t) := funext fun j => w8 _ _ (by omega) (by omega)
      rw [hrow2]
      refine ⟨(t4 t q).1, fun k hk => ?_⟩
      rw [v4 _ _ (by omega) (by omega), w8 _ _ (by omega) (by omega)]
      exact (t4 t q).2 k hk
    · obtain ⟨e, rfl⟩ : ∃ e, t = nt + e := ⟨t - nt, by omega⟩
      have ok : okG _ _ _ _ := Classical.not_not.mp (fun h => w3 e (by omega) (by omega) (Or.inr (Or.inr h)))
      obtain ⟨g1, g2, g3, g4⟩ := ok
      refine ⟨⟨?_, ?_, ?_, ?_, ?_⟩, fun k hk => by rw [v3 e k (by omega) (by omega) hk, w7 e k (by omega) (by omega) hk]⟩
      · rw [w7 e 0 (by omega) (by omega) (by omega)]; exact in_nI (by decide) g1
      · rw [w7 e 1 (by omega) (by omega) (by omega)]; exact in_nI (by decide) g2
      · rw [w7 e 2 (by omega) (by omega) (by omega)]; exact in_nI (by decide) g3
      · rw [w7 e 3 (by omega) (by omega) (by omega)]; exact in_nI (by decide) g4
      · rw [w7 e 4 (by omega) (by omega) (by omega)]; exact in_nI (by decide) c5
