/-! pegs: one more rope -/
section
variable {R np lim j N : Nat} {F F' : Nat → Nat → Nat} {W K num num' : Nat → Nat} {wo : Int32} {ls : Nat → Nat} {σ σ' : Sg}
theorem okS_ext {S : Nat} {f : Nat → Nat} (hF : ∀ r, r < j → F' r = F r) (h : okS F W K wo lim j S f) : okS F' W K wo lim j S f := by
  refine ⟨fun p hp hb => ?_, fun r hr => by rw [hF r hr]; exact h.2 r hr⟩
  obtain ⟨a, b⟩ := h.1 p hp hb
  refine ⟨a, b.1, ?_⟩
  rw [hF _ a]
  exact b.2
theorem kyS_ext {S : Nat} {f : Nat → Nat} (hF : ∀ r, r < j → F' r = F r) (hn : ∀ r, r < j → num' r = num r) (h : okS F W K wo lim j S f) : kyS F' W num' S f = kyS F W num S f := fs_congr (fun p hp hb => by
  have a := (h.1 p hp hb).1
  rw [hF _ a, hn _ a])
theorem LPk_ext (hF : ∀ r, r < j → F' r = F r) (hn : ∀ r, r < j → num' r = num r) (h : LPk F W K wo lim num N j ls) : LPk F' W K wo lim num' N j ls := fun S hS => by
  obtain ⟨h1, h2, h3⟩ := h S hS
  refine ⟨h1, ?_, fun f hf => ?_⟩
  · rcases h2 with h2 | ⟨f, f1, f2⟩
    · exact Or.inl h2
    · exact Or.inr ⟨f, okS_ext hF f1, by rw [kyS_ext hF hn f1]; exact f2⟩
  · have hf' : okS F W K wo lim j S f := okS_ext (F' := F) (fun r hr => (hF r hr).symm) hf
    rw [kyS_ext hF hn hf']
    exact h3 f hf'
theorem ky_fulln {f : Nat → Nat} (hn : np ≤ 5) : kyS F W num (2 ^ np - 1) f = cst F W np f * 32768 + rco (fun p => num (f p)) np := by
  unfold kyS
  rw [fs_full hn]
  unfold cst rco ky1
  have : ∀ n, smN (fun p => cs1 (F (f p)) (W p) * 32768 + num (f p) * 2 ^ (3 * (4 - p))) n = smN (fun p => cs1 (F (f p)) (W p)) n * 32768 + smN (fun p => num (f p) * 2 ^ (3 * (4 - p))) n := fun n => by
    induction n with
    | zero => simp [smN]
    | succ n ih =>
      simp only [smN]
      rw [ih]
      omega
  exact this np
theorem mill_cost (hn : ∀ r, r < R → num r ≤ 7) (hm : MW R F np lim W K σ) (hL : LPk F W K wo lim num (2 ^ np) R ls) (hR : RS0 F W K wo R np lim σ) : (ls (2 ^ np - 1) = NW ∧ σ.1 66 24 = -1) ∨ ∃ c, c ≤ 495 ∧ ls (2 ^ np - 1) < NW ∧ ls (2 ^ np - 1) / 32768 = c ∧ σ.1 66 24 = nI c := by
  have n5 := hm.2.1
  have nwv : NW = 268435456 := rfl
  have p1 : 1 ≤ 2 ^ np := Nat.one_le_two_pow
  obtain ⟨l1, l2, l3⟩ := hL (2 ^ np - 1) (by omega)
  have rl : ∀ f : Nat → Nat, (∀ p, p < np → f p < R) → rco (fun p => num (f p)) np < 32768 := fun f hf => by
    have := rco_lt (f := fun p => num (f p)) np n5 (fun p hp => hn _ (hf p hp))
    have : 0 < 2 ^ (3 * (5 - np)) := Nat.pow_pos (by omega)
    omega
  rcases hR with ⟨h1, h2, h3⟩ | ⟨h, V, h1, h2, h3, h4, h5, h6, h7⟩
  · refine Or.inl ⟨?_, h1⟩
    rcases l2 with l2 | ⟨f, f1, f2⟩
    · exact l2
    · have q := (okS_vr n5).mp f1
      exact absurd q.2 (h3 f q.1)
  · have hR' : ∀ p, p < np → h p < R := fun p hp => (h1 p hp).1
    have cb := cst_le hm hR'
    have hrl := rl h hR'
    have hi : inT F R np lim h := (inT_of h2).mpr h3
    have kh := l3 h ((okS_vr n5).mpr ⟨h1, hi⟩)
    rw [ky_fulln n5] at kh
    refine Or.inr ⟨cst F W np h, cb, by omega, ?_, h4⟩
    rcases l2 with l2 | ⟨f, f1, f2⟩
    · omega
    · have q := (okS_vr n5).mp f1
      have frl := rl f (fun p hp => (q.1 p hp).1)
      rw [ky_fulln n5] at f2
      have hb : cst F W np h ≤ cst F W np f := by
        rcases h7 f q.1 q.2 with z | z
        · omega
        · omega
      rw [f2] at kh ⊢
      omega
theorem cross_w (h : MW R F np lim W K σ) {r q : Nat} (hr : r < R) (hq : q < R) : f_Md_doCross σ (nI r) (nI q) = some (crP (nI (F r 0) - nI (F q 0)) (nI (F r 1) - nI (F q 1))) := by
  have h9 := h.1
  obtain ⟨a0, b0⟩ := h.2.2.2.2.1 r 0 hr (by omega)
  obtain ⟨a1, b1⟩ := h.2.2.2.2.1 r 1 hr (by omega)
  obtain ⟨c0, d0⟩ := h.2.2.2.2.1 q 0 hq (by omega)
  obtain ⟨c1, d1⟩ := h.2.2.2.2.1 q 1 hq (by omega)
  have e0 : f_Md_above σ (nI r) (nI q) 0 = some (nI (F r 0) - nI (F q 0)) := by
    have e : ∀ z, (6 * nI z + 0 : Int32) = nI (6 * z + 0) := fun z => six_k (k := 0)
    unfold f_Md_above
    rw [e r, e q, gd_of (vin_nI (by omega) (by decide)), gd_of (vin_nI (by omega) (by decide)), nI_clamp (show 6 * r + 0 < 2 ^ 31 by omega), nI_clamp (show 6 * q + 0 < 2 ^ 31 by omega), b0, d0]
  have e1 : f_Md_above σ (nI r) (nI q) 1 = some (nI (F r 1) - nI (F q 1)) := by
    have e : ∀ z, (6 * nI z + 1 : Int32) = nI (6 * z + 1) := fun z => six_k (k := 1)
    unfold f_Md_above
    rw [e r, e q, gd_of (vin_nI (by omega) (by decide)), gd_of (vin_nI (by omega) (by decide)), nI_clamp (show 6 * r + 1 < 2 ^ 31 by omega), nI_clamp (show 6 * q + 1 < 2 ^ 31 by omega), b1, d1]
  unfold f_Md_doCross
  rw [e0, Option.bind_some, e1, Option.bind_some, ← cr_same a0 a1 c0 c1]
  generalize nI (F r 0) - nI (F q 0) = x
  generalize nI (F r 1) - nI (F q 1) = y
  unfold f_Md_doCross_26 crM
  by_cases c1 : x ≤ 0
  · rw [if_pos c1, if_pos c1]
    by_cases c2 : 0 ≤ x
    · rw [if_pos c2, if_pos c2]
    · rw [if_neg c2, if_neg c2]
      by_cases c3 : y ≤ 0
      · rw [if_pos c3, if_pos c3]
      · rw [if_neg c3, if_neg c3]
  · rw [if_neg c1, if_neg c1]
    by_cases c2 : y < 0
    · rw [if_pos c2, if_pos c2]
    · rw [if_neg c2, if_neg c2]
      by_cases c3 : 0 ≤ x
      · rw [if_pos c3, if_pos c3]
      · rw [if_neg c3, if_neg c3]
        by_cases c4 : y ≤ 0
        · rw [if_pos c4, if_pos c4]
        · rw [if_neg c4, if_neg c4]
theorem hang_k (c : Nat) (x y : Int32) : ∃ σ', f_Ro_hang σ c x y = some σ' ∧ σ'.1 c 0 = x ∧ σ'.1 c 1 = y ∧ σ'.1 c 7 = mx0 (y - x) ∧ σ'.1 c 8 = mx0 (x - y) ∧ ∀ i k, ¬ (i = c ∧ (k = 0 ∨ k = 1 ∨ k = 7 ∨ k = 8)) → σ'.1 i k = σ.1 i k := by
  unfold f_Ro_hang
  have p0 : (pI (pI σ c 0 x) c 1 y).1 c 0 = x := by rw [pI_ne (by omega), pI_eq]
  have p1 : (pI (pI σ c 0 x) c 1 y).1 c 1 = y := pI_eq
  rw [p0, p1]
  have q0 : (pI (pI (pI σ c 0 x) c 1 y) c 7 (f_JM_max 0 (y - x))).1 c 0 = x := by rw [pI_ne (by omega)]; exact p0
  have q1 : (pI (pI (pI σ c 0 x) c 1 y) c 7 (f_JM_max 0 (y - x))).1 c 1 = y := by rw [pI_ne (by omega)]; exact p1
  rw [q0, q1]
  refine ⟨_, rfl, ?_, ?_, ?_, ?_, fun i k g => ?_⟩
  · rw [pI_ne (by omega)]; exact q0
  · rw [pI_ne (by omega)]; exact q1
  · rw [pI_ne (by omega), pI_eq]; rfl
  · rw [pI_eq]; rfl
  · rw [pI_ne (by omega), pI_ne (by omega), pI_ne (by omega), pI_ne (by omega)]
end
def exA (l j kd br pr : Nat) (k : Nat) : Nat := if k = 0 then l else if k = 1 then j else if k = 2 then kd else if k = 3 then br else pr
def Fx (fa : Nat → Nat → Int32) (nr : Nat) (a : Nat → Nat) (r : Nat) : Nat → Nat := if r < nr then Fn fa r else a
section
variable {nr nt g lf lim np kd br pr : Nat} {fa T : Nat → Nat → Int32} {rk W K ls : Nat → Nat} {v0 v1 v : Int32} {σc σm : Sg}
def PC (nr : Nat) (fa : Nat → Nat → Int32) (np lim : Nat) (W K ls : Nat → Nat) (kd br pr : Nat) (σ : Sg) : Prop := LPk (Fn fa) (fun p => W p % 10) (fun p => K p % 10) (-1) lim (fun r => r) (2 ^ np) nr ls ∧ (∀ X, X < 2 ^ np → σ.1 46 X = nI (ls X)) ∧ σ.1 48 2 = nI kd ∧ σ.1 48 3 = nI br ∧ σ.1 48 4 = nI pr
def PM (nr : Nat) (fa : Nat → Nat → Int32) (rk : Nat → Nat) (kd br pr : Nat) (σ : Sg) : Prop := MV' nr fa rk σ ∧ σ.1 73 (6 * nr + 2) = nI kd ∧ σ.1 73 (6 * nr + 3) = nI br ∧ σ.1 73 (6 * nr + 4) = nI pr
def PJ (v : Int32) (σc σm : Sg) : Prop := σc.1 43 8 = σm.1 66 28 ∧ (σm.1 66 28 = -1 → σm.1 66 26 = -1 ∧ σm.1 66 27 = -1) ∧ (¬ σm.1 66 28 = -1 → σc.1 43 6 = σm.1 66 26 ∧ σc.1 43 7 = σm.1 66 27 ∧ σc.1 43 9 = v)
set_option maxHeartbeats 2000000 in
theorem try_k (hs : Sta nr fa nt T g lf lim np W K) (hkd : kd < 10) (hbr : br < 10) (hpr : pr < 10) {l j : Nat} (hl : l < 10) (hj : j < 10) (h : Dat nr fa rk nt T g lf lim np W K v0 v1 σc) (h' : Dat nr fa rk nt T g lf lim np W K v0 v1 σm) (pc : PC nr fa np lim W K ls kd br pr σc) (pm : PM nr fa rk kd br pr σm) (pj : PJ v σc σm) : ∃ σ6 σ8 σm' v', f_Ro_hang σc 48 (nI l) (nI j) = some σ6 ∧ f_Mi_tryPegs σ6 (nI lim) = some σ8 ∧ (∀ m, f_Md_findPegs_60 (m + 1) σm (nI (6 * nr)) v (nI (10 * l + j)) = f_Md_findPegs_60 m σm' (nI (6 * nr)) v' (nI (10 * l + j + 1))) ∧ Dat nr fa rk nt T g lf lim np W K v0 v1 σ8 ∧ Dat nr fa rk nt T g lf lim np W K v0 v1 σm' ∧ PC nr fa np lim W K ls kd br pr σ8 ∧ PM nr fa rk kd br pr σm' ∧ PJ v' σ8 σm' ∧ Kp σc σ8 ∧ Kp σm σm' := by
  have n5 := hs.2.2.2.2.2.1
  have hl9 := hs.2.2.2.2.1
  have h8 := h.1.1
  have nwv : NW = 268435456 := rfl
  have p32 : 2 ^ np ≤ 32 := p2_32 ⟨np, by omega⟩
  have p1 : 1 ≤ 2 ^ np := Nat.one_le_two_pow
  obtain ⟨hL, h46, k2, k3, k4⟩ := pc
  obtain ⟨hm, f2, f3, f4⟩ := pm
  obtain ⟨j1, j2, j3⟩ := pj
  -- the class hangs the rope and reckons it alone
  obtain ⟨σ6, g1, g2, g3, g4, g5, g6⟩ := hang_k (σ := σc) 48 (nI l) (nI j)
  have kp6 : Kp σc σ6 := fun i k q _ => g6 i k (by unfold scC at q; omega)
  have h6 := h.of kp6
  have cw6 := h6.cw hs
  have rc : RC 48 (exA l j kd br pr) σ6 := by
    refine ⟨fun k hk => ?_, ?_, ?_, ?_, ?_, ?_⟩
    · unfold exA; split; exact hl; split; exact hj; split; exact hkd; split; exact hbr; exact hpr
    · rw [g6 _ _ (by omega)]; exact k2
    · rw [g6 _ _ (by omega)]; exact k3
    · rw [g6 _ _ (by omega)]; exact k4
    · rw [g4]; exact mx_dec ⟨j, hj⟩ ⟨l, hl⟩
    · rw [g5]; exact mx_dec ⟨l, hl⟩ ⟨j, hj⟩
  obtain ⟨av, hav⟩ := AP_ex (exA l j kd br pr) (fun p => W p % 10) (fun p => K p % 10) lim 0
  obtain ⟨σ7, e1, e2, e3⟩ := alone_k hav (show 48 ≠ 47 by omega) (show 0 ≤ 7 by omega) hl9 rc cw6.2.2.2
  have kp7 : Kp σ6 σ7 := fun i k q _ => e2 i k (by unfold scC at q; omega)
  have h7 := h6.of kp7
  have cw7 := h7.cw hs
  have c46 : ∀ X, X < 2 ^ np → σ7.1 46 X = nI (ls X) := fun X hX => by rw [e2 _ _ (by omega), g6 _ _ (by omega)]; exact h46 X hX
  have avl : ∀ X, av X ≤ NW := fun X => av_le rc.1 (fun p => Nat.mod_lt _ (by omega)) (show 0 ≤ 7 by omega) hav X
  have ljx : ∀ S, ∃ b, S < 2 ^ np → f_Mi_leastJoined σ7 (nI S) = some (nI b) ∧ LJ ls av S b := fun S => by
    by_cases c : S < 2 ^ np
    · obtain ⟨b, b1, b2⟩ := lj_k (σ := σ7) (S := S) (ls := ls) (av := av) (by omega) (fun X hX => ⟨c46 X (by omega), (hL X (by omega)).1⟩) (fun X hX => ⟨e3 X (by omega), avl X⟩)
      exact ⟨b, fun _ => ⟨b1, b2⟩⟩
    · exact ⟨0, fun q => absurd q c⟩
  obtain ⟨l2, hl2⟩ := Classical.axiomOfChoice ljx
  have l20 : l2 0 = ls 0 := by
    obtain ⟨-, -, -, z⟩ := hl2 0 (by omega)
    rcases z with z | ⟨X, x0, -, x2, -⟩
    · exact z
    · have := sb_le x2; omega
  have hF : ∀ r, r < nr → Fx fa nr (exA l j kd br pr) r = Fn fa r := fun r hr => by unfold Fx; rw [if_pos hr]
  have hFn : Fx fa nr (exA l j kd br pr) nr = exA l j kd br pr := by unfold Fx; rw [if_neg (by omega)]
  have hL' := LPk_ext (F' := Fx fa nr (exA l j kd br pr)) (num' := fun r => if r < nr then r else 0) hF (fun r hr => if_pos hr) hL
  have hL2 : LPk (Fx fa nr (exA l j kd br pr)) (fun p => W p % 10) (fun p => K p % 10) (-1) lim (fun r => if r < nr then r else 0) (2 ^ np) (nr + 1) l2 := LP_join p32 (fun S X hS => Nat.lt_of_le_of_lt Nat.and_le_left hS) hL' (by rw [hFn]; simpa using hav) (nI_m1 (by omega)) l20 (fun S _ hS => (hl2 S hS).2)
  have elj := (hl2 (2 ^ np - 1) (by omega)).1
  have met := metBy_k (c := 48) (f := fun q => crP (nI l - nI (Fn fa q 0)) (nI j - nI (Fn fa q 1))) cw7.2.1 h8 (fun q hq => by
    unfold f_Ro_meets crP
    rw [e2 48 0 (by omega), e2 48 1 (by omega), g2, g3, (h7.1.2.2 q hq).1 0 (by omega), (h7.1.2.2 q hq).1 1 (by omega), (Fn_k hs.1 hq (show 0 < 6 by omega)).1, (Fn_k hs.1 hq (show 1 < 6 by omega)).1])
  -- the model writes the pegs down and searches
  have fr : ∀ i k, ¬ (i = 73 ∧ (k = 6 * nr ∨ k = 6 * nr + 1)) → (pI (pI σm 73 (6 * nr) (nI l)) 73 (6 * nr + 1) (nI j)).1 i k = σm.1 i k := fun i k q => by rw [pI_ne (by omega), pI_ne (by omega)]
  have kpa : Kp σm (pI (pI σm 73 (6 * nr) (nI l)) 73 (6 * nr + 1) (nI j)) := fun i k _ q => fr i k (by unfold scM at q; omega)
  have ha := h'.of kpa
  have hma : MV' nr fa rk (pI (pI σm 73 (6 * nr) (nI l)) 73 (6 * nr + 1) (nI j)) := ⟨hm.1, (fr _ _ (by omega)).trans hm.2.1, fun r k hr hk => (fr _ _ (by omega)).trans (hm.2.2.1 r k hr hk), fun r hr => (fr _ _ (by omega)).trans (hm.2.2.2 r hr)⟩
  have mwa : MW (nr + 1) (Fx fa nr (exA l j kd br pr)) np lim (fun p => W p % 10) (fun p => K p % 10) (pI (pI σm 73 (6 * nr) (nI l)) 73 (6 * nr + 1) (nI j)) := by
    obtain ⟨w1, w2, w3, w4, w5, w6, w7, w8⟩ := ha.mw hs hma
    refine ⟨by omega, w2, w3, w4, fun r k hr hk => ?_, w6, w7, w8⟩
    by_cases c : r < nr
    · rw [hF r c]; exact w5 r k c hk
    · have : r = nr := by omega
      subst this
      rw [hFn]
      refine ⟨rc.1 k hk, ?_⟩
      rcases (show k = 0 ∨ k = 1 ∨ k = 2 ∨ k = 3 ∨ k = 4 by omega) with rfl | rfl | rfl | rfl | rfl
      · rw [pI_ne (by omega), Nat.add_zero, pI_eq]; rfl
      · rw [pI_eq]; rfl
      · rw [fr _ _ (by omega)]; exact f2
      · rw [fr _ _ (by omega)]; exact f3
      · rw [fr _ _ (by omega)]; exact f4
  obtain ⟨σb, b1, b2, b3⟩ := find_k (wo := -1) mwa
  have mwb := mwa.of b2
  have kpb : Kp σm σb := kpa.tr b2.kp
  have hmb := b2.mv hma
  have cr : f_Md_crossesWith σb (nI nr) = some (nI (cnC (fun q => crP (nI l - nI (Fn fa q 0)) (nI j - nI (Fn fa q 1))) nr)) := crWith_g (f := fun q => crP (nI l - nI (Fn fa q 0)) (nI j - nI (Fn fa q 1))) hmb.2.1 h8 h8 (fun q hq _ => by
    have := cross_w mwb (r := nr) (q := q) (by omega) (by omega)
    rw [hFn, hF q hq] at this
    exact this) (fun q => by omega) nr FU 0 (by omega) (by unfold FU; omega)
  obtain ⟨x, x1, x2⟩ : ∃ x : Int32, f_Mi_costOf (nI (l2 (2 ^ np - 1))) = x ∧ σb.1 66 24 = x := by
    unfold f_Mi_costOf
    rcases mill_cost (num := fun r => if r < nr then r else 0) (fun r hr => by split <;> omega) mwb hL2 b3 with ⟨z1, z2⟩ | ⟨c, c1, c2, c3, c4⟩
    · refine ⟨-1, ?_, z2⟩
      rw [z1, if_pos (show (268435456 : Int32) ≤ nI NW by decide)]
    · refine ⟨nI c, ?_, c4⟩
      rw [if_neg (show ¬ (268435456 : Int32) ≤ nI (l2 (2 ^ np - 1)) from nI_ge (b := 268435456) (by omega) (by omega)), pk_shrN (by omega) _ 15 (by decide), ← c3]
  generalize hMd : nI (cnC (fun q => crP (nI l - nI (Fn fa q 0)) (nI j - nI (Fn fa q 1))) nr) = md at met cr
  -- what both compare
  have s43 : ∀ k, σ7.1 43 k = σc.1 43 k := fun k => by rw [e2 _ _ (by omega), g6 _ _ (by omega)]
  have s48 : σ7.1 48 0 = nI l ∧ σ7.1 48 1 = nI j := ⟨by rw [e2 _ _ (by omega)]; exact g2, by rw [e2 _ _ (by omega)]; exact g3⟩
  have m66 : ∀ k, k ≠ 24 → k ≠ 25 → σb.1 66 k = σm.1 66 k := fun k q1 q2 => by rw [b2 _ _ (by omega) (by omega) (by omega) (by omega), fr _ _ (by omega)]
  have m73 : ∀ k, k ≠ 6 * nr → k ≠ 6 * nr + 1 → σb.1 73 k = σm.1 73 k := fun k q1 q2 => by rw [b2 _ _ (by omega) (by omega) (by omega) (by omega), fr _ _ (by omega)]
  have pc7 : PC nr fa np lim W K ls kd br pr σ7 := ⟨hL, c46, by rw [e2 _ _ (by omega)]; exact rc.2.1, by rw [e2 _ _ (by omega)]; exact rc.2.2.1, by rw [e2 _ _ (by omega)]; exact rc.2.2.2.1⟩
  have pmb : PM nr fa rk kd br pr σb := ⟨hmb, by rw [m73 _ (by omega) (by omega)]; exact f2, by rw [m73 _ (by omega) (by omega)]; exact f3, by rw [m73 _ (by omega) (by omega)]; exact f4⟩
  have n10' : (nI (10 * l + j) / 10 : Int32) = nI l := by
    have := pk_div (a := 10 * l + j) (d := 10) (by omega) (by omega) (by omega)
    rw [show (10 * l + j) / 10 = l by omega] at this
    exact this
  have n10r : (nI (10 * l + j) - nI (10 * l + j) / 10 * 10 : Int32) = nI j := by
    have := pk_rem (a := 10 * l + j) (d := 10) (by omega) (by omega) (by omega)
    rw [show (10 * l + j) % 10 = j by omega] at this
    exact this
  have n10s : (nI (10 * l + j) - nI l * 10 : Int32) = nI j := by rw [← n10']; exact n10r
  have v41 : (nI (6 * nr) + 1 : Int32) = nI (6 * nr + 1) := nI_1 _
  have eC : f_Mi_tryPegs σ6 (nI lim) = if σc.1 43 8 = -1 then f_Mi_tryPegs_65 σ7 x md else if x < σc.1 43 8 then f_Mi_tryPegs_65 σ7 x md else if x = σc.1 43 8 then (if σc.1 43 9 ≤ md then f_Mi_tryPegs_69 σ7 x md else f_Mi_tryPegs_65 σ7 x md) else f_Mi_tryPegs_69 σ7 x md := by
    unfold f_Mi_tryPegs
    have e1' : f_Mi_reckonAlone σ6 48 0 (nI lim) = some σ7 := e1
    rw [e1', Option.bind_some, all_k cw7.2.2.2, elj, Option.bind_some, met, Option.bind_some, s43, s43, x1]
  have eM : ∀ m, f_Md_findPegs_60 (m + 1) σm (nI (6 * nr)) v (nI (10 * l + j)) = if x = -1 then f_Md_findPegs_189 (f_Md_findPegs_60 m) σb (nI (6 * nr)) v (nI (10 * l + j)) else if σm.1 66 28 = -1 then f_Md_findPegs_159 (f_Md_findPegs_60 m) σb (nI (6 * nr)) (nI (10 * l + j)) md else if x < σm.1 66 28 then f_Md_findPegs_159 (f_Md_findPegs_60 m) σb (nI (6 * nr)) (nI (10 * l + j)) md else if x = σm.1 66 28 then (if v ≤ md then f_Md_findPegs_189 (f_Md_findPegs_60 m) σb (nI (6 * nr)) v (nI (10 * l + j)) else f_Md_findPegs_159 (f_Md_findPegs_60 m) σb (nI (6 * nr)) (nI (10 * l + j)) md) else f_Md_findPegs_189 (f_Md_findPegs_60 m) σb (nI (6 * nr)) v (nI (10 * l + j)) := fun m => by
    rw [f_Md_findPegs_60_s, if_neg (show ¬ (100 : Int32) ≤ nI (10 * l + j) from nI_ge (b := 100) (by omega) (by omega)), v41, gd_of (vin_nI (by omega) (by decide)), gd_of (vin_nI (by omega) (by decide)), nI_clamp (show 6 * nr < 2 ^ 31 by omega), nI_clamp (show 6 * nr + 1 < 2 ^ 31 by omega), n10', n10s, hma.2.1, nI_1, b1, Option.bind_some, hmb.2.1, cr, Option.bind_some, x2, m66 28 (by omega) (by omega)]
  have none_k : f_Mi_tryPegs σ6 (nI lim) = some σ7 → (∀ m, f_Md_findPegs_60 (m + 1) σm (nI (6 * nr)) v (nI (10 * l + j)) = f_Md_findPegs_189 (f_Md_findPegs_60 m) σb (nI (6 * nr)) v (nI (10 * l + j))) → ∃ σ6 σ8 σm' v', f_Ro_hang σc 48 (nI l) (nI j) = some σ6 ∧ f_Mi_tryPegs σ6 (nI lim) = some σ8 ∧ (∀ m, f_Md_findPegs_60 (m + 1) σm (nI (6 * nr)) v (nI (10 * l + j)) = f_Md_findPegs_60 m σm' (nI (6 * nr)) v' (nI (10 * l + j + 1))) ∧ Dat nr fa rk nt T g lf lim np W K v0 v1 σ8 ∧ Dat nr fa rk nt T g lf lim np W K v0 v1 σm' ∧ PC nr fa np lim W K ls kd br pr σ8 ∧ PM nr fa rk kd br pr σm' ∧ PJ v' σ8 σm' ∧ Kp σc σ8 ∧ Kp σm σm' := fun q1 q2 => by
    refine ⟨σ6, σ7, σb, v, g1, q1, fun m => ?_, h7, h'.of kpb, pc7, pmb, ⟨?_, ?_, ?_⟩, kp6.tr kp7, kpb⟩
    · rw [q2 m]
      unfold f_Md_findPegs_189
      rw [nI_1]
    · rw [s43, m66 28 (by omega) (by omega)]; exact j1
    · rw [m66 28 (by omega) (by omega), m66 26 (by omega) (by omega), m66 27 (by omega) (by omega)]; exact j2
    · rw [m66 28 (by omega) (by omega), m66 26 (by omega) (by omega), m66 27 (by omega) (by omega), s43, s43, s43]; exact j3
  have take_k : ¬ x = -1 → f_Mi_tryPegs σ6 (nI lim) = f_Mi_tryPegs_65 σ7 x md → (∀ m, f_Md_findPegs_60 (m + 1) σm (nI (6 * nr)) v (nI (10 * l + j)) = f_Md_findPegs_159 (f_Md_findPegs_60 m) σb (nI (6 * nr)) (nI (10 * l + j)) md) → ∃ σ6 σ8 σm' v', f_Ro_hang σc 48 (nI l) (nI j) = some σ6 ∧ f_Mi_tryPegs σ6 (nI lim) = some σ8 ∧ (∀ m, f_Md_findPegs_60 (m + 1) σm (nI (6 * nr)) v (nI (10 * l + j)) = f_Md_findPegs_60 m σm' (nI (6 * nr)) v' (nI (10 * l + j + 1))) ∧ Dat nr fa rk nt T g lf lim np W K v0 v1 σ8 ∧ Dat nr fa rk nt T g lf lim np W K v0 v1 σm' ∧ PC nr fa np lim W K ls kd br pr σ8 ∧ PM nr fa rk kd br pr σm' ∧ PJ v' σ8 σm' ∧ Kp σc σ8 ∧ Kp σm σm' := fun qx q1 q2 => by
    have t48 : (pI σ7 43 6 (nI l)).1 48 1 = nI j := by rw [pI_ne (by omega)]; exact s48.2
    have w1 : f_Mi_tryPegs_65 σ7 x md = some (pI (pI (pI (pI σ7 43 6 (nI l)) 43 7 (nI j)) 43 8 x) 43 9 md) := by
      unfold f_Mi_tryPegs_65 f_Mi_tryPegs_70
      rw [if_neg qx, if_neg (show ¬ (1 : Int32) = 0 by decide), s48.1, t48]
    have t24 : (pI (pI σb 66 26 (nI l)) 66 27 (nI j)).1 66 24 = x := by rw [pI_ne (by omega), pI_ne (by omega)]; exact x2
    have w2 : ∀ m, f_Md_findPegs_159 (f_Md_findPegs_60 m) σb (nI (6 * nr)) (nI (10 * l + j)) md = f_Md_findPegs_60 m (pI (pI (pI σb 66 26 (nI l)) 66 27 (nI j)) 66 28 x) (nI (6 * nr)) md (nI (10 * l + j + 1)) := fun m => by
      unfold f_Md_findPegs_159 f_Md_findPegs_189
      rw [n10', n10s, t24, nI_1]
    have c43 : ∀ i k, ¬ (i = 43 ∧ 6 ≤ k) → (pI (pI (pI (pI σ7 43 6 (nI l)) 43 7 (nI j)) 43 8 x) 43 9 md).1 i k = σ7.1 i k := fun i k q => by rw [pI_ne (by omega), pI_ne (by omega), pI_ne (by omega), pI_ne (by omega)]
    have d66 : ∀ i k, ¬ (i = 66 ∧ (k = 26 ∨ k = 27 ∨ k = 28)) → (pI (pI (pI σb 66 26 (nI l)) 66 27 (nI j)) 66 28 x).1 i k = σb.1 i k := fun i k q => by rw [pI_ne (by omega), pI_ne (by omega), pI_ne (by omega)]
    have kc : Kp σ7 (pI (pI (pI (pI σ7 43 6 (nI l)) 43 7 (nI j)) 43 8 x) 43 9 md) := fun i k q _ => c43 i k (by unfold scC at q; omega)
    have km : Kp σb (pI (pI (pI σb 66 26 (nI l)) 66 27 (nI j)) 66 28 x) := fun i k _ q => d66 i k (by unfold scM at q; omega)
    refine ⟨σ6, _, _, md, g1, q1.trans w1, fun m => (q2 m).trans (w2 m), h7.of kc, (h'.of kpb).of km, ⟨hL, fun X hX => by rw [c43 _ _ (by omega)]; exact c46 X hX, by rw [c43 _ _ (by omega)]; exact pc7.2.2.1, by rw [c43 _ _ (by omega)]; exact pc7.2.2.2.1, by rw [c43 _ _ (by omega)]; exact pc7.2.2.2.2⟩, ⟨hmb.of (d66 _ _ (by omega)) (fun k => d66 _ _ (by omega)) (fun k => d66 _ _ (by omega)), by rw [d66 _ _ (by omega)]; exact pmb.2.1, by rw [d66 _ _ (by omega)]; exact pmb.2.2.1, by rw [d66 _ _ (by omega)]; exact pmb.2.2.2⟩, ⟨?_, fun q => ?_, fun _ => ⟨?_, ?_, ?_⟩⟩, (kp6.tr kp7).tr kc, kpb.tr km⟩
    · rw [pI_ne (by omega), pI_eq, pI_eq]
    · rw [pI_eq] at q; exact absurd q qx
    · rw [pI_ne (by omega), pI_ne (by omega), pI_ne (by omega), pI_eq, pI_ne (by omega), pI_ne (by omega), pI_eq]
    · rw [pI_ne (by omega), pI_ne (by omega), pI_eq, pI_ne (by omega), pI_eq]
    · rw [pI_eq]
  by_cases cx : x = -1
  · refine none_k ?_ (fun m => by rw [eM m, if_pos cx])
    rw [eC]
    unfold f_Mi_tryPegs_65 f_Mi_tryPegs_69 f_Mi_tryPegs_70
    rw [if_pos cx, if_pos cx]
    simp only [ite_self]
  · by_cases cy : σm.1 66 28 = -1
    · exact take_k cx (by rw [eC, j1, if_pos cy]) (fun m => by rw [eM m, if_neg cx, if_pos cy])
    · have e9 := (j3 cy).2.2
      have no : f_Mi_tryPegs_69 σ7 x md = some σ7 := by
        unfold f_Mi_tryPegs_69 f_Mi_tryPegs_70
        rw [if_neg cx, if_pos rfl]
      by_cases c1 : x < σm.1 66 28
      · exact take_k cx (by rw [eC, j1, if_neg cy, if_pos c1]) (fun m => by rw [eM m, if_neg cx, if_neg cy, if_pos c1])
      · by_cases c2 : x = σm.1 66 28
        · by_cases c3 : v ≤ md
          · exact none_k (by rw [eC, j1, if_neg cy, if_neg c1, if_pos c2, e9, if_pos c3]; exact no) (fun m => by rw [eM m, if_neg cx, if_neg cy, if_neg c1, if_pos c2, if_pos c3])
          · exact take_k cx (by rw [eC, j1, if_neg cy, if_neg c1, if_pos c2, e9, if_neg c3]) (fun m => by rw [eM m, if_neg cx, if_neg cy, if_neg c1, if_pos c2, if_neg c3])
        · exact none_k (by rw [eC, j1, if_neg cy, if_neg c1, if_neg c2]; exact no) (fun m => by rw [eM m, if_neg cx, if_neg cy, if_neg c1, if_neg c2])
end
