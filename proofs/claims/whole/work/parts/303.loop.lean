set_option maxHeartbeats 8000000 in
set_option maxRecDepth 20000 in
theorem law_body {V : Vx} {X : Xx} {Q : State → Prop} {B L i : Nat} {ys : Nat → Int32} {Rel : Sg → Prop} (hE : AllE Rel) (hB : Scr V X B L ys) (hi : i + 6 ≤ L) (hL : L ≤ 3072) {σ : Sg} (hR : Rel σ) (kk : ∀ σ2, Rel σ2 → JL V X Q σ2 1296 (lawlv V B i) []) : JL V X Q σ 27 (lawlv V B i) [] := by
  obtain ⟨h0, h1, h2, h3, h4, h5, h6, h7, h8, h9, h10, h11, h12, h13, h14, h15, h16, h17, h18, h19, h20, h21, h22, h23, h24, h25, h26, h27, h28, h29, h30, h31, h32, h33, h34⟩ := hE
  refine J_aload_n (pc' := 28) d_law_27 rfl 0 rfl ?_
  refine J_iload_n (pc' := 29) d_law_28 rfl 3 rfl ?_
  refine J_sld (pc' := 30) hB d_law_29 rfl (vin_0 hi hL) ?_
  refine J_bipush (pc' := 32) (v := 63) d_law_30 rfl (by decide) ?_
  refine J_iand (pc' := 33) d_law_32 rfl ?_
  generalize ys (nI i).toNatClampNeg &&& 63 = x
  by_cases c0 : x = 0
  · refine J_tsIn (tgt := 188) (off := 155) 0 d_law_33 (by rw [c0]; decide) (by decide) (by decide) rfl (by decide) ?_
    exact lc_type h0 hB hi hL hR kk
  by_cases c1 : x = 1
  · refine J_tsIn (tgt := 221) (off := 188) 1 d_law_33 (by rw [c1]; decide) (by decide) (by decide) rfl (by decide) ?_
    exact lc_wipe h1 hB hi hL hR kk
  by_cases c2 : x = 2
  · refine J_tsIn (tgt := 244) (off := 211) 2 d_law_33 (by rw [c2]; decide) (by decide) (by decide) rfl (by decide) ?_
    exact lc_fault h2 hB hi hL hR kk
  by_cases c3 : x = 3
  · refine J_tsIn (tgt := 267) (off := 234) 3 d_law_33 (by rw [c3]; decide) (by decide) (by decide) rfl (by decide) ?_
    exact lc_rope h3 hB hi hL hR kk
  by_cases c4 : x = 4
  · refine J_tsIn (tgt := 300) (off := 267) 4 d_law_33 (by rw [c4]; decide) (by decide) (by decide) rfl (by decide) ?_
    exact lc_crosses h4 hB hi hL hR kk
  by_cases c5 : x = 5
  · refine J_tsIn (tgt := 343) (off := 310) 5 d_law_33 (by rw [c5]; decide) (by decide) (by decide) rfl (by decide) ?_
    exact lc_crossing h5 hB hi hL hR kk
  by_cases c6 : x = 6
  · refine J_tsIn (tgt := 397) (off := 364) 6 d_law_33 (by rw [c6]; decide) (by decide) (by decide) rfl (by decide) ?_
    exact lc_takes h6 hB hi hL hR kk
  by_cases c7 : x = 7
  · refine J_tsIn (tgt := 450) (off := 417) 7 d_law_33 (by rw [c7]; decide) (by decide) (by decide) rfl (by decide) ?_
    exact lc_set h7 hB hi hL hR kk
  by_cases c8 : x = 8
  · refine J_tsIn (tgt := 483) (off := 450) 8 d_law_33 (by rw [c8]; decide) (by decide) (by decide) rfl (by decide) ?_
    exact lc_trip h8 hB hi hL hR kk
  by_cases c9 : x = 9
  · refine J_tsIn (tgt := 546) (off := 513) 9 d_law_33 (by rw [c9]; decide) (by decide) (by decide) rfl (by decide) ?_
    exact lc_read h9 hB hi hL hR kk
  by_cases c10 : x = 10
  · refine J_tsIn (tgt := 579) (off := 546) 10 d_law_33 (by rw [c10]; decide) (by decide) (by decide) rfl (by decide) ?_
    exact lc_undo h10 hB hi hL hR kk
  by_cases c11 : x = 11
  · refine J_tsIn (tgt := 592) (off := 559) 11 d_law_33 (by rw [c11]; decide) (by decide) (by decide) rfl (by decide) ?_
    exact lc_clash h11 hB hi hL hR kk
  by_cases c12 : x = 12
  · refine J_tsIn (tgt := 635) (off := 602) 12 d_law_33 (by rw [c12]; decide) (by decide) (by decide) rfl (by decide) ?_
    exact lc_clashes h12 hB hi hL hR kk
  by_cases c13 : x = 13
  · refine J_tsIn (tgt := 648) (off := 615) 13 d_law_33 (by rw [c13]; decide) (by decide) (by decide) rfl (by decide) ?_
    exact lc_putOff h13 hB hi hL hR kk
  by_cases c14 : x = 14
  · refine J_tsIn (tgt := 671) (off := 638) 14 d_law_33 (by rw [c14]; decide) (by decide) (by decide) rfl (by decide) ?_
    exact lc_frayed h14 hB hi hL hR kk
  by_cases c15 : x = 15
  · refine J_tsIn (tgt := 704) (off := 671) 15 d_law_33 (by rw [c15]; decide) (by decide) (by decide) rfl (by decide) ?_
    exact lc_yet h15 hB hi hL hR kk
  by_cases c16 : x = 16
  · refine J_tsIn (tgt := 737) (off := 704) 16 d_law_33 (by rw [c16]; decide) (by decide) (by decide) rfl (by decide) ?_
    exact lc_heavy h16 hB hi hL hR kk
  by_cases c17 : x = 17
  · refine J_tsIn (tgt := 750) (off := 717) 17 d_law_33 (by rw [c17]; decide) (by decide) (by decide) rfl (by decide) ?_
    exact lc_wind h17 hB hi hL hR kk
  by_cases c18 : x = 18
  · refine J_tsIn (tgt := 773) (off := 740) 18 d_law_33 (by rw [c18]; decide) (by decide) (by decide) rfl (by decide) ?_
    exact lc_part h18 hB hi hL hR kk
  by_cases c19 : x = 19
  · refine J_tsIn (tgt := 806) (off := 773) 19 d_law_33 (by rw [c19]; decide) (by decide) (by decide) rfl (by decide) ?_
    exact lc_gone h19 hB hi hL hR kk
  by_cases c20 : x = 20
  · refine J_tsIn (tgt := 819) (off := 786) 20 d_law_33 (by rw [c20]; decide) (by decide) (by decide) rfl (by decide) ?_
    exact lc_sent h20 hB hi hL hR kk
  by_cases c21 : x = 21
  · refine J_tsIn (tgt := 842) (off := 809) 21 d_law_33 (by rw [c21]; decide) (by decide) (by decide) rfl (by decide) ?_
    exact lc_cut h21 hB hi hL hR kk
  by_cases c22 : x = 22
  · refine J_tsIn (tgt := 865) (off := 832) 22 d_law_33 (by rw [c22]; decide) (by decide) (by decide) rfl (by decide) ?_
    exact lc_needed h22 hB hi hL hR kk
  by_cases c23 : x = 23
  · refine J_tsIn (tgt := 878) (off := 845) 23 d_law_33 (by rw [c23]; decide) (by decide) (by decide) rfl (by decide) ?_
    exact lc_pegs h23 hB hi hL hR kk
  by_cases c24 : x = 24
  · refine J_tsIn (tgt := 931) (off := 898) 24 d_law_33 (by rw [c24]; decide) (by decide) (by decide) rfl (by decide) ?_
    exact lc_balance h24 hB hi hL hR kk
  by_cases c25 : x = 25
  · refine J_tsIn (tgt := 954) (off := 921) 25 d_law_33 (by rw [c25]; decide) (by decide) (by decide) rfl (by decide) ?_
    exact lc_settled h25 hB hi hL hR kk
  by_cases c26 : x = 26
  · refine J_tsIn (tgt := 967) (off := 934) 26 d_law_33 (by rw [c26]; decide) (by decide) (by decide) rfl (by decide) ?_
    exact lc_knots h26 hB hi hL hR kk
  by_cases c27 : x = 27
  · refine J_tsIn (tgt := 1011) (off := 978) 27 d_law_33 (by rw [c27]; decide) (by decide) (by decide) rfl (by decide) ?_
    exact lc_sheet h27 hB hi hL hR kk
  by_cases c28 : x = 28
  · refine J_tsIn (tgt := 1054) (off := 1021) 28 d_law_33 (by rw [c28]; decide) (by decide) (by decide) rfl (by decide) ?_
    exact lc_lose h28 hB hi hL hR kk
  by_cases c29 : x = 29
  · refine J_tsIn (tgt := 1077) (off := 1044) 29 d_law_33 (by rw [c29]; decide) (by decide) (by decide) rfl (by decide) ?_
    exact lc_lay h29 hB hi hL hR kk
  by_cases c30 : x = 30
  · refine J_tsIn (tgt := 1130) (off := 1097) 30 d_law_33 (by rw [c30]; decide) (by decide) (by decide) rfl (by decide) ?_
    exact lc_get h30 hB hi hL hR kk
  by_cases c31 : x = 31
  · refine J_tsIn (tgt := 1173) (off := 1140) 31 d_law_33 (by rw [c31]; decide) (by decide) (by decide) rfl (by decide) ?_
    exact lc_copy h31 hB hi hL hR kk
  by_cases c32 : x = 32
  · refine J_tsIn (tgt := 1236) (off := 1203) 32 d_law_33 (by rw [c32]; decide) (by decide) (by decide) rfl (by decide) ?_
    exact lc_write h32 hB hi hL hR kk
  by_cases c33 : x = 33
  · refine J_tsIn (tgt := 1259) (off := 1226) 33 d_law_33 (by rw [c33]; decide) (by decide) (by decide) rfl (by decide) ?_
    exact lc_count h33 hB hi hL hR kk
  by_cases c34 : x = 34
  · refine J_tsIn (tgt := 1282) (off := 1249) 34 d_law_33 (by rw [c34]; decide) (by decide) (by decide) rfl (by decide) ?_
    exact lc_digest h34 hB hi hL hR kk
  have e0 := neI (z := 0) c0 (by decide)
  have e1 := neI (z := 1) c1 (by decide)
  have e2 := neI (z := 2) c2 (by decide)
  have e3 := neI (z := 3) c3 (by decide)
  have e4 := neI (z := 4) c4 (by decide)
  have e5 := neI (z := 5) c5 (by decide)
  have e6 := neI (z := 6) c6 (by decide)
  have e7 := neI (z := 7) c7 (by decide)
  have e8 := neI (z := 8) c8 (by decide)
  have e9 := neI (z := 9) c9 (by decide)
  have e10 := neI (z := 10) c10 (by decide)
  have e11 := neI (z := 11) c11 (by decide)
  have e12 := neI (z := 12) c12 (by decide)
  have e13 := neI (z := 13) c13 (by decide)
  have e14 := neI (z := 14) c14 (by decide)
  have e15 := neI (z := 15) c15 (by decide)
  have e16 := neI (z := 16) c16 (by decide)
  have e17 := neI (z := 17) c17 (by decide)
  have e18 := neI (z := 18) c18 (by decide)
  have e19 := neI (z := 19) c19 (by decide)
  have e20 := neI (z := 20) c20 (by decide)
  have e21 := neI (z := 21) c21 (by decide)
  have e22 := neI (z := 22) c22 (by decide)
  have e23 := neI (z := 23) c23 (by decide)
  have e24 := neI (z := 24) c24 (by decide)
  have e25 := neI (z := 25) c25 (by decide)
  have e26 := neI (z := 26) c26 (by decide)
  have e27 := neI (z := 27) c27 (by decide)
  have e28 := neI (z := 28) c28 (by decide)
  have e29 := neI (z := 29) c29 (by decide)
  have e30 := neI (z := 30) c30 (by decide)
  have e31 := neI (z := 31) c31 (by decide)
  have e32 := neI (z := 32) c32 (by decide)
  have e33 := neI (z := 33) c33 (by decide)
  have e34 := neI (z := 34) c34 (by decide)
  refine J_tsOut (tgt := 1296) d_law_33 (by omega) (by decide) ?_
  exact kk _ hR
theorem le_of_sub {i L : Nat} (hi : i < 2 ^ 30) (hL : L < 2 ^ 30) (h : ¬ nI L - 6 < nI i) : i + 6 ≤ L := by
  have h1 : (nI L - 6).toInt = (L : Int) - 6 := by
    have := pk_sub_toInt (a := L) (b := 6) hL (by decide)
    exact this
  have h2 : (nI i).toInt = (i : Int) := nI_toInt (by omega)
  rw [Int32.lt_iff_toInt_lt, h1, h2] at h
  omega
set_option maxHeartbeats 4000000 in
theorem law_loop {V : Vx} {X : Xx} {Q : State → Prop} {B L : Nat} {ys : Nat → Int32} {Rel : Sg → Prop} (hE : AllE Rel) (hB : Scr V X B L ys) (hL : L ≤ 3072) (hend : ∀ σ i, JL V X Q σ 1303 (lawlv V B i) [.int 1]) :
    ∀ (n i : Nat) (σ : Sg), Rel σ → i ≤ L + 6 → L + 6 < i + n → JL V X Q σ 18 (lawlv V B i) [] := by
  intro n
  induction n with
  | zero => intro i σ hR hi hn; omega
  | succ n ih =>
    intro i σ hR hi hn
    refine J_iload_n (pc' := 19) d_law_18 rfl 3 rfl ?_
    refine J_aload_n (pc' := 20) d_law_19 rfl 0 rfl ?_
    refine J_slen (pc' := 21) hB d_law_20 rfl ?_
    refine J_bipush (pc' := 23) (v := 6) d_law_21 rfl (by decide) ?_
    refine J_isub (pc' := 24) d_law_23 rfl ?_
    refine J_icmp_gt (pc' := 27) (tgt := 1302) d_law_24 rfl (by decide) (fun hc => ?_) (fun hc => ?_)
    · refine J_iconst (pc' := 1303) (v := 1) d_law_1302 rfl ic_1 ?_
      exact hend σ i
    · have h6 := le_of_sub (i := i) (L := L) (by omega) (by omega) hc
      refine law_body hE hB h6 hL hR (fun σ2 hR2 => ?_)
      have e6 : nI i + 6 = nI (i + 6) := nI_add i 6
      refine J_iinc (pc' := 1299) (j := 3) (v := 6) (lv' := [(3, .int (nI (i + 6))), (0, .ref B), (1, rf V 0), (2, rf V 66)]) d_law_1296 rfl rfl (by decide) (by decide) (by rw [e6]; rfl) ?_
      refine J_goto (tgt := 18) d_law_1299 (by decide) ?_
      refine J_pick [1, 2, 3, 0] rfl ?_
      exact ih (i + 6) σ2 hR2 (by omega) (by omega)
