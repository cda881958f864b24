theorem ob_Ro : Cond.methodLink R_Ro 1 objectInit ∈ lw_tbl := List.mem_of_getElem? (i := 131) (by decide +kernel)
theorem ob_i : Cond.instanceMethod objectInit ∈ lw_tbl := List.mem_of_getElem? (i := 95) (by decide +kernel)
theorem ob_c : Cond.code objectInit ⟨#[0xb1]⟩ 1 none ∈ lw_tbl := List.mem_of_getElem? (i := 96) (by decide +kernel)
theorem ob_Tr : Cond.methodLink R_Tr 1 objectInit ∈ lw_tbl := List.mem_of_getElem? (i := 207) (by decide +kernel)
theorem ob_Te : Cond.methodLink R_Te 3 objectInit ∈ lw_tbl := List.mem_of_getElem? (i := 102) (by decide +kernel)
theorem ac_0 : Cond.arrayClass .int ∈ lw_tbl := List.mem_of_getElem? (i := 118) (by decide +kernel)
theorem pl_Te_9 : Cond.fieldLink R_Te 9 R_Te (F_Te 0).2.1 (F_Te 0).2.2.1 ∈ lw_tbl := List.mem_of_getElem? (i := 106) (by decide +kernel)
theorem mn_l : Cond.methodLink R_Te 15 Lib.Math.min.name ∈ lw_tbl := List.mem_of_getElem? (i := 103) (by decide +kernel)
theorem mn_s : Cond.static Lib.Math.min.name ∈ lw_tbl := List.mem_of_getElem? (i := 104) (by decide +kernel)
theorem mn_i : Cond.initialized "java/lang/Math" ∈ lw_tbl := List.mem_of_getElem? (i := 76) (by decide +kernel)
theorem mn_c : Cond.code Lib.Math.min.name Lib.Math.min.code 2 (some .int) ∈ lw_tbl := List.mem_of_getElem? (i := 105) (by decide +kernel)
theorem pl_Te_21 : Cond.fieldLink R_Te 21 R_Te (F_Te 1).2.1 (F_Te 1).2.2.1 ∈ lw_tbl := List.mem_of_getElem? (i := 107) (by decide +kernel)
theorem ob_Rs : Cond.methodLink R_Rs 3 objectInit ∈ lw_tbl := List.mem_of_getElem? (i := 124) (by decide +kernel)
theorem clk_Rs_9 : Cond.classLink R_Rs 9 R_Ro ∈ lw_tbl := List.mem_of_getElem? (i := 125) (by decide +kernel)
theorem pl_Rs_11 : Cond.fieldLink R_Rs 11 R_Rs (F_Rs 0).2.1 (F_Rs 0).2.2.1 ∈ lw_tbl := List.mem_of_getElem? (i := 171) (by decide +kernel)
theorem df_Ro : ∀ j, j < 9 → defaultValue (t_Ro j) = vp_V [.int 0, .int 0, .int 0, .int 0, .int 0, .int 0, .int 0, .int 0, .int 0] j := by
  intro j hj
  rcases (show j = 0 ∨ j = 1 ∨ j = 2 ∨ j = 3 ∨ j = 4 ∨ j = 5 ∨ j = 6 ∨ j = 7 ∨ j = 8 by omega) with rfl | rfl | rfl | rfl | rfl | rfl | rfl | rfl | rfl <;> rfl
theorem ins_Ro : Cond.instantiable R_Ro 9 ∈ lw_tbl := List.mem_of_getElem? (i := 127) (by decide +kernel)
theorem ini_Ro : Cond.initialized R_Ro ∈ lw_tbl := List.mem_of_getElem? (i := 78) (by decide +kernel)
theorem mi_Rs_17 : MI R_Rs 17 y_Ro_init c_Ro_init 1 0 := ⟨Or.inr ⟨"GorgeRopes", List.mem_of_getElem? (i := 128) (by decide +kernel)⟩, List.mem_of_getElem? (i := 129) (by decide +kernel), List.mem_of_getElem? (i := 78) (by decide +kernel), List.mem_of_getElem? (i := 130) (by decide +kernel), ⟨by decide +kernel, by decide +kernel⟩, by decide +kernel, rfl⟩
theorem pl_Rs_18 : Cond.fieldLink R_Rs 18 R_Rs (F_Rs 1).2.1 (F_Rs 1).2.2.1 ∈ lw_tbl := List.mem_of_getElem? (i := 172) (by decide +kernel)
theorem pl_Rs_22 : Cond.fieldLink R_Rs 22 R_Rs (F_Rs 2).2.1 (F_Rs 2).2.2.1 ∈ lw_tbl := List.mem_of_getElem? (i := 173) (by decide +kernel)
theorem pl_Rs_26 : Cond.fieldLink R_Rs 26 R_Rs (F_Rs 4).2.1 (F_Rs 4).2.2.1 ∈ lw_tbl := List.mem_of_getElem? (i := 178) (by decide +kernel)
theorem pl_Rs_30 : Cond.fieldLink R_Rs 30 R_Rs (F_Rs 5).2.1 (F_Rs 5).2.2.1 ∈ lw_tbl := List.mem_of_getElem? (i := 180) (by decide +kernel)
theorem ob_Ts : Cond.methodLink R_Ts 3 objectInit ∈ lw_tbl := List.mem_of_getElem? (i := 200) (by decide +kernel)
theorem clk_Ts_9 : Cond.classLink R_Ts 9 R_Tr ∈ lw_tbl := List.mem_of_getElem? (i := 201) (by decide +kernel)
theorem pl_Ts_11 : Cond.fieldLink R_Ts 11 R_Ts (F_Ts 0).2.1 (F_Ts 0).2.2.1 ∈ lw_tbl := List.mem_of_getElem? (i := 233) (by decide +kernel)
theorem df_Tr : ∀ j, j < 5 → defaultValue (t_Tr j) = vp_V [.int 0, .int 0, .int 0, .int 0, .int 0] j := by
  intro j hj
  rcases (show j = 0 ∨ j = 1 ∨ j = 2 ∨ j = 3 ∨ j = 4 by omega) with rfl | rfl | rfl | rfl | rfl <;> rfl
theorem ins_Tr : Cond.instantiable R_Tr 5 ∈ lw_tbl := List.mem_of_getElem? (i := 203) (by decide +kernel)
theorem ini_Tr : Cond.initialized R_Tr ∈ lw_tbl := List.mem_of_getElem? (i := 80) (by decide +kernel)
theorem mi_Ts_17 : MI R_Ts 17 y_Tr_init c_Tr_init 1 0 := ⟨Or.inr ⟨"GorgeRopes", List.mem_of_getElem? (i := 204) (by decide +kernel)⟩, List.mem_of_getElem? (i := 205) (by decide +kernel), List.mem_of_getElem? (i := 80) (by decide +kernel), List.mem_of_getElem? (i := 206) (by decide +kernel), ⟨by decide +kernel, by decide +kernel⟩, by decide +kernel, rfl⟩
theorem pl_Ts_18 : Cond.fieldLink R_Ts 18 R_Ts (F_Ts 1).2.1 (F_Ts 1).2.2.1 ∈ lw_tbl := List.mem_of_getElem? (i := 234) (by decide +kernel)
theorem ob_Tt : Cond.methodLink R_Tt 3 objectInit ∈ lw_tbl := List.mem_of_getElem? (i := 251) (by decide +kernel)
theorem pl_Tt_9 : Cond.fieldLink R_Tt 9 R_Tt (F_Tt 0).2.1 (F_Tt 0).2.2.1 ∈ lw_tbl := List.mem_of_getElem? (i := 252) (by decide +kernel)
theorem ob_Mi : Cond.methodLink R_Mi 3 objectInit ∈ lw_tbl := List.mem_of_getElem? (i := 264) (by decide +kernel)
theorem pl_Mi_9 : Cond.fieldLink R_Mi 9 R_Mi (F_Mi 0).2.1 (F_Mi 0).2.2.1 ∈ lw_tbl := List.mem_of_getElem? (i := 267) (by decide +kernel)
theorem pl_Mi_15 : Cond.fieldLink R_Mi 15 R_Mi (F_Mi 1).2.1 (F_Mi 1).2.2.1 ∈ lw_tbl := List.mem_of_getElem? (i := 268) (by decide +kernel)
theorem pl_Mi_18 : Cond.fieldLink R_Mi 18 R_Mi (F_Mi 2).2.1 (F_Mi 2).2.2.1 ∈ lw_tbl := List.mem_of_getElem? (i := 269) (by decide +kernel)
theorem pl_Mi_21 : Cond.fieldLink R_Mi 21 R_Mi (F_Mi 3).2.1 (F_Mi 3).2.2.1 ∈ lw_tbl := List.mem_of_getElem? (i := 270) (by decide +kernel)
theorem clk_Mi_24 : Cond.classLink R_Mi 24 R_Ro ∈ lw_tbl := List.mem_of_getElem? (i := 265) (by decide +kernel)
theorem mi_Mi_26 : MI R_Mi 26 y_Ro_init c_Ro_init 1 0 := ⟨Or.inr ⟨"GorgeRopes", List.mem_of_getElem? (i := 266) (by decide +kernel)⟩, List.mem_of_getElem? (i := 129) (by decide +kernel), List.mem_of_getElem? (i := 78) (by decide +kernel), List.mem_of_getElem? (i := 130) (by decide +kernel), ⟨by decide +kernel, by decide +kernel⟩, by decide +kernel, rfl⟩
theorem pl_Mi_27 : Cond.fieldLink R_Mi 27 R_Mi (F_Mi 4).2.1 (F_Mi 4).2.2.1 ∈ lw_tbl := List.mem_of_getElem? (i := 271) (by decide +kernel)
theorem ob_Fe : Cond.methodLink R_Fe 3 objectInit ∈ lw_tbl := List.mem_of_getElem? (i := 304) (by decide +kernel)
theorem pl_Fe_9 : Cond.fieldLink R_Fe 9 R_Fe (F_Fe 0).2.1 (F_Fe 0).2.2.1 ∈ lw_tbl := List.mem_of_getElem? (i := 305) (by decide +kernel)
theorem pl_Fe_15 : Cond.fieldLink R_Fe 15 R_Fe (F_Fe 1).2.1 (F_Fe 1).2.2.1 ∈ lw_tbl := List.mem_of_getElem? (i := 306) (by decide +kernel)
theorem pl_Fe_18 : Cond.fieldLink R_Fe 18 R_Fe (F_Fe 2).2.1 (F_Fe 2).2.2.1 ∈ lw_tbl := List.mem_of_getElem? (i := 307) (by decide +kernel)
theorem ac_1 : Cond.arrayClass .long ∈ lw_tbl := List.mem_of_getElem? (i := 318) (by decide +kernel)
theorem pl_Fe_21 : Cond.fieldLink R_Fe 21 R_Fe (F_Fe 3).2.1 (F_Fe 3).2.2.1 ∈ lw_tbl := List.mem_of_getElem? (i := 308) (by decide +kernel)
theorem ob_Sh : Cond.methodLink R_Sh 3 objectInit ∈ lw_tbl := List.mem_of_getElem? (i := 331) (by decide +kernel)
theorem pl_Sh_9 : Cond.fieldLink R_Sh 9 R_Sh (F_Sh 0).2.1 (F_Sh 0).2.2.1 ∈ lw_tbl := List.mem_of_getElem? (i := 332) (by decide +kernel)
theorem pl_Sh_15 : Cond.fieldLink R_Sh 15 R_Sh (F_Sh 1).2.1 (F_Sh 1).2.2.1 ∈ lw_tbl := List.mem_of_getElem? (i := 334) (by decide +kernel)
theorem ob_Ss : Cond.methodLink R_Ss 3 objectInit ∈ lw_tbl := List.mem_of_getElem? (i := 324) (by decide +kernel)
theorem clk_Ss_9 : Cond.classLink R_Ss 9 R_Sh ∈ lw_tbl := List.mem_of_getElem? (i := 325) (by decide +kernel)
theorem pl_Ss_11 : Cond.fieldLink R_Ss 11 R_Ss (F_Ss 0).2.1 (F_Ss 0).2.2.1 ∈ lw_tbl := List.mem_of_getElem? (i := 347) (by decide +kernel)
theorem df_Sh : ∀ j, j < 3 → defaultValue (t_Sh j) = vp_V [.null, .int 0, .int 0] j := by
  intro j hj
  rcases (show j = 0 ∨ j = 1 ∨ j = 2 by omega) with rfl | rfl | rfl <;> rfl
theorem ins_Sh : Cond.instantiable R_Sh 3 ∈ lw_tbl := List.mem_of_getElem? (i := 327) (by decide +kernel)
theorem ini_Sh : Cond.initialized R_Sh ∈ lw_tbl := List.mem_of_getElem? (i := 85) (by decide +kernel)
theorem mi_Ss_17 : MI R_Ss 17 y_Sh_init c_Sh_init 1 0 := ⟨Or.inr ⟨"GorgeRopes", List.mem_of_getElem? (i := 328) (by decide +kernel)⟩, List.mem_of_getElem? (i := 329) (by decide +kernel), List.mem_of_getElem? (i := 85) (by decide +kernel), List.mem_of_getElem? (i := 330) (by decide +kernel), ⟨by decide +kernel, by decide +kernel⟩, by decide +kernel, rfl⟩
theorem pl_Ss_18 : Cond.fieldLink R_Ss 18 R_Ss (F_Ss 1).2.1 (F_Ss 1).2.2.1 ∈ lw_tbl := List.mem_of_getElem? (i := 348) (by decide +kernel)
theorem ob_GR : Cond.methodLink R_GR 1 objectInit ∈ lw_tbl := List.mem_of_getElem? (i := 94) (by decide +kernel)
theorem clk_GR_7 : Cond.classLink R_GR 7 R_Te ∈ lw_tbl := List.mem_of_getElem? (i := 97) (by decide +kernel)
theorem df_Te : ∀ j, j < 3 → defaultValue (t_Te j) = vp_V [.null, .int 0, .int 0] j := by
  intro j hj
  rcases (show j = 0 ∨ j = 1 ∨ j = 2 by omega) with rfl | rfl | rfl <;> rfl
theorem ins_Te : Cond.instantiable R_Te 3 ∈ lw_tbl := List.mem_of_getElem? (i := 98) (by decide +kernel)
theorem ini_Te : Cond.initialized R_Te ∈ lw_tbl := List.mem_of_getElem? (i := 75) (by decide +kernel)
theorem mi_GR_11 : MI R_GR 11 y_Te_init c_Te_init 2 1 := ⟨Or.inl (List.mem_of_getElem? (i := 99) (by decide +kernel)), List.mem_of_getElem? (i := 100) (by decide +kernel), List.mem_of_getElem? (i := 75) (by decide +kernel), List.mem_of_getElem? (i := 101) (by decide +kernel), ⟨by decide +kernel, by decide +kernel⟩, by decide +kernel, rfl⟩
theorem pl_GR_14 : Cond.fieldLink R_GR 14 R_GR (F_GR 0).2.1 (F_GR 0).2.2.1 ∈ lw_tbl := List.mem_of_getElem? (i := 358) (by decide +kernel)
theorem pl_GR_18 : Cond.fieldLink R_GR 18 R_GR (F_GR 1).2.1 (F_GR 1).2.2.1 ∈ lw_tbl := List.mem_of_getElem? (i := 359) (by decide +kernel)
theorem clk_GR_21 : Cond.classLink R_GR 21 R_Rs ∈ lw_tbl := List.mem_of_getElem? (i := 119) (by decide +kernel)
theorem df_Rs : ∀ j, j < 6 → defaultValue (t_Rs j) = vp_V [.null, .null, .null, .int 0, .int 0, .int 0] j := by
  intro j hj
  rcases (show j = 0 ∨ j = 1 ∨ j = 2 ∨ j = 3 ∨ j = 4 ∨ j = 5 by omega) with rfl | rfl | rfl | rfl | rfl | rfl <;> rfl
theorem ins_Rs : Cond.instantiable R_Rs 6 ∈ lw_tbl := List.mem_of_getElem? (i := 120) (by decide +kernel)
theorem ini_Rs : Cond.initialized R_Rs ∈ lw_tbl := List.mem_of_getElem? (i := 77) (by decide +kernel)
theorem mi_GR_23 : MI R_GR 23 y_Rs_init c_Rs_init 2 0 := ⟨Or.inl (List.mem_of_getElem? (i := 121) (by decide +kernel)), List.mem_of_getElem? (i := 122) (by decide +kernel), List.mem_of_getElem? (i := 77) (by decide +kernel), List.mem_of_getElem? (i := 123) (by decide +kernel), ⟨by decide +kernel, by decide +kernel⟩, by decide +kernel, rfl⟩
theorem pl_GR_24 : Cond.fieldLink R_GR 24 R_GR (F_GR 2).2.1 (F_GR 2).2.2.1 ∈ lw_tbl := List.mem_of_getElem? (i := 360) (by decide +kernel)
theorem pl_GR_28 : Cond.fieldLink R_GR 28 R_GR (F_GR 3).2.1 (F_GR 3).2.2.1 ∈ lw_tbl := List.mem_of_getElem? (i := 361) (by decide +kernel)
theorem clk_GR_32 : Cond.classLink R_GR 32 R_Ts ∈ lw_tbl := List.mem_of_getElem? (i := 195) (by decide +kernel)
theorem df_Ts : ∀ j, j < 3 → defaultValue (t_Ts j) = vp_V [.null, .null, .int 0] j := by
  intro j hj
  rcases (show j = 0 ∨ j = 1 ∨ j = 2 by omega) with rfl | rfl | rfl <;> rfl
theorem ins_Ts : Cond.instantiable R_Ts 3 ∈ lw_tbl := List.mem_of_getElem? (i := 196) (by decide +kernel)
theorem ini_Ts : Cond.initialized R_Ts ∈ lw_tbl := List.mem_of_getElem? (i := 79) (by decide +kernel)
theorem mi_GR_34 : MI R_GR 34 y_Ts_init c_Ts_init 2 0 := ⟨Or.inl (List.mem_of_getElem? (i := 197) (by decide +kernel)), List.mem_of_getElem? (i := 198) (by decide +kernel), List.mem_of_getElem? (i := 79) (by decide +kernel), List.mem_of_getElem? (i := 199) (by decide +kernel), ⟨by decide +kernel, by decide +kernel⟩, by decide +kernel, rfl⟩
theorem pl_GR_35 : Cond.fieldLink R_GR 35 R_GR (F_GR 4).2.1 (F_GR 4).2.2.1 ∈ lw_tbl := List.mem_of_getElem? (i := 362) (by decide +kernel)
theorem clk_GR_39 : Cond.classLink R_GR 39 R_Tt ∈ lw_tbl := List.mem_of_getElem? (i := 246) (by decide +kernel)
theorem df_Tt : ∀ j, j < 2 → defaultValue (t_Tt j) = vp_V [.null, .int 0] j := by
  intro j hj
  rcases (show j = 0 ∨ j = 1 by omega) with rfl | rfl <;> rfl
theorem ins_Tt : Cond.instantiable R_Tt 2 ∈ lw_tbl := List.mem_of_getElem? (i := 247) (by decide +kernel)
theorem ini_Tt : Cond.initialized R_Tt ∈ lw_tbl := List.mem_of_getElem? (i := 81) (by decide +kernel)
theorem mi_GR_41 : MI R_GR 41 y_Tt_init c_Tt_init 1 0 := ⟨Or.inr ⟨"GorgeRopes", List.mem_of_getElem? (i := 248) (by decide +kernel)⟩, List.mem_of_getElem? (i := 249) (by decide +kernel), List.mem_of_getElem? (i := 81) (by decide +kernel), List.mem_of_getElem? (i := 250) (by decide +kernel), ⟨by decide +kernel, by decide +kernel⟩, by decide +kernel, rfl⟩
theorem pl_GR_42 : Cond.fieldLink R_GR 42 R_GR (F_GR 5).2.1 (F_GR 5).2.2.1 ∈ lw_tbl := List.mem_of_getElem? (i := 363) (by decide +kernel)
theorem clk_GR_46 : Cond.classLink R_GR 46 R_Mi ∈ lw_tbl := List.mem_of_getElem? (i := 259) (by decide +kernel)
theorem df_Mi : ∀ j, j < 10 → defaultValue (t_Mi j) = vp_V [.null, .null, .null, .null, .null, .int 0, .int 0, .int 0, .int 0, .int 0] j := by
  intro j hj
  rcases (show j = 0 ∨ j = 1 ∨ j = 2 ∨ j = 3 ∨ j = 4 ∨ j = 5 ∨ j = 6 ∨ j = 7 ∨ j = 8 ∨ j = 9 by omega) with rfl | rfl | rfl | rfl | rfl | rfl | rfl | rfl | rfl | rfl <;> rfl
theorem ins_Mi : Cond.instantiable R_Mi 10 ∈ lw_tbl := List.mem_of_getElem? (i := 260) (by decide +kernel)
theorem ini_Mi : Cond.initialized R_Mi ∈ lw_tbl := List.mem_of_getElem? (i := 82) (by decide +kernel)
theorem mi_GR_48 : MI R_GR 48 y_Mi_init c_Mi_init 1 0 := ⟨Or.inr ⟨"GorgeRopes", List.mem_of_getElem? (i := 261) (by decide +kernel)⟩, List.mem_of_getElem? (i := 262) (by decide +kernel), List.mem_of_getElem? (i := 82) (by decide +kernel), List.mem_of_getElem? (i := 263) (by decide +kernel), ⟨by decide +kernel, by decide +kernel⟩, by decide +kernel, rfl⟩
theorem pl_GR_49 : Cond.fieldLink R_GR 49 R_GR (F_GR 6).2.1 (F_GR 6).2.2.1 ∈ lw_tbl := List.mem_of_getElem? (i := 364) (by decide +kernel)
theorem clk_GR_53 : Cond.classLink R_GR 53 R_Fe ∈ lw_tbl := List.mem_of_getElem? (i := 299) (by decide +kernel)
theorem df_Fe : ∀ j, j < 4 → defaultValue (t_Fe j) = vp_V [.null, .null, .null, .null] j := by
  intro j hj
  rcases (show j = 0 ∨ j = 1 ∨ j = 2 ∨ j = 3 by omega) with rfl | rfl | rfl | rfl <;> rfl
theorem ins_Fe : Cond.instantiable R_Fe 4 ∈ lw_tbl := List.mem_of_getElem? (i := 300) (by decide +kernel)
theorem ini_Fe : Cond.initialized R_Fe ∈ lw_tbl := List.mem_of_getElem? (i := 83) (by decide +kernel)
theorem mi_GR_55 : MI R_GR 55 y_Fe_init c_Fe_init 1 0 := ⟨Or.inr ⟨"GorgeRopes", List.mem_of_getElem? (i := 301) (by decide +kernel)⟩, List.mem_of_getElem? (i := 302) (by decide +kernel), List.mem_of_getElem? (i := 83) (by decide +kernel), List.mem_of_getElem? (i := 303) (by decide +kernel), ⟨by decide +kernel, by decide +kernel⟩, by decide +kernel, rfl⟩
theorem pl_GR_56 : Cond.fieldLink R_GR 56 R_GR (F_GR 7).2.1 (F_GR 7).2.2.1 ∈ lw_tbl := List.mem_of_getElem? (i := 365) (by decide +kernel)
theorem clk_GR_60 : Cond.classLink R_GR 60 R_Ss ∈ lw_tbl := List.mem_of_getElem? (i := 319) (by decide +kernel)
theorem df_Ss : ∀ j, j < 3 → defaultValue (t_Ss j) = vp_V [.null, .null, .int 0] j := by
  intro j hj
  rcases (show j = 0 ∨ j = 1 ∨ j = 2 by omega) with rfl | rfl | rfl <;> rfl
theorem ins_Ss : Cond.instantiable R_Ss 3 ∈ lw_tbl := List.mem_of_getElem? (i := 320) (by decide +kernel)
theorem ini_Ss : Cond.initialized R_Ss ∈ lw_tbl := List.mem_of_getElem? (i := 84) (by decide +kernel)
theorem mi_GR_62 : MI R_GR 62 y_Ss_init c_Ss_init 2 0 := ⟨Or.inl (List.mem_of_getElem? (i := 321) (by decide +kernel)), List.mem_of_getElem? (i := 322) (by decide +kernel), List.mem_of_getElem? (i := 84) (by decide +kernel), List.mem_of_getElem? (i := 323) (by decide +kernel), ⟨by decide +kernel, by decide +kernel⟩, by decide +kernel, rfl⟩
theorem pl_GR_63 : Cond.fieldLink R_GR 63 R_GR (F_GR 8).2.1 (F_GR 8).2.2.1 ∈ lw_tbl := List.mem_of_getElem? (i := 366) (by decide +kernel)
theorem ob_Md : Cond.methodLink R_Md 1 objectInit ∈ lw_tbl := List.mem_of_getElem? (i := 968) (by decide +kernel)
theorem pl_Md_7 : Cond.fieldLink R_Md 7 R_Md (F_Md 0).2.1 (F_Md 0).2.2.1 ∈ lw_tbl := List.mem_of_getElem? (i := 969) (by decide +kernel)
theorem pl_Md_13 : Cond.fieldLink R_Md 13 R_Md (F_Md 1).2.1 (F_Md 1).2.2.1 ∈ lw_tbl := List.mem_of_getElem? (i := 970) (by decide +kernel)
theorem pl_Md_16 : Cond.fieldLink R_Md 16 R_Md (F_Md 2).2.1 (F_Md 2).2.2.1 ∈ lw_tbl := List.mem_of_getElem? (i := 971) (by decide +kernel)
theorem pl_Md_19 : Cond.fieldLink R_Md 19 R_Md (F_Md 3).2.1 (F_Md 3).2.2.1 ∈ lw_tbl := List.mem_of_getElem? (i := 972) (by decide +kernel)
theorem pl_Md_22 : Cond.fieldLink R_Md 22 R_Md (F_Md 5).2.1 (F_Md 5).2.2.1 ∈ lw_tbl := List.mem_of_getElem? (i := 974) (by decide +kernel)
theorem pl_Md_25 : Cond.fieldLink R_Md 25 R_Md (F_Md 6).2.1 (F_Md 6).2.2.1 ∈ lw_tbl := List.mem_of_getElem? (i := 975) (by decide +kernel)
theorem pl_Md_28 : Cond.fieldLink R_Md 28 R_Md (F_Md 9).2.1 (F_Md 9).2.2.1 ∈ lw_tbl := List.mem_of_getElem? (i := 978) (by decide +kernel)
theorem pl_Md_31 : Cond.fieldLink R_Md 31 R_Md (F_Md 10).2.1 (F_Md 10).2.2.1 ∈ lw_tbl := List.mem_of_getElem? (i := 979) (by decide +kernel)
theorem pl_Md_34 : Cond.fieldLink R_Md 34 R_Md (F_Md 11).2.1 (F_Md 11).2.2.1 ∈ lw_tbl := List.mem_of_getElem? (i := 980) (by decide +kernel)
theorem pl_Md_37 : Cond.fieldLink R_Md 37 R_Md (F_Md 15).2.1 (F_Md 15).2.2.1 ∈ lw_tbl := List.mem_of_getElem? (i := 984) (by decide +kernel)
theorem pl_Md_40 : Cond.fieldLink R_Md 40 R_Md (F_Md 16).2.1 (F_Md 16).2.2.1 ∈ lw_tbl := List.mem_of_getElem? (i := 985) (by decide +kernel)
theorem pl_Md_43 : Cond.fieldLink R_Md 43 R_Md (F_Md 19).2.1 (F_Md 19).2.2.1 ∈ lw_tbl := List.mem_of_getElem? (i := 988) (by decide +kernel)
theorem pl_Md_46 : Cond.fieldLink R_Md 46 R_Md (F_Md 20).2.1 (F_Md 20).2.2.1 ∈ lw_tbl := List.mem_of_getElem? (i := 989) (by decide +kernel)
theorem pl_Md_49 : Cond.fieldLink R_Md 49 R_Md (F_Md 21).2.1 (F_Md 21).2.2.1 ∈ lw_tbl := List.mem_of_getElem? (i := 990) (by decide +kernel)
theorem pl_Md_52 : Cond.fieldLink R_Md 52 R_Md (F_Md 22).2.1 (F_Md 22).2.2.1 ∈ lw_tbl := List.mem_of_getElem? (i := 991) (by decide +kernel)
theorem pl_Md_55 : Cond.fieldLink R_Md 55 R_Md (F_Md 23).2.1 (F_Md 23).2.2.1 ∈ lw_tbl := List.mem_of_getElem? (i := 992) (by decide +kernel)
theorem pl_Md_58 : Cond.fieldLink R_Md 58 R_Md (F_Md 29).2.1 (F_Md 29).2.2.1 ∈ lw_tbl := List.mem_of_getElem? (i := 998) (by decide +kernel)
theorem pl_Md_61 : Cond.fieldLink R_Md 61 R_Md (F_Md 30).2.1 (F_Md 30).2.2.1 ∈ lw_tbl := List.mem_of_getElem? (i := 999) (by decide +kernel)
theorem pl_Md_64 : Cond.fieldLink R_Md 64 R_Md (F_Md 31).2.1 (F_Md 31).2.2.1 ∈ lw_tbl := List.mem_of_getElem? (i := 1000) (by decide +kernel)
theorem pl_Md_68 : Cond.fieldLink R_Md 68 R_Md (F_Md 32).2.1 (F_Md 32).2.2.1 ∈ lw_tbl := List.mem_of_getElem? (i := 1001) (by decide +kernel)
theorem df_GR : ∀ j, j < 9 → defaultValue (t_GR j) = vp_V [.null, .null, .null, .null, .null, .null, .null, .null, .null] j := by
  intro j hj
  rcases (show j = 0 ∨ j = 1 ∨ j = 2 ∨ j = 3 ∨ j = 4 ∨ j = 5 ∨ j = 6 ∨ j = 7 ∨ j = 8 by omega) with rfl | rfl | rfl | rfl | rfl | rfl | rfl | rfl | rfl <;> rfl
theorem ins_GR : Cond.instantiable R_GR 9 ∈ lw_tbl := List.mem_of_getElem? (i := 90) (by decide +kernel)
theorem ini_GR : Cond.initialized R_GR ∈ lw_tbl := List.mem_of_getElem? (i := 74) (by decide +kernel)
theorem df_Md : ∀ j, j < 33 → defaultValue (t_Md j) = vp_V [.null, .null, .null, .null, .int 0, .null, .null, .int 0, .int 0, .null, .null, .null, .int 0, .int 0, .int 0, .null, .null, .int 0, .int 0, .null, .null, .null, .null, .null, .int 0, .int 0, .int 0, .int 0, .int 0, .null, .null, .null, .null] j := by
  intro j hj
  rcases (show j = 0 ∨ j = 1 ∨ j = 2 ∨ j = 3 ∨ j = 4 ∨ j = 5 ∨ j = 6 ∨ j = 7 ∨ j = 8 ∨ j = 9 ∨ j = 10 ∨ j = 11 ∨ j = 12 ∨ j = 13 ∨ j = 14 ∨ j = 15 ∨ j = 16 ∨ j = 17 ∨ j = 18 ∨ j = 19 ∨ j = 20 ∨ j = 21 ∨ j = 22 ∨ j = 23 ∨ j = 24 ∨ j = 25 ∨ j = 26 ∨ j = 27 ∨ j = 28 ∨ j = 29 ∨ j = 30 ∨ j = 31 ∨ j = 32 by omega) with rfl | rfl | rfl | rfl | rfl | rfl | rfl | rfl | rfl | rfl | rfl | rfl | rfl | rfl | rfl | rfl | rfl | rfl | rfl | rfl | rfl | rfl | rfl | rfl | rfl | rfl | rfl | rfl | rfl | rfl | rfl | rfl | rfl <;> rfl
theorem ins_Md : Cond.instantiable R_Md 33 ∈ lw_tbl := List.mem_of_getElem? (i := 964) (by decide +kernel)
theorem ini_Md : Cond.initialized R_Md ∈ lw_tbl := List.mem_of_getElem? (i := 86) (by decide +kernel)
