/-! names: the objects, their fields, the methods -/
def R_Fe : String := "GorgeRopes$Fees"
def R_Mi : String := "GorgeRopes$Mill"
def R_Ro : String := "GorgeRopes$Rope"
def R_Rs : String := "GorgeRopes$Ropes"
def R_Sh : String := "GorgeRopes$Sheet"
def R_Ss : String := "GorgeRopes$Sheets"
def R_Te : String := "GorgeRopes$Text"
def R_Tt : String := "GorgeRopes$Timetable"
def R_Tr : String := "GorgeRopes$Trip"
def R_Ts : String := "GorgeRopes$Trips"
def R_GR : String := "GorgeRopes"
def R_Md : String := "GorgeRopesModel"
def R_JM : String := "java/lang/Math"
def R_JI : String := "java/lang/Integer"
def F_Fe : u_T := fun k => match k with
  | 0 => ("GorgeRopes$Fees", "money", "[I", true)
  | 1 => ("GorgeRopes$Fees", "sums", "[I", true)
  | 2 => ("GorgeRopes$Fees", "groups", "[I", true)
  | _ => ("GorgeRopes$Fees", "waysTo", "[J", true)
def t_Fe : Nat → FieldType := fun k => match k with
  | 0 => .array .int
  | 1 => .array .int
  | 2 => .array .int
  | _ => .array .long
theorem n_Fe : ∀ a, a < 4 → ∀ b, b < 4 → a ≠ b → (F_Fe a).2.1 ≠ (F_Fe b).2.1 := by decide +kernel
theorem t_Fe_ok : ∀ k, k < 4 → parseFieldDescriptor (F_Fe k).2.2.1 = some (t_Fe k) := by decide +kernel
def F_Mi : u_T := fun k => match k with
  | 0 => ("GorgeRopes$Mill", "weight", "[I", true)
  | 1 => ("GorgeRopes$Mill", "kind", "[I", true)
  | 2 => ("GorgeRopes$Mill", "least", "[I", true)
  | 3 => ("GorgeRopes$Mill", "alone", "[I", true)
  | 4 => ("GorgeRopes$Mill", "extra", "LGorgeRopes$Rope;", true)
  | 5 => ("GorgeRopes$Mill", "size", "I", false)
  | 6 => ("GorgeRopes$Mill", "pegsLeft", "I", false)
  | 7 => ("GorgeRopes$Mill", "pegsRight", "I", false)
  | 8 => ("GorgeRopes$Mill", "pegsCost", "I", false)
  | _ => ("GorgeRopes$Mill", "pegsMet", "I", false)
def t_Mi : Nat → FieldType := fun k => match k with
  | 0 => .array .int
  | 1 => .array .int
  | 2 => .array .int
  | 3 => .array .int
  | 4 => .object "GorgeRopes$Rope"
  | 5 => .int
  | 6 => .int
  | 7 => .int
  | 8 => .int
  | _ => .int
theorem n_Mi : ∀ a, a < 10 → ∀ b, b < 10 → a ≠ b → (F_Mi a).2.1 ≠ (F_Mi b).2.1 := by decide +kernel
theorem t_Mi_ok : ∀ k, k < 10 → parseFieldDescriptor (F_Mi k).2.2.1 = some (t_Mi k) := by decide +kernel
def F_Ro : u_T := fun k => match k with
  | 0 => ("GorgeRopes$Rope", "left", "I", false)
  | 1 => ("GorgeRopes$Rope", "right", "I", false)
  | 2 => ("GorgeRopes$Rope", "kind", "I", false)
  | 3 => ("GorgeRopes$Rope", "bears", "I", false)
  | 4 => ("GorgeRopes$Rope", "price", "I", false)
  | 5 => ("GorgeRopes$Rope", "owner", "I", false)
  | 6 => ("GorgeRopes$Rope", "rank", "I", false)
  | 7 => ("GorgeRopes$Rope", "climbRight", "I", false)
  | _ => ("GorgeRopes$Rope", "climbLeft", "I", false)
def t_Ro : Nat → FieldType := fun k => match k with
  | 0 => .int
  | 1 => .int
  | 2 => .int
  | 3 => .int
  | 4 => .int
  | 5 => .int
  | 6 => .int
  | 7 => .int
  | _ => .int
theorem n_Ro : ∀ a, a < 9 → ∀ b, b < 9 → a ≠ b → (F_Ro a).2.1 ≠ (F_Ro b).2.1 := by decide +kernel
theorem t_Ro_ok : ∀ k, k < 9 → parseFieldDescriptor (F_Ro k).2.2.1 = some (t_Ro k) := by decide +kernel
def F_Rs : u_T := fun k => match k with
  | 0 => ("GorgeRopes$Ropes", "rows", "[LGorgeRopes$Rope;", true)
  | 1 => ("GorgeRopes$Ropes", "bare", "LGorgeRopes$Rope;", true)
  | 2 => ("GorgeRopes$Ropes", "byRight", "[I", true)
  | 3 => ("GorgeRopes$Ropes", "size", "I", false)
  | 4 => ("GorgeRopes$Ropes", "ropesFault", "I", false)
  | _ => ("GorgeRopes$Ropes", "rightFault", "I", false)
def t_Rs : Nat → FieldType := fun k => match k with
  | 0 => .array (.object "GorgeRopes$Rope")
  | 1 => .object "GorgeRopes$Rope"
  | 2 => .array .int
  | 3 => .int
  | 4 => .int
  | _ => .int
theorem n_Rs : ∀ a, a < 6 → ∀ b, b < 6 → a ≠ b → (F_Rs a).2.1 ≠ (F_Rs b).2.1 := by decide +kernel
theorem t_Rs_ok : ∀ k, k < 6 → parseFieldDescriptor (F_Rs k).2.2.1 = some (t_Rs k) := by decide +kernel
def F_Sh : u_T := fun k => match k with
  | 0 => ("GorgeRopes$Sheet", "items", "[I", true)
  | 1 => ("GorgeRopes$Sheet", "form", "I", false)
  | _ => ("GorgeRopes$Sheet", "size", "I", false)
def t_Sh : Nat → FieldType := fun k => match k with
  | 0 => .array .int
  | 1 => .int
  | _ => .int
theorem n_Sh : ∀ a, a < 3 → ∀ b, b < 3 → a ≠ b → (F_Sh a).2.1 ≠ (F_Sh b).2.1 := by decide +kernel
theorem t_Sh_ok : ∀ k, k < 3 → parseFieldDescriptor (F_Sh k).2.2.1 = some (t_Sh k) := by decide +kernel
def F_Ss : u_T := fun k => match k with
  | 0 => ("GorgeRopes$Sheets", "rows", "[LGorgeRopes$Sheet;", true)
  | 1 => ("GorgeRopes$Sheets", "bare", "LGorgeRopes$Sheet;", true)
  | _ => ("GorgeRopes$Sheets", "latest", "I", false)
def t_Ss : Nat → FieldType := fun k => match k with
  | 0 => .array (.object "GorgeRopes$Sheet")
  | 1 => .object "GorgeRopes$Sheet"
  | _ => .int
theorem n_Ss : ∀ a, a < 3 → ∀ b, b < 3 → a ≠ b → (F_Ss a).2.1 ≠ (F_Ss b).2.1 := by decide +kernel
theorem t_Ss_ok : ∀ k, k < 3 → parseFieldDescriptor (F_Ss k).2.2.1 = some (t_Ss k) := by decide +kernel
def F_Te : u_T := fun k => match k with
  | 0 => ("GorgeRopes$Text", "bytes", "[I", true)
  | 1 => ("GorgeRopes$Text", "room", "I", true)
  | _ => ("GorgeRopes$Text", "length", "I", false)
def t_Te : Nat → FieldType := fun k => match k with
  | 0 => .array .int
  | 1 => .int
  | _ => .int
theorem n_Te : ∀ a, a < 3 → ∀ b, b < 3 → a ≠ b → (F_Te a).2.1 ≠ (F_Te b).2.1 := by decide +kernel
theorem t_Te_ok : ∀ k, k < 3 → parseFieldDescriptor (F_Te k).2.2.1 = some (t_Te k) := by decide +kernel
def F_Tt : u_T := fun k => match k with
  | 0 => ("GorgeRopes$Timetable", "start", "[I", true)
  | _ => ("GorgeRopes$Timetable", "seed", "I", false)
def t_Tt : Nat → FieldType := fun k => match k with
  | 0 => .array .int
  | _ => .int
theorem n_Tt : ∀ a, a < 2 → ∀ b, b < 2 → a ≠ b → (F_Tt a).2.1 ≠ (F_Tt b).2.1 := by decide +kernel
theorem t_Tt_ok : ∀ k, k < 2 → parseFieldDescriptor (F_Tt k).2.2.1 = some (t_Tt k) := by decide +kernel
def F_Tr : u_T := fun k => match k with
  | 0 => ("GorgeRopes$Trip", "rope", "I", false)
  | 1 => ("GorgeRopes$Trip", "side", "I", false)
  | 2 => ("GorgeRopes$Trip", "begin", "I", false)
  | 3 => ("GorgeRopes$Trip", "load", "I", false)
  | _ => ("GorgeRopes$Trip", "owner", "I", false)
def t_Tr : Nat → FieldType := fun k => match k with
  | 0 => .int
  | 1 => .int
  | 2 => .int
  | 3 => .int
  | _ => .int
theorem n_Tr : ∀ a, a < 5 → ∀ b, b < 5 → a ≠ b → (F_Tr a).2.1 ≠ (F_Tr b).2.1 := by decide +kernel
theorem t_Tr_ok : ∀ k, k < 5 → parseFieldDescriptor (F_Tr k).2.2.1 = some (t_Tr k) := by decide +kernel
def F_Ts : u_T := fun k => match k with
  | 0 => ("GorgeRopes$Trips", "rows", "[LGorgeRopes$Trip;", true)
  | 1 => ("GorgeRopes$Trips", "bare", "LGorgeRopes$Trip;", true)
  | _ => ("GorgeRopes$Trips", "size", "I", false)
def t_Ts : Nat → FieldType := fun k => match k with
  | 0 => .array (.object "GorgeRopes$Trip")
  | 1 => .object "GorgeRopes$Trip"
  | _ => .int
theorem n_Ts : ∀ a, a < 3 → ∀ b, b < 3 → a ≠ b → (F_Ts a).2.1 ≠ (F_Ts b).2.1 := by decide +kernel
theorem t_Ts_ok : ∀ k, k < 3 → parseFieldDescriptor (F_Ts k).2.2.1 = some (t_Ts k) := by decide +kernel
def F_GR : u_T := fun k => match k with
  | 0 => ("GorgeRopes", "ropeText", "LGorgeRopes$Text;", true)
  | 1 => ("GorgeRopes", "rightText", "LGorgeRopes$Text;", true)
  | 2 => ("GorgeRopes", "ropes", "LGorgeRopes$Ropes;", true)
  | 3 => ("GorgeRopes", "setting", "[I", true)
  | 4 => ("GorgeRopes", "trips", "LGorgeRopes$Trips;", true)
  | 5 => ("GorgeRopes", "table", "LGorgeRopes$Timetable;", true)
  | 6 => ("GorgeRopes", "mill", "LGorgeRopes$Mill;", true)
  | 7 => ("GorgeRopes", "fees", "LGorgeRopes$Fees;", true)
  | _ => ("GorgeRopes", "sheets", "LGorgeRopes$Sheets;", true)
def t_GR : Nat → FieldType := fun k => match k with
  | 0 => .object "GorgeRopes$Text"
  | 1 => .object "GorgeRopes$Text"
  | 2 => .object "GorgeRopes$Ropes"
  | 3 => .array .int
  | 4 => .object "GorgeRopes$Trips"
  | 5 => .object "GorgeRopes$Timetable"
  | 6 => .object "GorgeRopes$Mill"
  | 7 => .object "GorgeRopes$Fees"
  | _ => .object "GorgeRopes$Sheets"
theorem n_GR : ∀ a, a < 9 → ∀ b, b < 9 → a ≠ b → (F_GR a).2.1 ≠ (F_GR b).2.1 := by decide +kernel
theorem t_GR_ok : ∀ k, k < 9 → parseFieldDescriptor (F_GR k).2.2.1 = some (t_GR k) := by decide +kernel
def F_Md : u_T := fun k => match k with
  | 0 => ("GorgeRopesModel", "forms", "[I", true)
  | 1 => ("GorgeRopesModel", "sizes", "[I", true)
  | 2 => ("GorgeRopesModel", "items", "[I", true)
  | 3 => ("GorgeRopesModel", "moved", "[I", true)
  | 4 => ("GorgeRopesModel", "latest", "I", false)
  | 5 => ("GorgeRopesModel", "bytes", "[I", true)
  | 6 => ("GorgeRopesModel", "typed", "[I", true)
  | 7 => ("GorgeRopesModel", "at", "I", false)
  | 8 => ("GorgeRopesModel", "ropes", "I", false)
  | 9 => ("GorgeRopesModel", "facts", "[I", true)
  | 10 => ("GorgeRopesModel", "right", "[I", true)
  | 11 => ("GorgeRopesModel", "settings", "[I", true)
  | 12 => ("GorgeRopesModel", "placeAbove", "I", false)
  | 13 => ("GorgeRopesModel", "placeBelow", "I", false)
  | 14 => ("GorgeRopesModel", "trips", "I", false)
  | 15 => ("GorgeRopesModel", "told", "[I", true)
  | 16 => ("GorgeRopesModel", "begins", "[I", true)
  | 17 => ("GorgeRopesModel", "seedNow", "I", false)
  | 18 => ("GorgeRopesModel", "parts", "I", false)
  | 19 => ("GorgeRopesModel", "weights", "[I", true)
  | 20 => ("GorgeRopesModel", "kinds", "[I", true)
  | 21 => ("GorgeRopesModel", "row", "[I", true)
  | 22 => ("GorgeRopesModel", "bestRow", "[I", true)
  | 23 => ("GorgeRopesModel", "many", "[I", true)
  | 24 => ("GorgeRopesModel", "cost", "I", false)
  | 25 => ("GorgeRopesModel", "time", "I", false)
  | 26 => ("GorgeRopesModel", "pegLeft", "I", false)
  | 27 => ("GorgeRopesModel", "pegRight", "I", false)
  | 28 => ("GorgeRopesModel", "pegCost", "I", false)
  | 29 => ("GorgeRopesModel", "balances", "[I", true)
  | 30 => ("GorgeRopesModel", "groups", "[I", true)
  | 31 => ("GorgeRopesModel", "ways", "[J", true)
  | _ => ("GorgeRopesModel", "next", "[J", true)
def t_Md : Nat → FieldType := fun k => match k with
  | 0 => .array .int
  | 1 => .array .int
  | 2 => .array .int
  | 3 => .array .int
  | 4 => .int
  | 5 => .array .int
  | 6 => .array .int
  | 7 => .int
  | 8 => .int
  | 9 => .array .int
  | 10 => .array .int
  | 11 => .array .int
  | 12 => .int
  | 13 => .int
  | 14 => .int
  | 15 => .array .int
  | 16 => .array .int
  | 17 => .int
  | 18 => .int
  | 19 => .array .int
  | 20 => .array .int
  | 21 => .array .int
  | 22 => .array .int
  | 23 => .array .int
  | 24 => .int
  | 25 => .int
  | 26 => .int
  | 27 => .int
  | 28 => .int
  | 29 => .array .int
  | 30 => .array .int
  | 31 => .array .long
  | _ => .array .long
theorem n_Md : ∀ a, a < 33 → ∀ b, b < 33 → a ≠ b → (F_Md a).2.1 ≠ (F_Md b).2.1 := by decide +kernel
theorem t_Md_ok : ∀ k, k < 33 → parseFieldDescriptor (F_Md k).2.2.1 = some (t_Md k) := by decide +kernel
abbrev cls : List vw_C := [(R_Fe, F_Fe, 4), (R_Mi, F_Mi, 10), (R_Ro, F_Ro, 9), (R_Rs, F_Rs, 6), (R_Sh, F_Sh, 3), (R_Ss, F_Ss, 3), (R_Te, F_Te, 3), (R_Tt, F_Tt, 2), (R_Tr, F_Tr, 5), (R_Ts, F_Ts, 3), (R_GR, F_GR, 9), (R_Md, F_Md, 33)]
abbrev c_GR_init : ByteArray := prog_1_method_1_code
def y_GR_init : MethodName := ⟨R_GR, "<init>", "()V"⟩
abbrev c_Te_init : ByteArray := prog_8_method_1_code
def y_Te_init : MethodName := ⟨R_Te, "<init>", "(I)V"⟩
abbrev c_JM_min : ByteArray := prog_15_method_69_code
def y_JM_min : MethodName := ⟨R_JM, "min", "(II)I"⟩
abbrev c_Rs_init : ByteArray := prog_5_method_1_code
def y_Rs_init : MethodName := ⟨R_Rs, "<init>", "()V"⟩
abbrev c_Ro_init : ByteArray := prog_4_method_1_code
def y_Ro_init : MethodName := ⟨R_Ro, "<init>", "()V"⟩
abbrev c_Ts_init : ByteArray := prog_11_method_1_code
def y_Ts_init : MethodName := ⟨R_Ts, "<init>", "()V"⟩
abbrev c_Tr_init : ByteArray := prog_10_method_1_code
def y_Tr_init : MethodName := ⟨R_Tr, "<init>", "()V"⟩
abbrev c_Tt_init : ByteArray := prog_9_method_1_code
def y_Tt_init : MethodName := ⟨R_Tt, "<init>", "()V"⟩
abbrev c_Mi_init : ByteArray := prog_3_method_1_code
def y_Mi_init : MethodName := ⟨R_Mi, "<init>", "()V"⟩
abbrev c_Fe_init : ByteArray := prog_2_method_1_code
def y_Fe_init : MethodName := ⟨R_Fe, "<init>", "()V"⟩
abbrev c_Ss_init : ByteArray := prog_7_method_1_code
def y_Ss_init : MethodName := ⟨R_Ss, "<init>", "()V"⟩
abbrev c_Sh_init : ByteArray := prog_6_method_1_code
def y_Sh_init : MethodName := ⟨R_Sh, "<init>", "()V"⟩
abbrev c_GR_type : ByteArray := prog_1_method_2_code
def y_GR_type : MethodName := ⟨R_GR, "type", "(II)I"⟩
abbrev c_GR_isBelow : ByteArray := prog_1_method_37_code
def y_GR_isBelow : MethodName := ⟨R_GR, "isBelow", "(II)Z"⟩
abbrev c_GR_textOf : ByteArray := prog_1_method_41_code
def y_GR_textOf : MethodName := ⟨R_GR, "textOf", "(I)LGorgeRopes$Text;"⟩
abbrev c_Te_isFull : ByteArray := prog_8_method_2_code
def y_Te_isFull : MethodName := ⟨R_Te, "isFull", "()Z"⟩
abbrev c_Te_append : ByteArray := prog_8_method_3_code
def y_Te_append : MethodName := ⟨R_Te, "append", "(I)V"⟩
abbrev c_Rs_learn : ByteArray := prog_5_method_8_code
def y_Rs_learn : MethodName := ⟨R_Rs, "learn", "(LGorgeRopes$Text;LGorgeRopes$Text;)V"⟩
abbrev c_Rs_learnRopes : ByteArray := prog_5_method_9_code
def y_Rs_learnRopes : MethodName := ⟨R_Rs, "learnRopes", "(LGorgeRopes$Text;)I"⟩
abbrev c_Te_at : ByteArray := prog_8_method_5_code
def y_Te_at : MethodName := ⟨R_Te, "at", "(I)I"⟩
abbrev c_Te_figureAt : ByteArray := prog_8_method_6_code
def y_Te_figureAt : MethodName := ⟨R_Te, "figureAt", "(I)I"⟩
abbrev c_Rs_valueOf : ByteArray := prog_5_method_10_code
def y_Rs_valueOf : MethodName := ⟨R_Rs, "valueOf", "(III)I"⟩
abbrev c_Rs_kindOf : ByteArray := prog_5_method_11_code
def y_Rs_kindOf : MethodName := ⟨R_Rs, "kindOf", "(I)I"⟩
abbrev c_Rs_at : ByteArray := prog_5_method_4_code
def y_Rs_at : MethodName := ⟨R_Rs, "at", "(I)LGorgeRopes$Rope;"⟩
abbrev c_Ro_learn : ByteArray := prog_4_method_3_code
def y_Ro_learn : MethodName := ⟨R_Ro, "learn", "(II)V"⟩
abbrev c_Ro_hang : ByteArray := prog_4_method_4_code
def y_Ro_hang : MethodName := ⟨R_Ro, "hang", "(II)V"⟩
abbrev c_JM_max : ByteArray := prog_15_method_65_code
def y_JM_max : MethodName := ⟨R_JM, "max", "(II)I"⟩
abbrev c_Rs_faultOfRight : ByteArray := prog_5_method_12_code
def y_Rs_faultOfRight : MethodName := ⟨R_Rs, "faultOfRight", "(LGorgeRopes$Text;)I"⟩
abbrev c_Rs_has : ByteArray := prog_5_method_2_code
def y_Rs_has : MethodName := ⟨R_Rs, "has", "(I)Z"⟩
abbrev c_Rs_rank : ByteArray := prog_5_method_13_code
def y_Rs_rank : MethodName := ⟨R_Rs, "rank", "(LGorgeRopes$Text;)V"⟩
abbrev c_Rs_give : ByteArray := prog_5_method_14_code
def y_Rs_give : MethodName := ⟨R_Rs, "give", "(II)V"⟩
abbrev c_GR_wipe : ByteArray := prog_1_method_3_code
def y_GR_wipe : MethodName := ⟨R_GR, "wipe", "(I)I"⟩
abbrev c_Te_drop : ByteArray := prog_8_method_4_code
def y_Te_drop : MethodName := ⟨R_Te, "drop", "()I"⟩
abbrev c_GR_fault : ByteArray := prog_1_method_4_code
def y_GR_fault : MethodName := ⟨R_GR, "fault", "(I)I"⟩
abbrev c_GR_rope : ByteArray := prog_1_method_5_code
def y_GR_rope : MethodName := ⟨R_GR, "rope", "(II)I"⟩
abbrev c_Ro_tell : ByteArray := prog_4_method_2_code
def y_Ro_tell : MethodName := ⟨R_Ro, "tell", "(I)I"⟩
abbrev c_GR_crosses : ByteArray := prog_1_method_6_code
def y_GR_crosses : MethodName := ⟨R_GR, "crosses", "(III)I"⟩
abbrev c_Rs_hasTwo : ByteArray := prog_5_method_3_code
def y_Rs_hasTwo : MethodName := ⟨R_Rs, "hasTwo", "(II)Z"⟩
abbrev c_Rs_metBy : ByteArray := prog_5_method_6_code
def y_Rs_metBy : MethodName := ⟨R_Rs, "metBy", "(LGorgeRopes$Rope;)I"⟩
abbrev c_Ro_meets : ByteArray := prog_4_method_5_code
def y_Ro_meets : MethodName := ⟨R_Ro, "meets", "(LGorgeRopes$Rope;)Z"⟩
abbrev c_GR_crossing : ByteArray := prog_1_method_7_code
def y_GR_crossing : MethodName := ⟨R_GR, "crossing", "(IIII)J"⟩
abbrev c_GR_longRefusal : ByteArray := prog_1_method_38_code
def y_GR_longRefusal : MethodName := ⟨R_GR, "longRefusal", "(I)J"⟩
abbrev c_GR_crossingAsTold : ByteArray := prog_1_method_43_code
def y_GR_crossingAsTold : MethodName := ⟨R_GR, "crossingAsTold", "(IIII)J"⟩
abbrev c_Ro_span : ByteArray := prog_4_method_7_code
def y_Ro_span : MethodName := ⟨R_Ro, "span", "(LGorgeRopes$Rope;)I"⟩
abbrev c_Ro_apart : ByteArray := prog_4_method_6_code
def y_Ro_apart : MethodName := ⟨R_Ro, "apart", "(LGorgeRopes$Rope;I)I"⟩
abbrev c_JM_abs : ByteArray := prog_15_method_59_code
def y_JM_abs : MethodName := ⟨R_JM, "abs", "(I)I"⟩
abbrev c_GR_lowestTerm : ByteArray := prog_1_method_40_code
def y_GR_lowestTerm : MethodName := ⟨R_GR, "lowestTerm", "(III)I"⟩
abbrev c_GR_takes : ByteArray := prog_1_method_8_code
def y_GR_takes : MethodName := ⟨R_GR, "takes", "(IIII)I"⟩
abbrev c_Ro_minutes : ByteArray := prog_4_method_8_code
def y_Ro_minutes : MethodName := ⟨R_Ro, "minutes", "(I)I"⟩
abbrev c_Ro_fare : ByteArray := prog_4_method_9_code
def y_Ro_fare : MethodName := ⟨R_Ro, "fare", "(II)I"⟩
abbrev c_GR_set : ByteArray := prog_1_method_9_code
def y_GR_set : MethodName := ⟨R_GR, "set", "(II)I"⟩
abbrev c_GR_trip : ByteArray := prog_1_method_10_code
def y_GR_trip : MethodName := ⟨R_GR, "trip", "(IIIII)I"⟩
abbrev c_GR_mayGo : ByteArray := prog_1_method_42_code
def y_GR_mayGo : MethodName := ⟨R_GR, "mayGo", "(IIII)Z"⟩
abbrev c_Ts_isFull : ByteArray := prog_11_method_2_code
def y_Ts_isFull : MethodName := ⟨R_Ts, "isFull", "()Z"⟩
abbrev c_Ts_append : ByteArray := prog_11_method_5_code
def y_Ts_append : MethodName := ⟨R_Ts, "append", "(IIIII)V"⟩
abbrev c_Ts_at : ByteArray := prog_11_method_4_code
def y_Ts_at : MethodName := ⟨R_Ts, "at", "(I)LGorgeRopes$Trip;"⟩
abbrev c_GR_read : ByteArray := prog_1_method_11_code
def y_GR_read : MethodName := ⟨R_GR, "read", "(II)I"⟩
abbrev c_Ss_at : ByteArray := prog_7_method_2_code
def y_Ss_at : MethodName := ⟨R_Ss, "at", "(I)LGorgeRopes$Sheet;"⟩
abbrev c_Sh_isLost : ByteArray := prog_6_method_2_code
def y_Sh_isLost : MethodName := ⟨R_Sh, "isLost", "()Z"⟩
abbrev c_Ss_find : ByteArray := prog_7_method_3_code
def y_Ss_find : MethodName := ⟨R_Ss, "find", "(I)I"⟩
abbrev c_Sh_item : ByteArray := prog_6_method_4_code
def y_Sh_item : MethodName := ⟨R_Sh, "item", "(I)I"⟩
abbrev c_GR_undo : ByteArray := prog_1_method_12_code
def y_GR_undo : MethodName := ⟨R_GR, "undo", "()I"⟩
abbrev c_Ts_dropLast : ByteArray := prog_11_method_6_code
def y_Ts_dropLast : MethodName := ⟨R_Ts, "dropLast", "()V"⟩
abbrev c_GR_clash : ByteArray := prog_1_method_13_code
def y_GR_clash : MethodName := ⟨R_GR, "clash", "(III)I"⟩
abbrev c_Ts_has : ByteArray := prog_11_method_3_code
def y_Ts_has : MethodName := ⟨R_Ts, "has", "(I)Z"⟩
abbrev c_Tt_beginAsTold : ByteArray := prog_9_method_4_code
def y_Tt_beginAsTold : MethodName := ⟨R_Tt, "beginAsTold", "(LGorgeRopes$Ropes;LGorgeRopes$Trips;)V"⟩
abbrev c_Tt_begin : ByteArray := prog_9_method_3_code
def y_Tt_begin : MethodName := ⟨R_Tt, "begin", "(II)V"⟩
abbrev c_Tt_collide : ByteArray := prog_9_method_12_code
def y_Tt_collide : MethodName := ⟨R_Tt, "collide", "(LGorgeRopes$Ropes;LGorgeRopes$Trips;III)Z"⟩
abbrev c_Tt_startOf : ByteArray := prog_9_method_2_code
def y_Tt_startOf : MethodName := ⟨R_Tt, "startOf", "(I)I"⟩
abbrev c_GR_guilty : ByteArray := prog_1_method_44_code
def y_GR_guilty : MethodName := ⟨R_GR, "guilty", "(II)I"⟩
abbrev c_GR_clashes : ByteArray := prog_1_method_14_code
def y_GR_clashes : MethodName := ⟨R_GR, "clashes", "()I"⟩
abbrev c_Tt_pairs : ByteArray := prog_9_method_11_code
def y_Tt_pairs : MethodName := ⟨R_Tt, "pairs", "(LGorgeRopes$Ropes;LGorgeRopes$Trips;I)I"⟩
abbrev c_GR_putOff : ByteArray := prog_1_method_15_code
def y_GR_putOff : MethodName := ⟨R_GR, "putOff", "(I)I"⟩
abbrev c_Tt_beginWithoutClash : ByteArray := prog_9_method_7_code
def y_Tt_beginWithoutClash : MethodName := ⟨R_Tt, "beginWithoutClash", "(LGorgeRopes$Ropes;LGorgeRopes$Trips;I)V"⟩
abbrev c_Rs_ranked : ByteArray := prog_5_method_5_code
def y_Rs_ranked : MethodName := ⟨R_Rs, "ranked", "(I)I"⟩
abbrev c_Tt_delay : ByteArray := prog_9_method_8_code
def y_Tt_delay : MethodName := ⟨R_Tt, "delay", "(LGorgeRopes$Ropes;LGorgeRopes$Trips;II)V"⟩
abbrev c_Tt_firstInWay : ByteArray := prog_9_method_9_code
def y_Tt_firstInWay : MethodName := ⟨R_Tt, "firstInWay", "(LGorgeRopes$Ropes;LGorgeRopes$Trips;II)I"⟩
abbrev c_Tt_nextMinute : ByteArray := prog_9_method_10_code
def y_Tt_nextMinute : MethodName := ⟨R_Tt, "nextMinute", "(LGorgeRopes$Ropes;LGorgeRopes$Trips;II)I"⟩
abbrev c_GR_frayed : ByteArray := prog_1_method_16_code
def y_GR_frayed : MethodName := ⟨R_GR, "frayed", "(II)I"⟩
abbrev c_Ts_frayOf : ByteArray := prog_11_method_7_code
def y_Ts_frayOf : MethodName := ⟨R_Ts, "frayOf", "(I)I"⟩
abbrev c_Ts_breakerOf : ByteArray := prog_11_method_8_code
def y_Ts_breakerOf : MethodName := ⟨R_Ts, "breakerOf", "(II)I"⟩
abbrev c_GR_yet : ByteArray := prog_1_method_17_code
def y_GR_yet : MethodName := ⟨R_GR, "yet", "(II)I"⟩
abbrev c_GR_heavy : ByteArray := prog_1_method_18_code
def y_GR_heavy : MethodName := ⟨R_GR, "heavy", "()I"⟩
abbrev c_GR_wind : ByteArray := prog_1_method_19_code
def y_GR_wind : MethodName := ⟨R_GR, "wind", "(I)I"⟩
abbrev c_Tt_beginBlown : ByteArray := prog_9_method_5_code
def y_Tt_beginBlown : MethodName := ⟨R_Tt, "beginBlown", "(LGorgeRopes$Ropes;LGorgeRopes$Trips;I)V"⟩
abbrev c_Tt_windLot : ByteArray := prog_9_method_6_code
def y_Tt_windLot : MethodName := ⟨R_Tt, "windLot", "()I"⟩
abbrev c_GR_part : ByteArray := prog_1_method_20_code
def y_GR_part : MethodName := ⟨R_GR, "part", "(II)I"⟩
abbrev c_Mi_isFull : ByteArray := prog_3_method_2_code
def y_Mi_isFull : MethodName := ⟨R_Mi, "isFull", "()Z"⟩
abbrev c_Mi_append : ByteArray := prog_3_method_3_code
def y_Mi_append : MethodName := ⟨R_Mi, "append", "(II)V"⟩
abbrev c_GR_gone : ByteArray := prog_1_method_21_code
def y_GR_gone : MethodName := ⟨R_GR, "gone", "()I"⟩
abbrev c_Mi_drop : ByteArray := prog_3_method_4_code
def y_Mi_drop : MethodName := ⟨R_Mi, "drop", "()I"⟩
abbrev c_GR_sent : ByteArray := prog_1_method_22_code
def y_GR_sent : MethodName := ⟨R_GR, "sent", "(I)I"⟩
abbrev c_Mi_reckon : ByteArray := prog_3_method_6_code
def y_Mi_reckon : MethodName := ⟨R_Mi, "reckon", "(LGorgeRopes$Ropes;II)V"⟩
abbrev c_Mi_reckonAlone : ByteArray := prog_3_method_7_code
def y_Mi_reckonAlone : MethodName := ⟨R_Mi, "reckonAlone", "(LGorgeRopes$Rope;II)V"⟩
abbrev c_Mi_keyOf : ByteArray := prog_3_method_8_code
def y_Mi_keyOf : MethodName := ⟨R_Mi, "keyOf", "(LGorgeRopes$Rope;II)I"⟩
abbrev c_Mi_rowShift : ByteArray := prog_3_method_9_code
def y_Mi_rowShift : MethodName := ⟨R_Mi, "rowShift", "(I)I"⟩
abbrev c_JI_bitCount : ByteArray := prog_14_method_49_code
def y_JI_bitCount : MethodName := ⟨R_JI, "bitCount", "(I)I"⟩
abbrev c_Mi_timeOf : ByteArray := prog_3_method_10_code
def y_Mi_timeOf : MethodName := ⟨R_Mi, "timeOf", "(LGorgeRopes$Rope;I)I"⟩
abbrev c_Mi_join : ByteArray := prog_3_method_11_code
def y_Mi_join : MethodName := ⟨R_Mi, "join", "()V"⟩
abbrev c_Mi_all : ByteArray := prog_3_method_5_code
def y_Mi_all : MethodName := ⟨R_Mi, "all", "()I"⟩
abbrev c_Mi_leastJoined : ByteArray := prog_3_method_12_code
def y_Mi_leastJoined : MethodName := ⟨R_Mi, "leastJoined", "(I)I"⟩
abbrev c_GR_sentAsReckoned : ByteArray := prog_1_method_46_code
def y_GR_sentAsReckoned : MethodName := ⟨R_GR, "sentAsReckoned", "(I)I"⟩
abbrev c_Mi_leastCost : ByteArray := prog_3_method_14_code
def y_Mi_leastCost : MethodName := ⟨R_Mi, "leastCost", "()I"⟩
abbrev c_Mi_leastKey : ByteArray := prog_3_method_13_code
def y_Mi_leastKey : MethodName := ⟨R_Mi, "leastKey", "()I"⟩
abbrev c_Mi_costOf : ByteArray := prog_3_method_15_code
def y_Mi_costOf : MethodName := ⟨R_Mi, "costOf", "(I)I"⟩
abbrev c_Mi_timeThen : ByteArray := prog_3_method_17_code
def y_Mi_timeThen : MethodName := ⟨R_Mi, "timeThen", "(LGorgeRopes$Ropes;)I"⟩
abbrev c_Mi_ropeThen : ByteArray := prog_3_method_16_code
def y_Mi_ropeThen : MethodName := ⟨R_Mi, "ropeThen", "(I)I"⟩
abbrev c_GR_cut : ByteArray := prog_1_method_23_code
def y_GR_cut : MethodName := ⟨R_GR, "cut", "(I)I"⟩
abbrev c_GR_cutAsTold : ByteArray := prog_1_method_47_code
def y_GR_cutAsTold : MethodName := ⟨R_GR, "cutAsTold", "(I)I"⟩
abbrev c_GR_needed : ByteArray := prog_1_method_24_code
def y_GR_needed : MethodName := ⟨R_GR, "needed", "()I"⟩
abbrev c_GR_pegs : ByteArray := prog_1_method_25_code
def y_GR_pegs : MethodName := ⟨R_GR, "pegs", "(IIII)I"⟩
abbrev c_Mi_seekPegs : ByteArray := prog_3_method_18_code
def y_Mi_seekPegs : MethodName := ⟨R_Mi, "seekPegs", "(LGorgeRopes$Ropes;IIII)V"⟩
abbrev c_Mi_tryPegs : ByteArray := prog_3_method_19_code
def y_Mi_tryPegs : MethodName := ⟨R_Mi, "tryPegs", "(LGorgeRopes$Ropes;I)V"⟩
abbrev c_Mi_foundPegs : ByteArray := prog_3_method_20_code
def y_Mi_foundPegs : MethodName := ⟨R_Mi, "foundPegs", "(I)I"⟩
abbrev c_GR_balance : ByteArray := prog_1_method_26_code
def y_GR_balance : MethodName := ⟨R_GR, "balance", "(I)I"⟩
abbrev c_Fe_balanceOf : ByteArray := prog_2_method_4_code
def y_Fe_balanceOf : MethodName := ⟨R_Fe, "balanceOf", "(LGorgeRopes$Ropes;LGorgeRopes$Trips;I)I"⟩
abbrev c_Fe_fareOf : ByteArray := prog_2_method_2_code
def y_Fe_fareOf : MethodName := ⟨R_Fe, "fareOf", "(LGorgeRopes$Ropes;LGorgeRopes$Trip;)I"⟩
abbrev c_GR_settled : ByteArray := prog_1_method_27_code
def y_GR_settled : MethodName := ⟨R_GR, "settled", "()I"⟩
abbrev c_Fe_payments : ByteArray := prog_2_method_5_code
def y_Fe_payments : MethodName := ⟨R_Fe, "payments", "(LGorgeRopes$Ropes;LGorgeRopes$Trips;)I"⟩
abbrev c_Fe_mostGroups : ByteArray := prog_2_method_6_code
def y_Fe_mostGroups : MethodName := ⟨R_Fe, "mostGroups", "()I"⟩
abbrev c_GR_knots : ByteArray := prog_1_method_28_code
def y_GR_knots : MethodName := ⟨R_GR, "knots", "(III)J"⟩
abbrev c_Fe_ways : ByteArray := prog_2_method_7_code
def y_Fe_ways : MethodName := ⟨R_Fe, "ways", "(III)J"⟩
abbrev c_Fe_addTrip : ByteArray := prog_2_method_8_code
def y_Fe_addTrip : MethodName := ⟨R_Fe, "addTrip", "(I)V"⟩
abbrev c_GR_sheet : ByteArray := prog_1_method_29_code
def y_GR_sheet : MethodName := ⟨R_GR, "sheet", "(III)I"⟩
abbrev c_Sh_renew : ByteArray := prog_6_method_3_code
def y_Sh_renew : MethodName := ⟨R_Sh, "renew", "(II)V"⟩
abbrev c_GR_lose : ByteArray := prog_1_method_30_code
def y_GR_lose : MethodName := ⟨R_GR, "lose", "(I)I"⟩
abbrev c_GR_lay : ByteArray := prog_1_method_31_code
def y_GR_lay : MethodName := ⟨R_GR, "lay", "(IIII)I"⟩
abbrev c_Ss_findingAt : ByteArray := prog_7_method_4_code
def y_Ss_findingAt : MethodName := ⟨R_Ss, "findingAt", "(III)I"⟩
abbrev c_Sh_put : ByteArray := prog_6_method_5_code
def y_Sh_put : MethodName := ⟨R_Sh, "put", "(II)V"⟩
abbrev c_Sh_fitted : ByteArray := prog_6_method_6_code
def y_Sh_fitted : MethodName := ⟨R_Sh, "fitted", "(I)I"⟩
abbrev c_GR_get : ByteArray := prog_1_method_32_code
def y_GR_get : MethodName := ⟨R_GR, "get", "(III)I"⟩
abbrev c_GR_copy : ByteArray := prog_1_method_33_code
def y_GR_copy : MethodName := ⟨R_GR, "copy", "(IIIII)I"⟩
abbrev c_Sh_hasRun : ByteArray := prog_6_method_7_code
def y_Sh_hasRun : MethodName := ⟨R_Sh, "hasRun", "(II)Z"⟩
abbrev c_GR_write : ByteArray := prog_1_method_34_code
def y_GR_write : MethodName := ⟨R_GR, "write", "(I)I"⟩
abbrev c_GR_count : ByteArray := prog_1_method_35_code
def y_GR_count : MethodName := ⟨R_GR, "count", "(I)I"⟩
abbrev c_GR_tripsThatCount : ByteArray := prog_1_method_45_code
def y_GR_tripsThatCount : MethodName := ⟨R_GR, "tripsThatCount", "()I"⟩
abbrev c_Rs_pairsThatMeet : ByteArray := prog_5_method_7_code
def y_Rs_pairsThatMeet : MethodName := ⟨R_Rs, "pairsThatMeet", "()I"⟩
abbrev c_Fe_allFares : ByteArray := prog_2_method_3_code
def y_Fe_allFares : MethodName := ⟨R_Fe, "allFares", "(LGorgeRopes$Ropes;LGorgeRopes$Trips;)I"⟩
abbrev c_GR_digest : ByteArray := prog_1_method_36_code
def y_GR_digest : MethodName := ⟨R_GR, "digest", "()J"⟩
abbrev c_GR_mixed : ByteArray := prog_1_method_39_code
def y_GR_mixed : MethodName := ⟨R_GR, "mixed", "(JJ)J"⟩
abbrev c_GR_mixedRope : ByteArray := prog_1_method_48_code
def y_GR_mixedRope : MethodName := ⟨R_GR, "mixedRope", "(JI)J"⟩
abbrev c_GR_mixedMill : ByteArray := prog_1_method_49_code
def y_GR_mixedMill : MethodName := ⟨R_GR, "mixedMill", "(J)J"⟩
abbrev c_Md_init : ByteArray := prog_13_method_1_code
def y_Md_init : MethodName := ⟨R_Md, "<init>", "()V"⟩
abbrev c_Md_sheet : ByteArray := prog_13_method_10_code
def y_Md_sheet : MethodName := ⟨R_Md, "sheet", "(III)I"⟩
abbrev c_Md_isSheet : ByteArray := prog_13_method_9_code
def y_Md_isSheet : MethodName := ⟨R_Md, "isSheet", "(I)Z"⟩
abbrev c_Md_in : ByteArray := prog_13_method_3_code
def y_Md_in : MethodName := ⟨R_Md, "in", "(JJJ)Z"⟩
abbrev c_Md_met : ByteArray := prog_13_method_8_code
def y_Md_met : MethodName := ⟨R_Md, "met", "(I)I"⟩
abbrev c_Md_lose : ByteArray := prog_13_method_11_code
def y_Md_lose : MethodName := ⟨R_Md, "lose", "(I)I"⟩
abbrev c_Md_lay : ByteArray := prog_13_method_14_code
def y_Md_lay : MethodName := ⟨R_Md, "lay", "(IIII)I"⟩
abbrev c_Md_lacks : ByteArray := prog_13_method_12_code
def y_Md_lacks : MethodName := ⟨R_Md, "lacks", "(III)I"⟩
abbrev c_Md_cutTo : ByteArray := prog_13_method_13_code
def y_Md_cutTo : MethodName := ⟨R_Md, "cutTo", "(II)I"⟩
abbrev c_Md_get : ByteArray := prog_13_method_15_code
def y_Md_get : MethodName := ⟨R_Md, "get", "(III)I"⟩
abbrev c_Md_copy : ByteArray := prog_13_method_16_code
def y_Md_copy : MethodName := ⟨R_Md, "copy", "(IIIII)I"⟩
abbrev c_Md_type : ByteArray := prog_13_method_17_code
def y_Md_type : MethodName := ⟨R_Md, "type", "(II)I"⟩
abbrev c_Md_isTwo : ByteArray := prog_13_method_5_code
def y_Md_isTwo : MethodName := ⟨R_Md, "isTwo", "(I)Z"⟩
abbrev c_Md_wipe : ByteArray := prog_13_method_18_code
def y_Md_wipe : MethodName := ⟨R_Md, "wipe", "(I)I"⟩
abbrev c_Md_fault : ByteArray := prog_13_method_26_code
def y_Md_fault : MethodName := ⟨R_Md, "fault", "(I)I"⟩
abbrev c_Md_faultOf : ByteArray := prog_13_method_25_code
def y_Md_faultOf : MethodName := ⟨R_Md, "faultOf", "(I)I"⟩
abbrev c_Md_readsRopes : ByteArray := prog_13_method_22_code
def y_Md_readsRopes : MethodName := ⟨R_Md, "readsRopes", "()I"⟩
abbrev c_Md_readsRope : ByteArray := prog_13_method_21_code
def y_Md_readsRope : MethodName := ⟨R_Md, "readsRope", "()Z"⟩
abbrev c_Md_here : ByteArray := prog_13_method_19_code
def y_Md_here : MethodName := ⟨R_Md, "here", "()I"⟩
abbrev c_Md_kindOf : ByteArray := prog_13_method_20_code
def y_Md_kindOf : MethodName := ⟨R_Md, "kindOf", "(I)I"⟩
abbrev c_Md_find : ByteArray := prog_13_method_24_code
def y_Md_find : MethodName := ⟨R_Md, "find", "()I"⟩
abbrev c_Md_readsRight : ByteArray := prog_13_method_23_code
def y_Md_readsRight : MethodName := ⟨R_Md, "readsRight", "()I"⟩
abbrev c_Md_isRope : ByteArray := prog_13_method_27_code
def y_Md_isRope : MethodName := ⟨R_Md, "isRope", "(I)Z"⟩
abbrev c_Md_rope : ByteArray := prog_13_method_30_code
def y_Md_rope : MethodName := ⟨R_Md, "rope", "(II)I"⟩
abbrev c_Md_hasRope : ByteArray := prog_13_method_28_code
def y_Md_hasRope : MethodName := ⟨R_Md, "hasRope", "(I)Z"⟩
abbrev c_Md_ropeOf : ByteArray := prog_13_method_29_code
def y_Md_ropeOf : MethodName := ⟨R_Md, "ropeOf", "(II)I"⟩
abbrev c_Md_crosses : ByteArray := prog_13_method_35_code
def y_Md_crosses : MethodName := ⟨R_Md, "crosses", "(III)I"⟩
abbrev c_Md_areTwo : ByteArray := prog_13_method_34_code
def y_Md_areTwo : MethodName := ⟨R_Md, "areTwo", "(II)Z"⟩
abbrev c_Md_crossesWith : ByteArray := prog_13_method_33_code
def y_Md_crossesWith : MethodName := ⟨R_Md, "crossesWith", "(I)I"⟩
abbrev c_Md_doCross : ByteArray := prog_13_method_32_code
def y_Md_doCross : MethodName := ⟨R_Md, "doCross", "(II)Z"⟩
abbrev c_Md_above : ByteArray := prog_13_method_31_code
def y_Md_above : MethodName := ⟨R_Md, "above", "(III)I"⟩
abbrev c_Md_crossing : ByteArray := prog_13_method_39_code
def y_Md_crossing : MethodName := ⟨R_Md, "crossing", "(IIII)J"⟩
abbrev c_Md_crossingOf : ByteArray := prog_13_method_38_code
def y_Md_crossingOf : MethodName := ⟨R_Md, "crossingOf", "(IIII)J"⟩
abbrev c_Md_no : ByteArray := prog_13_method_4_code
def y_Md_no : MethodName := ⟨R_Md, "no", "(I)J"⟩
abbrev c_Md_findPlace : ByteArray := prog_13_method_37_code
def y_Md_findPlace : MethodName := ⟨R_Md, "findPlace", "(II)V"⟩
abbrev c_Md_shareOf : ByteArray := prog_13_method_36_code
def y_Md_shareOf : MethodName := ⟨R_Md, "shareOf", "(JJI)J"⟩
abbrev c_Md_takes : ByteArray := prog_13_method_43_code
def y_Md_takes : MethodName := ⟨R_Md, "takes", "(IIII)I"⟩
abbrev c_Md_isFigure : ByteArray := prog_13_method_6_code
def y_Md_isFigure : MethodName := ⟨R_Md, "isFigure", "(I)Z"⟩
abbrev c_Md_minutes : ByteArray := prog_13_method_41_code
def y_Md_minutes : MethodName := ⟨R_Md, "minutes", "(II)I"⟩
abbrev c_Md_rises : ByteArray := prog_13_method_40_code
def y_Md_rises : MethodName := ⟨R_Md, "rises", "(II)I"⟩
abbrev c_Md_costs : ByteArray := prog_13_method_42_code
def y_Md_costs : MethodName := ⟨R_Md, "costs", "(III)I"⟩
abbrev c_Md_set : ByteArray := prog_13_method_44_code
def y_Md_set : MethodName := ⟨R_Md, "set", "(II)I"⟩
abbrev c_Md_trip : ByteArray := prog_13_method_45_code
def y_Md_trip : MethodName := ⟨R_Md, "trip", "(IIIII)I"⟩
abbrev c_Md_isOwner : ByteArray := prog_13_method_7_code
def y_Md_isOwner : MethodName := ⟨R_Md, "isOwner", "(I)Z"⟩
abbrev c_Md_read : ByteArray := prog_13_method_46_code
def y_Md_read : MethodName := ⟨R_Md, "read", "(II)I"⟩
abbrev c_Md_undo : ByteArray := prog_13_method_47_code
def y_Md_undo : MethodName := ⟨R_Md, "undo", "()I"⟩
abbrev c_Md_clash : ByteArray := prog_13_method_54_code
def y_Md_clash : MethodName := ⟨R_Md, "clash", "(III)I"⟩
abbrev c_Md_isTrip : ByteArray := prog_13_method_48_code
def y_Md_isTrip : MethodName := ⟨R_Md, "isTrip", "(I)Z"⟩
abbrev c_Md_asTold : ByteArray := prog_13_method_50_code
def y_Md_asTold : MethodName := ⟨R_Md, "asTold", "()V"⟩
abbrev c_Md_doClash : ByteArray := prog_13_method_53_code
def y_Md_doClash : MethodName := ⟨R_Md, "doClash", "(II)Z"⟩
abbrev c_Md_counts : ByteArray := prog_13_method_49_code
def y_Md_counts : MethodName := ⟨R_Md, "counts", "(I)Z"⟩
abbrev c_Md_lasts : ByteArray := prog_13_method_51_code
def y_Md_lasts : MethodName := ⟨R_Md, "lasts", "(I)I"⟩
abbrev c_Md_moment : ByteArray := prog_13_method_52_code
def y_Md_moment : MethodName := ⟨R_Md, "moment", "(I)I"⟩
abbrev c_Md_clashes : ByteArray := prog_13_method_56_code
def y_Md_clashes : MethodName := ⟨R_Md, "clashes", "()I"⟩
abbrev c_Md_clashesNow : ByteArray := prog_13_method_55_code
def y_Md_clashesNow : MethodName := ⟨R_Md, "clashesNow", "()I"⟩
abbrev c_Md_putOff : ByteArray := prog_13_method_60_code
def y_Md_putOff : MethodName := ⟨R_Md, "putOff", "(I)I"⟩
abbrev c_Md_findPutOff : ByteArray := prog_13_method_59_code
def y_Md_findPutOff : MethodName := ⟨R_Md, "findPutOff", "()V"⟩
abbrev c_Md_clashesAhead : ByteArray := prog_13_method_58_code
def y_Md_clashesAhead : MethodName := ⟨R_Md, "clashesAhead", "(I)Z"⟩
abbrev c_Md_isAhead : ByteArray := prog_13_method_57_code
def y_Md_isAhead : MethodName := ⟨R_Md, "isAhead", "(II)Z"⟩
abbrev c_Md_frayed : ByteArray := prog_13_method_62_code
def y_Md_frayed : MethodName := ⟨R_Md, "frayed", "(II)I"⟩
abbrev c_Md_frayedOf : ByteArray := prog_13_method_61_code
def y_Md_frayedOf : MethodName := ⟨R_Md, "frayedOf", "(II)I"⟩
abbrev c_Md_yet : ByteArray := prog_13_method_63_code
def y_Md_yet : MethodName := ⟨R_Md, "yet", "(II)I"⟩
abbrev c_Md_heavy : ByteArray := prog_13_method_65_code
def y_Md_heavy : MethodName := ⟨R_Md, "heavy", "()I"⟩
abbrev c_Md_heavyNow : ByteArray := prog_13_method_64_code
def y_Md_heavyNow : MethodName := ⟨R_Md, "heavyNow", "()I"⟩
abbrev c_Md_wind : ByteArray := prog_13_method_67_code
def y_Md_wind : MethodName := ⟨R_Md, "wind", "(I)I"⟩
abbrev c_Md_lot : ByteArray := prog_13_method_66_code
def y_Md_lot : MethodName := ⟨R_Md, "lot", "(I)I"⟩
abbrev c_Md_part : ByteArray := prog_13_method_68_code
def y_Md_part : MethodName := ⟨R_Md, "part", "(II)I"⟩
abbrev c_Md_gone : ByteArray := prog_13_method_69_code
def y_Md_gone : MethodName := ⟨R_Md, "gone", "()I"⟩
abbrev c_Md_sent : ByteArray := prog_13_method_76_code
def y_Md_sent : MethodName := ⟨R_Md, "sent", "(I)I"⟩
abbrev c_Md_findSent : ByteArray := prog_13_method_75_code
def y_Md_findSent : MethodName := ⟨R_Md, "findSent", "(II)V"⟩
abbrev c_Md_goesOn : ByteArray := prog_13_method_72_code
def y_Md_goesOn : MethodName := ⟨R_Md, "goesOn", "(ZII)Z"⟩
abbrev c_Md_nextRope : ByteArray := prog_13_method_71_code
def y_Md_nextRope : MethodName := ⟨R_Md, "nextRope", "(IIII)I"⟩
abbrev c_Md_mayGo : ByteArray := prog_13_method_70_code
def y_Md_mayGo : MethodName := ⟨R_Md, "mayGo", "(III)Z"⟩
abbrev c_Md_rowCost : ByteArray := prog_13_method_73_code
def y_Md_rowCost : MethodName := ⟨R_Md, "rowCost", "()I"⟩
abbrev c_Md_rowTime : ByteArray := prog_13_method_74_code
def y_Md_rowTime : MethodName := ⟨R_Md, "rowTime", "()I"⟩
abbrev c_Md_cut : ByteArray := prog_13_method_78_code
def y_Md_cut : MethodName := ⟨R_Md, "cut", "(I)I"⟩
abbrev c_Md_cutOf : ByteArray := prog_13_method_77_code
def y_Md_cutOf : MethodName := ⟨R_Md, "cutOf", "(I)I"⟩
abbrev c_Md_needed : ByteArray := prog_13_method_80_code
def y_Md_needed : MethodName := ⟨R_Md, "needed", "()I"⟩
abbrev c_Md_neededNow : ByteArray := prog_13_method_79_code
def y_Md_neededNow : MethodName := ⟨R_Md, "neededNow", "()I"⟩
abbrev c_Md_pegs : ByteArray := prog_13_method_82_code
def y_Md_pegs : MethodName := ⟨R_Md, "pegs", "(IIII)I"⟩
abbrev c_Md_findPegs : ByteArray := prog_13_method_81_code
def y_Md_findPegs : MethodName := ⟨R_Md, "findPegs", "(III)V"⟩
abbrev c_Md_balance : ByteArray := prog_13_method_85_code
def y_Md_balance : MethodName := ⟨R_Md, "balance", "(I)I"⟩
abbrev c_Md_balanceOf : ByteArray := prog_13_method_84_code
def y_Md_balanceOf : MethodName := ⟨R_Md, "balanceOf", "(I)I"⟩
abbrev c_Md_findBalances : ByteArray := prog_13_method_83_code
def y_Md_findBalances : MethodName := ⟨R_Md, "findBalances", "()V"⟩
abbrev c_Md_settled : ByteArray := prog_13_method_88_code
def y_Md_settled : MethodName := ⟨R_Md, "settled", "()I"⟩
abbrev c_Md_settledNow : ByteArray := prog_13_method_87_code
def y_Md_settledNow : MethodName := ⟨R_Md, "settledNow", "()I"⟩
abbrev c_Md_sumOf : ByteArray := prog_13_method_86_code
def y_Md_sumOf : MethodName := ⟨R_Md, "sumOf", "(I)I"⟩
abbrev c_Md_knots : ByteArray := prog_13_method_89_code
def y_Md_knots : MethodName := ⟨R_Md, "knots", "(III)J"⟩
abbrev c_Md_write : ByteArray := prog_13_method_90_code
def y_Md_write : MethodName := ⟨R_Md, "write", "(I)I"⟩
abbrev c_Md_count : ByteArray := prog_13_method_91_code
def y_Md_count : MethodName := ⟨R_Md, "count", "(I)I"⟩
abbrev c_Md_digest : ByteArray := prog_13_method_92_code
def y_Md_digest : MethodName := ⟨R_Md, "digest", "()J"⟩
/-! the shape of the cells: once they are made it stays -/
abbrev Shp : Type := (Nat × List (Option Nat)) ⊕ (Nat × Nat × (Nat → Nat))
def shl : List Shp := [.inl (10, [some 1, some 3, some 5, some 17, some 18, some 41, some 43, some 49, some 54]),
  .inl (6, [some 2, none, none]),
  .inr (0, 60, fun _ => 0),
  .inl (6, [some 4, none, none]),
  .inr (0, 60, fun _ => 0),
  .inl (3, [some 6, some 7, some 8, none, none, none]),
  .inr (2, 8, fun j => 9 + j),
  .inl (2, [none, none, none, none, none, none, none, none, none]),
  .inr (0, 8, fun _ => 0),
  .inl (2, [none, none, none, none, none, none, none, none, none]),
  .inl (2, [none, none, none, none, none, none, none, none, none]),
  .inl (2, [none, none, none, none, none, none, none, none, none]),
  .inl (2, [none, none, none, none, none, none, none, none, none]),
  .inl (2, [none, none, none, none, none, none, none, none, none]),
  .inl (2, [none, none, none, none, none, none, none, none, none]),
  .inl (2, [none, none, none, none, none, none, none, none, none]),
  .inl (2, [none, none, none, none, none, none, none, none, none]),
  .inr (0, 3, fun _ => 0),
  .inl (9, [some 19, some 20, none]),
  .inr (3, 20, fun j => 21 + j),
  .inl (8, [none, none, none, none, none]),
  .inl (8, [none, none, none, none, none]),
  .inl (8, [none, none, none, none, none]),
  .inl (8, [none, none, none, none, none]),
  .inl (8, [none, none, none, none, none]),
  .inl (8, [none, none, none, none, none]),
  .inl (8, [none, none, none, none, none]),
  .inl (8, [none, none, none, none, none]),
  .inl (8, [none, none, none, none, none]),
  .inl (8, [none, none, none, none, none]),
  .inl (8, [none, none, none, none, none]),
  .inl (8, [none, none, none, none, none]),
  .inl (8, [none, none, none, none, none]),
  .inl (8, [none, none, none, none, none]),
  .inl (8, [none, none, none, none, none]),
  .inl (8, [none, none, none, none, none]),
  .inl (8, [none, none, none, none, none]),
  .inl (8, [none, none, none, none, none]),
  .inl (8, [none, none, none, none, none]),
  .inl (8, [none, none, none, none, none]),
  .inl (8, [none, none, none, none, none]),
  .inl (7, [some 42, none]),
  .inr (0, 20, fun _ => 0),
  .inl (1, [some 44, some 45, some 46, some 47, some 48, none, none, none, none, none]),
  .inr (0, 5, fun _ => 0),
  .inr (0, 5, fun _ => 0),
  .inr (0, 32, fun _ => 0),
  .inr (0, 32, fun _ => 0),
  .inl (2, [none, none, none, none, none, none, none, none, none]),
  .inl (0, [some 50, some 51, some 52, some 53]),
  .inr (0, 5, fun _ => 0),
  .inr (0, 32, fun _ => 0),
  .inr (0, 32, fun _ => 0),
  .inr (1, 100, fun _ => 0),
  .inl (5, [some 55, some 56, none]),
  .inr (4, 4, fun j => 58 + 2 * j),
  .inl (4, [some 57, none, none]),
  .inr (0, 60, fun _ => 0),
  .inl (4, [some 59, none, none]),
  .inr (0, 60, fun _ => 0),
  .inl (4, [some 61, none, none]),
  .inr (0, 60, fun _ => 0),
  .inl (4, [some 63, none, none]),
  .inr (0, 60, fun _ => 0),
  .inl (4, [some 65, none, none]),
  .inr (0, 60, fun _ => 0),
  .inl (11, [some 67, some 68, some 69, some 70, none, some 71, some 72, none, none, some 73, some 74, some 75, none, none, none, some 76, some 77, none, none, some 78, some 79, some 80, some 81, some 82, none, none, none, none, none, some 83, some 84, some 85, some 86]),
  .inr (0, 4, fun _ => 0),
  .inr (0, 4, fun _ => 0),
  .inr (0, 240, fun _ => 0),
  .inr (0, 60, fun _ => 0),
  .inr (0, 70, fun _ => 0),
  .inr (0, 2, fun _ => 0),
  .inr (0, 54, fun _ => 0),
  .inr (0, 8, fun _ => 0),
  .inr (0, 3, fun _ => 0),
  .inr (0, 100, fun _ => 0),
  .inr (0, 20, fun _ => 0),
  .inr (0, 5, fun _ => 0),
  .inr (0, 5, fun _ => 0),
  .inr (0, 5, fun _ => 0),
  .inr (0, 5, fun _ => 0),
  .inr (0, 9, fun _ => 0),
  .inr (0, 5, fun _ => 0),
  .inr (0, 32, fun _ => 0),
  .inr (1, 100, fun _ => 0),
  .inr (1, 100, fun _ => 0)]
def Sh (i : Nat) (x : Shp) : Prop := i < 87 ∧ shl[i]? = some x
theorem sh_0 : Sh 0 (.inl (10, [some 1, some 3, some 5, some 17, some 18, some 41, some 43, some 49, some 54])) := ⟨by decide, rfl⟩
theorem sh_1 : Sh 1 (.inl (6, [some 2, none, none])) := ⟨by decide, rfl⟩
theorem sh_2 : Sh 2 (.inr (0, 60, fun _ => 0)) := ⟨by decide, rfl⟩
theorem sh_3 : Sh 3 (.inl (6, [some 4, none, none])) := ⟨by decide, rfl⟩
theorem sh_4 : Sh 4 (.inr (0, 60, fun _ => 0)) := ⟨by decide, rfl⟩
theorem sh_5 : Sh 5 (.inl (3, [some 6, some 7, some 8, none, none, none])) := ⟨by decide, rfl⟩
theorem sh_6 : Sh 6 (.inr (2, 8, fun j => 9 + j)) := ⟨by decide, rfl⟩
theorem sh_7 : Sh 7 (.inl (2, [none, none, none, none, none, none, none, none, none])) := ⟨by decide, rfl⟩
theorem sh_8 : Sh 8 (.inr (0, 8, fun _ => 0)) := ⟨by decide, rfl⟩
theorem sh_9 : Sh 9 (.inl (2, [none, none, none, none, none, none, none, none, none])) := ⟨by decide, rfl⟩
theorem sh_10 : Sh 10 (.inl (2, [none, none, none, none, none, none, none, none, none])) := ⟨by decide, rfl⟩
theorem sh_11 : Sh 11 (.inl (2, [none, none, none, none, none, none, none, none, none])) := ⟨by decide, rfl⟩
theorem sh_12 : Sh 12 (.inl (2, [none, none, none, none, none, none, none, none, none])) := ⟨by decide, rfl⟩
theorem sh_13 : Sh 13 (.inl (2, [none, none, none, none, none, none, none, none, none])) := ⟨by decide, rfl⟩
theorem sh_14 : Sh 14 (.inl (2, [none, none, none, none, none, none, none, none, none])) := ⟨by decide, rfl⟩
theorem sh_15 : Sh 15 (.inl (2, [none, none, none, none, none, none, none, none, none])) := ⟨by decide, rfl⟩
theorem sh_16 : Sh 16 (.inl (2, [none, none, none, none, none, none, none, none, none])) := ⟨by decide, rfl⟩
theorem sh_17 : Sh 17 (.inr (0, 3, fun _ => 0)) := ⟨by decide, rfl⟩
theorem sh_18 : Sh 18 (.inl (9, [some 19, some 20, none])) := ⟨by decide, rfl⟩
theorem sh_19 : Sh 19 (.inr (3, 20, fun j => 21 + j)) := ⟨by decide, rfl⟩
theorem sh_20 : Sh 20 (.inl (8, [none, none, none, none, none])) := ⟨by decide, rfl⟩
theorem sh_21 : Sh 21 (.inl (8, [none, none, none, none, none])) := ⟨by decide, rfl⟩
theorem sh_22 : Sh 22 (.inl (8, [none, none, none, none, none])) := ⟨by decide, rfl⟩
theorem sh_23 : Sh 23 (.inl (8, [none, none, none, none, none])) := ⟨by decide, rfl⟩
theorem sh_24 : Sh 24 (.inl (8, [none, none, none, none, none])) := ⟨by decide, rfl⟩
theorem sh_25 : Sh 25 (.inl (8, [none, none, none, none, none])) := ⟨by decide, rfl⟩
theorem sh_26 : Sh 26 (.inl (8, [none, none, none, none, none])) := ⟨by decide, rfl⟩
theorem sh_27 : Sh 27 (.inl (8, [none, none, none, none, none])) := ⟨by decide, rfl⟩
theorem sh_28 : Sh 28 (.inl (8, [none, none, none, none, none])) := ⟨by decide, rfl⟩
theorem sh_29 : Sh 29 (.inl (8, [none, none, none, none, none])) := ⟨by decide, rfl⟩
theorem sh_30 : Sh 30 (.inl (8, [none, none, none, none, none])) := ⟨by decide, rfl⟩
theorem sh_31 : Sh 31 (.inl (8, [none, none, none, none, none])) := ⟨by decide, rfl⟩
theorem sh_32 : Sh 32 (.inl (8, [none, none, none, none, none])) := ⟨by decide, rfl⟩
theorem sh_33 : Sh 33 (.inl (8, [none, none, none, none, none])) := ⟨by decide, rfl⟩
theorem sh_34 : Sh 34 (.inl (8, [none, none, none, none, none])) := ⟨by decide, rfl⟩
theorem sh_35 : Sh 35 (.inl (8, [none, none, none, none, none])) := ⟨by decide, rfl⟩
theorem sh_36 : Sh 36 (.inl (8, [none, none, none, none, none])) := ⟨by decide, rfl⟩
theorem sh_37 : Sh 37 (.inl (8, [none, none, none, none, none])) := ⟨by decide, rfl⟩
theorem sh_38 : Sh 38 (.inl (8, [none, none, none, none, none])) := ⟨by decide, rfl⟩
theorem sh_39 : Sh 39 (.inl (8, [none, none, none, none, none])) := ⟨by decide, rfl⟩
theorem sh_40 : Sh 40 (.inl (8, [none, none, none, none, none])) := ⟨by decide, rfl⟩
theorem sh_41 : Sh 41 (.inl (7, [some 42, none])) := ⟨by decide, rfl⟩
theorem sh_42 : Sh 42 (.inr (0, 20, fun _ => 0)) := ⟨by decide, rfl⟩
theorem sh_43 : Sh 43 (.inl (1, [some 44, some 45, some 46, some 47, some 48, none, none, none, none, none])) := ⟨by decide, rfl⟩
theorem sh_44 : Sh 44 (.inr (0, 5, fun _ => 0)) := ⟨by decide, rfl⟩
theorem sh_45 : Sh 45 (.inr (0, 5, fun _ => 0)) := ⟨by decide, rfl⟩
theorem sh_46 : Sh 46 (.inr (0, 32, fun _ => 0)) := ⟨by decide, rfl⟩
theorem sh_47 : Sh 47 (.inr (0, 32, fun _ => 0)) := ⟨by decide, rfl⟩
theorem sh_48 : Sh 48 (.inl (2, [none, none, none, none, none, none, none, none, none])) := ⟨by decide, rfl⟩
theorem sh_49 : Sh 49 (.inl (0, [some 50, some 51, some 52, some 53])) := ⟨by decide, rfl⟩
theorem sh_50 : Sh 50 (.inr (0, 5, fun _ => 0)) := ⟨by decide, rfl⟩
theorem sh_51 : Sh 51 (.inr (0, 32, fun _ => 0)) := ⟨by decide, rfl⟩
theorem sh_52 : Sh 52 (.inr (0, 32, fun _ => 0)) := ⟨by decide, rfl⟩
theorem sh_53 : Sh 53 (.inr (1, 100, fun _ => 0)) := ⟨by decide, rfl⟩
theorem sh_54 : Sh 54 (.inl (5, [some 55, some 56, none])) := ⟨by decide, rfl⟩
theorem sh_55 : Sh 55 (.inr (4, 4, fun j => 58 + 2 * j)) := ⟨by decide, rfl⟩
theorem sh_56 : Sh 56 (.inl (4, [some 57, none, none])) := ⟨by decide, rfl⟩
theorem sh_57 : Sh 57 (.inr (0, 60, fun _ => 0)) := ⟨by decide, rfl⟩
theorem sh_58 : Sh 58 (.inl (4, [some 59, none, none])) := ⟨by decide, rfl⟩
theorem sh_59 : Sh 59 (.inr (0, 60, fun _ => 0)) := ⟨by decide, rfl⟩
theorem sh_60 : Sh 60 (.inl (4, [some 61, none, none])) := ⟨by decide, rfl⟩
theorem sh_61 : Sh 61 (.inr (0, 60, fun _ => 0)) := ⟨by decide, rfl⟩
theorem sh_62 : Sh 62 (.inl (4, [some 63, none, none])) := ⟨by decide, rfl⟩
theorem sh_63 : Sh 63 (.inr (0, 60, fun _ => 0)) := ⟨by decide, rfl⟩
theorem sh_64 : Sh 64 (.inl (4, [some 65, none, none])) := ⟨by decide, rfl⟩
theorem sh_65 : Sh 65 (.inr (0, 60, fun _ => 0)) := ⟨by decide, rfl⟩
theorem sh_66 : Sh 66 (.inl (11, [some 67, some 68, some 69, some 70, none, some 71, some 72, none, none, some 73, some 74, some 75, none, none, none, some 76, some 77, none, none, some 78, some 79, some 80, some 81, some 82, none, none, none, none, none, some 83, some 84, some 85, some 86])) := ⟨by decide, rfl⟩
theorem sh_67 : Sh 67 (.inr (0, 4, fun _ => 0)) := ⟨by decide, rfl⟩
theorem sh_68 : Sh 68 (.inr (0, 4, fun _ => 0)) := ⟨by decide, rfl⟩
theorem sh_69 : Sh 69 (.inr (0, 240, fun _ => 0)) := ⟨by decide, rfl⟩
theorem sh_70 : Sh 70 (.inr (0, 60, fun _ => 0)) := ⟨by decide, rfl⟩
theorem sh_71 : Sh 71 (.inr (0, 70, fun _ => 0)) := ⟨by decide, rfl⟩
theorem sh_72 : Sh 72 (.inr (0, 2, fun _ => 0)) := ⟨by decide, rfl⟩
theorem sh_73 : Sh 73 (.inr (0, 54, fun _ => 0)) := ⟨by decide, rfl⟩
theorem sh_74 : Sh 74 (.inr (0, 8, fun _ => 0)) := ⟨by decide, rfl⟩
theorem sh_75 : Sh 75 (.inr (0, 3, fun _ => 0)) := ⟨by decide, rfl⟩
theorem sh_76 : Sh 76 (.inr (0, 100, fun _ => 0)) := ⟨by decide, rfl⟩
theorem sh_77 : Sh 77 (.inr (0, 20, fun _ => 0)) := ⟨by decide, rfl⟩
theorem sh_78 : Sh 78 (.inr (0, 5, fun _ => 0)) := ⟨by decide, rfl⟩
theorem sh_79 : Sh 79 (.inr (0, 5, fun _ => 0)) := ⟨by decide, rfl⟩
theorem sh_80 : Sh 80 (.inr (0, 5, fun _ => 0)) := ⟨by decide, rfl⟩
theorem sh_81 : Sh 81 (.inr (0, 5, fun _ => 0)) := ⟨by decide, rfl⟩
theorem sh_82 : Sh 82 (.inr (0, 9, fun _ => 0)) := ⟨by decide, rfl⟩
theorem sh_83 : Sh 83 (.inr (0, 5, fun _ => 0)) := ⟨by decide, rfl⟩
theorem sh_84 : Sh 84 (.inr (0, 32, fun _ => 0)) := ⟨by decide, rfl⟩
theorem sh_85 : Sh 85 (.inr (1, 100, fun _ => 0)) := ⟨by decide, rfl⟩
theorem sh_86 : Sh 86 (.inr (1, 100, fun _ => 0)) := ⟨by decide, rfl⟩
def is_Ro (i : Nat) : Prop := i = 7 ∨ (9 ≤ i ∧ i < 17) ∨ i = 48
theorem sh_Ro {i : Nat} (h : is_Ro i) : Sh i (.inl (2, [none, none, none, none, none, none, none, none, none])) := by
  have h2 : i = 7 ∨ i = 9 ∨ i = 10 ∨ i = 11 ∨ i = 12 ∨ i = 13 ∨ i = 14 ∨ i = 15 ∨ i = 16 ∨ i = 48 := by unfold is_Ro at h; omega
  rcases h2 with rfl | rfl | rfl | rfl | rfl | rfl | rfl | rfl | rfl | rfl <;> exact ⟨by decide, rfl⟩
def is_Tr (i : Nat) : Prop := 20 ≤ i ∧ i < 41
theorem sh_Tr {i : Nat} (h : is_Tr i) : Sh i (.inl (8, [none, none, none, none, none])) := by
  have h2 : i = 20 ∨ i = 21 ∨ i = 22 ∨ i = 23 ∨ i = 24 ∨ i = 25 ∨ i = 26 ∨ i = 27 ∨ i = 28 ∨ i = 29 ∨ i = 30 ∨ i = 31 ∨ i = 32 ∨ i = 33 ∨ i = 34 ∨ i = 35 ∨ i = 36 ∨ i = 37 ∨ i = 38 ∨ i = 39 ∨ i = 40 := by unfold is_Tr at h; omega
  rcases h2 with rfl | rfl | rfl | rfl | rfl | rfl | rfl | rfl | rfl | rfl | rfl | rfl | rfl | rfl | rfl | rfl | rfl | rfl | rfl | rfl | rfl <;> exact ⟨by decide, rfl⟩
def is_Te (i : Nat) : Prop := i = 1 ∨ i = 3
theorem sh_Te {i : Nat} (h : is_Te i) : Sh i (.inl (6, [some (i + 1), none, none])) := by
  have h2 : i = 1 ∨ i = 3 := by unfold is_Te at h; omega
  rcases h2 with rfl | rfl <;> exact ⟨by decide, rfl⟩
theorem sh_Te_a {i : Nat} (h : is_Te i) : Sh (i + 1) (.inr (0, 60, fun _ => 0)) := by
  have h2 : i = 1 ∨ i = 3 := by unfold is_Te at h; omega
  rcases h2 with rfl | rfl <;> exact ⟨by decide, rfl⟩
def is_Sh (i : Nat) : Prop := i = 56 ∨ i = 58 ∨ i = 60 ∨ i = 62 ∨ i = 64
theorem sh_Sh {i : Nat} (h : is_Sh i) : Sh i (.inl (4, [some (i + 1), none, none])) := by
  have h2 : i = 56 ∨ i = 58 ∨ i = 60 ∨ i = 62 ∨ i = 64 := by unfold is_Sh at h; omega
  rcases h2 with rfl | rfl | rfl | rfl | rfl <;> exact ⟨by decide, rfl⟩
theorem sh_Sh_a {i : Nat} (h : is_Sh i) : Sh (i + 1) (.inr (0, 60, fun _ => 0)) := by
  have h2 : i = 56 ∨ i = 58 ∨ i = 60 ∨ i = 62 ∨ i = 64 := by unfold is_Sh at h; omega
  rcases h2 with rfl | rfl | rfl | rfl | rfl <;> exact ⟨by decide, rfl⟩
