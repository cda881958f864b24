theorem d_Md_count_0 : decode c_Md_count 0 = .ok (.iconst 0, 1) := by decide +kernel
theorem d_Md_count_1 : decode c_Md_count 1 = .ok (.istore_n 2, 1) := by decide +kernel
theorem d_Md_count_2 : decode c_Md_count 2 = .ok (.aload_n 0, 1) := by decide +kernel
theorem d_Md_count_3 : decode c_Md_count 3 = .ok (.invokevirtual 137, 3) := by decide +kernel
theorem d_Md_count_6 : decode c_Md_count 6 = .ok (.pop, 1) := by decide +kernel
theorem d_Md_count_7 : decode c_Md_count 7 = .ok (.iload_n 1, 1) := by decide +kernel
theorem d_Md_count_8 : decode c_Md_count 8 = .ok (.tableswitch 208 0 8 #[52, 57, 57, 66, 71, 105, 110, 138, 203], 52) := by decide +kernel
theorem d_Md_count_60 : decode c_Md_count 60 = .ok (.aload_n 0, 1) := by decide +kernel
theorem d_Md_count_61 : decode c_Md_count 61 = .ok (.getfield 114, 3) := by decide +kernel
theorem d_Md_count_64 : decode c_Md_count 64 = .ok (.ireturn, 1) := by decide +kernel
theorem d_Md_count_65 : decode c_Md_count 65 = .ok (.aload_n 0, 1) := by decide +kernel
theorem d_Md_count_66 : decode c_Md_count 66 = .ok (.getfield 25, 3) := by decide +kernel
theorem d_Md_count_69 : decode c_Md_count 69 = .ok (.iload_n 1, 1) := by decide +kernel
theorem d_Md_count_70 : decode c_Md_count 70 = .ok (.iconst 1, 1) := by decide +kernel
theorem d_Md_count_71 : decode c_Md_count 71 = .ok (.isub, 1) := by decide +kernel
theorem d_Md_count_72 : decode c_Md_count 72 = .ok (.iaload, 1) := by decide +kernel
theorem d_Md_count_73 : decode c_Md_count 73 = .ok (.ireturn, 1) := by decide +kernel
theorem d_Md_count_74 : decode c_Md_count 74 = .ok (.aload_n 0, 1) := by decide +kernel
theorem d_Md_count_75 : decode c_Md_count 75 = .ok (.getfield 209, 3) := by decide +kernel
theorem d_Md_count_78 : decode c_Md_count 78 = .ok (.ireturn, 1) := by decide +kernel
theorem d_Md_count_79 : decode c_Md_count 79 = .ok (.iconst 0, 1) := by decide +kernel
theorem d_Md_count_80 : decode c_Md_count 80 = .ok (.istore_n 3, 1) := by decide +kernel
theorem d_Md_count_81 : decode c_Md_count 81 = .ok (.iload_n 3, 1) := by decide +kernel
theorem d_Md_count_82 : decode c_Md_count 82 = .ok (.aload_n 0, 1) := by decide +kernel
theorem d_Md_count_83 : decode c_Md_count 83 = .ok (.getfield 209, 3) := by decide +kernel
theorem d_Md_count_86 : decode c_Md_count 86 = .ok (.if_icmp .ge 25, 3) := by decide +kernel
theorem d_Md_count_89 : decode c_Md_count 89 = .ok (.iload_n 2, 1) := by decide +kernel
theorem d_Md_count_90 : decode c_Md_count 90 = .ok (.aload_n 0, 1) := by decide +kernel
theorem d_Md_count_91 : decode c_Md_count 91 = .ok (.iload_n 3, 1) := by decide +kernel
theorem d_Md_count_92 : decode c_Md_count 92 = .ok (.invokevirtual 219, 3) := by decide +kernel
theorem d_Md_count_95 : decode c_Md_count 95 = .ok (.ifCond .eq 7, 3) := by decide +kernel
theorem d_Md_count_98 : decode c_Md_count 98 = .ok (.iconst 1, 1) := by decide +kernel
theorem d_Md_count_99 : decode c_Md_count 99 = .ok (.goto 4, 3) := by decide +kernel
theorem d_Md_count_102 : decode c_Md_count 102 = .ok (.iconst 0, 1) := by decide +kernel
theorem d_Md_count_103 : decode c_Md_count 103 = .ok (.iadd, 1) := by decide +kernel
theorem d_Md_count_104 : decode c_Md_count 104 = .ok (.istore_n 2, 1) := by decide +kernel
theorem d_Md_count_105 : decode c_Md_count 105 = .ok (.iinc 3 1, 3) := by decide +kernel
theorem d_Md_count_108 : decode c_Md_count 108 = .ok (.goto (-27), 3) := by decide +kernel
theorem d_Md_count_111 : decode c_Md_count 111 = .ok (.iload_n 2, 1) := by decide +kernel
theorem d_Md_count_112 : decode c_Md_count 112 = .ok (.ireturn, 1) := by decide +kernel
theorem d_Md_count_113 : decode c_Md_count 113 = .ok (.aload_n 0, 1) := by decide +kernel
theorem d_Md_count_114 : decode c_Md_count 114 = .ok (.getfield 259, 3) := by decide +kernel
theorem d_Md_count_117 : decode c_Md_count 117 = .ok (.ireturn, 1) := by decide +kernel
theorem d_Md_count_118 : decode c_Md_count 118 = .ok (.iconst 0, 1) := by decide +kernel
theorem d_Md_count_119 : decode c_Md_count 119 = .ok (.istore_n 3, 1) := by decide +kernel
theorem d_Md_count_120 : decode c_Md_count 120 = .ok (.iload_n 3, 1) := by decide +kernel
theorem d_Md_count_121 : decode c_Md_count 121 = .ok (.aload_n 0, 1) := by decide +kernel
theorem d_Md_count_122 : decode c_Md_count 122 = .ok (.getfield 114, 3) := by decide +kernel
theorem d_Md_count_125 : decode c_Md_count 125 = .ok (.if_icmp .ge 17, 3) := by decide +kernel
theorem d_Md_count_128 : decode c_Md_count 128 = .ok (.iload_n 2, 1) := by decide +kernel
theorem d_Md_count_129 : decode c_Md_count 129 = .ok (.aload_n 0, 1) := by decide +kernel
theorem d_Md_count_130 : decode c_Md_count 130 = .ok (.iload_n 3, 1) := by decide +kernel
theorem d_Md_count_131 : decode c_Md_count 131 = .ok (.invokevirtual 161, 3) := by decide +kernel
theorem d_Md_count_134 : decode c_Md_count 134 = .ok (.iadd, 1) := by decide +kernel
theorem d_Md_count_135 : decode c_Md_count 135 = .ok (.istore_n 2, 1) := by decide +kernel
theorem d_Md_count_136 : decode c_Md_count 136 = .ok (.iinc 3 1, 3) := by decide +kernel
theorem d_Md_count_139 : decode c_Md_count 139 = .ok (.goto (-19), 3) := by decide +kernel
theorem d_Md_count_142 : decode c_Md_count 142 = .ok (.iload_n 2, 1) := by decide +kernel
theorem d_Md_count_143 : decode c_Md_count 143 = .ok (.iconst 2, 1) := by decide +kernel
theorem d_Md_count_144 : decode c_Md_count 144 = .ok (.idiv, 1) := by decide +kernel
theorem d_Md_count_145 : decode c_Md_count 145 = .ok (.ireturn, 1) := by decide +kernel
theorem d_Md_count_146 : decode c_Md_count 146 = .ok (.iconst 0, 1) := by decide +kernel
theorem d_Md_count_147 : decode c_Md_count 147 = .ok (.istore_n 3, 1) := by decide +kernel
theorem d_Md_count_148 : decode c_Md_count 148 = .ok (.iload_n 3, 1) := by decide +kernel
theorem d_Md_count_149 : decode c_Md_count 149 = .ok (.aload_n 0, 1) := by decide +kernel
theorem d_Md_count_150 : decode c_Md_count 150 = .ok (.getfield 209, 3) := by decide +kernel
theorem d_Md_count_153 : decode c_Md_count 153 = .ok (.if_icmp .ge 56, 3) := by decide +kernel
theorem d_Md_count_156 : decode c_Md_count 156 = .ok (.iload_n 2, 1) := by decide +kernel
theorem d_Md_count_157 : decode c_Md_count 157 = .ok (.aload_n 0, 1) := by decide +kernel
theorem d_Md_count_158 : decode c_Md_count 158 = .ok (.iload_n 3, 1) := by decide +kernel
theorem d_Md_count_159 : decode c_Md_count 159 = .ok (.invokevirtual 219, 3) := by decide +kernel
theorem d_Md_count_162 : decode c_Md_count 162 = .ok (.ifCond .eq 38, 3) := by decide +kernel
theorem d_Md_count_165 : decode c_Md_count 165 = .ok (.aload_n 0, 1) := by decide +kernel
theorem d_Md_count_166 : decode c_Md_count 166 = .ok (.aload_n 0, 1) := by decide +kernel
theorem d_Md_count_167 : decode c_Md_count 167 = .ok (.getfield 37, 3) := by decide +kernel
theorem d_Md_count_170 : decode c_Md_count 170 = .ok (.iconst 5, 1) := by decide +kernel
theorem d_Md_count_171 : decode c_Md_count 171 = .ok (.iload_n 3, 1) := by decide +kernel
theorem d_Md_count_172 : decode c_Md_count 172 = .ok (.imul, 1) := by decide +kernel
theorem d_Md_count_173 : decode c_Md_count 173 = .ok (.iaload, 1) := by decide +kernel
theorem d_Md_count_174 : decode c_Md_count 174 = .ok (.aload_n 0, 1) := by decide +kernel
theorem d_Md_count_175 : decode c_Md_count 175 = .ok (.getfield 37, 3) := by decide +kernel
theorem d_Md_count_178 : decode c_Md_count 178 = .ok (.iconst 5, 1) := by decide +kernel
theorem d_Md_count_179 : decode c_Md_count 179 = .ok (.iload_n 3, 1) := by decide +kernel
theorem d_Md_count_180 : decode c_Md_count 180 = .ok (.imul, 1) := by decide +kernel
theorem d_Md_count_181 : decode c_Md_count 181 = .ok (.iconst 1, 1) := by decide +kernel
theorem d_Md_count_182 : decode c_Md_count 182 = .ok (.iadd, 1) := by decide +kernel
theorem d_Md_count_183 : decode c_Md_count 183 = .ok (.iaload, 1) := by decide +kernel
theorem d_Md_count_184 : decode c_Md_count 184 = .ok (.aload_n 0, 1) := by decide +kernel
theorem d_Md_count_185 : decode c_Md_count 185 = .ok (.getfield 37, 3) := by decide +kernel
theorem d_Md_count_188 : decode c_Md_count 188 = .ok (.iconst 5, 1) := by decide +kernel
theorem d_Md_count_189 : decode c_Md_count 189 = .ok (.iload_n 3, 1) := by decide +kernel
theorem d_Md_count_190 : decode c_Md_count 190 = .ok (.imul, 1) := by decide +kernel
theorem d_Md_count_191 : decode c_Md_count 191 = .ok (.iconst 3, 1) := by decide +kernel
theorem d_Md_count_192 : decode c_Md_count 192 = .ok (.iadd, 1) := by decide +kernel
theorem d_Md_count_193 : decode c_Md_count 193 = .ok (.iaload, 1) := by decide +kernel
theorem d_Md_count_194 : decode c_Md_count 194 = .ok (.invokevirtual 195, 3) := by decide +kernel
theorem d_Md_count_197 : decode c_Md_count 197 = .ok (.goto 4, 3) := by decide +kernel
theorem d_Md_count_200 : decode c_Md_count 200 = .ok (.iconst 0, 1) := by decide +kernel
theorem d_Md_count_201 : decode c_Md_count 201 = .ok (.iadd, 1) := by decide +kernel
theorem d_Md_count_202 : decode c_Md_count 202 = .ok (.istore_n 2, 1) := by decide +kernel
theorem d_Md_count_203 : decode c_Md_count 203 = .ok (.iinc 3 1, 3) := by decide +kernel
theorem d_Md_count_206 : decode c_Md_count 206 = .ok (.goto (-58), 3) := by decide +kernel
theorem d_Md_count_209 : decode c_Md_count 209 = .ok (.iload_n 2, 1) := by decide +kernel
theorem d_Md_count_210 : decode c_Md_count 210 = .ok (.ireturn, 1) := by decide +kernel
theorem d_Md_count_211 : decode c_Md_count 211 = .ok (.aload_n 0, 1) := by decide +kernel
theorem d_Md_count_212 : decode c_Md_count 212 = .ok (.getfield 81, 3) := by decide +kernel
theorem d_Md_count_215 : decode c_Md_count 215 = .ok (.ireturn, 1) := by decide +kernel
theorem d_Md_count_216 : decode c_Md_count 216 = .ok (.bipush (-2), 2) := by decide +kernel
theorem d_Md_count_218 : decode c_Md_count 218 = .ok (.ireturn, 1) := by decide +kernel
def f_Md_count_65 (σ : Sg) (v1 : Int32) : Option (Int32 × Sg) :=
  gd (vin (v1 - 1) 2) (
    some (σ.1 72 (v1 - 1).toNatClampNeg, σ))
set_option maxHeartbeats 4000000 in
theorem j_Md_count_65 {V : Vx} {X : Xx} {r : Int32} {σ' : Sg}  (σ : Sg) (v1 : Int32) (hf : f_Md_count_65 σ v1 = some (r, σ')) : J V X (k2_rm 4 91) c_Md_count R_Md 4 (some .int) (Qr V X (some (.int r)) σ') σ 65 [(0, rf V 66), (1, .int v1)] [] := by
  unfold f_Md_count_65 at hf
  refine J_aload_n (pc' := 66) d_Md_count_65 rfl 0 rfl ?_
  refine J_getR (pc' := 69) d_Md_count_66 rfl sh_66 fl_Md_25 rfl ?_
  refine J_iload_n (pc' := 70) d_Md_count_69 rfl 1 rfl ?_
  refine J_iconst (pc' := 71) (v := 1) d_Md_count_70 rfl ic_1 ?_
  refine J_isub (pc' := 72) d_Md_count_71 rfl ?_
  obtain ⟨hg6, hf⟩ := gdE hf
  refine J_ial (pc' := 73) d_Md_count_72 rfl sh_72 (vinP hg6) ?_
  obtain ⟨rfl, rfl⟩ := resE hf
  exact J_iret d_Md_count_73
def f_Md_count_103 (k81 : Sg → Int32 → Int32 → Option (Int32 × Sg)) (σ : Sg) (v3 : Int32) (s0 : Int32) (s1 : Int32) : Option (Int32 × Sg) :=
  k81 σ (s1 + s0) (v3 + 1)
set_option maxHeartbeats 4000000 in
theorem j_Md_count_103 {V : Vx} {X : Xx} {r : Int32} {σ' : Sg} {k81 : Sg → Int32 → Int32 → Option (Int32 × Sg)} (hk81 : ∀ (σ : Sg) (v2 : Int32) (v3 : Int32), k81 σ v2 v3 = some (r, σ') → J V X (k2_rm 4 91) c_Md_count R_Md 4 (some .int) (Qr V X (some (.int r)) σ') σ 81 [(0, rf V 66), (2, .int v2), (3, .int v3)] []) (σ : Sg) (v3 : Int32) (s0 : Int32) (s1 : Int32) (hf : f_Md_count_103 k81 σ v3 s0 s1 = some (r, σ')) : J V X (k2_rm 4 91) c_Md_count R_Md 4 (some .int) (Qr V X (some (.int r)) σ') σ 103 [(0, rf V 66), (3, .int v3)] [.int s0, .int s1] := by
  unfold f_Md_count_103 at hf
  refine J_iadd (pc' := 104) d_Md_count_103 rfl ?_
  refine J_istore_n (pc' := 105) (lv' := [(2, .int (s1 + s0)), (0, rf V 66), (3, .int v3)]) d_Md_count_104 rfl rfl (by decide) rfl ?_
  refine J_iinc (pc' := 108) (j := 2) (v := 1) (lv' := [(3, .int (v3 + 1)), (2, .int (s1 + s0)), (0, rf V 66)]) d_Md_count_105 rfl rfl ic_1 (by decide) rfl ?_
  refine J_goto (tgt := 81) d_Md_count_108 (by decide) ?_
  refine J_pick [2, 1, 0] rfl ?_
  exact hk81 _ _ _ hf
def f_Md_count_81 : Nat → Sg → Int32 → Int32 → Option (Int32 × Sg)
  | 0, _, _, _ => none
  | n + 1, σ, v2, v3 =>
    if (σ.1 66 14) ≤ v3 then
      some (v2, σ)
    else
      (f_Md_counts σ v3).bind fun r12 =>
        if r12 = 0 then f_Md_count_103 (f_Md_count_81 n) σ v3 0 v2 else f_Md_count_103 (f_Md_count_81 n) σ v3 1 v2
theorem f_Md_count_81_s (n : Nat) (σ : Sg) (v2 : Int32) (v3 : Int32) : f_Md_count_81 (n + 1) σ v2 v3 =
    if (σ.1 66 14) ≤ v3 then
      some (v2, σ)
    else
      (f_Md_counts σ v3).bind fun r12 =>
        if r12 = 0 then f_Md_count_103 (f_Md_count_81 n) σ v3 0 v2 else f_Md_count_103 (f_Md_count_81 n) σ v3 1 v2 := rfl
set_option maxHeartbeats 4000000 in
theorem j_Md_count_81 {V : Vx} {X : Xx} {r : Int32} {σ' : Sg}  : ∀ (n : Nat) (σ : Sg) (v2 : Int32) (v3 : Int32), f_Md_count_81 n σ v2 v3 = some (r, σ') → J V X (k2_rm 4 91) c_Md_count R_Md 4 (some .int) (Qr V X (some (.int r)) σ') σ 81 [(0, rf V 66), (2, .int v2), (3, .int v3)] [] := by
  intro n
  induction n with
  | zero => intro σ v2 v3 hf; exact nn hf
  | succ n ih =>
    intro σ v2 v3 hf
    rw [f_Md_count_81_s] at hf
    refine J_iload_n (pc' := 82) d_Md_count_81 rfl 2 rfl ?_
    refine J_aload_n (pc' := 83) d_Md_count_82 rfl 0 rfl ?_
    refine J_getI (pc' := 86) d_Md_count_83 rfl sh_66 fl_Md_209 rfl ?_
    refine J_icmp_ge (pc' := 89) (tgt := 111) d_Md_count_86 rfl (by decide) (fun hc10 => ?_) (fun hc10 => ?_)
    · have hf := brT hc10 hf
      refine J_iload_n (pc' := 112) d_Md_count_111 rfl 1 rfl ?_
      obtain ⟨rfl, rfl⟩ := resE hf
      exact J_iret d_Md_count_112
    · have hf := brF hc10 hf
      refine J_iload_n (pc' := 90) d_Md_count_89 rfl 1 rfl ?_
      refine J_aload_n (pc' := 91) d_Md_count_90 rfl 0 rfl ?_
      refine J_iload_n (pc' := 92) d_Md_count_91 rfl 2 rfl ?_
      obtain ⟨r12, hq11, hf⟩ := bpE hf
      refine J_V (pc' := 95) (as := [.int v3]) (rest := [.int v2]) (st' := [.int r12, .int v2]) d_Md_count_92 rfl sh_66 rfl mv_Md_219 (ct_Md_counts V _ σ v3 hq11) rfl rfl ⟨Nat.le_of_ble_eq_true rfl, Nat.le_of_ble_eq_true rfl⟩ ⟨rfl, rfl⟩ (Nat.le_of_ble_eq_true rfl) rfl ?_
      refine J_if_eq (pc' := 98) (tgt := 102) d_Md_count_95 rfl (by decide) (fun hc13 => ?_) (fun hc13 => ?_)
      · have hf := brT hc13 hf
        refine J_iconst (pc' := 103) (v := 0) d_Md_count_102 rfl ic_0 ?_
        refine J_pick [0, 2] rfl ?_
        exact j_Md_count_103 ih _ _ _ _ hf
      · have hf := brF hc13 hf
        refine J_iconst (pc' := 99) (v := 1) d_Md_count_98 rfl ic_1 ?_
        refine J_goto (tgt := 103) d_Md_count_99 (by decide) ?_
        refine J_pick [0, 2] rfl ?_
        exact j_Md_count_103 ih _ _ _ _ hf
def f_Md_count_120 : Nat → Sg → Int32 → Int32 → Option (Int32 × Sg)
  | 0, _, _, _ => none
  | n + 1, σ, v2, v3 =>
    if (σ.1 66 8) ≤ v3 then
      some (v2 / 2, σ)
    else
      (f_Md_crossesWith σ v3).bind fun r18 =>
        f_Md_count_120 n σ (v2 + r18) (v3 + 1)
theorem f_Md_count_120_s (n : Nat) (σ : Sg) (v2 : Int32) (v3 : Int32) : f_Md_count_120 (n + 1) σ v2 v3 =
    if (σ.1 66 8) ≤ v3 then
      some (v2 / 2, σ)
    else
      (f_Md_crossesWith σ v3).bind fun r18 =>
        f_Md_count_120 n σ (v2 + r18) (v3 + 1) := rfl
set_option maxHeartbeats 4000000 in
theorem j_Md_count_120 {V : Vx} {X : Xx} {r : Int32} {σ' : Sg}  : ∀ (n : Nat) (σ : Sg) (v2 : Int32) (v3 : Int32), f_Md_count_120 n σ v2 v3 = some (r, σ') → J V X (k2_rm 4 91) c_Md_count R_Md 4 (some .int) (Qr V X (some (.int r)) σ') σ 120 [(0, rf V 66), (2, .int v2), (3, .int v3)] [] := by
  intro n
  induction n with
  | zero => intro σ v2 v3 hf; exact nn hf
  | succ n ih =>
    intro σ v2 v3 hf
    rw [f_Md_count_120_s] at hf
    refine J_iload_n (pc' := 121) d_Md_count_120 rfl 2 rfl ?_
    refine J_aload_n (pc' := 122) d_Md_count_121 rfl 0 rfl ?_
    refine J_getI (pc' := 125) d_Md_count_122 rfl sh_66 fl_Md_114 rfl ?_
    refine J_icmp_ge (pc' := 128) (tgt := 142) d_Md_count_125 rfl (by decide) (fun hc16 => ?_) (fun hc16 => ?_)
    · have hf := brT hc16 hf
      refine J_iload_n (pc' := 143) d_Md_count_142 rfl 1 rfl ?_
      refine J_iconst (pc' := 144) (v := 2) d_Md_count_143 rfl ic_2 ?_
      refine J_idiv (pc' := 145) d_Md_count_144 rfl (by decide) ?_
      obtain ⟨rfl, rfl⟩ := resE hf
      exact J_iret d_Md_count_145
    · have hf := brF hc16 hf
      refine J_iload_n (pc' := 129) d_Md_count_128 rfl 1 rfl ?_
      refine J_aload_n (pc' := 130) d_Md_count_129 rfl 0 rfl ?_
      refine J_iload_n (pc' := 131) d_Md_count_130 rfl 2 rfl ?_
      obtain ⟨r18, hq17, hf⟩ := bpE hf
      refine J_V (pc' := 134) (as := [.int v3]) (rest := [.int v2]) (st' := [.int r18, .int v2]) d_Md_count_131 rfl sh_66 rfl mv_Md_161 (ct_Md_crossesWith V _ σ v3 hq17) rfl rfl ⟨Nat.le_of_ble_eq_true rfl, Nat.le_of_ble_eq_true rfl⟩ ⟨rfl, rfl⟩ (Nat.le_of_ble_eq_true rfl) rfl ?_
      refine J_iadd (pc' := 135) d_Md_count_134 rfl ?_
      refine J_istore_n (pc' := 136) (lv' := [(2, .int (v2 + r18)), (0, rf V 66), (3, .int v3)]) d_Md_count_135 rfl rfl (by decide) rfl ?_
      refine J_iinc (pc' := 139) (j := 2) (v := 1) (lv' := [(3, .int (v3 + 1)), (2, .int (v2 + r18)), (0, rf V 66)]) d_Md_count_136 rfl rfl ic_1 (by decide) rfl ?_
      refine J_goto (tgt := 120) d_Md_count_139 (by decide) ?_
      refine J_pick [2, 1, 0] rfl ?_
      exact ih _ _ _ hf
def f_Md_count_201 (k148 : Sg → Int32 → Int32 → Option (Int32 × Sg)) (σ : Sg) (v3 : Int32) (s0 : Int32) (s1 : Int32) : Option (Int32 × Sg) :=
  k148 σ (s1 + s0) (v3 + 1)
set_option maxHeartbeats 4000000 in
theorem j_Md_count_201 {V : Vx} {X : Xx} {r : Int32} {σ' : Sg} {k148 : Sg → Int32 → Int32 → Option (Int32 × Sg)} (hk148 : ∀ (σ : Sg) (v2 : Int32) (v3 : Int32), k148 σ v2 v3 = some (r, σ') → J V X (k2_rm 4 91) c_Md_count R_Md 4 (some .int) (Qr V X (some (.int r)) σ') σ 148 [(0, rf V 66), (2, .int v2), (3, .int v3)] []) (σ : Sg) (v3 : Int32) (s0 : Int32) (s1 : Int32) (hf : f_Md_count_201 k148 σ v3 s0 s1 = some (r, σ')) : J V X (k2_rm 4 91) c_Md_count R_Md 4 (some .int) (Qr V X (some (.int r)) σ') σ 201 [(0, rf V 66), (3, .int v3)] [.int s0, .int s1] := by
  unfold f_Md_count_201 at hf
  refine J_iadd (pc' := 202) d_Md_count_201 rfl ?_
  refine J_istore_n (pc' := 203) (lv' := [(2, .int (s1 + s0)), (0, rf V 66), (3, .int v3)]) d_Md_count_202 rfl rfl (by decide) rfl ?_
  refine J_iinc (pc' := 206) (j := 2) (v := 1) (lv' := [(3, .int (v3 + 1)), (2, .int (s1 + s0)), (0, rf V 66)]) d_Md_count_203 rfl rfl ic_1 (by decide) rfl ?_
  refine J_goto (tgt := 148) d_Md_count_206 (by decide) ?_
  refine J_pick [2, 1, 0] rfl ?_
  exact hk148 _ _ _ hf
def f_Md_count_148 : Nat → Sg → Int32 → Int32 → Option (Int32 × Sg)
  | 0, _, _, _ => none
  | n + 1, σ, v2, v3 =>
    if (σ.1 66 14) ≤ v3 then
      some (v2, σ)
    else
      (f_Md_counts σ v3).bind fun r22 =>
        if r22 = 0 then
          f_Md_count_201 (f_Md_count_148 n) σ v3 0 v2
        else
          gd (vin (5 * v3) 100) (
            gd (vin ((5 * v3) + 1) 100) (
              gd (vin ((5 * v3) + 3) 100) (
                (f_Md_costs σ (σ.1 76 (5 * v3).toNatClampNeg) (σ.1 76 ((5 * v3) + 1).toNatClampNeg) (σ.1 76 ((5 * v3) + 3).toNatClampNeg)).bind fun r28 =>
                  f_Md_count_201 (f_Md_count_148 n) σ v3 r28 v2)))
theorem f_Md_count_148_s (n : Nat) (σ : Sg) (v2 : Int32) (v3 : Int32) : f_Md_count_148 (n + 1) σ v2 v3 =
    if (σ.1 66 14) ≤ v3 then
      some (v2, σ)
    else
      (f_Md_counts σ v3).bind fun r22 =>
        if r22 = 0 then
          f_Md_count_201 (f_Md_count_148 n) σ v3 0 v2
        else
          gd (vin (5 * v3) 100) (
            gd (vin ((5 * v3) + 1) 100) (
              gd (vin ((5 * v3) + 3) 100) (
                (f_Md_costs σ (σ.1 76 (5 * v3).toNatClampNeg) (σ.1 76 ((5 * v3) + 1).toNatClampNeg) (σ.1 76 ((5 * v3) + 3).toNatClampNeg)).bind fun r28 =>
                  f_Md_count_201 (f_Md_count_148 n) σ v3 r28 v2))) := rfl
set_option maxHeartbeats 4000000 in
theorem j_Md_count_148 {V : Vx} {X : Xx} {r : Int32} {σ' : Sg}  : ∀ (n : Nat) (σ : Sg) (v2 : Int32) (v3 : Int32), f_Md_count_148 n σ v2 v3 = some (r, σ') → J V X (k2_rm 4 91) c_Md_count R_Md 4 (some .int) (Qr V X (some (.int r)) σ') σ 148 [(0, rf V 66), (2, .int v2), (3, .int v3)] [] := by
  intro n
  induction n with
  | zero => intro σ v2 v3 hf; exact nn hf
  | succ n ih =>
    intro σ v2 v3 hf
    rw [f_Md_count_148_s] at hf
    refine J_iload_n (pc' := 149) d_Md_count_148 rfl 2 rfl ?_
    refine J_aload_n (pc' := 150) d_Md_count_149 rfl 0 rfl ?_
    refine J_getI (pc' := 153) d_Md_count_150 rfl sh_66 fl_Md_209 rfl ?_
    refine J_icmp_ge (pc' := 156) (tgt := 209) d_Md_count_153 rfl (by decide) (fun hc20 => ?_) (fun hc20 => ?_)
    · have hf := brT hc20 hf
      refine J_iload_n (pc' := 210) d_Md_count_209 rfl 1 rfl ?_
      obtain ⟨rfl, rfl⟩ := resE hf
      exact J_iret d_Md_count_210
    · have hf := brF hc20 hf
      refine J_iload_n (pc' := 157) d_Md_count_156 rfl 1 rfl ?_
      refine J_aload_n (pc' := 158) d_Md_count_157 rfl 0 rfl ?_
      refine J_iload_n (pc' := 159) d_Md_count_158 rfl 2 rfl ?_
      obtain ⟨r22, hq21, hf⟩ := bpE hf
      refine J_V (pc' := 162) (as := [.int v3]) (rest := [.int v2]) (st' := [.int r22, .int v2]) d_Md_count_159 rfl sh_66 rfl mv_Md_219 (ct_Md_counts V _ σ v3 hq21) rfl rfl ⟨Nat.le_of_ble_eq_true rfl, Nat.le_of_ble_eq_true rfl⟩ ⟨rfl, rfl⟩ (Nat.le_of_ble_eq_true rfl) rfl ?_
      refine J_if_eq (pc' := 165) (tgt := 200) d_Md_count_162 rfl (by decide) (fun hc23 => ?_) (fun hc23 => ?_)
      · have hf := brT hc23 hf
        refine J_iconst (pc' := 201) (v := 0) d_Md_count_200 rfl ic_0 ?_
        refine J_pick [0, 2] rfl ?_
        exact j_Md_count_201 ih _ _ _ _ hf
      · have hf := brF hc23 hf
        refine J_aload_n (pc' := 166) d_Md_count_165 rfl 0 rfl ?_
        refine J_aload_n (pc' := 167) d_Md_count_166 rfl 0 rfl ?_
        refine J_getR (pc' := 170) d_Md_count_167 rfl sh_66 fl_Md_37 rfl ?_
        refine J_iconst (pc' := 171) (v := 5) d_Md_count_170 rfl ic_5 ?_
        refine J_iload_n (pc' := 172) d_Md_count_171 rfl 2 rfl ?_
        refine J_imul (pc' := 173) d_Md_count_172 rfl ?_
        obtain ⟨hg24, hf⟩ := gdE hf
        refine J_ial (pc' := 174) d_Md_count_173 rfl sh_76 (vinP hg24) ?_
        refine J_aload_n (pc' := 175) d_Md_count_174 rfl 0 rfl ?_
        refine J_getR (pc' := 178) d_Md_count_175 rfl sh_66 fl_Md_37 rfl ?_
        refine J_iconst (pc' := 179) (v := 5) d_Md_count_178 rfl ic_5 ?_
        refine J_iload_n (pc' := 180) d_Md_count_179 rfl 2 rfl ?_
        refine J_imul (pc' := 181) d_Md_count_180 rfl ?_
        refine J_iconst (pc' := 182) (v := 1) d_Md_count_181 rfl ic_1 ?_
        refine J_iadd (pc' := 183) d_Md_count_182 rfl ?_
        obtain ⟨hg25, hf⟩ := gdE hf
        refine J_ial (pc' := 184) d_Md_count_183 rfl sh_76 (vinP hg25) ?_
        refine J_aload_n (pc' := 185) d_Md_count_184 rfl 0 rfl ?_
        refine J_getR (pc' := 188) d_Md_count_185 rfl sh_66 fl_Md_37 rfl ?_
        refine J_iconst (pc' := 189) (v := 5) d_Md_count_188 rfl ic_5 ?_
        refine J_iload_n (pc' := 190) d_Md_count_189 rfl 2 rfl ?_
        refine J_imul (pc' := 191) d_Md_count_190 rfl ?_
        refine J_iconst (pc' := 192) (v := 3) d_Md_count_191 rfl ic_3 ?_
        refine J_iadd (pc' := 193) d_Md_count_192 rfl ?_
        obtain ⟨hg26, hf⟩ := gdE hf
        refine J_ial (pc' := 194) d_Md_count_193 rfl sh_76 (vinP hg26) ?_
        obtain ⟨r28, hq27, hf⟩ := bpE hf
        refine J_V (pc' := 197) (as := [.int (σ.1 76 (5 * v3).toNatClampNeg), .int (σ.1 76 ((5 * v3) + 1).toNatClampNeg), .int (σ.1 76 ((5 * v3) + 3).toNatClampNeg)]) (rest := [.int v2]) (st' := [.int r28, .int v2]) d_Md_count_194 rfl sh_66 rfl mv_Md_195 (ct_Md_costs V _ σ (σ.1 76 (5 * v3).toNatClampNeg) (σ.1 76 ((5 * v3) + 1).toNatClampNeg) (σ.1 76 ((5 * v3) + 3).toNatClampNeg) hq27) rfl rfl ⟨Nat.le_of_ble_eq_true rfl, Nat.le_of_ble_eq_true rfl⟩ ⟨rfl, rfl⟩ (Nat.le_of_ble_eq_true rfl) rfl ?_
        refine J_goto (tgt := 201) d_Md_count_197 (by decide) ?_
        refine J_pick [0, 2] rfl ?_
        exact j_Md_count_201 ih _ _ _ _ hf
def f_Md_count (σ : Sg) (v1 : Int32) : Option (Int32 × Sg) :=
  bd (f_Md_find σ) fun r3 σ2 =>
    if v1 = 0 then some (σ2.1 66 8, σ2) else
    if v1 = 1 then f_Md_count_65 σ2 v1 else
    if v1 = 2 then f_Md_count_65 σ2 v1 else
    if v1 = 3 then some (σ2.1 66 14, σ2) else
    if v1 = 4 then f_Md_count_81 FU σ2 0 0 else
    if v1 = 5 then some (σ2.1 66 18, σ2) else
    if v1 = 6 then f_Md_count_120 FU σ2 0 0 else
    if v1 = 7 then f_Md_count_148 FU σ2 0 0 else
    if v1 = 8 then some (σ2.1 66 4, σ2) else
      some ((-2), σ2)
set_option maxHeartbeats 4000000 in
theorem j_Md_count {V : Vx} {X : Xx} {r : Int32} {σ' : Sg} (σ : Sg) (v1 : Int32) (hf : f_Md_count σ v1 = some (r, σ')) : J V X (k2_rm 4 91) c_Md_count R_Md 4 (some .int) (Qr V X (some (.int r)) σ') σ 0 [(0, rf V 66), (1, .int v1)] [] := by
  unfold f_Md_count at hf
  refine J_iconst (pc' := 1) (v := 0) d_Md_count_0 rfl ic_0 ?_
  refine J_istore_n (pc' := 2) (lv' := [(2, .int 0), (0, rf V 66), (1, .int v1)]) d_Md_count_1 rfl rfl (by decide) rfl ?_
  refine J_aload_n (pc' := 3) d_Md_count_2 rfl 1 rfl ?_
  obtain ⟨r3, σ2, hq1, hf⟩ := bdE hf
  refine J_V (pc' := 6) (as := []) (rest := []) (st' := [.int r3]) d_Md_count_3 rfl sh_66 rfl mv_Md_137 (ct_Md_find V _ σ hq1) rfl rfl ⟨Nat.le_of_ble_eq_true rfl, Nat.le_of_ble_eq_true rfl⟩ ⟨rfl, rfl⟩ (Nat.le_of_ble_eq_true rfl) rfl ?_
  refine J_pop (pc' := 7) d_Md_count_6 rfl rfl ?_
  refine J_iload_n (pc' := 8) d_Md_count_7 rfl 2 rfl ?_
  by_cases hc4 : v1 = 0
  · have hf := brT hc4 hf
    refine J_tsIn (tgt := 60) (off := 52) 0 d_Md_count_8 (by rw [hc4]; decide) (by decide) (by decide) rfl (by decide) ?_
    refine J_aload_n (pc' := 61) d_Md_count_60 rfl 1 rfl ?_
    refine J_getI (pc' := 64) d_Md_count_61 rfl sh_66 fl_Md_114 rfl ?_
    obtain ⟨rfl, rfl⟩ := resE hf
    exact J_iret d_Md_count_64
  · have hf := brF hc4 hf
    by_cases hc5 : v1 = 1
    · have hf := brT hc5 hf
      refine J_tsIn (tgt := 65) (off := 57) 1 d_Md_count_8 (by rw [hc5]; decide) (by decide) (by decide) rfl (by decide) ?_
      refine J_pick [1, 2] rfl ?_
      exact j_Md_count_65 _ _ hf
    · have hf := brF hc5 hf
      by_cases hc7 : v1 = 2
      · have hf := brT hc7 hf
        refine J_tsIn (tgt := 65) (off := 57) 2 d_Md_count_8 (by rw [hc7]; decide) (by decide) (by decide) rfl (by decide) ?_
        refine J_pick [1, 2] rfl ?_
        exact j_Md_count_65 _ _ hf
      · have hf := brF hc7 hf
        by_cases hc8 : v1 = 3
        · have hf := brT hc8 hf
          refine J_tsIn (tgt := 74) (off := 66) 3 d_Md_count_8 (by rw [hc8]; decide) (by decide) (by decide) rfl (by decide) ?_
          refine J_aload_n (pc' := 75) d_Md_count_74 rfl 1 rfl ?_
          refine J_getI (pc' := 78) d_Md_count_75 rfl sh_66 fl_Md_209 rfl ?_
          obtain ⟨rfl, rfl⟩ := resE hf
          exact J_iret d_Md_count_78
        · have hf := brF hc8 hf
          by_cases hc9 : v1 = 4
          · have hf := brT hc9 hf
            refine J_tsIn (tgt := 79) (off := 71) 4 d_Md_count_8 (by rw [hc9]; decide) (by decide) (by decide) rfl (by decide) ?_
            refine J_iconst (pc' := 80) (v := 0) d_Md_count_79 rfl ic_0 ?_
            refine J_istore_n (pc' := 81) (lv' := [(3, .int 0), (2, .int 0), (0, rf V 66), (1, .int v1)]) d_Md_count_80 rfl rfl (by decide) rfl ?_
            refine J_pick [2, 1, 0] rfl ?_
            exact j_Md_count_81 FU _ _ _ hf
          · have hf := brF hc9 hf
            by_cases hc14 : v1 = 5
            · have hf := brT hc14 hf
              refine J_tsIn (tgt := 113) (off := 105) 5 d_Md_count_8 (by rw [hc14]; decide) (by decide) (by decide) rfl (by decide) ?_
              refine J_aload_n (pc' := 114) d_Md_count_113 rfl 1 rfl ?_
              refine J_getI (pc' := 117) d_Md_count_114 rfl sh_66 fl_Md_259 rfl ?_
              obtain ⟨rfl, rfl⟩ := resE hf
              exact J_iret d_Md_count_117
            · have hf := brF hc14 hf
              by_cases hc15 : v1 = 6
              · have hf := brT hc15 hf
                refine J_tsIn (tgt := 118) (off := 110) 6 d_Md_count_8 (by rw [hc15]; decide) (by decide) (by decide) rfl (by decide) ?_
                refine J_iconst (pc' := 119) (v := 0) d_Md_count_118 rfl ic_0 ?_
                refine J_istore_n (pc' := 120) (lv' := [(3, .int 0), (2, .int 0), (0, rf V 66), (1, .int v1)]) d_Md_count_119 rfl rfl (by decide) rfl ?_
                refine J_pick [2, 1, 0] rfl ?_
                exact j_Md_count_120 FU _ _ _ hf
              · have hf := brF hc15 hf
                by_cases hc19 : v1 = 7
                · have hf := brT hc19 hf
                  refine J_tsIn (tgt := 146) (off := 138) 7 d_Md_count_8 (by rw [hc19]; decide) (by decide) (by decide) rfl (by decide) ?_
                  refine J_iconst (pc' := 147) (v := 0) d_Md_count_146 rfl ic_0 ?_
                  refine J_istore_n (pc' := 148) (lv' := [(3, .int 0), (2, .int 0), (0, rf V 66), (1, .int v1)]) d_Md_count_147 rfl rfl (by decide) rfl ?_
                  refine J_pick [2, 1, 0] rfl ?_
                  exact j_Md_count_148 FU _ _ _ hf
                · have hf := brF hc19 hf
                  by_cases hc29 : v1 = 8
                  · have hf := brT hc29 hf
                    refine J_tsIn (tgt := 211) (off := 203) 8 d_Md_count_8 (by rw [hc29]; decide) (by decide) (by decide) rfl (by decide) ?_
                    refine J_aload_n (pc' := 212) d_Md_count_211 rfl 1 rfl ?_
                    refine J_getI (pc' := 215) d_Md_count_212 rfl sh_66 fl_Md_81 rfl ?_
                    obtain ⟨rfl, rfl⟩ := resE hf
                    exact J_iret d_Md_count_215
                  · have hf := brF hc29 hf
                    have ehc4 := neI (z := 0) hc4 (by decide)
                    have ehc5 := neI (z := 1) hc5 (by decide)
                    have ehc7 := neI (z := 2) hc7 (by decide)
                    have ehc8 := neI (z := 3) hc8 (by decide)
                    have ehc9 := neI (z := 4) hc9 (by decide)
                    have ehc14 := neI (z := 5) hc14 (by decide)
                    have ehc15 := neI (z := 6) hc15 (by decide)
                    have ehc19 := neI (z := 7) hc19 (by decide)
                    have ehc29 := neI (z := 8) hc29 (by decide)
                    refine J_tsOut (tgt := 216) d_Md_count_8 (by omega) (by decide) ?_
                    refine J_bipush (pc' := 218) (v := (-2)) d_Md_count_216 rfl bc_m2 ?_
                    obtain ⟨rfl, rfl⟩ := resE hf
                    exact J_iret d_Md_count_218
theorem ct_Md_count (V : Vx) (l : Launch) (σ : Sg) (v1 : Int32) {r : Int32} {σ' : Sg} (hf : f_Md_count σ v1 = some (r, σ')) : Ct V l y_Md_count c_Md_count 4 (some .int) (k2_rm 4 91) [rf V 66, .int v1] σ (some (.int r)) σ' := Ct.ofJ (by decide +kernel) (Nat.le_of_ble_eq_true rfl) fun X _ => j_Md_count _ v1 hf
