/-! the numbers in the cells: ints by cell and place, longs by cell and place -/
abbrev Sg : Type := (Nat → Nat → Int32) × (Nat → Nat → Int64)
/-- what is fixed once the cells are made: class numbers and slots, the cells' addresses, where new addresses begin, the array kinds' numbers, the two static rows -/
abbrev Vx : Type := va_G × (Nat → Nat) × Nat × (Nat → ClassId) × Nat × Nat
abbrev rf (V : Vx) (i : Nat) : Value := Value.ref (V.2.1 i)
def Ab (V : Vx) : Nat → Prop := fun q => V.2.2.1 ≤ q
def fld (V : Vx) (σ : Sg) (i : Nat) : Nat → List (Option Nat) → List Value
  | _, [] => []
  | k, none :: r => .int (σ.1 i k) :: fld V σ i (k + 1) r
  | k, some j :: r => rf V j :: fld V σ i (k + 1) r
def celS (V : Vx) (σ : Sg) (i : Nat) (x : Shp) : va_E := match x with
  | .inl (ci, sp) => .inr (ci, fld V σ i 0 sp)
  | .inr (0, n, _) => .inl (V.2.2.2.1 0, n, .inl (σ.1 i))
  | .inr (1, n, _) => .inl (V.2.2.2.1 1, n, .inr (.inl (σ.2 i)))
  | .inr (k + 2, n, g) => .inl (V.2.2.2.1 (k + 2), n, .inr (.inr (.inr (.inr (fun j => some (V.2.1 (g j)))))))
def cel (V : Vx) (σ : Sg) (i : Nat) : va_E := celS V σ i (shl.getD i (.inr (0, 0, fun _ => 0)))
def wsv (V : Vx) (σ : Sg) : va_W := (List.range 87).map fun i => (V.2.1 i, cel V σ i)
theorem cel_of {V : Vx} {σ : Sg} {i : Nat} {x : Shp} (h : Sh i x) : cel V σ i = celS V σ i x := by
  unfold cel
  rw [List.getD_eq_getElem?_getD, h.2]
  rfl
theorem wsv_at {V : Vx} {σ : Sg} {i : Nat} {x : Shp} (h : Sh i x) : (wsv V σ)[i]? = some (V.2.1 i, celS V σ i x) := by
  rw [← cel_of (V := V) (σ := σ) h]
  simp [wsv, h.1]
theorem fld_get {V : Vx} {σ : Sg} {i : Nat} : ∀ (sp : List (Option Nat)) (b k : Nat), (fld V σ i b sp)[k]? = (sp[k]?).map (fun x => match x with
    | none => .int (σ.1 i (b + k))
    | some j => rf V j)
  | [], b, k => by simp [fld]
  | none :: r, b, 0 => by simp [fld]
  | some j :: r, b, 0 => by simp [fld]
  | none :: r, b, k + 1 => by simp [fld, fld_get r (b + 1) k, Nat.add_assoc, Nat.add_comm 1 k]
  | some j :: r, b, k + 1 => by simp [fld, fld_get r (b + 1) k, Nat.add_assoc, Nat.add_comm 1 k]
theorem fld_len {V : Vx} {σ : Sg} {i : Nat} : ∀ (sp : List (Option Nat)) (b : Nat), (fld V σ i b sp).length = sp.length
  | [], b => rfl
  | none :: r, b => by simp [fld, fld_len r (b + 1)]
  | some j :: r, b => by simp [fld, fld_len r (b + 1)]
/-- an int is put, a long is put -/
def pI (σ : Sg) (i k : Nat) (v : Int32) : Sg := (fun a b => if a = i ∧ b = k then v else σ.1 a b, σ.2)
def pL (σ : Sg) (i k : Nat) (v : Int64) : Sg := (σ.1, fun a b => if a = i ∧ b = k then v else σ.2 a b)
/-- n ints of a row come to a row -/
def pC (σ : Sg) (i j sp dp n : Nat) : Sg := (fun a b => if a = j then va_cpy (σ.1 i) (σ.1 j) sp dp n b else σ.1 a b, σ.2)
theorem celS_congr {V : Vx} {σ σ' : Sg} {j : Nat} (h1 : σ'.1 j = σ.1 j) (h2 : σ'.2 j = σ.2 j) (x : Shp) : celS V σ' j x = celS V σ j x := by
  have hf : ∀ (sp : List (Option Nat)) (b : Nat), fld V σ' j b sp = fld V σ j b sp := by
    intro sp
    induction sp with
    | nil => intro b; rfl
    | cons x r ih => intro b; cases x <;> simp [fld, ih, h1]
  unfold celS
  split
  · rw [hf]
  · rw [h1]
  · rw [h2]
  · rfl
theorem wsv_set {V : Vx} {σ σ' : Sg} {i : Nat} {x : Shp} (h : Sh i x) (h1 : ∀ j, j ≠ i → σ'.1 j = σ.1 j) (h2 : ∀ j, j ≠ i → σ'.2 j = σ.2 j) : (wsv V σ).set i (V.2.1 i, celS V σ' i x) = wsv V σ' := by
  apply List.ext_getElem?
  intro j
  by_cases hj : j = i
  · subst hj
    rw [List.getElem?_set_self (by simp [wsv, h.1]), wsv_at h]
  · rw [List.getElem?_set_ne (Ne.symm hj)]
    unfold wsv
    rw [List.getElem?_map, List.getElem?_map]
    cases hr : (List.range 87)[j]? with
    | none => rfl
    | some z =>
      have hz : z = j := by
        have := List.getElem?_eq_some_iff.mp hr
        obtain ⟨q1, q2⟩ := this
        simpa using q2.symm
      subst hz
      simp only [Option.map_some, cel]
      rw [celS_congr (h1 z hj) (h2 z hj)]
theorem pI_1 {σ : Sg} {i k : Nat} {v : Int32} : ∀ j, j ≠ i → (pI σ i k v).1 j = σ.1 j := fun j hj => by funext b; simp [pI, hj]
theorem pI_2 {σ : Sg} {i k : Nat} {v : Int32} : ∀ j, j ≠ i → (pI σ i k v).2 j = σ.2 j := fun _ _ => rfl
theorem pL_1 {σ : Sg} {i k : Nat} {v : Int64} : ∀ j, j ≠ i → (pL σ i k v).1 j = σ.1 j := fun _ _ => rfl
theorem pL_2 {σ : Sg} {i k : Nat} {v : Int64} : ∀ j, j ≠ i → (pL σ i k v).2 j = σ.2 j := fun j hj => by funext b; simp [pL, hj]
theorem pI_self {σ : Sg} {i k : Nat} {v : Int32} : (pI σ i k v).1 i = upd (σ.1 i) k v := by funext b; simp [pI, upd]
theorem pL_self {σ : Sg} {i k : Nat} {v : Int64} : (pL σ i k v).2 i = vp_updL (σ.2 i) k v := by funext b; simp [pL, vp_updL]
theorem pI_at (σ : Sg) (i k j : Nat) (v : Int32) : (pI σ i k v).1 i j = if j = k then v else σ.1 i j := by simp [pI]
theorem fld_gt {V : Vx} {σ : Sg} {i b : Nat} {v : Int32} : ∀ (sp : List (Option Nat)) (c : Nat), b < c → fld V (pI σ i b v) i c sp = fld V σ i c sp
  | [], c, _ => rfl
  | none :: r, c, h => by rw [fld, fld, fld_gt r (c + 1) (by omega), pI_at, if_neg (by omega)]
  | some j :: r, c, h => by rw [fld, fld, fld_gt r (c + 1) (by omega)]
theorem fld_put {V : Vx} {σ : Sg} {i k : Nat} {v : Int32} : ∀ (sp : List (Option Nat)) (b j : Nat), sp[j]? = some none → b + j = k → fld V (pI σ i k v) i b sp = (fld V σ i b sp).set j (.int v)
  | [], b, j, h, _ => by simp at h
  | none :: r, b, 0, _, e => by
    have e : b = k := by omega
    subst e
    rw [fld, fld, fld_gt r (b + 1) (by omega), pI_at, if_pos rfl]
    rfl
  | some q :: r, b, 0, h, _ => by simp at h
  | none :: r, b, j + 1, h, e => by
    have := fld_put (V := V) (σ := σ) (i := i) (k := k) (v := v) r (b + 1) j (by simpa using h) (by omega)
    rw [fld, fld, this, pI_at, if_neg (by omega)]
    rfl
  | some q :: r, b, j + 1, h, e => by
    have := fld_put (V := V) (σ := σ) (i := i) (k := k) (v := v) r (b + 1) j (by simpa using h) (by omega)
    rw [fld, fld, this]
    rfl
/-! words of the tables that hold at every call's start -/
def okW : Cond → Bool
  | .fieldLinkNest .. => true
  | .methodLinkNest .. => true
  | w => goodWord w
def GW (U : State) : Prop := ∀ w ∈ lw_tbl, okW w = true → ∀ a : Array Value, w.before a U = true
theorem okW_cases {w : Cond} (h : okW w = true) : (∃ a i b n d h, w = .fieldLinkNest a i b n d h) ∨ (∃ a i x h, w = .methodLinkNest a i x h) ∨ goodWord w = true := by
  cases w <;> first | exact Or.inl ⟨_, _, _, _, _, _, rfl⟩ | exact Or.inr (Or.inl ⟨_, _, _, _, rfl⟩) | exact Or.inr (Or.inr h)
theorem ok_word_at {args a' : Array Value} {s U : State} (hW : s.WarmedH U.vm) {w : Cond} (ho : okW w = true) (h : w.before args s = true) : w.before a' U = true := by
  rcases okW_cases ho with ⟨a, i, b, n, d, q, rfl⟩ | ⟨a, i, x, q, rfl⟩ | hg
  · exact (va_Nw.warmF hW (va_Nw.of rfl h)).use rfl
  · exact (va_Nw.warmM hW (va_Nw.of rfl h)).use rfl
  · exact word_at hW (good_of_word hg) h
theorem GW.warm {s U : State} (h : GW s) (hW : s.WarmedH U.vm) : GW U := fun w hw ho a => ok_word_at hW ho (h w hw ho a)
theorem GW.of {s : State} {args : Array Value} (h : ∀ w ∈ lw_tbl, w.before args s = true) : GW s := fun w hw ho a => ok_word_at (State.WarmedH.refl s) ho (h w hw)
abbrev tys (V : Vx) : List (ClassId × FieldType) := [(V.2.2.2.1 0, .int), (V.2.2.2.1 1, .long), (V.2.2.2.1 2, .object "GorgeRopes$Rope"), (V.2.2.2.1 3, .object "GorgeRopes$Trip"), (V.2.2.2.1 4, .object "GorgeRopes$Sheet")]
def tbL (j : Nat) : Int32 := if j = 0 then 1 else if j = 1 then 1 else 0
def tbM (j : Nat) : Int32 := if j = 0 then 9 else if j = 1 then 99 else 999
/-- what stands at every call's start, whatever the numbers are -/
def Ws (V : Vx) (U : State) : Prop := GW U ∧ va_K V.1 cls (tys V) U ∧ (∀ σ, va_D (Ab V) (wsv V σ)) ∧
  va_Z "GorgeRopes" "LEAST_SETTING" "[I" (.ref V.2.2.2.2.1) (Ab V) U U.heap ∧ va_T .int V.2.2.2.2.1 3 (fun j => .int (tbL j)) (Ab V) U U.heap ∧
  va_Z "GorgeRopes" "MOST_SETTING" "[I" (.ref V.2.2.2.2.2) (Ab V) U U.heap ∧ va_T .int V.2.2.2.2.2 3 (fun j => .int (tbM j)) (Ab V) U U.heap
theorem Ws.moved {V : Vx} {s U : State} {H : Heap} (h : Ws V s) (hU : U.heap = H) (hW : s.WarmedH U.vm) (hq : ∀ q : Nat, q < s.heap.size → ¬ Ab V q → H[q]? = s.heap[q]?) : Ws V U := by
  obtain ⟨h1, h2, h3, h4, h5, h6, h7⟩ := h
  subst hU
  exact ⟨h1.warm hW, va_K.moved hW.alike h2, h3, (h4.moved hW.alike).kept hq, (h5.moved hW.alike).kept hq, (h6.moved hW.alike).kept hq, (h7.moved hW.alike).kept hq⟩
theorem Ws.same {V : Vx} {s U : State} (h : Ws V s) (hH : U.heap = s.heap) (hv : U.vm = s.vm) : Ws V U := h.moved hH (by rw [hv]; exact State.WarmedH.refl s) (fun _ _ _ => rfl)

theorem lay_Fe : ∀ w ∈ u_ws R_Fe F_Fe 4, w ∈ lw_tbl ∧ okW w = true := by decide +kernel
theorem lay_Mi : ∀ w ∈ u_ws R_Mi F_Mi 10, w ∈ lw_tbl ∧ okW w = true := by decide +kernel
theorem lay_Ro : ∀ w ∈ u_ws R_Ro F_Ro 9, w ∈ lw_tbl ∧ okW w = true := by decide +kernel
theorem lay_Rs : ∀ w ∈ u_ws R_Rs F_Rs 6, w ∈ lw_tbl ∧ okW w = true := by decide +kernel
theorem lay_Sh : ∀ w ∈ u_ws R_Sh F_Sh 3, w ∈ lw_tbl ∧ okW w = true := by decide +kernel
theorem lay_Ss : ∀ w ∈ u_ws R_Ss F_Ss 3, w ∈ lw_tbl ∧ okW w = true := by decide +kernel
theorem lay_Te : ∀ w ∈ u_ws R_Te F_Te 3, w ∈ lw_tbl ∧ okW w = true := by decide +kernel
theorem lay_Tt : ∀ w ∈ u_ws R_Tt F_Tt 2, w ∈ lw_tbl ∧ okW w = true := by decide +kernel
theorem lay_Tr : ∀ w ∈ u_ws R_Tr F_Tr 5, w ∈ lw_tbl ∧ okW w = true := by decide +kernel
theorem lay_Ts : ∀ w ∈ u_ws R_Ts F_Ts 3, w ∈ lw_tbl ∧ okW w = true := by decide +kernel
theorem lay_GR : ∀ w ∈ u_ws R_GR F_GR 9, w ∈ lw_tbl ∧ okW w = true := by decide +kernel
theorem lay_Md : ∀ w ∈ u_ws R_Md F_Md 33, w ∈ lw_tbl ∧ okW w = true := by decide +kernel
theorem lay_all : ∀ (ci : Nat) (q : vw_C), cls[ci]? = some q → (∀ w ∈ u_ws q.1 q.2.1 q.2.2, w ∈ lw_tbl ∧ okW w = true) ∧ ∃ ty0 : Nat → FieldType, (∀ k, k < q.2.2 → parseFieldDescriptor (q.2.1 k).2.2.1 = some (ty0 k)) ∧ ∀ a, a < q.2.2 → ∀ b, b < q.2.2 → a ≠ b → (q.2.1 a).2.1 ≠ (q.2.1 b).2.1
  | 0, _, h => by cases h; exact ⟨lay_Fe, t_Fe, t_Fe_ok, n_Fe⟩
  | 1, _, h => by cases h; exact ⟨lay_Mi, t_Mi, t_Mi_ok, n_Mi⟩
  | 2, _, h => by cases h; exact ⟨lay_Ro, t_Ro, t_Ro_ok, n_Ro⟩
  | 3, _, h => by cases h; exact ⟨lay_Rs, t_Rs, t_Rs_ok, n_Rs⟩
  | 4, _, h => by cases h; exact ⟨lay_Sh, t_Sh, t_Sh_ok, n_Sh⟩
  | 5, _, h => by cases h; exact ⟨lay_Ss, t_Ss, t_Ss_ok, n_Ss⟩
  | 6, _, h => by cases h; exact ⟨lay_Te, t_Te, t_Te_ok, n_Te⟩
  | 7, _, h => by cases h; exact ⟨lay_Tt, t_Tt, t_Tt_ok, n_Tt⟩
  | 8, _, h => by cases h; exact ⟨lay_Tr, t_Tr, t_Tr_ok, n_Tr⟩
  | 9, _, h => by cases h; exact ⟨lay_Ts, t_Ts, t_Ts_ok, n_Ts⟩
  | 10, _, h => by cases h; exact ⟨lay_GR, t_GR, t_GR_ok, n_GR⟩
  | 11, _, h => by cases h; exact ⟨lay_Md, t_Md, t_Md_ok, n_Md⟩
  | k + 12, _, h => by simp at h

/-! the judgement -/
abbrev Xx : Type := Program × Launch × Env × State × MethodId × Array Value × List Frame × Method × Code × Nat × Nat
abbrev xp (X : Xx) : Program := X.1
abbrev xl (X : Xx) : Launch := X.2.1
abbrev xe (X : Xx) : Env := X.2.2.1
abbrev xs (X : Xx) : State := X.2.2.2.1
abbrev xm (X : Xx) : MethodId := X.2.2.2.2.1
abbrev xa (X : Xx) : Array Value := X.2.2.2.2.2.1
abbrev xb (X : Xx) : List Frame := X.2.2.2.2.2.2.1
abbrev xh (X : Xx) : Method := X.2.2.2.2.2.2.2.1
abbrev xc (X : Xx) : Code := X.2.2.2.2.2.2.2.2.1
abbrev xn (X : Xx) : Nat := X.2.2.2.2.2.2.2.2.2.1
abbrev xk (X : Xx) : Nat := X.2.2.2.2.2.2.2.2.2.2
def Cx (V : Vx) (X : Xx) (R : Room) (cc : ByteArray) (own : String) (nL : Nat) (ret : Option FieldType) : Prop :=
  (xp X).tables.exec = Jvm.exec ∧ (xc X).code = cc ∧ (xc X).maxLocals = nL ∧ (xs X).vm.findClass own = some (xm X).cls ∧ Ws V (xs X) ∧ (xn X ≤ R.cells ∧ xk X ≤ R.slots) ∧ (xh X).locks = false ∧ (xh X).sig.returnType = ret
def Wx (X : Xx) (R : Room) (Q : State → Prop) (H : Heap) (locs : List Loc) (g : JFrame) : Prop := W (xp X) (xl X) (xe X) R (xs X) (xm X) (xa X) (xb X) (xh X) (xc X) H locs (xn X) (xk X) Q g
def J (V : Vx) (X : Xx) (R : Room) (cc : ByteArray) (own : String) (nL : Nat) (ret : Option FieldType) (Q : State → Prop) (σ : Sg) (pc : Nat) (lv : List (Nat × Value)) (st : List Value) : Prop :=
  Cx V X R cc own nL ret → ∀ (H : Heap) (locs : List Loc) (ls : Array Slot), va_P V.1 cls (wsv V σ) H → va_S (Ab V) (xs X).heap H locs → lv_has ls nL lv → Wx X R Q H locs (F0 (xm X) pc ls st)
section JR
variable {V : Vx} {X : Xx} {R : Room} {cc : ByteArray} {own : String} {nL : Nat} {ret : Option FieldType} {Q : State → Prop} {σ σ' : Sg} {pc pc' : Nat} {lv lv' : List (Nat × Value)} {st rest : List Value}

theorem J_iload_n {k : Fin 4} {x : Int32} (hd : decode cc pc = .ok (.iload_n k, 1)) (hn : pc + 1 = pc') (j : Nat) (hk : lv[j]? = some ((k : Nat), .int x)) (kk : J V X R cc own nL ret Q σ pc' lv (.int x :: rest)) : J V X R cc own nL ret Q σ pc lv (rest) := by
  subst hn; exact fun C H locs ls hP hS hl => lv_iload_n C.1 C.2.1 hd rfl (lv_at hl j hk) (kk C H locs ls hP hS hl)
theorem J_iload {k : Nat} {x : Int32} (hd : decode cc pc = .ok (.iload k, 2)) (hn : pc + 2 = pc') (j : Nat) (hk : lv[j]? = some (k, .int x)) (kk : J V X R cc own nL ret Q σ pc' lv (.int x :: rest)) : J V X R cc own nL ret Q σ pc lv (rest) := by
  subst hn; exact fun C H locs ls hP hS hl => lv_iload C.1 C.2.1 hd (lv_at hl j hk) (kk C H locs ls hP hS hl)
theorem J_lload_n {k : Fin 4} {x : Int64} (hd : decode cc pc = .ok (.lload_n k, 1)) (hn : pc + 1 = pc') (j : Nat) (hk : lv[j]? = some ((k : Nat), .long x)) (kk : J V X R cc own nL ret Q σ pc' lv (.long x :: rest)) : J V X R cc own nL ret Q σ pc lv (rest) := by
  subst hn; exact fun C H locs ls hP hS hl => lv_lload_n C.1 C.2.1 hd rfl (lv_at hl j hk) (kk C H locs ls hP hS hl)
theorem J_lload {k : Nat} {x : Int64} (hd : decode cc pc = .ok (.lload k, 2)) (hn : pc + 2 = pc') (j : Nat) (hk : lv[j]? = some (k, .long x)) (kk : J V X R cc own nL ret Q σ pc' lv (.long x :: rest)) : J V X R cc own nL ret Q σ pc lv (rest) := by
  subst hn; exact fun C H locs ls hP hS hl => lv_lload C.1 C.2.1 hd (lv_at hl j hk) (kk C H locs ls hP hS hl)
theorem J_aload_n {k : Fin 4} {x : Nat} (hd : decode cc pc = .ok (.aload_n k, 1)) (hn : pc + 1 = pc') (j : Nat) (hk : lv[j]? = some ((k : Nat), .ref x)) (kk : J V X R cc own nL ret Q σ pc' lv (.ref x :: rest)) : J V X R cc own nL ret Q σ pc lv (rest) := by
  subst hn; exact fun C H locs ls hP hS hl => lv_aload_n C.1 C.2.1 hd rfl (lv_at hl j hk) (kk C H locs ls hP hS hl)
theorem J_aload {k : Nat} {x : Nat} (hd : decode cc pc = .ok (.aload k, 2)) (hn : pc + 2 = pc') (j : Nat) (hk : lv[j]? = some (k, .ref x)) (kk : J V X R cc own nL ret Q σ pc' lv (.ref x :: rest)) : J V X R cc own nL ret Q σ pc lv (rest) := by
  subst hn; exact fun C H locs ls hP hS hl => lv_aload C.1 C.2.1 hd (lv_at hl j hk) (kk C H locs ls hP hS hl)
theorem J_istore_n {k : Fin 4} {i : Nat} {x : Int32} (hd : decode cc pc = .ok (.istore_n k, 1)) (hn : pc + 1 = pc') (hi : (k : Nat) = i) (hb : i < nL) (he : (i, Value.int x) :: lv.filter (fun q => !(q.1 == i) && !(q.1 + 1 == i && q.2.category == 2)) = lv') (kk : J V X R cc own nL ret Q σ pc' lv' rest) : J V X R cc own nL ret Q σ pc lv (.int x :: rest) := by
  subst hn; exact fun C H locs ls hP hS hl => lv_istore_n C.1 C.2.1 hd hi hl hb he (fun ls2 hl2 => kk C H locs ls2 hP hS hl2)
theorem J_istore {i : Nat} {x : Int32} (hd : decode cc pc = .ok (.istore i, 2)) (hn : pc + 2 = pc') (hb : i < nL) (he : (i, Value.int x) :: lv.filter (fun q => !(q.1 == i) && !(q.1 + 1 == i && q.2.category == 2)) = lv') (kk : J V X R cc own nL ret Q σ pc' lv' rest) : J V X R cc own nL ret Q σ pc lv (.int x :: rest) := by
  subst hn; exact fun C H locs ls hP hS hl => lv_istore C.1 C.2.1 hd hl hb he (fun ls2 hl2 => kk C H locs ls2 hP hS hl2)
theorem J_lstore_n {k : Fin 4} {i : Nat} {x : Int64} (hd : decode cc pc = .ok (.lstore_n k, 1)) (hn : pc + 1 = pc') (hi : (k : Nat) = i) (hb : i + 1 < nL) (he : (i, Value.long x) :: lv.filter (fun q => !(q.1 == i) && (!(q.1 == i + 1) && !(q.1 + 1 == i && q.2.category == 2))) = lv') (kk : J V X R cc own nL ret Q σ pc' lv' rest) : J V X R cc own nL ret Q σ pc lv (.long x :: rest) := by
  subst hn; exact fun C H locs ls hP hS hl => lv_lstore_n C.1 C.2.1 hd hi hl hb he (fun ls2 hl2 => kk C H locs ls2 hP hS hl2)
theorem J_lstore {i : Nat} {x : Int64} (hd : decode cc pc = .ok (.lstore i, 2)) (hn : pc + 2 = pc') (hb : i + 1 < nL) (he : (i, Value.long x) :: lv.filter (fun q => !(q.1 == i) && (!(q.1 == i + 1) && !(q.1 + 1 == i && q.2.category == 2))) = lv') (kk : J V X R cc own nL ret Q σ pc' lv' rest) : J V X R cc own nL ret Q σ pc lv (.long x :: rest) := by
  subst hn; exact fun C H locs ls hP hS hl => lv_lstore C.1 C.2.1 hd hl hb he (fun ls2 hl2 => kk C H locs ls2 hP hS hl2)
theorem J_astore_n {k : Fin 4} {i : Nat} {x : Nat} (hd : decode cc pc = .ok (.astore_n k, 1)) (hn : pc + 1 = pc') (hi : (k : Nat) = i) (hb : i < nL) (he : (i, Value.ref x) :: lv.filter (fun q => !(q.1 == i) && !(q.1 + 1 == i && q.2.category == 2)) = lv') (kk : J V X R cc own nL ret Q σ pc' lv' rest) : J V X R cc own nL ret Q σ pc lv (.ref x :: rest) := by
  subst hn; exact fun C H locs ls hP hS hl => lv_astore_n C.1 C.2.1 hd hi hl hb he (fun ls2 hl2 => kk C H locs ls2 hP hS hl2)
theorem J_astore {i : Nat} {x : Nat} (hd : decode cc pc = .ok (.astore i, 2)) (hn : pc + 2 = pc') (hb : i < nL) (he : (i, Value.ref x) :: lv.filter (fun q => !(q.1 == i) && !(q.1 + 1 == i && q.2.category == 2)) = lv') (kk : J V X R cc own nL ret Q σ pc' lv' rest) : J V X R cc own nL ret Q σ pc lv (.ref x :: rest) := by
  subst hn; exact fun C H locs ls hP hS hl => lv_astore C.1 C.2.1 hd hl hb he (fun ls2 hl2 => kk C H locs ls2 hP hS hl2)
theorem J_iinc {i j : Nat} {n : Int} {x v : Int32} (hd : decode cc pc = .ok (.iinc i n, 3)) (hn : pc + 3 = pc') (hk : lv[j]? = some (i, .int x)) (hv : Int32.ofInt n = v) (hb : i < nL) (he : (i, Value.int (x + v)) :: lv.filter (fun q => !(q.1 == i) && !(q.1 + 1 == i && q.2.category == 2)) = lv') (kk : J V X R cc own nL ret Q σ pc' lv' rest) : J V X R cc own nL ret Q σ pc lv rest := by
  subst hn; exact fun C H locs ls hP hS hl => lv_iinc (k := j) (v := x + v) C.1 C.2.1 hd hl hk (by rw [hv]) hb he (fun ls2 hl2 => kk C H locs ls2 hP hS hl2)
theorem J_iconst {n : Int} {v : Int32} (hd : decode cc pc = .ok (.iconst n, 1)) (hn : pc + 1 = pc') (hv : Int32.ofInt n = v) (kk : J V X R cc own nL ret Q σ pc' lv (.int v :: rest)) : J V X R cc own nL ret Q σ pc lv (rest) := by
  subst hn; exact fun C H locs ls hP hS hl => lv_iconst C.1 C.2.1 hd hv (kk C H locs ls hP hS hl)
theorem J_bipush {n : Int} {v : Int32} (hd : decode cc pc = .ok (.bipush n, 2)) (hn : pc + 2 = pc') (hv : (Int8.ofInt n).toInt32 = v) (kk : J V X R cc own nL ret Q σ pc' lv (.int v :: rest)) : J V X R cc own nL ret Q σ pc lv (rest) := by
  subst hn; exact fun C H locs ls hP hS hl => lv_bipush C.1 C.2.1 hd hv (kk C H locs ls hP hS hl)
theorem J_sipush {n : Int} {v : Int32} (hd : decode cc pc = .ok (.sipush n, 3)) (hn : pc + 3 = pc') (hv : (Int16.ofInt n).toInt32 = v) (kk : J V X R cc own nL ret Q σ pc' lv (.int v :: rest)) : J V X R cc own nL ret Q σ pc lv (rest) := by
  subst hn; exact fun C H locs ls hP hS hl => lv_sipush C.1 C.2.1 hd hv (kk C H locs ls hP hS hl)
theorem J_lconst {n : Fin 2} {v : Int64} (hd : decode cc pc = .ok (.lconst n, 1)) (hn : pc + 1 = pc') (hv : Int64.ofNat (n : Nat) = v) (kk : J V X R cc own nL ret Q σ pc' lv (.long v :: rest)) : J V X R cc own nL ret Q σ pc lv (rest) := by
  subst hn; exact fun C H locs ls hP hS hl => lv_lconst C.1 C.2.1 hd hv (kk C H locs ls hP hS hl)
theorem J_ldc {idx : Nat} {v : Int32} (hd : decode cc pc = .ok (.ldc idx, 2)) (hn : pc + 2 = pc') (hw : Cond.constant own idx v ∈ lw_tbl) (kk : J V X R cc own nL ret Q σ pc' lv (.int v :: rest)) : J V X R cc own nL ret Q σ pc lv (rest) := by
  subst hn; exact fun C H locs ls hP hS hl => lv_ldc C.1 C.2.1 C.2.2.2.1 (C.2.2.2.2.1.1 _ hw rfl _) hd (kk C H locs ls hP hS hl)
theorem J_ldcw {idx : Nat} {v : Int32} (hd : decode cc pc = .ok (.ldc_w idx, 3)) (hn : pc + 3 = pc') (hw : Cond.constant own idx v ∈ lw_tbl) (kk : J V X R cc own nL ret Q σ pc' lv (.int v :: rest)) : J V X R cc own nL ret Q σ pc lv (rest) := by
  subst hn; exact fun C H locs ls hP hS hl => lv_ldcw C.1 C.2.1 C.2.2.2.1 (C.2.2.2.2.1.1 _ hw rfl _) hd (kk C H locs ls hP hS hl)
theorem J_ldc2 {idx : Nat} {v : Int64} (hd : decode cc pc = .ok (.ldc2_w idx, 3)) (hn : pc + 3 = pc') (hw : Cond.constantLong own idx v ∈ lw_tbl) (kk : J V X R cc own nL ret Q σ pc' lv (.long v :: rest)) : J V X R cc own nL ret Q σ pc lv (rest) := by
  subst hn; exact fun C H locs ls hP hS hl => lv_ldc2 C.1 C.2.1 C.2.2.2.1 (C.2.2.2.2.1.1 _ hw rfl _) hd (kk C H locs ls hP hS hl)
theorem J_iadd {x y : Int32} (hd : decode cc pc = .ok (.iadd, 1)) (hn : pc + 1 = pc')  (kk : J V X R cc own nL ret Q σ pc' lv (.int (x + y) :: rest)) : J V X R cc own nL ret Q σ pc lv (.int y :: .int x :: rest) := by
  subst hn; exact fun C H locs ls hP hS hl => lv_iadd C.1 C.2.1 hd (kk C H locs ls hP hS hl)
theorem J_isub {x y : Int32} (hd : decode cc pc = .ok (.isub, 1)) (hn : pc + 1 = pc')  (kk : J V X R cc own nL ret Q σ pc' lv (.int (x - y) :: rest)) : J V X R cc own nL ret Q σ pc lv (.int y :: .int x :: rest) := by
  subst hn; exact fun C H locs ls hP hS hl => lv_isub C.1 C.2.1 hd (kk C H locs ls hP hS hl)
theorem J_imul {x y : Int32} (hd : decode cc pc = .ok (.imul, 1)) (hn : pc + 1 = pc')  (kk : J V X R cc own nL ret Q σ pc' lv (.int (x * y) :: rest)) : J V X R cc own nL ret Q σ pc lv (.int y :: .int x :: rest) := by
  subst hn; exact fun C H locs ls hP hS hl => lv_imul C.1 C.2.1 hd (kk C H locs ls hP hS hl)
theorem J_iand {x y : Int32} (hd : decode cc pc = .ok (.iand, 1)) (hn : pc + 1 = pc')  (kk : J V X R cc own nL ret Q σ pc' lv (.int (x &&& y) :: rest)) : J V X R cc own nL ret Q σ pc lv (.int y :: .int x :: rest) := by
  subst hn; exact fun C H locs ls hP hS hl => lv_iand C.1 C.2.1 hd (kk C H locs ls hP hS hl)
theorem J_ior {x y : Int32} (hd : decode cc pc = .ok (.ior, 1)) (hn : pc + 1 = pc')  (kk : J V X R cc own nL ret Q σ pc' lv (.int (x ||| y) :: rest)) : J V X R cc own nL ret Q σ pc lv (.int y :: .int x :: rest) := by
  subst hn; exact fun C H locs ls hP hS hl => lv_ior C.1 C.2.1 hd (kk C H locs ls hP hS hl)
theorem J_ixor {x y : Int32} (hd : decode cc pc = .ok (.ixor, 1)) (hn : pc + 1 = pc')  (kk : J V X R cc own nL ret Q σ pc' lv (.int (x ^^^ y) :: rest)) : J V X R cc own nL ret Q σ pc lv (.int y :: .int x :: rest) := by
  subst hn; exact fun C H locs ls hP hS hl => lv_ixor C.1 C.2.1 hd (kk C H locs ls hP hS hl)
theorem J_ishl {x y : Int32} (hd : decode cc pc = .ok (.ishl, 1)) (hn : pc + 1 = pc')  (kk : J V X R cc own nL ret Q σ pc' lv (.int (x <<< (y &&& 31)) :: rest)) : J V X R cc own nL ret Q σ pc lv (.int y :: .int x :: rest) := by
  subst hn; exact fun C H locs ls hP hS hl => lv_ishl C.1 C.2.1 hd (kk C H locs ls hP hS hl)
theorem J_ishr {x y : Int32} (hd : decode cc pc = .ok (.ishr, 1)) (hn : pc + 1 = pc')  (kk : J V X R cc own nL ret Q σ pc' lv (.int (x >>> (y &&& 31)) :: rest)) : J V X R cc own nL ret Q σ pc lv (.int y :: .int x :: rest) := by
  subst hn; exact fun C H locs ls hP hS hl => lv_ishr C.1 C.2.1 hd (kk C H locs ls hP hS hl)
theorem J_idiv {x y : Int32} (hd : decode cc pc = .ok (.idiv, 1)) (hn : pc + 1 = pc') (hne : ¬ y = 0) (kk : J V X R cc own nL ret Q σ pc' lv (.int (x / y) :: rest)) : J V X R cc own nL ret Q σ pc lv (.int y :: .int x :: rest) := by
  subst hn; exact fun C H locs ls hP hS hl => lv_idiv C.1 C.2.1 hd hne (kk C H locs ls hP hS hl)
theorem J_irem {x y : Int32} (hd : decode cc pc = .ok (.irem, 1)) (hn : pc + 1 = pc') (hne : ¬ y = 0) (kk : J V X R cc own nL ret Q σ pc' lv (.int (x - x / y * y) :: rest)) : J V X R cc own nL ret Q σ pc lv (.int y :: .int x :: rest) := by
  subst hn; exact fun C H locs ls hP hS hl => lv_irem C.1 C.2.1 hd hne (kk C H locs ls hP hS hl)
def us (x y : Int32) : Int32 := (x.toUInt32 >>> (y.toUInt32 &&& Int32.toUInt32 31)).toInt32
theorem J_iushr {x y : Int32} (hd : decode cc pc = .ok (.iushr, 1)) (hn : pc + 1 = pc')  (kk : J V X R cc own nL ret Q σ pc' lv (.int (us x y) :: rest)) : J V X R cc own nL ret Q σ pc lv (.int y :: .int x :: rest) := by
  subst hn; exact fun C H locs ls hP hS hl => lv_iushr C.1 C.2.1 hd rfl (kk C H locs ls hP hS hl)
theorem J_ineg {x : Int32} (hd : decode cc pc = .ok (.ineg, 1)) (hn : pc + 1 = pc')  (kk : J V X R cc own nL ret Q σ pc' lv (.int (-x) :: rest)) : J V X R cc own nL ret Q σ pc lv (.int x :: rest) := by
  subst hn; exact fun C H locs ls hP hS hl => lv_ineg C.1 C.2.1 hd (kk C H locs ls hP hS hl)
theorem J_lneg {x : Int64} (hd : decode cc pc = .ok (.lneg, 1)) (hn : pc + 1 = pc')  (kk : J V X R cc own nL ret Q σ pc' lv (.long (-x) :: rest)) : J V X R cc own nL ret Q σ pc lv (.long x :: rest) := by
  subst hn; exact fun C H locs ls hP hS hl => lv_lneg C.1 C.2.1 hd (kk C H locs ls hP hS hl)
theorem J_ladd {x y : Int64} (hd : decode cc pc = .ok (.ladd, 1)) (hn : pc + 1 = pc')  (kk : J V X R cc own nL ret Q σ pc' lv (.long (x + y) :: rest)) : J V X R cc own nL ret Q σ pc lv (.long y :: .long x :: rest) := by
  subst hn; exact fun C H locs ls hP hS hl => lv_ladd C.1 C.2.1 hd (kk C H locs ls hP hS hl)
theorem J_lsub {x y : Int64} (hd : decode cc pc = .ok (.lsub, 1)) (hn : pc + 1 = pc')  (kk : J V X R cc own nL ret Q σ pc' lv (.long (x - y) :: rest)) : J V X R cc own nL ret Q σ pc lv (.long y :: .long x :: rest) := by
  subst hn; exact fun C H locs ls hP hS hl => lv_lsub C.1 C.2.1 hd (kk C H locs ls hP hS hl)
theorem J_lmul {x y : Int64} (hd : decode cc pc = .ok (.lmul, 1)) (hn : pc + 1 = pc')  (kk : J V X R cc own nL ret Q σ pc' lv (.long (x * y) :: rest)) : J V X R cc own nL ret Q σ pc lv (.long y :: .long x :: rest) := by
  subst hn; exact fun C H locs ls hP hS hl => lv_lmul C.1 C.2.1 hd (kk C H locs ls hP hS hl)
theorem J_ldiv {x y : Int64} (hd : decode cc pc = .ok (.ldiv, 1)) (hn : pc + 1 = pc') (hne : ¬ y = 0) (kk : J V X R cc own nL ret Q σ pc' lv (.long (x / y) :: rest)) : J V X R cc own nL ret Q σ pc lv (.long y :: .long x :: rest) := by
  subst hn; exact fun C H locs ls hP hS hl => lv_ldiv C.1 C.2.1 hd hne (kk C H locs ls hP hS hl)
theorem J_lrem {x y : Int64} (hd : decode cc pc = .ok (.lrem, 1)) (hn : pc + 1 = pc') (hne : ¬ y = 0) (kk : J V X R cc own nL ret Q σ pc' lv (.long (x - x / y * y) :: rest)) : J V X R cc own nL ret Q σ pc lv (.long y :: .long x :: rest) := by
  subst hn; exact fun C H locs ls hP hS hl => lv_lrem C.1 C.2.1 hd hne (kk C H locs ls hP hS hl)
theorem J_lcmp {x y : Int64} (hd : decode cc pc = .ok (.lcmp, 1)) (hn : pc + 1 = pc')  (kk : J V X R cc own nL ret Q σ pc' lv (.int (lg_cmp x y) :: rest)) : J V X R cc own nL ret Q σ pc lv (.long y :: .long x :: rest) := by
  subst hn; exact fun C H locs ls hP hS hl => W.lcmp C.1 C.2.1 hd (kk C H locs ls hP hS hl)
theorem J_i2l {x : Int32} (hd : decode cc pc = .ok (.i2l, 1)) (hn : pc + 1 = pc')  (kk : J V X R cc own nL ret Q σ pc' lv (.long x.toInt64 :: rest)) : J V X R cc own nL ret Q σ pc lv (.int x :: rest) := by
  subst hn; exact fun C H locs ls hP hS hl => lv_i2l C.1 C.2.1 hd rfl (kk C H locs ls hP hS hl)
theorem J_i2b {x : Int32} (hd : decode cc pc = .ok (.i2b, 1)) (hn : pc + 1 = pc')  (kk : J V X R cc own nL ret Q σ pc' lv (.int x.toInt8.toInt32 :: rest)) : J V X R cc own nL ret Q σ pc lv (.int x :: rest) := by
  subst hn; exact fun C H locs ls hP hS hl => lv_i2b C.1 C.2.1 hd rfl (kk C H locs ls hP hS hl)
theorem J_i2s {x : Int32} (hd : decode cc pc = .ok (.i2s, 1)) (hn : pc + 1 = pc')  (kk : J V X R cc own nL ret Q σ pc' lv (.int x.toInt16.toInt32 :: rest)) : J V X R cc own nL ret Q σ pc lv (.int x :: rest) := by
  subst hn; exact fun C H locs ls hP hS hl => lv_i2s C.1 C.2.1 hd rfl (kk C H locs ls hP hS hl)
theorem J_dup {va : Value} (hd : decode cc pc = .ok (.dup, 1)) (hn : pc + 1 = pc') (hc : va.category = 1) (kk : J V X R cc own nL ret Q σ pc' lv (va :: va :: rest)) : J V X R cc own nL ret Q σ pc lv (va :: rest) := by
  subst hn; exact fun C H locs ls hP hS hl => lv_dup C.1 C.2.1 hd hc (kk C H locs ls hP hS hl)
theorem J_pop {va : Value} (hd : decode cc pc = .ok (.pop, 1)) (hn : pc + 1 = pc') (hc : va.category = 1) (kk : J V X R cc own nL ret Q σ pc' lv (rest)) : J V X R cc own nL ret Q σ pc lv (va :: rest) := by
  subst hn; exact fun C H locs ls hP hS hl => lv_pop C.1 C.2.1 hd hc (kk C H locs ls hP hS hl)
theorem J_dup2 {va vb : Value} (hd : decode cc pc = .ok (.dup2, 1)) (hn : pc + 1 = pc') (hc : va.category = 1) (hc2 : vb.category = 1) (kk : J V X R cc own nL ret Q σ pc' lv (va :: vb :: va :: vb :: rest)) : J V X R cc own nL ret Q σ pc lv (va :: vb :: rest) := by
  subst hn; exact fun C H locs ls hP hS hl => lv_dup2_11 C.1 C.2.1 hd hc hc2 (kk C H locs ls hP hS hl)
theorem J_if_eq {x : Int32} {off : Int} {tgt : Nat} (hd : decode cc pc = .ok (.ifCond .eq off, 3)) (hn : pc + 3 = pc') (ht : (pc : Int) + off = (tgt : Int)) (kt : x = 0 → J V X R cc own nL ret Q σ tgt lv rest) (kf : ¬ (x = 0) → J V X R cc own nL ret Q σ pc' lv rest) : J V X R cc own nL ret Q σ pc lv (.int x :: rest) := by
  subst hn; exact fun C H locs ls hP hS hl => lv_if_eq C.1 C.2.1 hd ht (fun h => kt h C H locs ls hP hS hl) (fun h => kf h C H locs ls hP hS hl)
theorem J_icmp_eq {x y : Int32} {off : Int} {tgt : Nat} (hd : decode cc pc = .ok (.if_icmp .eq off, 3)) (hn : pc + 3 = pc') (ht : (pc : Int) + off = (tgt : Int)) (kt : x = y → J V X R cc own nL ret Q σ tgt lv rest) (kf : ¬ (x = y) → J V X R cc own nL ret Q σ pc' lv rest) : J V X R cc own nL ret Q σ pc lv (.int y :: .int x :: rest) := by
  subst hn; exact fun C H locs ls hP hS hl => lv_icmp_eq C.1 C.2.1 hd ht (fun h => kt h C H locs ls hP hS hl) (fun h => kf h C H locs ls hP hS hl)
theorem J_if_ne {x : Int32} {off : Int} {tgt : Nat} (hd : decode cc pc = .ok (.ifCond .ne off, 3)) (hn : pc + 3 = pc') (ht : (pc : Int) + off = (tgt : Int)) (kt : ¬ x = 0 → J V X R cc own nL ret Q σ tgt lv rest) (kf : x = 0 → J V X R cc own nL ret Q σ pc' lv rest) : J V X R cc own nL ret Q σ pc lv (.int x :: rest) := by
  subst hn; exact fun C H locs ls hP hS hl => lv_if_ne C.1 C.2.1 hd ht (fun h => kt h C H locs ls hP hS hl) (fun h => kf h C H locs ls hP hS hl)
theorem J_icmp_ne {x y : Int32} {off : Int} {tgt : Nat} (hd : decode cc pc = .ok (.if_icmp .ne off, 3)) (hn : pc + 3 = pc') (ht : (pc : Int) + off = (tgt : Int)) (kt : ¬ x = y → J V X R cc own nL ret Q σ tgt lv rest) (kf : x = y → J V X R cc own nL ret Q σ pc' lv rest) : J V X R cc own nL ret Q σ pc lv (.int y :: .int x :: rest) := by
  subst hn; exact fun C H locs ls hP hS hl => lv_icmp_ne C.1 C.2.1 hd ht (fun h => kt h C H locs ls hP hS hl) (fun h => kf h C H locs ls hP hS hl)
theorem J_if_lt {x : Int32} {off : Int} {tgt : Nat} (hd : decode cc pc = .ok (.ifCond .lt off, 3)) (hn : pc + 3 = pc') (ht : (pc : Int) + off = (tgt : Int)) (kt : x < 0 → J V X R cc own nL ret Q σ tgt lv rest) (kf : ¬ (x < 0) → J V X R cc own nL ret Q σ pc' lv rest) : J V X R cc own nL ret Q σ pc lv (.int x :: rest) := by
  subst hn; exact fun C H locs ls hP hS hl => lv_if_lt C.1 C.2.1 hd ht (fun h => kt h C H locs ls hP hS hl) (fun h => kf h C H locs ls hP hS hl)
theorem J_icmp_lt {x y : Int32} {off : Int} {tgt : Nat} (hd : decode cc pc = .ok (.if_icmp .lt off, 3)) (hn : pc + 3 = pc') (ht : (pc : Int) + off = (tgt : Int)) (kt : x < y → J V X R cc own nL ret Q σ tgt lv rest) (kf : ¬ (x < y) → J V X R cc own nL ret Q σ pc' lv rest) : J V X R cc own nL ret Q σ pc lv (.int y :: .int x :: rest) := by
  subst hn; exact fun C H locs ls hP hS hl => lv_icmp_lt C.1 C.2.1 hd ht (fun h => kt h C H locs ls hP hS hl) (fun h => kf h C H locs ls hP hS hl)
theorem J_if_ge {x : Int32} {off : Int} {tgt : Nat} (hd : decode cc pc = .ok (.ifCond .ge off, 3)) (hn : pc + 3 = pc') (ht : (pc : Int) + off = (tgt : Int)) (kt : 0 ≤ x → J V X R cc own nL ret Q σ tgt lv rest) (kf : ¬ (0 ≤ x) → J V X R cc own nL ret Q σ pc' lv rest) : J V X R cc own nL ret Q σ pc lv (.int x :: rest) := by
  subst hn; exact fun C H locs ls hP hS hl => lv_if_ge C.1 C.2.1 hd ht (fun h => kt h C H locs ls hP hS hl) (fun h => kf h C H locs ls hP hS hl)
theorem J_icmp_ge {x y : Int32} {off : Int} {tgt : Nat} (hd : decode cc pc = .ok (.if_icmp .ge off, 3)) (hn : pc + 3 = pc') (ht : (pc : Int) + off = (tgt : Int)) (kt : y ≤ x → J V X R cc own nL ret Q σ tgt lv rest) (kf : ¬ (y ≤ x) → J V X R cc own nL ret Q σ pc' lv rest) : J V X R cc own nL ret Q σ pc lv (.int y :: .int x :: rest) := by
  subst hn; exact fun C H locs ls hP hS hl => lv_icmp_ge C.1 C.2.1 hd ht (fun h => kt h C H locs ls hP hS hl) (fun h => kf h C H locs ls hP hS hl)
theorem J_if_gt {x : Int32} {off : Int} {tgt : Nat} (hd : decode cc pc = .ok (.ifCond .gt off, 3)) (hn : pc + 3 = pc') (ht : (pc : Int) + off = (tgt : Int)) (kt : 0 < x → J V X R cc own nL ret Q σ tgt lv rest) (kf : ¬ (0 < x) → J V X R cc own nL ret Q σ pc' lv rest) : J V X R cc own nL ret Q σ pc lv (.int x :: rest) := by
  subst hn; exact fun C H locs ls hP hS hl => lv_if_gt C.1 C.2.1 hd ht (fun h => kt h C H locs ls hP hS hl) (fun h => kf h C H locs ls hP hS hl)
theorem J_icmp_gt {x y : Int32} {off : Int} {tgt : Nat} (hd : decode cc pc = .ok (.if_icmp .gt off, 3)) (hn : pc + 3 = pc') (ht : (pc : Int) + off = (tgt : Int)) (kt : y < x → J V X R cc own nL ret Q σ tgt lv rest) (kf : ¬ (y < x) → J V X R cc own nL ret Q σ pc' lv rest) : J V X R cc own nL ret Q σ pc lv (.int y :: .int x :: rest) := by
  subst hn; exact fun C H locs ls hP hS hl => lv_icmp_gt C.1 C.2.1 hd ht (fun h => kt h C H locs ls hP hS hl) (fun h => kf h C H locs ls hP hS hl)
theorem J_if_le {x : Int32} {off : Int} {tgt : Nat} (hd : decode cc pc = .ok (.ifCond .le off, 3)) (hn : pc + 3 = pc') (ht : (pc : Int) + off = (tgt : Int)) (kt : x ≤ 0 → J V X R cc own nL ret Q σ tgt lv rest) (kf : ¬ (x ≤ 0) → J V X R cc own nL ret Q σ pc' lv rest) : J V X R cc own nL ret Q σ pc lv (.int x :: rest) := by
  subst hn; exact fun C H locs ls hP hS hl => lv_if_le C.1 C.2.1 hd ht (fun h => kt h C H locs ls hP hS hl) (fun h => kf h C H locs ls hP hS hl)
theorem J_icmp_le {x y : Int32} {off : Int} {tgt : Nat} (hd : decode cc pc = .ok (.if_icmp .le off, 3)) (hn : pc + 3 = pc') (ht : (pc : Int) + off = (tgt : Int)) (kt : x ≤ y → J V X R cc own nL ret Q σ tgt lv rest) (kf : ¬ (x ≤ y) → J V X R cc own nL ret Q σ pc' lv rest) : J V X R cc own nL ret Q σ pc lv (.int y :: .int x :: rest) := by
  subst hn; exact fun C H locs ls hP hS hl => lv_icmp_le C.1 C.2.1 hd ht (fun h => kt h C H locs ls hP hS hl) (fun h => kf h C H locs ls hP hS hl)
theorem J_goto {off : Int} {tgt : Nat} (hd : decode cc pc = .ok (.goto off, 3)) (ht : (pc : Int) + off = (tgt : Int)) (kk : J V X R cc own nL ret Q σ tgt lv rest) : J V X R cc own nL ret Q σ pc lv rest := fun C H locs ls hP hS hl => lv_goto C.1 C.2.1 hd ht (kk C H locs ls hP hS hl)
theorem J_tsIn {dflt lo hi : Int} {offs : Array Int} {len : Nat} {x : Int32} {off : Int} {tgt : Nat} (v : Int) (hd : decode cc pc = .ok (.tableswitch dflt lo hi offs, len)) (hx : x.toInt = v) (h1 : ¬ v < lo) (h2 : ¬ hi < v) (ho : offs[(v - lo).toNat]? = some off) (ht : (pc : Int) + off = (tgt : Int)) (kk : J V X R cc own nL ret Q σ tgt lv rest) : J V X R cc own nL ret Q σ pc lv (.int x :: rest) := by
  subst hx; exact fun C H locs ls hP hS hl => lv_tableIn C.1 C.2.1 hd h1 h2 ho ht (kk C H locs ls hP hS hl)
theorem J_tsOut {dflt lo hi : Int} {offs : Array Int} {len : Nat} {x : Int32} {tgt : Nat} (hd : decode cc pc = .ok (.tableswitch dflt lo hi offs, len)) (h : x.toInt < lo ∨ hi < x.toInt) (ht : (pc : Int) + dflt = (tgt : Int)) (kk : J V X R cc own nL ret Q σ tgt lv rest) : J V X R cc own nL ret Q σ pc lv (.int x :: rest) := fun C H locs ls hP hS hl => lv_tableOut C.1 C.2.1 hd h ht (kk C H locs ls hP hS hl)
theorem J_lks {dflt : Int} {ps : Array (Int × Int)} {len : Nat} {x : Int32} {off : Int} {tgt : Nat} (hd : decode cc pc = .ok (.lookupswitch dflt ps, len)) (hp : (ps.toList.zip (ps.toList.drop 1)).all (fun (a, next) => a.1 < next.1) = true) (ho : Op.lookupswitch.offset ps.toList dflt x.toInt = off) (ht : (pc : Int) + off = (tgt : Int)) (kk : J V X R cc own nL ret Q σ tgt lv rest) : J V X R cc own nL ret Q σ pc lv (.int x :: rest) := fun C H locs ls hP hS hl => lv_lookup C.1 C.2.1 hd hp ho ht (kk C H locs ls hP hS hl)
/-! fields -/
def FL (own : String) (idx ci k : Nat) : Prop := ∃ q : vw_C, cls[ci]? = some q ∧ k < q.2.2 ∧ (q.2.1 k).1 = q.1 ∧ ((Cond.fieldLink own idx q.1 (q.2.1 k).2.1 (q.2.1 k).2.2.1) ∈ lw_tbl ∨ ∃ h : String, (Cond.fieldLinkNest own idx q.1 (q.2.1 k).2.1 (q.2.1 k).2.2.1 h) ∈ lw_tbl)
def FP (own : String) (idx ci k : Nat) : Prop := FL own idx ci k ∧ ∃ q : vw_C, cls[ci]? = some q ∧ (q.2.1 k).2.2.2 = false ∧ parseFieldDescriptor (q.2.1 k).2.2.1 = some .int
theorem J_get0 {i ci k idx : Nat} {sp : List (Option Nat)} {v : Value} (hd : decode cc pc = .ok (.getfield idx, 3)) (hn : pc + 3 = pc') (hs : Sh i (.inl (ci, sp))) (hf : FL own idx ci k) (hv : (fld V σ i 0 sp)[k]? = some v) (kk : J V X R cc own nL ret Q σ pc' lv (v :: rest)) : J V X R cc own nL ret Q σ pc lv (rf V i :: rest) := by
  subst hn
  intro C H locs ls hP hS hl
  obtain ⟨⟨cn, T, N⟩, hc, hk, he, hw⟩ := hf
  dsimp only at he hw hk
  have hg := C.2.2.2.2.1.1
  have hK := C.2.2.2.2.1.2.1
  have ht : ∀ w ∈ u_ws cn T N, w.before (xa X) (xs X) = true := fun w h => by
    obtain ⟨h1, h2⟩ := (lay_all ci _ hc).1 w h
    exact hg w h1 h2 _
  rcases hw with hw | ⟨hh, hw⟩
  · exact va_get C.1 C.2.1 ht (fun _ h => h) C.2.2.2.1 hK hP i (wsv_at hs) hc k hk (hg _ hw rfl _) (fun x h => by rw [he] at h; exact h) hv hd (kk C H locs ls hP hS hl)
  · exact va_getN C.1 C.2.1 ht (fun _ h => h) C.2.2.2.1 hK hP i (wsv_at hs) hc k hk (hg _ hw rfl _) (fun x h => by rw [he] at h; exact h) hv hd (kk C H locs ls hP hS hl)
theorem J_getI {i ci k idx : Nat} {sp : List (Option Nat)} (hd : decode cc pc = .ok (.getfield idx, 3)) (hn : pc + 3 = pc') (hs : Sh i (.inl (ci, sp))) (hf : FL own idx ci k) (hv : sp[k]? = some none) (kk : J V X R cc own nL ret Q σ pc' lv (.int (σ.1 i k) :: rest)) : J V X R cc own nL ret Q σ pc lv (rf V i :: rest) :=
  J_get0 hd hn hs hf (by rw [fld_get, hv]; simp) kk
theorem J_getR {i j ci k idx : Nat} {sp : List (Option Nat)} (hd : decode cc pc = .ok (.getfield idx, 3)) (hn : pc + 3 = pc') (hs : Sh i (.inl (ci, sp))) (hf : FL own idx ci k) (hv : sp[k]? = some (some j)) (kk : J V X R cc own nL ret Q σ pc' lv (rf V j :: rest)) : J V X R cc own nL ret Q σ pc lv (rf V i :: rest) :=
  J_get0 hd hn hs hf (by rw [fld_get, hv]; simp) kk
theorem J_putI {i ci k idx : Nat} {sp : List (Option Nat)} {v : Int32} (hd : decode cc pc = .ok (.putfield idx, 3)) (hn : pc + 3 = pc') (hs : Sh i (.inl (ci, sp))) (hf : FP own idx ci k) (hv : sp[k]? = some none) (kk : J V X R cc own nL ret Q (pI σ i k v) pc' lv rest) : J V X R cc own nL ret Q σ pc lv (.int v :: rf V i :: rest) := by
  subst hn
  intro C H locs ls hP hS hl
  obtain ⟨⟨⟨cn, T, N⟩, hc, hk, he, hw⟩, q2, hc2, hfin, hty⟩ := hf
  cases hc.symm.trans hc2
  dsimp only at he hw hk hfin hty
  have hg := C.2.2.2.2.1.1
  have hK := C.2.2.2.2.1.2.1
  have hD := C.2.2.2.2.1.2.2.1 σ
  obtain ⟨hlay, ty0, ht1, ht2⟩ := lay_all ci _ hc
  have ht : ∀ w ∈ u_ws cn T N, w.before (xa X) (xs X) = true := fun w h => by
    obtain ⟨h1, h2⟩ := hlay w h
    exact hg w h1 h2 _
  have hlen : k < (fld V σ i 0 sp).length := by rw [fld_len]; exact (List.getElem?_eq_some_iff.mp hv).1
  have hset : (wsv V σ).set i (V.2.1 i, .inr (ci, (fld V σ i 0 sp).set k (.int v))) = wsv V (pI σ i k v) := by
    rw [← fld_put (V := V) (σ := σ) (i := i) (k := k) (v := v) sp 0 k hv (Nat.zero_add k)]
    exact wsv_set hs pI_1 pI_2
  rcases hw with hw | ⟨hh, hw⟩
  · refine va_put C.1 C.2.1 ht (fun _ h => h) ty0 ht1 ht2 C.2.2.2.1 hK hP hD hS i (wsv_at hs) hc k hk (hg _ hw rfl _) (fun x h => by rw [he] at h; exact h) hfin hty (vp_nar_int v) rfl hlen hd (fun H1 locs1 hP1 _ hS1 => ?_)
    rw [hset] at hP1
    exact kk C H1 locs1 ls hP1 hS1 hl
  · refine va_putN C.1 C.2.1 ht (fun _ h => h) ty0 ht1 ht2 C.2.2.2.1 hK hP hD hS i (wsv_at hs) hc k hk (hg _ hw rfl _) (fun x h => by rw [he] at h; exact h) hfin hty (vp_nar_int v) rfl hlen hd (fun H1 locs1 hP1 _ hS1 => ?_)
    rw [hset] at hP1
    exact kk C H1 locs1 ls hP1 hS1 hl
/-! rows -/
theorem J_ial {i n : Nat} {g : Nat → Nat} {x : Int32} (hd : decode cc pc = .ok (.iaload, 1)) (hn : pc + 1 = pc') (hs : Sh i (.inr (0, n, g))) (hin : vp_in x n) (kk : J V X R cc own nL ret Q σ pc' lv (.int (σ.1 i x.toNatClampNeg) :: rest)) : J V X R cc own nL ret Q σ pc lv (.int x :: rf V i :: rest) := by
  subst hn
  exact fun C H locs ls hP hS hl => va_iald C.1 C.2.1 C.2.2.2.2.1.2.1 hP i 0 (wsv_at hs) rfl hin hd (kk C H locs ls hP hS hl)
theorem J_lal {i n : Nat} {g : Nat → Nat} {x : Int32} (hd : decode cc pc = .ok (.laload, 1)) (hn : pc + 1 = pc') (hs : Sh i (.inr (1, n, g))) (hin : vp_in x n) (kk : J V X R cc own nL ret Q σ pc' lv (.long (σ.2 i x.toNatClampNeg) :: rest)) : J V X R cc own nL ret Q σ pc lv (.int x :: rf V i :: rest) := by
  subst hn
  exact fun C H locs ls hP hS hl => va_lald C.1 C.2.1 C.2.2.2.2.1.2.1 hP i 1 (wsv_at hs) rfl hin hd (kk C H locs ls hP hS hl)
theorem J_aal2 {i n : Nat} {g : Nat → Nat} {x : Int32} (hd : decode cc pc = .ok (.aaload, 1)) (hn : pc + 1 = pc') (hs : Sh i (.inr (2, n, g))) (hin : vp_in x n) (kk : J V X R cc own nL ret Q σ pc' lv (rf V (g x.toNatClampNeg) :: rest)) : J V X R cc own nL ret Q σ pc lv (.int x :: rf V i :: rest) := by
  subst hn
  exact fun C H locs ls hP hS hl => va_aldq C.1 C.2.1 C.2.2.2.2.1.2.1 hP i 2 (wsv_at hs) rfl hin hd (kk C H locs ls hP hS hl)
theorem J_aal3 {i n : Nat} {g : Nat → Nat} {x : Int32} (hd : decode cc pc = .ok (.aaload, 1)) (hn : pc + 1 = pc') (hs : Sh i (.inr (3, n, g))) (hin : vp_in x n) (kk : J V X R cc own nL ret Q σ pc' lv (rf V (g x.toNatClampNeg) :: rest)) : J V X R cc own nL ret Q σ pc lv (.int x :: rf V i :: rest) := by
  subst hn
  exact fun C H locs ls hP hS hl => va_aldq C.1 C.2.1 C.2.2.2.2.1.2.1 hP i 3 (wsv_at hs) rfl hin hd (kk C H locs ls hP hS hl)
theorem J_aal4 {i n : Nat} {g : Nat → Nat} {x : Int32} (hd : decode cc pc = .ok (.aaload, 1)) (hn : pc + 1 = pc') (hs : Sh i (.inr (4, n, g))) (hin : vp_in x n) (kk : J V X R cc own nL ret Q σ pc' lv (rf V (g x.toNatClampNeg) :: rest)) : J V X R cc own nL ret Q σ pc lv (.int x :: rf V i :: rest) := by
  subst hn
  exact fun C H locs ls hP hS hl => va_aldq C.1 C.2.1 C.2.2.2.2.1.2.1 hP i 4 (wsv_at hs) rfl hin hd (kk C H locs ls hP hS hl)
theorem J_ias {i n : Nat} {g : Nat → Nat} {x v : Int32} (hd : decode cc pc = .ok (.iastore, 1)) (hn : pc + 1 = pc') (hs : Sh i (.inr (0, n, g))) (hin : vp_in x n) (kk : J V X R cc own nL ret Q (pI σ i x.toNatClampNeg v) pc' lv rest) : J V X R cc own nL ret Q σ pc lv (.int v :: .int x :: rf V i :: rest) := by
  subst hn
  intro C H locs ls hP hS hl
  refine va_iast C.1 C.2.1 C.2.2.2.2.1.2.1 hP (C.2.2.2.2.1.2.2.1 σ) hS i 0 (wsv_at hs) rfl hin hd (fun H1 locs1 hP1 _ hS1 => ?_)
  have hset : (wsv V σ).set i (V.2.1 i, .inl (V.2.2.2.1 0, n, .inl (upd (σ.1 i) x.toNatClampNeg v))) = wsv V (pI σ i x.toNatClampNeg v) := by
    rw [← pI_self]
    exact wsv_set hs pI_1 pI_2
  rw [hset] at hP1
  exact kk C H1 locs1 ls hP1 hS1 hl
theorem J_las {i n : Nat} {g : Nat → Nat} {x : Int32} {v : Int64} (hd : decode cc pc = .ok (.lastore, 1)) (hn : pc + 1 = pc') (hs : Sh i (.inr (1, n, g))) (hin : vp_in x n) (kk : J V X R cc own nL ret Q (pL σ i x.toNatClampNeg v) pc' lv rest) : J V X R cc own nL ret Q σ pc lv (.long v :: .int x :: rf V i :: rest) := by
  subst hn
  intro C H locs ls hP hS hl
  refine va_last C.1 C.2.1 C.2.2.2.2.1.2.1 hP (C.2.2.2.2.1.2.2.1 σ) hS i 1 (wsv_at hs) rfl hin hd (fun H1 locs1 hP1 _ hS1 => ?_)
  have hset : (wsv V σ).set i (V.2.1 i, .inl (V.2.2.2.1 1, n, .inr (.inl (vp_updL (σ.2 i) x.toNatClampNeg v)))) = wsv V (pL σ i x.toNatClampNeg v) := by
    rw [← pL_self]
    exact wsv_set hs pL_1 pL_2
  rw [hset] at hP1
  exact kk C H1 locs1 ls hP1 hS1 hl
/-! returns -/
def Qr (V : Vx) (X : Xx) (r : Option Value) (σ' : Sg) : State → Prop := MQ (xb X) (fun _ s0 oc t => oc = .returned r ∧ va_P V.1 cls (wsv V σ') t.heap ∧ va_F (Ab V) s0 t) (xa X) (xs X) (xn X) (xk X) (Ab V)
theorem J_iret {v : Int32} (hd : decode cc pc = .ok (.ireturn, 1)) : J V X R cc own nL (some .int) (Qr V X (some (.int v)) σ) σ pc lv [.int v] := fun C H locs ls hP hS hl => W.iret C.1 C.2.1 C.2.2.2.2.2.2.2 (fun t ht _ => ⟨rfl, by rw [ht]; exact hP, hS.F ht⟩) hS.2.2 hd C.2.2.2.2.2.2.1
theorem J_lret {v : Int64} (hd : decode cc pc = .ok (.lreturn, 1)) : J V X R cc own nL (some .long) (Qr V X (some (.long v)) σ) σ pc lv [.long v] := fun C H locs ls hP hS hl => W.lret C.1 C.2.1 C.2.2.2.2.2.2.2 (fun t ht _ => ⟨rfl, by rw [ht]; exact hP, hS.F ht⟩) hS.2.2 hd C.2.2.2.2.2.2.1
theorem J_zret {v : Int32} (hz : v = 0 ∨ v = 1) (hd : decode cc pc = .ok (.ireturn, 1)) : J V X R cc own nL (some .boolean) (Qr V X (some (.int v)) σ) σ pc lv [.int v] := fun C H locs ls hP hS hl => W.zret C.1 C.2.1 C.2.2.2.2.2.2.2 (by rcases hz with rfl | rfl <;> rfl) (fun t ht _ => ⟨rfl, by rw [ht]; exact hP, hS.F ht⟩) hS.2.2 hd C.2.2.2.2.2.2.1
theorem J_vret (hd : decode cc pc = .ok (.return_, 1)) : J V X R cc own nL none (Qr V X none σ) σ pc lv [] := fun C H locs ls hP hS hl => W.vret C.1 C.2.1 C.2.2.2.2.2.2.2 (fun t ht _ => ⟨rfl, by rw [ht]; exact hP, hS.F ht⟩) hS.2.2 hd C.2.2.2.2.2.2.1
theorem J_aret {v : Nat} {cn : String} (hd : decode cc pc = .ok (.areturn, 1)) : J V X R cc own nL (some (.object cn)) (Qr V X (some (rf V v)) σ) σ pc lv [rf V v] := fun C H locs ls hP hS hl => W.aret C.1 C.2.1 C.2.2.2.2.2.2.2 (Or.inl ⟨_, rfl⟩) (Or.inr ⟨_, rfl⟩) (fun t ht _ => ⟨rfl, by rw [ht]; exact hP, hS.F ht⟩) hS.2.2 hd C.2.2.2.2.2.2.1
end JR
/-! contracts -/
def Ct (V : Vx) (l : Launch) (y : MethodName) (cc : ByteArray) (nL : Nat) (ret : Option FieldType) (rm : Room) (av : List Value) (σ : Sg) (r : Option Value) (σ' : Sg) : Prop :=
  Met l y [.code y cc nL ret] rm (fun a U => a = av.toArray ∧ Ws V U ∧ va_P V.1 cls (wsv V σ) U.heap) (fun _ s0 oc t => oc = .returned r ∧ va_P V.1 cls (wsv V σ') t.heap ∧ va_F (Ab V) s0 t) 0 0 (Ab V)
theorem Ct.ofJ {V : Vx} {l : Launch} {y : MethodName} {cc : ByteArray} {nL : Nat} {ret : Option FieldType} {rm : Room} {av : List Value} {σ σ' : Sg} {r : Option Value} (hy : plainFor y = true) (hn : (lg_sl av).length ≤ nL)
    (h : ∀ X : Xx, xl X = l → J V X rm cc y.cls nL ret (Qr V X r σ') σ 0 (lv_args 0 av) []) : Ct V l y cc nL ret rm av σ r σ' := by
  refine va_MetF (cc := cc) (maxL := nL) (ret := ret) hy rfl ?_
  intro p e s m args below meth c s₁ B hml hv
  obtain ⟨rfl, hWs, hP⟩ := hv
  rw [lg_entry_eq]
  exact h (p, l, e, s, m, av.toArray, below, meth, c, 0, 0) rfl ⟨B.exec, B.bytes, hml, findClass_of_methodNamed B.named, hWs, ⟨Nat.zero_le _, Nat.zero_le _⟩, B.notSynchronized, B.returns⟩ s.heap [] _ hP va_S.rf (lv_entry av hn)
/-! calls -/
def MV (own : String) (idx : Nat) (C : String) (y : MethodName) (cc : ByteArray) (nL : Nat) (ret : Option FieldType) (n : Nat) : Prop :=
  ((Cond.methodLink own idx y) ∈ lw_tbl ∨ ∃ h : String, (Cond.methodLinkNest own idx y h) ∈ lw_tbl) ∧ Cond.instanceMethod y ∈ lw_tbl ∧ Cond.selects C y y ∈ lw_tbl ∧ Cond.initialized y.cls ∈ lw_tbl ∧ Cond.code y cc nL ret ∈ lw_tbl ∧ (y.cls ≠ "java/lang/invoke/MethodHandle" ∧ y.cls ≠ "java/lang/invoke/VarHandle") ∧ (parseMethodDescriptor y.desc).map (fun d => d.parameters.length) = some n
def MS (own : String) (idx : Nat) (y : MethodName) (cc : ByteArray) (nL : Nat) (ret : Option FieldType) (n : Nat) : Prop :=
  ((Cond.methodLink own idx y) ∈ lw_tbl ∨ ∃ h : String, (Cond.methodLinkNest own idx y h) ∈ lw_tbl) ∧ Cond.static y ∈ lw_tbl ∧ Cond.initialized y.cls ∈ lw_tbl ∧ Cond.code y cc nL ret ∈ lw_tbl ∧ (y.cls ≠ "java/lang/invoke/MethodHandle" ∧ y.cls ≠ "java/lang/invoke/VarHandle") ∧ (parseMethodDescriptor y.desc).map (fun d => d.parameters.length) = some n
theorem parse_len {y : MethodName} {n : Nat} (h : (parseMethodDescriptor y.desc).map (fun d => d.parameters.length) = some n) : ∀ sg, parseMethodDescriptor y.desc = some sg → n = sg.parameters.length := fun sg hs => by
  rw [hs] at h
  exact (Option.some.inj h).symm
theorem pay_code {y : MethodName} {cc : ByteArray} {nL : Nat} {ret : Option FieldType} {s : State} (h : GW s) (hm : Cond.code y cc nL ret ∈ lw_tbl) : ∀ w ∈ [Cond.code y cc nL ret], ∀ (a' : Array Value) (U : State), s.WarmedH U.vm → w.before a' U = true := by
  intro w hw a' U hW
  have e : w = Cond.code y cc nL ret := by simpa using hw
  subst e
  exact (h.warm hW) _ hm rfl a'
section JC
variable {V : Vx} {X : Xx} {R : Room} {cc : ByteArray} {own : String} {nL : Nat} {ret : Option FieldType} {Q : State → Prop} {σ σ' : Sg} {pc pc' : Nat} {lv : List (Nat × Value)} {st rest st' : List Value}
theorem ct_blind {V : Vx} {av : List Value} {σ : Sg} : FrameBlind (fun (a : Array Value) (U : State) => a = av.toArray ∧ Ws V U ∧ va_P V.1 cls (wsv V σ) U.heap) := by
  intro a U g mk h
  exact ⟨h.1, h.2.1.same rfl rfl, h.2.2⟩
theorem J_after {H : Heap} {locs : List Loc} {ls : Array Slot} {r : Option Value} {a : Array Value} {y : MethodName} (C : Cx V X R cc own nL ret) (hS : va_S (Ab V) (xs X).heap H locs) (hl : lv_has ls nL lv) (hn : pc + 3 = pc') (hr : r.toList ++ rest = st')
    (hrun : va_Run (xp X) (xl X) (xe X) R (xs X) (xm X) (xa X) (xb X) (xh X) (xc X) H locs (xn X) (xk X) 0 0 (F0 (xm X) pc ls st) rest (fun s0 oc t => oc = .returned r ∧ va_P V.1 cls (wsv V σ') t.heap ∧ va_F (Ab V) s0 t) (Ab V))
    (kk : J V X R cc own nL ret Q σ' pc' lv st') : Wx X R Q H locs (F0 (xm X) pc ls st) := by
  subst hn; subst hr
  intro T hT Y
  obtain ⟨v, s0, t, T', L, h0, X', hL, e1, e2, ⟨ho, hP1, hF⟩, go⟩ := hrun T hT Y
  cases ho
  rw [← e1] at hP1
  unfold va_F at hF
  rw [h0, ← e1] at hF
  have hS1 : va_S (Ab V) (xs X).heap T'.heap (locs ++ L) := by
    refine ⟨Nat.le_trans hS.1 hF.1, fun q h1 h2 => ?_, fun q hq => ?_⟩
    · rw [hF.2 q (Nat.lt_of_lt_of_le h1 hS.1) h2]; exact hS.2.1 q h1 h2
    · rcases List.mem_append.mp hq with h | h
      · exact hS.2.2 q h
      · exact hL q h
  obtain ⟨t2, a1, b1⟩ := kk C T'.heap (locs ++ L) ls hP1 hS1 hl T' rfl X'
  exact ⟨t2, go t2 a1, b1⟩
theorem J_V {i ci idx n nL' : Nat} {sp : List (Option Nat)} {y : MethodName} {cc' : ByteArray} {ret' : Option FieldType} {rm : Room} {as : List Value} {r : Option Value} {q : vw_C} (hd : decode cc pc = .ok (.invokevirtual idx, 3)) (hn : pc + 3 = pc') (hs : Sh i (.inl (ci, sp))) (hc : cls[ci]? = some q) (hm : MV own idx q.1 y cc' nL' ret' n) (hct : Ct V (xl X) y cc' nL' ret' rm (rf V i :: as) σ r σ')
    (hst : st = as.reverse ++ rf V i :: rest) (has : as.length = n) (hR : rm.frames + 1 ≤ R.frames ∧ 8 + (nL' + 11) + rm.locals ≤ R.locals) (hz : rm.cells = 0 ∧ rm.slots = 0) (hw : (rest.map fun v => v.category).sum ≤ 8) (hr : r.toList ++ rest = st') (kk : J V X R cc own nL ret Q σ' pc' lv st') : J V X R cc own nL ret Q σ pc lv st := by
  intro C H locs ls hP hS hl
  have hg := C.2.2.2.2.1.1
  obtain ⟨hlk, hin, hsel, hini, hcode, hmh, hpar⟩ := hm
  have hfix : CallFix (xp X) (xm X) (xc X) cc nL (xs X) (xa X) [] own := ⟨C.1, C.2.1, C.2.2.1, C.2.2.2.1, fun w h => by simp at h⟩
  have hpre : PreV (xs X) H q.1 (V.2.1 i) (fun (a : Array Value) (U : State) => a = (rf V i :: as).toArray ∧ Ws V U ∧ va_P V.1 cls (wsv V σ) U.heap) as :=
    ⟨ct_blind, va_recv C.2.2.2.2.1.2.1 hP hc (wsv_at hs), fun U hU hW => ⟨rfl, C.2.2.2.2.1.moved hU hW (fun q h1 h2 => hS.2.1 q h1 h2), by rw [hU]; exact hP⟩⟩
  have hf : xn X + 0 ≤ R.cells ∧ xk X + 0 ≤ R.slots := C.2.2.2.2.2.1
  refine J_after (y := y) (a := xa X) C hS hl hn hr ?_ kk
  rcases hlk with hlk | ⟨hh, hlk⟩
  · exact va_runV hfix hct (C := q.1) ⟨⟨hz.1, hz.2, hR.1, hR.2, pay_code hg hcode, List.mem_cons_self, hg _ hcode rfl _, hg _ hini rfl _, hmh, parse_len hpar, hg _ hlk rfl _⟩, hg _ hin rfl _, hg _ hsel rfl _⟩ hpre rfl has hl.1 hst (lv_room hw) hd hf
  · exact va_runVN hfix hct (C := q.1) ⟨⟨⟨hz.1, hz.2, hR.1, hR.2, pay_code hg hcode, List.mem_cons_self⟩, hg _ hcode rfl _, hg _ hini rfl _, hmh, parse_len hpar, hg _ hlk rfl _⟩, hg _ hin rfl _, hg _ hsel rfl _⟩ hpre rfl has hl.1 hst (lv_room hw) hd hf
theorem J_S {idx n nL' : Nat} {y : MethodName} {cc' : ByteArray} {ret' : Option FieldType} {rm : Room} {as : List Value} {r : Option Value} (hd : decode cc pc = .ok (.invokestatic idx, 3)) (hn : pc + 3 = pc') (hm : MS own idx y cc' nL' ret' n) (hct : Ct V (xl X) y cc' nL' ret' rm as σ r σ')
    (hst : st = as.reverse ++ rest) (has : as.length = n) (hR : rm.frames + 1 ≤ R.frames ∧ 8 + (nL' + 11) + rm.locals ≤ R.locals) (hz : rm.cells = 0 ∧ rm.slots = 0) (hw : (rest.map fun v => v.category).sum ≤ 8) (hr : r.toList ++ rest = st') (kk : J V X R cc own nL ret Q σ' pc' lv st') : J V X R cc own nL ret Q σ pc lv st := by
  intro C H locs ls hP hS hl
  have hg := C.2.2.2.2.1.1
  obtain ⟨hlk, hstt, hini, hcode, hmh, hpar⟩ := hm
  have hfix : CallFix (xp X) (xm X) (xc X) cc nL (xs X) (xa X) [] own := ⟨C.1, C.2.1, C.2.2.1, C.2.2.2.1, fun w h => by simp at h⟩
  have hpre : PreS (xs X) H (fun (a : Array Value) (U : State) => a = as.toArray ∧ Ws V U ∧ va_P V.1 cls (wsv V σ) U.heap) as :=
    ⟨ct_blind, fun U hU hW => ⟨rfl, C.2.2.2.2.1.moved hU hW (fun q h1 h2 => hS.2.1 q h1 h2), by rw [hU]; exact hP⟩⟩
  have hf : xn X + 0 ≤ R.cells ∧ xk X + 0 ≤ R.slots := C.2.2.2.2.2.1
  refine J_after (y := y) (a := xa X) C hS hl hn hr ?_ kk
  rcases hlk with hlk | ⟨hh, hlk⟩
  · exact va_runS hfix hct ⟨⟨hz.1, hz.2, hR.1, hR.2, pay_code hg hcode, List.mem_cons_self, hg _ hcode rfl _, hg _ hini rfl _, hmh, parse_len hpar, hg _ hlk rfl _⟩, hg _ hstt rfl _⟩ hpre rfl has hl.1 hst (lv_room hw) hd hf
  · exact va_runSN hfix hct ⟨⟨⟨hz.1, hz.2, hR.1, hR.2, pay_code hg hcode, List.mem_cons_self⟩, hg _ hcode rfl _, hg _ hini rfl _, hmh, parse_len hpar, hg _ hlk rfl _⟩, hg _ hstt rfl _, trivial⟩ hpre rfl has hl.1 hst (lv_room hw) hd hf
/-- the two static rows -/
theorem J_gsL {idx : Nat} (hd : decode cc pc = .ok (.getstatic idx, 3)) (hn : pc + 3 = pc') (hw : Cond.fieldLink own idx "GorgeRopes" "LEAST_SETTING" "[I" ∈ lw_tbl) (kk : J V X R cc own nL ret Q σ pc' lv (.ref V.2.2.2.2.1 :: st)) : J V X R cc own nL ret Q σ pc lv st := by
  subst hn
  exact fun C H locs ls hP hS hl => va_gets C.1 C.2.1 C.2.2.2.2.1.2.2.2.1 hS C.2.2.2.1 (C.2.2.2.2.1.1 _ hw rfl _) (fun _ h => h) hd (kk C H locs ls hP hS hl)
theorem J_gsM {idx : Nat} (hd : decode cc pc = .ok (.getstatic idx, 3)) (hn : pc + 3 = pc') (hw : Cond.fieldLink own idx "GorgeRopes" "MOST_SETTING" "[I" ∈ lw_tbl) (kk : J V X R cc own nL ret Q σ pc' lv (.ref V.2.2.2.2.2 :: st)) : J V X R cc own nL ret Q σ pc lv st := by
  subst hn
  exact fun C H locs ls hP hS hl => va_gets C.1 C.2.1 C.2.2.2.2.1.2.2.2.2.2.1 hS C.2.2.2.1 (C.2.2.2.2.1.1 _ hw rfl _) (fun _ h => h) hd (kk C H locs ls hP hS hl)
theorem J_ialL {x : Int32} (hd : decode cc pc = .ok (.iaload, 1)) (hn : pc + 1 = pc') (hin : vp_in x 3) (kk : J V X R cc own nL ret Q σ pc' lv (.int (tbL x.toNatClampNeg) :: st)) : J V X R cc own nL ret Q σ pc lv (.int x :: .ref V.2.2.2.2.1 :: st) := by
  subst hn
  exact fun C H locs ls hP hS hl => va_ti C.1 C.2.1 C.2.2.2.2.1.2.2.2.2.1 hS hin rfl hd (kk C H locs ls hP hS hl)
theorem J_ialM {x : Int32} (hd : decode cc pc = .ok (.iaload, 1)) (hn : pc + 1 = pc') (hin : vp_in x 3) (kk : J V X R cc own nL ret Q σ pc' lv (.int (tbM x.toNatClampNeg) :: st)) : J V X R cc own nL ret Q σ pc lv (.int x :: .ref V.2.2.2.2.2 :: st) := by
  subst hn
  exact fun C H locs ls hP hS hl => va_ti C.1 C.2.1 C.2.2.2.2.1.2.2.2.2.2.2 hS hin rfl hd (kk C H locs ls hP hS hl)
end JC
section JN
variable {V : Vx} {X : Xx} {R : Room} {cc : ByteArray} {own : String} {nL : Nat} {ret : Option FieldType} {Q : State → Prop} {σ σ' : Sg} {pc pc' : Nat} {lv lv' : List (Nat × Value)} {st rest st' : List Value}
theorem J_pick (ks : List Nat) (h : lv_pick lv ks = lv') (kk : J V X R cc own nL ret Q σ pc lv' st) : J V X R cc own nL ret Q σ pc lv st := fun C H locs ls hP hS hl => kk C H locs ls hP hS (lv_sub hl ks h)
theorem J_null (hd : decode cc pc = .ok (.aconst_null, 1)) (hn : pc + 1 = pc') (kk : J V X R cc own nL ret Q σ pc' lv (.null :: rest)) : J V X R cc own nL ret Q σ pc lv rest := by
  subst hn; exact fun C H locs ls hP hS hl => lv_null C.1 C.2.1 hd (kk C H locs ls hP hS hl)
theorem J_astoreN_n {k : Fin 4} {i : Nat} (hd : decode cc pc = .ok (.astore_n k, 1)) (hn : pc + 1 = pc') (hi : (k : Nat) = i) (hb : i < nL) (he : (i, Value.null) :: lv.filter (fun q => !(q.1 == i) && !(q.1 + 1 == i && q.2.category == 2)) = lv') (kk : J V X R cc own nL ret Q σ pc' lv' rest) : J V X R cc own nL ret Q σ pc lv (.null :: rest) := by
  subst hn; exact fun C H locs ls hP hS hl => lv_astore_nN C.1 C.2.1 hd hi hl hb he (fun ls2 hl2 => kk C H locs ls2 hP hS hl2)
theorem J_aloadN_n {k : Fin 4} (hd : decode cc pc = .ok (.aload_n k, 1)) (hn : pc + 1 = pc') (j : Nat) (hk : lv[j]? = some ((k : Nat), .null)) (kk : J V X R cc own nL ret Q σ pc' lv (.null :: rest)) : J V X R cc own nL ret Q σ pc lv rest := by
  subst hn; exact fun C H locs ls hP hS hl => lv_aload_nN C.1 C.2.1 hd rfl (lv_at hl j hk) (kk C H locs ls hP hS hl)
theorem J_ifnn {x : Nat} {off : Int} {tgt : Nat} (hd : decode cc pc = .ok (.ifnonnull off, 3)) (ht : (pc : Int) + off = (tgt : Int)) (kk : J V X R cc own nL ret Q σ tgt lv rest) : J V X R cc own nL ret Q σ pc lv (.ref x :: rest) := fun C H locs ls hP hS hl => lv_ifnonnull C.1 C.2.1 hd ht (kk C H locs ls hP hS hl)
theorem J_ifnnN {off : Int} (hd : decode cc pc = .ok (.ifnonnull off, 3)) (hn : pc + 3 = pc') (kk : J V X R cc own nL ret Q σ pc' lv rest) : J V X R cc own nL ret Q σ pc lv (.null :: rest) := by
  subst hn; exact fun C H locs ls hP hS hl => lv_ifnonnullN C.1 C.2.1 hd (kk C H locs ls hP hS hl)
def zb (v : Int32) : Int32 := v &&& 1
theorem J_zretG {v : Int32} (hd : decode cc pc = .ok (.ireturn, 1)) : J V X R cc own nL (some .boolean) (Qr V X (some (.int (zb v))) σ) σ pc lv [.int v] := by
  intro C H locs ls hP hS hl T hT Y
  have hlocks : (xh X).locks = false := C.2.2.2.2.2.2.1
  have hr : (xh X).sig.returnType = some .boolean := C.2.2.2.2.2.2.2
  obtain ⟨fs, hret, hrun, hended, hW, hframe⟩ := Y.leave (v := some (.int (zb v))) (fun h => by rw [hr] at h; cases h)
  have hmeth' : T.vm.method? (xm X) = some (xh X) := Y.method'
  refine ⟨T.setFrames fs, ?_, .returned (some (.int (zb v))), hrun, hended, ⟨rfl, (by rw [show (T.setFrames fs).heap = H from hT]; exact hP), hS.F (t := T.setFrames fs) hT⟩, locs, ⟨⟨_, rfl⟩, hW, hframe⟩, hS.2.2⟩
  have hn : narrow .boolean (.int v) = .int (zb v) := rfl
  jvm_step Y.here [Y.here.top, C.1, C.2.1, hd, hmeth', hr, hn]
  (try refine ⟨rfl, ?_⟩); (try refine ⟨rfl, ?_⟩)
  first | (intro acts; rw [hret _ acts rfl rfl rfl]) | rw [hret _ _ rfl rfl rfl]
  exact Steps.refl _
def cpok (sp dp n : Int32) : Bool := decide (¬ sp < 0 ∧ ¬ dp < 0 ∧ ¬ n < 0 ∧ sp.toNatClampNeg + n.toNatClampNeg ≤ 60 ∧ dp.toNatClampNeg + n.toNatClampNeg ≤ 60)
theorem pC_1 {σ : Sg} {i j sp dp n : Nat} : ∀ a, a ≠ j → (pC σ i j sp dp n).1 a = σ.1 a := fun a h => by funext b; simp [pC, h]
theorem pC_self {σ : Sg} {i j sp dp n : Nat} : (pC σ i j sp dp n).1 j = va_cpy (σ.1 i) (σ.1 j) sp dp n := by funext b; simp [pC]
theorem J_copy {i j idx : Nat} {g1 g2 : Nat → Nat} {sp dp n : Int32} (hd : decode cc pc = .ok (.invokestatic idx, 3)) (hn : pc + 3 = pc') (hs1 : Sh i (.inr (0, 60, g1))) (hs2 : Sh j (.inr (0, 60, g2))) (hlk : Cond.methodLink own idx arraycopyName ∈ lw_tbl) (hnat : Cond.native arraycopyName ∈ lw_tbl) (hstt : Cond.static arraycopyName ∈ lw_tbl) (hini : Cond.initialized "java/lang/System" ∈ lw_tbl) (hok : cpok sp dp n = true)
    (hfr : 1 ≤ R.frames) (hlo : 0 + (nativeFrameWords "java/lang/System" "arraycopy" 5 + 11) ≤ R.locals) (kk : J V X R cc own nL ret Q (pC σ i j sp.toNatClampNeg dp.toNatClampNeg n.toNatClampNeg) pc' lv []) : J V X R cc own nL ret Q σ pc lv [.int n, .int dp, rf V j, .int sp, rf V i] := by
  subst hn
  intro C H locs ls hP hS hl
  have hg := C.2.2.2.2.1.1
  obtain ⟨h1, h2, h3, h4, h5⟩ := of_decide_eq_true hok
  refine va_copyi (rest := []) (t0 := 0) (t1 := 0) C.1 C.2.1 (C.2.2.1.trans hl.1.symm) C.2.2.2.1 (hg _ hlk rfl _) (hg _ hnat rfl _) (hg _ hstt rfl _) (hg _ hini rfl _) C.2.2.2.2.1.2.1 hP (C.2.2.2.2.1.2.2.1 σ) hS i j (wsv_at hs1) (wsv_at hs2) rfl rfl rfl h1 h2 h3 h4 h5 (fun _ _ => rfl) hfr hlo hd (fun H1 locs1 hP1 _ hS1 => ?_)
  have hset : (wsv V σ).set j (V.2.1 j, .inl (V.2.2.2.1 0, 60, .inl (va_cpy (σ.1 i) (σ.1 j) sp.toNatClampNeg dp.toNatClampNeg n.toNatClampNeg))) = wsv V (pC σ i j sp.toNatClampNeg dp.toNatClampNeg n.toNatClampNeg) := by
    rw [← pC_self]
    exact wsv_set hs2 pC_1 (fun _ _ => rfl)
  rw [hset] at hP1
  exact kk C H1 locs1 ls hP1 hS1 hl
end JN
/-! pieces of the pure functions -/
def FU : Nat := 1000000
def gd {α : Type} (b : Bool) (k : Option α) : Option α := if b then k else none
def bd {α β : Type} (o : Option (α × Sg)) (k : α → Sg → Option β) : Option β := o.bind fun x => k x.1 x.2
def vin (x : Int32) (n : Nat) : Bool := decide (¬ (x < 0 ∨ n ≤ x.toNatClampNeg))
theorem vinP {x : Int32} {n : Nat} (h : vin x n = true) : vp_in x n := (of_decide_eq_true h : ¬ (x < 0 ∨ n ≤ x.toNatClampNeg))
theorem gdE {α : Type} {b : Bool} {k : Option α} {r : α} (h : gd b k = some r) : b = true ∧ k = some r := by
  unfold gd at h
  split at h
  · exact ⟨by assumption, h⟩
  · cases h
theorem bdE {α β : Type} {o : Option (α × Sg)} {k : α → Sg → Option β} {r : β} (h : bd o k = some r) : ∃ a s, o = some (a, s) ∧ k a s = some r := by
  cases o with
  | none => cases h
  | some x => exact ⟨x.1, x.2, rfl, h⟩
theorem bpE {α β : Type} {o : Option α} {k : α → Option β} {r : β} (h : o.bind k = some r) : ∃ a, o = some a ∧ k a = some r := by
  cases o with
  | none => cases h
  | some x => exact ⟨x, rfl, h⟩
theorem brT {α : Type} {p : Prop} [Decidable p] {a b r : α} (hp : p) (h : (if p then a else b) = r) : a = r := by rwa [if_pos hp] at h
theorem brF {α : Type} {p : Prop} [Decidable p] {a b r : α} (hp : ¬ p) (h : (if p then a else b) = r) : b = r := by rwa [if_neg hp] at h
theorem nn {α : Type} {r : α} {P : Prop} (h : (none : Option α) = some r) : P := by cases h
theorem resE {α : Type} {a r : α} {s t : Sg} (h : some (a, s) = some (r, t)) : a = r ∧ s = t := by
  have h1 := Option.some.inj h
  exact ⟨congrArg Prod.fst h1, congrArg Prod.snd h1⟩
theorem neI {x k : Int32} {z : Int} (h : ¬ x = k) (hk : k.toInt = z) : x.toInt ≠ z := fun e => h (Int32.toInt_inj.mp (e.trans hk.symm))

