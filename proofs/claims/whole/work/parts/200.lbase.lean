/-! worlds that grow: local cells from address b on, the newest last -/
def wsl : Nat → List va_E → va_W
  | _, [] => []
  | b, x :: r => (b, x) :: wsl (b + 1) r
theorem wsl_at : ∀ (cs : List va_E) (b i : Nat), (wsl b cs)[i]? = (cs[i]?).map (fun x => (b + i, x))
  | [], b, i => by simp [wsl]
  | x :: r, b, 0 => by simp [wsl]
  | x :: r, b, i + 1 => by simp [wsl, wsl_at r (b + 1) i, Nat.add_assoc, Nat.add_comm 1 i]
theorem wsl_in {cs : List va_E} {b i : Nat} {x : va_E} (h : cs[i]? = some x) : (wsl b cs)[i]? = some (b + i, x) := by rw [wsl_at, h]; rfl
theorem wsl_set : ∀ (cs : List va_E) (b i : Nat) (x : va_E), (wsl b cs).set i (b + i, x) = wsl b (cs.set i x)
  | [], b, i, x => by simp [wsl]
  | y :: r, b, 0, x => by simp [wsl]
  | y :: r, b, i + 1, x => by
    have := wsl_set r (b + 1) i x
    simp only [wsl, List.set_cons_succ]
    rw [← this]
    congr 2
    simp [Nat.add_assoc, Nat.add_comm 1 i]
theorem wsl_app : ∀ (cs ds : List va_E) (b : Nat), wsl b (cs ++ ds) = wsl b cs ++ wsl (b + cs.length) ds
  | [], ds, b => by simp [wsl]
  | x :: r, ds, b => by simp [wsl, wsl_app r ds (b + 1), Nat.add_assoc, Nat.add_comm 1 r.length]
theorem wsl_D (b : Nat) (cs : List va_E) : va_D (fun q => b ≤ q) (wsl b cs) := by
  refine ⟨fun i j p q hi hj e => ?_, fun k q hk => ?_⟩
  · rw [wsl_at] at hi hj
    cases h1 : cs[i]? with
    | none => rw [h1] at hi; cases hi
    | some x =>
      cases h2 : cs[j]? with
      | none => rw [h2] at hj; cases hj
      | some y =>
        rw [h1] at hi; rw [h2] at hj
        cases hi; cases hj
        dsimp only at e
        omega
  · rw [wsl_at] at hk
    cases h1 : cs[k]? with
    | none => rw [h1] at hk; cases hk
    | some x => rw [h1] at hk; cases hk; exact Nat.le_add_right b k
def Wq (V : Vx) (U : State) : Prop := GW U ∧ va_K V.1 cls (tys V) U ∧ va_AO "GorgeRopes$Rope" U ∧ va_AO "GorgeRopes$Trip" U ∧ va_AO "GorgeRopes$Sheet" U
theorem Wq.moved {V : Vx} {s U : State} (h : Wq V s) (hW : s.WarmedH U.vm) : Wq V U := ⟨h.1.warm hW, va_K.moved hW.alike h.2.1, va_AO.moved hW.alike h.2.2.1, va_AO.moved hW.alike h.2.2.2.1, va_AO.moved hW.alike h.2.2.2.2⟩
def Cl (V : Vx) (X : Xx) (cc : ByteArray) (own : String) (nL b : Nat) : Prop :=
  (xp X).tables.exec = Jvm.exec ∧ (xc X).code = cc ∧ (xc X).maxLocals = nL ∧ (xs X).vm.findClass own = some (xm X).cls ∧ Wq V (xs X) ∧ b ≤ (xs X).heap.size
def L (V : Vx) (X : Xx) (R : Room) (cc : ByteArray) (own : String) (nL : Nat) (Q : State → Prop) (b : Nat) (cs : List va_E) (n k pc : Nat) (lv : List (Nat × Value)) (st : List Value) : Prop :=
  Cl V X cc own nL b → ∀ (H : Heap) (locs : List Loc) (ls : Array Slot), H.size = b + cs.length → va_P V.1 cls (wsl b cs) H → va_S (fun q => b ≤ q) (xs X).heap H locs → lv_has ls nL lv → W (xp X) (xl X) (xe X) R (xs X) (xm X) (xa X) (xb X) (xh X) (xc X) H locs n k Q (F0 (xm X) pc ls st)
section LR
variable {V : Vx} {X : Xx} {R : Room} {cc : ByteArray} {own : String} {nL : Nat} {Q : State → Prop} {b n k : Nat} {cs cs' : List va_E} {pc pc' : Nat} {lv lv' : List (Nat × Value)} {st rest st' : List Value}

theorem L_aload_n {q : Fin 4} {x : Nat} (hd : decode cc pc = .ok (.aload_n q, 1)) (hn : pc + 1 = pc') (j : Nat) (hk : lv[j]? = some ((q : Nat), .ref x)) (kk : L V X R cc own nL Q b cs n k pc' lv (.ref x :: rest)) : L V X R cc own nL Q b cs n k pc lv (rest) := by
  subst hn; exact fun C H locs ls hz hP hS hl => lv_aload_n C.1 C.2.1 hd rfl (lv_at hl j hk) (kk C H locs ls hz hP hS hl)
theorem L_iload_n {q : Fin 4} {x : Int32} (hd : decode cc pc = .ok (.iload_n q, 1)) (hn : pc + 1 = pc') (j : Nat) (hk : lv[j]? = some ((q : Nat), .int x)) (kk : L V X R cc own nL Q b cs n k pc' lv (.int x :: rest)) : L V X R cc own nL Q b cs n k pc lv (rest) := by
  subst hn; exact fun C H locs ls hz hP hS hl => lv_iload_n C.1 C.2.1 hd rfl (lv_at hl j hk) (kk C H locs ls hz hP hS hl)
theorem L_iconst {a : Int} {v : Int32} (hd : decode cc pc = .ok (.iconst a, 1)) (hn : pc + 1 = pc') (hv : Int32.ofInt a = v) (kk : L V X R cc own nL Q b cs n k pc' lv (.int v :: rest)) : L V X R cc own nL Q b cs n k pc lv (rest) := by
  subst hn; exact fun C H locs ls hz hP hS hl => lv_iconst C.1 C.2.1 hd hv (kk C H locs ls hz hP hS hl)
theorem L_bipush {a : Int} {v : Int32} (hd : decode cc pc = .ok (.bipush a, 2)) (hn : pc + 2 = pc') (hv : (Int8.ofInt a).toInt32 = v) (kk : L V X R cc own nL Q b cs n k pc' lv (.int v :: rest)) : L V X R cc own nL Q b cs n k pc lv (rest) := by
  subst hn; exact fun C H locs ls hz hP hS hl => lv_bipush C.1 C.2.1 hd hv (kk C H locs ls hz hP hS hl)
theorem L_sipush {a : Int} {v : Int32} (hd : decode cc pc = .ok (.sipush a, 3)) (hn : pc + 3 = pc') (hv : (Int16.ofInt a).toInt32 = v) (kk : L V X R cc own nL Q b cs n k pc' lv (.int v :: rest)) : L V X R cc own nL Q b cs n k pc lv (rest) := by
  subst hn; exact fun C H locs ls hz hP hS hl => lv_sipush C.1 C.2.1 hd hv (kk C H locs ls hz hP hS hl)
theorem L_dup {va : Value} (hd : decode cc pc = .ok (.dup, 1)) (hn : pc + 1 = pc') (hc : va.category = 1) (kk : L V X R cc own nL Q b cs n k pc' lv (va :: va :: rest)) : L V X R cc own nL Q b cs n k pc lv (va :: rest) := by
  subst hn; exact fun C H locs ls hz hP hS hl => lv_dup C.1 C.2.1 hd hc (kk C H locs ls hz hP hS hl)
theorem L_istore_n {q : Fin 4} {i : Nat} {x : Int32} (hd : decode cc pc = .ok (.istore_n q, 1)) (hn : pc + 1 = pc') (hi : (q : Nat) = i) (hb : i < nL) (he : (i, Value.int x) :: lv.filter (fun q => !(q.1 == i) && !(q.1 + 1 == i && q.2.category == 2)) = lv') (kk : L V X R cc own nL Q b cs n k pc' lv' rest) : L V X R cc own nL Q b cs n k pc lv (.int x :: rest) := by
  subst hn; exact fun C H locs ls hz hP hS hl => lv_istore_n C.1 C.2.1 hd hi hl hb he (fun ls2 hl2 => kk C H locs ls2 hz hP hS hl2)
theorem L_astore_n {q : Fin 4} {i : Nat} {x : Nat} (hd : decode cc pc = .ok (.astore_n q, 1)) (hn : pc + 1 = pc') (hi : (q : Nat) = i) (hb : i < nL) (he : (i, Value.ref x) :: lv.filter (fun q => !(q.1 == i) && !(q.1 + 1 == i && q.2.category == 2)) = lv') (kk : L V X R cc own nL Q b cs n k pc' lv' rest) : L V X R cc own nL Q b cs n k pc lv (.ref x :: rest) := by
  subst hn; exact fun C H locs ls hz hP hS hl => lv_astore_n C.1 C.2.1 hd hi hl hb he (fun ls2 hl2 => kk C H locs ls2 hz hP hS hl2)
theorem L_iinc {i j : Nat} {a : Int} {x v : Int32} (hd : decode cc pc = .ok (.iinc i a, 3)) (hn : pc + 3 = pc') (hk : lv[j]? = some (i, .int x)) (hv : x + Int32.ofInt a = v) (hb : i < nL) (he : (i, Value.int v) :: lv.filter (fun q => !(q.1 == i) && !(q.1 + 1 == i && q.2.category == 2)) = lv') (kk : L V X R cc own nL Q b cs n k pc' lv' rest) : L V X R cc own nL Q b cs n k pc lv rest := by
  subst hn; exact fun C H locs ls hz hP hS hl => lv_iinc (k := j) C.1 C.2.1 hd hl hk hv hb he (fun ls2 hl2 => kk C H locs ls2 hz hP hS hl2)
theorem L_goto {off : Int} {tgt : Nat} (hd : decode cc pc = .ok (.goto off, 3)) (ht : (pc : Int) + off = (tgt : Int)) (kk : L V X R cc own nL Q b cs n k tgt lv rest) : L V X R cc own nL Q b cs n k pc lv rest := fun C H locs ls hz hP hS hl => lv_goto C.1 C.2.1 hd ht (kk C H locs ls hz hP hS hl)
theorem L_geT {x y : Int32} {off : Int} {tgt : Nat} (hd : decode cc pc = .ok (.if_icmp .ge off, 3)) (ht : (pc : Int) + off = (tgt : Int)) (h : y ≤ x) (kk : L V X R cc own nL Q b cs n k tgt lv rest) : L V X R cc own nL Q b cs n k pc lv (.int y :: .int x :: rest) := fun C H locs ls hz hP hS hl => lv_icmp_ge C.1 C.2.1 hd ht (fun _ => kk C H locs ls hz hP hS hl) (fun h2 => absurd h h2)
theorem L_geF {x y : Int32} {off : Int} {tgt : Nat} (hd : decode cc pc = .ok (.if_icmp .ge off, 3)) (hn : pc + 3 = pc') (ht : (pc : Int) + off = (tgt : Int)) (h : ¬ y ≤ x) (kk : L V X R cc own nL Q b cs n k pc' lv rest) : L V X R cc own nL Q b cs n k pc lv (.int y :: .int x :: rest) := by
  subst hn; exact fun C H locs ls hz hP hS hl => lv_icmp_ge C.1 C.2.1 hd ht (fun h2 => absurd h2 h) (fun _ => kk C H locs ls hz hP hS hl)
theorem L_obj {a idx : Nat} (hd : decode cc pc = .ok (.invokespecial idx, 3)) (hn : pc + 3 = pc') (h1 : Cond.methodLink own idx objectInit ∈ lw_tbl) (h2 : Cond.instanceMethod objectInit ∈ lw_tbl) (h3 : Cond.code objectInit ⟨#[0xb1]⟩ 1 none ∈ lw_tbl) (hf : 1 ≤ R.frames) (hlo : 12 ≤ R.locals) (kk : L V X R cc own nL Q b cs n k pc' lv []) : L V X R cc own nL Q b cs n k pc lv [.ref a] := by
  subst hn
  intro C H locs ls hz hP hS hl
  have hg := C.2.2.2.2.1.1
  exact W.objInit C.1 C.2.1 C.2.2.2.1 (hg _ h1 rfl _) (hg _ h2 rfl _) (hg _ h3 rfl _) rfl (by rw [C.2.2.1]; exact hl.1) rfl hd hf (by show 2 * 0 + 0 + 12 ≤ R.locals; omega) (kk C H locs ls hz hP hS hl)
theorem L_min {x y : Int32} {idx : Nat} (hd : decode cc pc = .ok (.invokestatic idx, 3)) (hn : pc + 3 = pc') (h1 : Cond.methodLink own idx Lib.Math.min.name ∈ lw_tbl) (h2 : Cond.static Lib.Math.min.name ∈ lw_tbl) (h3 : Cond.initialized "java/lang/Math" ∈ lw_tbl) (h4 : Cond.code Lib.Math.min.name Lib.Math.min.code 2 (some .int) ∈ lw_tbl) (hf : 1 ≤ R.frames) (hw : (rest.map fun v => v.category).sum + 13 ≤ R.locals) (hc : n ≤ R.cells) (hs : k ≤ R.slots) (kk : L V X R cc own nL Q b cs n k pc' lv (.int (if y < x then y else x) :: rest)) : L V X R cc own nL Q b cs n k pc lv (.int y :: .int x :: rest) := by
  subst hn
  intro C H locs ls hz hP hS hl
  have hg := C.2.2.2.2.1.1
  exact va_mmin C.1 C.2.1 (C.2.2.1.trans hl.1.symm) C.2.2.2.1 (hg _ h1 rfl _) (hg _ h2 rfl _) (hg _ h3 rfl _) (hg _ h4 rfl _) hf hw hc hs hd (kk C H locs ls hz hP hS hl)
theorem wsl_lt {D : va_G} {H H1 : Heap} {cs : List va_E} {b h : Nat} (hP : va_P D cls (wsl b cs) H) (hz : H.size = h) (o1 : ∀ q, q < h → H1[q]? = H[q]?) : va_P D cls (wsl b cs) H1 := hP.kept (fun j x hx => o1 x.1 (by rw [← hz]; exact (hP j x hx).lt))
theorem L_new {ci idx : Nat} {q : vw_C} {fs : List Value} (hd : decode cc pc = .ok (.new idx, 3)) (hn : pc + 3 = pc') (hc : cls[ci]? = some q) (ty : Nat → FieldType) (hty : ∀ j, j < q.2.2 → parseFieldDescriptor (q.2.1 j).2.2.1 = some (ty j)) (hfs : ∀ j, j < q.2.2 → defaultValue (ty j) = vp_V fs j) (h1 : Cond.classLink own idx q.1 ∈ lw_tbl) (h2 : Cond.instantiable q.1 q.2.2 ∈ lw_tbl) (h3 : Cond.initialized q.1 ∈ lw_tbl) (hcl : n + 1 ≤ R.cells) (hsl : k + q.2.2 ≤ R.slots) (he : cs ++ [.inr (ci, fs)] = cs') {n' k' : Nat} (en : n + 1 = n') (ek : k + q.2.2 = k') {a : Nat} (ea : b + cs.length = a)
    (kk : L V X R cc own nL Q b cs' n' k' pc' lv (.ref a :: st)) : L V X R cc own nL Q b cs n k pc lv st := by
  subst hn; subst he; subst en; subst ek; subst ea
  intro C H locs ls hz hP hS hl
  obtain ⟨cn, T, N⟩ := q
  have hg := C.2.2.2.2.1.1
  have hK := C.2.2.2.2.1.2.1
  have ht : ∀ w ∈ u_ws cn T N, w.before (xa X) (xs X) = true := fun w h => by
    obtain ⟨g1, g2⟩ := (lay_all ci _ hc).1 w h
    exact hg w g1 g2 _
  have hKn := hK.1 ci _ hc
  refine W.newcK C.1 C.2.1 C.2.2.2.1 (hg _ h1 rfl _) (hg _ h2 rfl _) (hg _ h3 rfl _) rfl hd hcl hsl hKn.2.1 hz fun H1 kC hkC e1 z1 o1 => ?_
  refine kk C H1 locs ls (by rw [z1]; simp; omega) ?_ ⟨Nat.le_trans hS.1 (by omega), fun x a1 a2 => (o1 x (by rw [← hz]; exact Nat.lt_of_lt_of_le a1 hS.1)).trans (hS.2.1 x a1 a2), hS.2.2⟩ hl
  rw [wsl_app]
  refine (wsl_lt hP hz o1).app (fun j x hx => ?_)
  have hj : j < 1 := (List.getElem?_eq_some_iff.mp hx).1
  rw [show j = 0 by omega] at hx
  cases hx
  exact ⟨_, hc, (u_born ty ht (fun _ h => h) hKn hkC e1 hty).to hfs⟩
theorem L_arr {t : Nat} {atype : ArrayType} {ty : FieldType} {i : Int32} {N : Nat} {a0 : vp_A} {cA : ClassId} (hd : decode cc pc = .ok (.newarray atype, 2)) (hn : pc + 2 = pc') (hty : newarray.typeOf atype = ty) (ht : (tys V)[t]? = some (cA, ty)) (hprim : ∀ s' : State, va_RA s' cA ty → s'.vm.findClass ("[" ++ ty.toString) = some cA) (harr : Cond.arrayClass ty ∈ lw_tbl) (ha : vp_cell cA a0 = arrV cA N (fun _ => defaultValue ty)) (h0 : ¬ i < 0) (hN : i.toNatClampNeg = N) (hby : N * componentBytes ty ≤ 536870912) (hcl : n + 1 ≤ R.cells) (hsl : k + N ≤ R.slots) (he : cs ++ [.inl (cA, a0)] = cs') {n' k' : Nat} (en : n + 1 = n') (ek : k + N = k') {a : Nat} (ea : b + cs.length = a)
    (kk : L V X R cc own nL Q b cs' n' k' pc' lv (.ref a :: rest)) : L V X R cc own nL Q b cs n k pc lv (.int i :: rest) := by
  subst hn; subst he; subst en; subst ek; subst ea; subst hty
  intro C H locs ls hz hP hS hl
  have hg := C.2.2.2.2.1.1
  have hK := C.2.2.2.2.1.2.1
  refine va_newaK C.1 C.2.1 (hg _ harr rfl _) rfl hd rfl h0 hN hby hcl hsl hz fun H1 cB e1 z1 o1 hAr hNm => ?_
  have hAB : cB = cA := by
    have := hprim _ (hK.2 t _ ht).2
    rw [hNm] at this
    exact Option.some.inj this
  subst hAB
  refine kk C H1 locs ls (by rw [z1]; simp; omega) ?_ ⟨Nat.le_trans hS.1 (by omega), fun x a1 a2 => (o1 x (by rw [← hz]; exact Nat.lt_of_lt_of_le a1 hS.1)).trans (hS.2.1 x a1 a2), hS.2.2⟩ hl
  rw [wsl_app]
  refine (wsl_lt hP hz o1).app (fun j x hx => ?_)
  have hj : j < 1 := (List.getElem?_eq_some_iff.mp hx).1
  rw [show j = 0 by omega] at hx
  cases hx
  show H1[b + cs.length]? = some (vp_cell _ _)
  rw [ha]
  exact e1
theorem L_arrq {t idx : Nat} {cn : String} {i : Int32} {N : Nat} {cA : ClassId} (hd : decode cc pc = .ok (.anewarray idx, 3)) (hn : pc + 3 = pc') (ht : (tys V)[t]? = some (cA, .object cn)) (hl1 : Cond.classLink own idx cn ∈ lw_tbl) (hAO : ∀ s', Wq V s' → va_AO cn s') (h0 : ¬ i < 0) (hN : i.toNatClampNeg = N) (hby : N * 4 ≤ 536870912) (hcl : n + 1 ≤ R.cells) (hsl : k + N ≤ R.slots) (he : cs ++ [.inl (cA, N, .inr (.inr (.inr (.inr (fun _ => none)))))] = cs') {n' k' : Nat} (en : n + 1 = n') (ek : k + N = k') {a : Nat} (ea : b + cs.length = a)
    (kk : L V X R cc own nL Q b cs' n' k' pc' lv (.ref a :: rest)) : L V X R cc own nL Q b cs n k pc lv (.int i :: rest) := by
  subst hn; subst he; subst en; subst ek; subst ea; subst hN
  intro C H locs ls hz hP hS hl
  have hg := C.2.2.2.2.1.1
  have hK := C.2.2.2.2.1.2.1
  refine W.anew C.1 C.2.1 C.2.2.2.1 (hg _ hl1 rfl _) (va_AO.use (hAO _ C.2.2.2.2.1)) rfl hd rfl h0 hby hcl hsl fun cB kA comp f1 f2 f3 f4 => ?_
  have hAB : cB = cA := by
    obtain ⟨_, _, _, _, _, g4⟩ := (hK.2 t _ ht).2
    rw [f1] at g4
    exact Option.some.inj g4
  subst hAB
  generalize hH1 : H.push ({ cls := cB, slots := Array.replicate i.toNatClampNeg .null, vm := .none } : Cell) = H1
  have z1 : H1.size = H.size + 1 := by rw [← hH1, Array.size_push]
  have e1 : H1[H.size]? = some (arrV cB i.toNatClampNeg (fun _ => .null)) := by rw [← hH1, Array.getElem?_push_size, ← arrV_new]
  have o1 : ∀ q : Nat, q < H.size → H1[q]? = H[q]? := fun q hq => by rw [← hH1, Array.getElem?_push, if_neg (Nat.ne_of_lt hq)]
  rw [hz] at z1 e1 o1 ⊢
  refine kk C H1 locs ls (by rw [z1]; simp; omega) ?_ ⟨Nat.le_trans hS.1 (by omega), fun x a1 a2 => (o1 x (by rw [← hz]; exact Nat.lt_of_lt_of_le a1 hS.1)).trans (hS.2.1 x a1 a2), hS.2.2⟩ hl
  rw [wsl_app]
  refine (wsl_lt hP hz o1).app (fun j x hx => ?_)
  have hj : j < 1 := (List.getElem?_eq_some_iff.mp hx).1
  rw [show j = 0 by omega] at hx
  cases hx
  show H1[b + cs.length]? = some (vp_cell _ _)
  exact e1
/-- a field is put, final or not, in its own object's making -/
theorem L_put {i ci j idx a : Nat} {q : vw_C} {fs : List Value} {ty : FieldType} {v : Value} (hd : decode cc pc = .ok (.putfield idx, 3)) (hn : pc + 3 = pc') (ha : b + i = a) (hi : cs[i]? = some (.inr (ci, fs))) (hc : cls[ci]? = some q) (hown : q.1 = own) (hj : j < q.2.2) (he0 : (q.2.1 j).1 = q.1) (hlk : Cond.fieldLink own idx q.1 (q.2.1 j).2.1 (q.2.1 j).2.2.1 ∈ lw_tbl) (hty : parseFieldDescriptor (q.2.1 j).2.2.1 = some ty) (hnr : narrow ty v = v) (hft : fits ty v = true) (hlen : j < fs.length) (hini : (xh X).name = "<init>") (he : cs.set i (.inr (ci, fs.set j v)) = cs')
    (kk : L V X R cc own nL Q b cs' n k pc' lv rest) : L V X R cc own nL Q b cs n k pc lv (v :: .ref a :: rest) := by
  subst hn; subst he; subst ha
  intro C H locs ls hz hP hS hl
  obtain ⟨cn, T, N⟩ := q
  dsimp only at hown he0 hlk hty hj
  have hg := C.2.2.2.2.1.1
  have hK := C.2.2.2.2.1.2.1
  obtain ⟨hlay, ty0, ht1, ht2⟩ := lay_all ci _ hc
  have ht : ∀ w ∈ u_ws cn T N, w.before (xa X) (xs X) = true := fun w h => by
    obtain ⟨g1, g2⟩ := hlay w h
    exact hg w g1 g2 _
  have hap := va_apart (own := own) ht (fun _ h => h) ty0 ht1 ht2 hK hc
  obtain ⟨r, h1, cell, q1, q2, q3, q4⟩ := hP i _ (wsl_in hi)
  have hr : r = (cn, T, N) := Option.some.inj (h1.symm.trans hc)
  subst hr
  obtain ⟨hSl, hfc, kC, hkC, hkind⟩ := hK.1 ci _ hc
  obtain ⟨cf, kf, fi, f, hfi, hsl⟩ := hSl j hj
  have hul := u_lays ht (fun _ h => h) hj
  have hst := (u_facts hfc hkC hul hfi).1
  have hnf := u_fits hfc hkC hkind hul hfi hty hnr hft
  have hfin : hasFlag f.accessFlags Acc.final = false ∨ ((xm X).cls = cf ∧ (xh X).name = "<init>") := by
    have hlay := ht _ (u_in_lay hj)
    unfold u_lay at hlay
    split at hlay
    · refine Or.inr ⟨?_, hini⟩
      obtain ⟨_, _, c2, _, _, _, -, -, hf2, -, -, -, hown2, -⟩ := Cond.laysFinal_spec hlay
      have e1 : c2 = cf := by have := hfi.symm.trans hf2; simp at this; exact this.1.symm
      rw [he0, hown] at hown2
      rw [← e1]; exact Option.some.inj (C.2.2.2.1.symm.trans hown2)
    · exact Or.inl (u_store hfc hkC hkind hlay hfi hty hnr hft).1
  have hlt : f.slot < cell.slots.size := by rw [hsl]; exact k2_hasslot (q4 j hj)
  have hal : b + i < H.size := (Array.getElem?_eq_some_iff.mp q1).1
  refine W.putf C.1 C.2.1 C.2.2.2.1 (hg _ hlk rfl _) (by rw [he0] at hfi; exact hfi) hst hfin q1 (by rw [q3]; exact fun h => by cases h) hlt hnf.1 (by rw [q2, q3]; exact hnf.2) rfl rfl hd ?_
  have e1 : (H.setIfInBounds (b + i) (cell.setSlot f.slot v))[b + i]? = some (cell.setSlot f.slot v) := by simp [hal]
  have e3 : ∀ q, q ≠ b + i → (H.setIfInBounds (b + i) (cell.setSlot f.slot v))[q]? = H[q]? := fun q hq => by simp [Array.getElem?_setIfInBounds, Ne.symm hq]
  have e2 : (H.setIfInBounds (b + i) (cell.setSlot f.slot v)).size = H.size := by simp
  generalize H.setIfInBounds (b + i) (cell.setSlot f.slot v) = H1 at e1 e2 e3 ⊢
  rw [hsl] at e1 ⊢
  have hP1 := hP.set (wsl_D b cs) (wsl_in hi) (e := .inr (ci, fs.set j v)) ⟨_, hc, t_OB.to (V := updV (vp_V fs) j v) ⟨_, e1, q2, q3, t_set q4 hap hj v⟩ (fun x _ => vp_updV_set hlen v x)⟩ e3
  rw [wsl_set] at hP1
  exact kk C H1 _ ls (by rw [e2, hz]; simp) hP1 (hS.put e2 e3 (Nat.le_add_right b i)) hl
theorem L_ias {i a : Nat} {cA : ClassId} {N : Nat} {f : Nat → Int32} {x v : Int32} (hd : decode cc pc = .ok (.iastore, 1)) (hn : pc + 1 = pc') (ha : b + i = a) (hi : cs[i]? = some (.inl (cA, N, .inl f))) (ht : (tys V)[0]? = some (cA, .int)) (hin : vp_in x N) (he : cs.set i (.inl (cA, N, .inl (upd f x.toNatClampNeg v))) = cs') (kk : L V X R cc own nL Q b cs' n k pc' lv rest) : L V X R cc own nL Q b cs n k pc lv (.int v :: .int x :: .ref a :: rest) := by
  subst hn; subst he; subst ha
  intro C H locs ls hz hP hS hl
  have hK := C.2.2.2.2.1.2.1
  refine W.iast C.1 C.2.1 (hP i _ (wsl_in hi)) ((hK.2 0 _ ht).1 N (fun j => .int (f j))) (fun q => by cases q) (by show ¬ (x < 0 ∨ (arrV _ _ _).slots.size ≤ _); rw [arrV_size]; exact hin) rfl rfl hd fun H1 e z oq => ?_
  have hP1 := hP.set (wsl_D b cs) (wsl_in hi) (e := .inl (cA, N, .inl (upd f x.toNatClampNeg v))) (by
    show H1[b + i]? = some (vp_cell _ _)
    rw [e, vp_cell_i, vp_cell_i, arrV_store]
    congr 2
    funext q
    by_cases hq : q = x.toNatClampNeg
    · subst hq; simp [updV, upd]
    · simp [updV, upd, hq]) oq
  rw [wsl_set] at hP1
  exact kk C H1 _ ls (by rw [z, hz]; simp) hP1 (hS.put z oq (Nat.le_add_right b i)) hl
theorem L_aas {i a t j ci v : Nat} {cA : ClassId} {r : vw_C} {N : Nat} {f : Nat → Option Nat} {vs : List Value} {x : Int32} (hd : decode cc pc = .ok (.aastore, 1)) (hn : pc + 1 = pc') (ha : b + i = a) (hv : b + j = v) (hi : cs[i]? = some (.inl (cA, N, .inr (.inr (.inr (.inr f)))))) (hj : cs[j]? = some (.inr (ci, vs))) (hc : cls[ci]? = some r) (ht : (tys V)[t]? = some (cA, .object r.1)) (hin : vp_in x N) (he : cs.set i (.inl (cA, N, .inr (.inr (.inr (.inr (va_up f x.toNatClampNeg (some v))))))) = cs') (kk : L V X R cc own nL Q b cs' n k pc' lv rest) : L V X R cc own nL Q b cs n k pc lv (.ref v :: .int x :: .ref a :: rest) := by
  subst hn; subst he; subst ha; subst hv
  intro C H locs ls hz hP hS hl
  have hK := C.2.2.2.2.1.2.1
  have hlt : x.toNatClampNeg < N := Nat.not_le.mp fun q => hin (Or.inr q)
  have h0 : ¬ x < 0 := fun q => hin (Or.inl q)
  obtain ⟨r2, hr2, cellV, g1, g2, g3, -⟩ := hP j _ (wsl_in hj)
  have hcls := (hK.1 ci r hc).2
  obtain ⟨kA, comp, k1, k2, k3, -⟩ := (hK.2 t _ ht).2
  have hcomp : comp = V.1.1 ci := Option.some.inj (k3.symm.trans hcls.1)
  subst hcomp
  obtain ⟨kC, hkC, -⟩ := hcls.2
  refine W.aast C.1 C.2.1 (hP i _ (wsl_in hi)) (fun q h => by cases h) (fun h => by cases h) k1 k2 rfl hkC ⟨h0, by show _ < (arrV _ _ _).slots.size; rw [arrV_size]; exact hlt⟩ g1 (fun q h => by rw [g3] at h; cases h) (by rw [g2]; exact hkC) (by rw [g2]; exact va_assign hcls) rfl rfl hd fun H1 e z oq => ?_
  have hP1 := hP.set (wsl_D b cs) (wsl_in hi) (e := .inl (cA, N, .inr (.inr (.inr (.inr (va_up f x.toNatClampNeg (some (b + j)))))))) (by
    show H1[b + i]? = some (vp_cell _ _)
    rw [e, vp_cell_q, vp_cell_q, arrV_store]
    congr 2
    funext q
    by_cases hq : q = x.toNatClampNeg
    · subst hq; simp [updV, va_up, va_rf]
    · simp [updV, va_up, hq]) oq
  rw [wsl_set] at hP1
  exact kk C H1 _ ls (by rw [z, hz]; simp) hP1 (hS.put z oq (Nat.le_add_right b i)) hl
theorem L_get {i ci j idx a : Nat} {fs : List Value} {v : Value} (hd : decode cc pc = .ok (.getfield idx, 3)) (hn : pc + 3 = pc') (ha : b + i = a) (hi : cs[i]? = some (.inr (ci, fs))) (hf : FL own idx ci j) (hv : fs[j]? = some v) (kk : L V X R cc own nL Q b cs n k pc' lv (v :: rest)) : L V X R cc own nL Q b cs n k pc lv (.ref a :: rest) := by
  subst hn; subst ha
  intro C H locs ls hz hP hS hl
  obtain ⟨⟨cn, T, N⟩, hc, hk, he, hw⟩ := hf
  dsimp only at he hw hk
  have hg := C.2.2.2.2.1.1
  have hK := C.2.2.2.2.1.2.1
  have ht : ∀ w ∈ u_ws cn T N, w.before (xa X) (xs X) = true := fun w h => by
    obtain ⟨h1, h2⟩ := (lay_all ci _ hc).1 w h
    exact hg w h1 h2 _
  rcases hw with hw | ⟨hh, hw⟩
  · exact va_get C.1 C.2.1 ht (fun _ h => h) C.2.2.2.1 hK hP i (wsl_in hi) hc j hk (hg _ hw rfl _) (fun x h => by rw [he] at h; exact h) hv hd (kk C H locs ls hz hP hS hl)
  · exact va_getN C.1 C.2.1 ht (fun _ h => h) C.2.2.2.1 hK hP i (wsl_in hi) hc j hk (hg _ hw rfl _) (fun x h => by rw [he] at h; exact h) hv hd (kk C H locs ls hz hP hS hl)
/-! contracts of the making -/
def Ql (V : Vx) (X : Xx) (b : Nat) (cs' : List va_E) (n k : Nat) : State → Prop := MQ (xb X) (fun _ s0 oc t => oc = .returned none ∧ t.heap.size = b + cs'.length ∧ va_P V.1 cls (wsl b cs') t.heap ∧ va_F (fun q => b ≤ q) s0 t) (xa X) (xs X) n k (fun q => b ≤ q)
def Cc (V : Vx) (l : Launch) (y : MethodName) (cc : ByteArray) (nL : Nat) (rm : Room) (b : Nat) (av : List Value) (cs cs' : List va_E) : Prop :=
  Met l y [.code y cc nL none] rm (fun a U => a = (Value.ref b :: av).toArray ∧ Wq V U ∧ U.heap.size = b + cs.length ∧ va_P V.1 cls (wsl b cs) U.heap) (fun _ s0 oc t => oc = .returned none ∧ t.heap.size = b + cs'.length ∧ va_P V.1 cls (wsl b cs') t.heap ∧ va_F (fun q => b ≤ q) s0 t) rm.cells rm.slots (fun q => b ≤ q)
theorem L_ret (hr : (xh X).sig.returnType = none) (hlk : (xh X).locks = false) (hd : decode cc pc = .ok (.return_, 1)) : L V X R cc own nL (Ql V X b cs n k) b cs n k pc lv [] := fun C H locs ls hz hP hS hl => W.vret C.1 C.2.1 hr (fun t ht _ => ⟨rfl, by rw [ht]; exact hz, by rw [ht]; exact hP, hS.F ht⟩) hS.2.2 hd hlk
theorem Cc.ofL {l : Launch} {y : MethodName} {rm : Room} {av : List Value} (hy : plainFor y = true) (hyn : y.name = "<init>") (hn : (lg_sl (Value.ref b :: av)).length ≤ nL) (hc1 : 1 ≤ cs.length)
    (h : ∀ X : Xx, xl X = l → (xh X).name = "<init>" → (xh X).sig.returnType = none → (xh X).locks = false → L V X rm cc y.cls nL (Ql V X b cs' rm.cells rm.slots) b cs 0 0 0 (lv_args 0 (Value.ref b :: av)) []) : Cc V l y cc nL rm b av cs cs' := by
  refine va_MetF (cc := cc) (maxL := nL) (ret := none) hy rfl ?_
  intro p e s m args below meth c s₁ B hml hv
  obtain ⟨rfl, hWs, hz, hP⟩ := hv
  rw [lg_entry_eq]
  exact h (p, l, e, s, m, (Value.ref b :: av).toArray, below, meth, c, 0, 0) rfl (by rw [← hyn]; exact (name_of_methodNamed B.named B.method).1) B.returns B.notSynchronized ⟨B.exec, B.bytes, hml, findClass_of_methodNamed B.named, hWs, by rw [hz]; exact Nat.le_add_right _ _⟩ s.heap [] _ hz hP va_S.rf (lv_entry _ hn)
theorem cc_blind {V : Vx} {b : Nat} {av : List Value} {cs : List va_E} : FrameBlind (fun (a : Array Value) (U : State) => a = (Value.ref b :: av).toArray ∧ Wq V U ∧ U.heap.size = b + cs.length ∧ va_P V.1 cls (wsl b cs) U.heap) := by
  intro a U g mk h
  exact ⟨h.1, h.2.1.moved (U := U.calling g mk a) (State.WarmedH.refl U), h.2.2.1, h.2.2.2⟩
def MI (own : String) (idx : Nat) (y : MethodName) (cc : ByteArray) (nL n : Nat) : Prop :=
  ((Cond.methodLink own idx y) ∈ lw_tbl ∨ ∃ h : String, (Cond.methodLinkNest own idx y h) ∈ lw_tbl) ∧ Cond.instanceMethod y ∈ lw_tbl ∧ Cond.initialized y.cls ∈ lw_tbl ∧ Cond.code y cc nL none ∈ lw_tbl ∧ (y.cls ≠ "java/lang/invoke/MethodHandle" ∧ y.cls ≠ "java/lang/invoke/VarHandle") ∧ (parseMethodDescriptor y.desc).map (fun d => d.parameters.length) = some n ∧ y.name = "<init>"
/-- a making is called on the newest cell -/
theorem L_ctor {i a idx m' nL' : Nat} {y : MethodName} {cc' : ByteArray} {rm : Room} {as : List Value} {c0 : va_E} {pre cs1 : List va_E} (hd : decode cc pc = .ok (.invokespecial idx, 3)) (hn : pc + 3 = pc') (hm : MI own idx y cc' nL' m') (ha : b + i = a) (hcs : cs = pre ++ [c0]) (hpl : pre.length = i) (hct : Cc V (xl X) y cc' nL' rm a as [c0] cs1) (hst : st = as.reverse ++ .ref a :: rest) (has : as.length = m') (hR : rm.frames + 1 ≤ R.frames ∧ 8 + (nL' + 11) + rm.locals ≤ R.locals) (hf : n + rm.cells ≤ R.cells ∧ k + rm.slots ≤ R.slots) (hw : (rest.map fun v => v.category).sum ≤ 8) (he : pre ++ cs1 = cs') {n' k' : Nat} (en : n + rm.cells = n') (ek : k + rm.slots = k')
    (kk : L V X R cc own nL Q b cs' n' k' pc' lv rest) : L V X R cc own nL Q b cs n k pc lv st := by
  subst hn; subst he; subst ha; subst hcs; subst hpl; subst en; subst ek
  intro C H locs ls hz hP hS hl
  have hg := C.2.2.2.2.1.1
  obtain ⟨hlk, hin, hini, hcode, hmh, hpar, hyn⟩ := hm
  have hfix : CallFix (xp X) (xm X) (xc X) cc nL (xs X) (xa X) [] own := ⟨C.1, C.2.1, C.2.2.1, C.2.2.2.1, fun w h => by simp at h⟩
  rw [wsl_app] at hP
  have hPr : va_P V.1 cls (wsl b pre) H := fun j x hx => hP j x (by
    have hj := (List.getElem?_eq_some_iff.mp hx).1
    rw [List.getElem?_append_left hj]; exact hx)
  have hlenw : (wsl b pre).length = pre.length := by
    have : ∀ (l : List va_E) (c : Nat), (wsl c l).length = l.length := by
      intro l
      induction l with
      | nil => intro c; rfl
      | cons x r ih => intro c; simp [wsl, ih]
    exact this pre b
  have hP0 : va_P V.1 cls (wsl (b + pre.length) [c0]) H := fun j x hx => hP (pre.length + j) x (by
    rw [List.getElem?_append_right (by omega), hlenw, Nat.add_sub_cancel_left]; exact hx)
  have hpre : PreS (xs X) H (fun (a : Array Value) (U : State) => a = (Value.ref (b + pre.length) :: as).toArray ∧ Wq V U ∧ U.heap.size = b + pre.length + [c0].length ∧ va_P V.1 cls (wsl (b + pre.length) [c0]) U.heap) (.ref (b + pre.length) :: as) :=
    ⟨cc_blind, fun U hU hW => ⟨rfl, C.2.2.2.2.1.moved hW, by rw [hU, hz]; simp; omega, by rw [hU]; exact hP0⟩⟩
  have hrun : va_Run (xp X) (xl X) (xe X) R (xs X) (xm X) (xa X) (xb X) (xh X) (xc X) H locs n k rm.cells rm.slots (F0 (xm X) pc ls st) rest (fun s0 oc t => oc = .returned none ∧ t.heap.size = b + pre.length + cs1.length ∧ va_P V.1 cls (wsl (b + pre.length) cs1) t.heap ∧ va_F (fun q => b + pre.length ≤ q) s0 t) (fun q => b + pre.length ≤ q) := by
    rcases hlk with hlk | ⟨hh, hlk⟩
    · exact va_runI hfix hct ⟨⟨rfl, rfl, hR.1, hR.2, pay_code hg hcode, List.mem_cons_self, hg _ hcode rfl _, hg _ hini rfl _, hmh, parse_len hpar, hg _ hlk rfl _⟩, hyn, hg _ hin rfl _⟩ hpre rfl has hl.1 hst (lv_room hw) hd hf
    · exact va_runIN hfix hct ⟨⟨⟨rfl, rfl, hR.1, hR.2, pay_code hg hcode, List.mem_cons_self⟩, hg _ hcode rfl _, hg _ hini rfl _, hmh, parse_len hpar, hg _ hlk rfl _⟩, hyn, hg _ hin rfl _⟩ hpre rfl has hl.1 hst (lv_room hw) hd hf
  intro T hT Y
  obtain ⟨v, s0, t, T', L', h0, X', hL, e1, e2, ⟨ho, hz1, hP1, hF⟩, go⟩ := hrun T hT Y
  cases ho
  rw [← e1] at hP1 hz1
  unfold va_F at hF
  rw [h0, ← e1] at hF
  have hS1 : va_S (fun q => b ≤ q) (xs X).heap T'.heap (locs ++ L') := by
    refine ⟨Nat.le_trans hS.1 hF.1, fun q g1 g2 => ?_, fun q hq => ?_⟩
    · rw [hF.2 q (Nat.lt_of_lt_of_le g1 hS.1) (fun hx => g2 (Nat.le_trans (Nat.le_add_right b _) hx))]; exact hS.2.1 q g1 g2
    · rcases List.mem_append.mp hq with h | h
      · exact hS.2.2 q h
      · exact Nat.le_trans (Nat.le_add_right b _) (hL q h)
  have hPn : va_P V.1 cls (wsl b (pre ++ cs1)) T'.heap := by
    rw [wsl_app]
    refine (hPr.kept (fun j x hx => ?_)).app hP1
    have hj : x.1 < b + pre.length := by
      have hjl := (List.getElem?_eq_some_iff.mp hx).1
      rw [hlenw] at hjl
      rw [wsl_at] at hx
      cases h1 : pre[j]? with
      | none => rw [h1] at hx; cases hx
      | some y => rw [h1] at hx; cases hx; exact Nat.add_lt_add_left hjl b
    exact hF.2 x.1 (hPr j x hx).lt (by omega)
  obtain ⟨t2, a1, b1⟩ := kk C T'.heap (locs ++ L') ls (by rw [hz1]; simp; omega) hPn hS1 hl T' rfl X'
  exact ⟨t2, go t2 a1, b1⟩
end LR
