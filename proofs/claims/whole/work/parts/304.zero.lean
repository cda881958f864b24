/-! the numbers at the start -/
def s0I (i k : Nat) : Int32 := if i = 1 ∧ k = 1 then 60 else if i = 3 ∧ k = 1 then 10 else if i = 5 ∧ (k = 4 ∨ k = 5) then -1 else if i = 17 ∨ i = 75 then (if k = 0 then 3 else if k = 1 then 40 else if k = 2 then 100 else 0)
  else if (i = 56 ∨ i = 58 ∨ i = 60 ∨ i = 62 ∨ i = 64) ∧ k = 1 then -1 else if i = 67 then (if k < 4 then -1 else 0) else 0
def sg0 : Sg := (s0I, fun _ _ => 0)
theorem arrV_congr {cA : ClassId} {n : Nat} {f g : Nat → Value} (h : ∀ j, j < n → f j = g j) : arrV cA n f = arrV cA n g := by
  unfold arrV
  congr 1
  apply Array.ext
  · simp
  · intro i h1 h2
    simp at h1
    simp [h i h1]
theorem at_i {D : va_G} {H : Heap} {a n : Nat} {cA : ClassId} {f g : Nat → Int32} (h : va_at D cls (a, .inl (cA, n, .inl f)) H) (e : ∀ j, j < n → f j = g j) : va_at D cls (a, .inl (cA, n, .inl g)) H := by
  have h : H[a]? = some (arrV cA n (fun j => .int (f j))) := h
  show H[a]? = some (arrV cA n (fun j => .int (g j)))
  rw [h, arrV_congr (g := fun j => .int (g j)) (fun j hj => by rw [e j hj])]
theorem at_q {D : va_G} {H : Heap} {a n : Nat} {cA : ClassId} {f g : Nat → Option Nat} (h : va_at D cls (a, .inl (cA, n, .inr (.inr (.inr (.inr f))))) H) (e : ∀ j, j < n → f j = g j) : va_at D cls (a, .inl (cA, n, .inr (.inr (.inr (.inr g))))) H := by
  have h : H[a]? = some (arrV cA n (fun j => va_rf (f j))) := h
  show H[a]? = some (arrV cA n (fun j => va_rf (g j)))
  rw [h, arrV_congr (g := fun j => va_rf (g j)) (fun j hj => by rw [e j hj])]
abbrev Vb (D : va_G) (cA : Nat → ClassId) (b t1 t2 : Nat) : Vx := (D, fun i => b + i, b, cA, t1, t2)
section START
variable {D : va_G} {cA : Nat → ClassId} {b t1 t2 : Nat} {H : Heap}
theorem st_0 (h : va_at D cls (b + 0, .inr (10, [.ref (b + 1), .ref (b + 3), .ref (b + 5), .ref (b + 17), .ref (b + 18), .ref (b + 41), .ref (b + 43), .ref (b + 49), .ref (b + 54)])) H) : va_at D cls (b + 0, cel (Vb D cA b t1 t2) sg0 0) H := by
  rw [cel_of sh_0]
  exact h
theorem st_1 (h : va_at D cls (b + 1, .inr (6, [.ref (b + 2), .int 60, .int 0])) H) : va_at D cls (b + 1, cel (Vb D cA b t1 t2) sg0 1) H := by
  rw [cel_of sh_1]
  exact h
theorem st_2 (h : va_at D cls (b + 2, .inl (cA 0, 60, .inl (fun _ => 0))) H) : va_at D cls (b + 2, cel (Vb D cA b t1 t2) sg0 2) H := by
  rw [cel_of sh_2]
  exact at_i h (fun j _ => rfl)
theorem st_3 (h : va_at D cls (b + 3, .inr (6, [.ref (b + 4), .int 10, .int 0])) H) : va_at D cls (b + 3, cel (Vb D cA b t1 t2) sg0 3) H := by
  rw [cel_of sh_3]
  exact h
theorem st_4 (h : va_at D cls (b + 4, .inl (cA 0, 60, .inl (fun _ => 0))) H) : va_at D cls (b + 4, cel (Vb D cA b t1 t2) sg0 4) H := by
  rw [cel_of sh_4]
  exact at_i h (fun j _ => rfl)
theorem st_5 (h : va_at D cls (b + 5, .inr (3, [.ref (b + 6), .ref (b + 7), .ref (b + 8), .int 0, .int (-1), .int (-1)])) H) : va_at D cls (b + 5, cel (Vb D cA b t1 t2) sg0 5) H := by
  rw [cel_of sh_5]
  exact h
theorem st_6 (h : va_at D cls (b + 6, .inl (cA 2, 8, .inr (.inr (.inr (.inr (va_up (va_up (va_up (va_up (va_up (va_up (va_up (va_up (fun _ => none) 0 (some (b + 9))) 1 (some (b + 10))) 2 (some (b + 11))) 3 (some (b + 12))) 4 (some (b + 13))) 5 (some (b + 14))) 6 (some (b + 15))) 7 (some (b + 16)))))))) H) : va_at D cls (b + 6, cel (Vb D cA b t1 t2) sg0 6) H := by
  rw [cel_of sh_6]
  refine at_q h (fun j hj => ?_)
  rcases (show j = 0 ∨ j = 1 ∨ j = 2 ∨ j = 3 ∨ j = 4 ∨ j = 5 ∨ j = 6 ∨ j = 7 by omega) with rfl | rfl | rfl | rfl | rfl | rfl | rfl | rfl <;> rfl
theorem st_7 (h : va_at D cls (b + 7, .inr (2, [.int 0, .int 0, .int 0, .int 0, .int 0, .int 0, .int 0, .int 0, .int 0])) H) : va_at D cls (b + 7, cel (Vb D cA b t1 t2) sg0 7) H := by
  rw [cel_of sh_7]
  exact h
theorem st_8 (h : va_at D cls (b + 8, .inl (cA 0, 8, .inl (fun _ => 0))) H) : va_at D cls (b + 8, cel (Vb D cA b t1 t2) sg0 8) H := by
  rw [cel_of sh_8]
  exact at_i h (fun j _ => rfl)
theorem st_9 (h : va_at D cls (b + 9, .inr (2, [.int 0, .int 0, .int 0, .int 0, .int 0, .int 0, .int 0, .int 0, .int 0])) H) : va_at D cls (b + 9, cel (Vb D cA b t1 t2) sg0 9) H := by
  rw [cel_of sh_9]
  exact h
theorem st_10 (h : va_at D cls (b + 10, .inr (2, [.int 0, .int 0, .int 0, .int 0, .int 0, .int 0, .int 0, .int 0, .int 0])) H) : va_at D cls (b + 10, cel (Vb D cA b t1 t2) sg0 10) H := by
  rw [cel_of sh_10]
  exact h
theorem st_11 (h : va_at D cls (b + 11, .inr (2, [.int 0, .int 0, .int 0, .int 0, .int 0, .int 0, .int 0, .int 0, .int 0])) H) : va_at D cls (b + 11, cel (Vb D cA b t1 t2) sg0 11) H := by
  rw [cel_of sh_11]
  exact h
theorem st_12 (h : va_at D cls (b + 12, .inr (2, [.int 0, .int 0, .int 0, .int 0, .int 0, .int 0, .int 0, .int 0, .int 0])) H) : va_at D cls (b + 12, cel (Vb D cA b t1 t2) sg0 12) H := by
  rw [cel_of sh_12]
  exact h
theorem st_13 (h : va_at D cls (b + 13, .inr (2, [.int 0, .int 0, .int 0, .int 0, .int 0, .int 0, .int 0, .int 0, .int 0])) H) : va_at D cls (b + 13, cel (Vb D cA b t1 t2) sg0 13) H := by
  rw [cel_of sh_13]
  exact h
theorem st_14 (h : va_at D cls (b + 14, .inr (2, [.int 0, .int 0, .int 0, .int 0, .int 0, .int 0, .int 0, .int 0, .int 0])) H) : va_at D cls (b + 14, cel (Vb D cA b t1 t2) sg0 14) H := by
  rw [cel_of sh_14]
  exact h
theorem st_15 (h : va_at D cls (b + 15, .inr (2, [.int 0, .int 0, .int 0, .int 0, .int 0, .int 0, .int 0, .int 0, .int 0])) H) : va_at D cls (b + 15, cel (Vb D cA b t1 t2) sg0 15) H := by
  rw [cel_of sh_15]
  exact h
theorem st_16 (h : va_at D cls (b + 16, .inr (2, [.int 0, .int 0, .int 0, .int 0, .int 0, .int 0, .int 0, .int 0, .int 0])) H) : va_at D cls (b + 16, cel (Vb D cA b t1 t2) sg0 16) H := by
  rw [cel_of sh_16]
  exact h
theorem st_17 (h : va_at D cls (b + 17, .inl (cA 0, 3, .inl (upd (upd (upd (fun _ => 0) 0 3) 1 40) 2 100))) H) : va_at D cls (b + 17, cel (Vb D cA b t1 t2) sg0 17) H := by
  rw [cel_of sh_17]
  refine at_i h (fun j hj => ?_)
  rcases (show j = 0 ∨ j = 1 ∨ j = 2 by omega) with rfl | rfl | rfl <;> rfl
theorem st_18 (h : va_at D cls (b + 18, .inr (9, [.ref (b + 19), .ref (b + 20), .int 0])) H) : va_at D cls (b + 18, cel (Vb D cA b t1 t2) sg0 18) H := by
  rw [cel_of sh_18]
  exact h
theorem st_19 (h : va_at D cls (b + 19, .inl (cA 3, 20, .inr (.inr (.inr (.inr (va_up (va_up (va_up (va_up (va_up (va_up (va_up (va_up (va_up (va_up (va_up (va_up (va_up (va_up (va_up (va_up (va_up (va_up (va_up (va_up (fun _ => none) 0 (some (b + 21))) 1 (some (b + 22))) 2 (some (b + 23))) 3 (some (b + 24))) 4 (some (b + 25))) 5 (some (b + 26))) 6 (some (b + 27))) 7 (some (b + 28))) 8 (some (b + 29))) 9 (some (b + 30))) 10 (some (b + 31))) 11 (some (b + 32))) 12 (some (b + 33))) 13 (some (b + 34))) 14 (some (b + 35))) 15 (some (b + 36))) 16 (some (b + 37))) 17 (some (b + 38))) 18 (some (b + 39))) 19 (some (b + 40)))))))) H) : va_at D cls (b + 19, cel (Vb D cA b t1 t2) sg0 19) H := by
  rw [cel_of sh_19]
  refine at_q h (fun j hj => ?_)
  rcases (show j = 0 ∨ j = 1 ∨ j = 2 ∨ j = 3 ∨ j = 4 ∨ j = 5 ∨ j = 6 ∨ j = 7 ∨ j = 8 ∨ j = 9 ∨ j = 10 ∨ j = 11 ∨ j = 12 ∨ j = 13 ∨ j = 14 ∨ j = 15 ∨ j = 16 ∨ j = 17 ∨ j = 18 ∨ j = 19 by omega) with rfl | rfl | rfl | rfl | rfl | rfl | rfl | rfl | rfl | rfl | rfl | rfl | rfl | rfl | rfl | rfl | rfl | rfl | rfl | rfl <;> rfl
theorem st_20 (h : va_at D cls (b + 20, .inr (8, [.int 0, .int 0, .int 0, .int 0, .int 0])) H) : va_at D cls (b + 20, cel (Vb D cA b t1 t2) sg0 20) H := by
  rw [cel_of sh_20]
  exact h
theorem st_21 (h : va_at D cls (b + 21, .inr (8, [.int 0, .int 0, .int 0, .int 0, .int 0])) H) : va_at D cls (b + 21, cel (Vb D cA b t1 t2) sg0 21) H := by
  rw [cel_of sh_21]
  exact h
theorem st_22 (h : va_at D cls (b + 22, .inr (8, [.int 0, .int 0, .int 0, .int 0, .int 0])) H) : va_at D cls (b + 22, cel (Vb D cA b t1 t2) sg0 22) H := by
  rw [cel_of sh_22]
  exact h
theorem st_23 (h : va_at D cls (b + 23, .inr (8, [.int 0, .int 0, .int 0, .int 0, .int 0])) H) : va_at D cls (b + 23, cel (Vb D cA b t1 t2) sg0 23) H := by
  rw [cel_of sh_23]
  exact h
theorem st_24 (h : va_at D cls (b + 24, .inr (8, [.int 0, .int 0, .int 0, .int 0, .int 0])) H) : va_at D cls (b + 24, cel (Vb D cA b t1 t2) sg0 24) H := by
  rw [cel_of sh_24]
  exact h
theorem st_25 (h : va_at D cls (b + 25, .inr (8, [.int 0, .int 0, .int 0, .int 0, .int 0])) H) : va_at D cls (b + 25, cel (Vb D cA b t1 t2) sg0 25) H := by
  rw [cel_of sh_25]
  exact h
theorem st_26 (h : va_at D cls (b + 26, .inr (8, [.int 0, .int 0, .int 0, .int 0, .int 0])) H) : va_at D cls (b + 26, cel (Vb D cA b t1 t2) sg0 26) H := by
  rw [cel_of sh_26]
  exact h
theorem st_27 (h : va_at D cls (b + 27, .inr (8, [.int 0, .int 0, .int 0, .int 0, .int 0])) H) : va_at D cls (b + 27, cel (Vb D cA b t1 t2) sg0 27) H := by
  rw [cel_of sh_27]
  exact h
theorem st_28 (h : va_at D cls (b + 28, .inr (8, [.int 0, .int 0, .int 0, .int 0, .int 0])) H) : va_at D cls (b + 28, cel (Vb D cA b t1 t2) sg0 28) H := by
  rw [cel_of sh_28]
  exact h
theorem st_29 (h : va_at D cls (b + 29, .inr (8, [.int 0, .int 0, .int 0, .int 0, .int 0])) H) : va_at D cls (b + 29, cel (Vb D cA b t1 t2) sg0 29) H := by
  rw [cel_of sh_29]
  exact h
theorem st_30 (h : va_at D cls (b + 30, .inr (8, [.int 0, .int 0, .int 0, .int 0, .int 0])) H) : va_at D cls (b + 30, cel (Vb D cA b t1 t2) sg0 30) H := by
  rw [cel_of sh_30]
  exact h
theorem st_31 (h : va_at D cls (b + 31, .inr (8, [.int 0, .int 0, .int 0, .int 0, .int 0])) H) : va_at D cls (b + 31, cel (Vb D cA b t1 t2) sg0 31) H := by
  rw [cel_of sh_31]
  exact h
theorem st_32 (h : va_at D cls (b + 32, .inr (8, [.int 0, .int 0, .int 0, .int 0, .int 0])) H) : va_at D cls (b + 32, cel (Vb D cA b t1 t2) sg0 32) H := by
  rw [cel_of sh_32]
  exact h
theorem st_33 (h : va_at D cls (b + 33, .inr (8, [.int 0, .int 0, .int 0, .int 0, .int 0])) H) : va_at D cls (b + 33, cel (Vb D cA b t1 t2) sg0 33) H := by
  rw [cel_of sh_33]
  exact h
theorem st_34 (h : va_at D cls (b + 34, .inr (8, [.int 0, .int 0, .int 0, .int 0, .int 0])) H) : va_at D cls (b + 34, cel (Vb D cA b t1 t2) sg0 34) H := by
  rw [cel_of sh_34]
  exact h
theorem st_35 (h : va_at D cls (b + 35, .inr (8, [.int 0, .int 0, .int 0, .int 0, .int 0])) H) : va_at D cls (b + 35, cel (Vb D cA b t1 t2) sg0 35) H := by
  rw [cel_of sh_35]
  exact h
theorem st_36 (h : va_at D cls (b + 36, .inr (8, [.int 0, .int 0, .int 0, .int 0, .int 0])) H) : va_at D cls (b + 36, cel (Vb D cA b t1 t2) sg0 36) H := by
  rw [cel_of sh_36]
  exact h
theorem st_37 (h : va_at D cls (b + 37, .inr (8, [.int 0, .int 0, .int 0, .int 0, .int 0])) H) : va_at D cls (b + 37, cel (Vb D cA b t1 t2) sg0 37) H := by
  rw [cel_of sh_37]
  exact h
theorem st_38 (h : va_at D cls (b + 38, .inr (8, [.int 0, .int 0, .int 0, .int 0, .int 0])) H) : va_at D cls (b + 38, cel (Vb D cA b t1 t2) sg0 38) H := by
  rw [cel_of sh_38]
  exact h
theorem st_39 (h : va_at D cls (b + 39, .inr (8, [.int 0, .int 0, .int 0, .int 0, .int 0])) H) : va_at D cls (b + 39, cel (Vb D cA b t1 t2) sg0 39) H := by
  rw [cel_of sh_39]
  exact h
theorem st_40 (h : va_at D cls (b + 40, .inr (8, [.int 0, .int 0, .int 0, .int 0, .int 0])) H) : va_at D cls (b + 40, cel (Vb D cA b t1 t2) sg0 40) H := by
  rw [cel_of sh_40]
  exact h
theorem st_41 (h : va_at D cls (b + 41, .inr (7, [.ref (b + 42), .int 0])) H) : va_at D cls (b + 41, cel (Vb D cA b t1 t2) sg0 41) H := by
  rw [cel_of sh_41]
  exact h
theorem st_42 (h : va_at D cls (b + 42, .inl (cA 0, 20, .inl (fun _ => 0))) H) : va_at D cls (b + 42, cel (Vb D cA b t1 t2) sg0 42) H := by
  rw [cel_of sh_42]
  exact at_i h (fun j _ => rfl)
theorem st_43 (h : va_at D cls (b + 43, .inr (1, [.ref (b + 44), .ref (b + 45), .ref (b + 46), .ref (b + 47), .ref (b + 48), .int 0, .int 0, .int 0, .int 0, .int 0])) H) : va_at D cls (b + 43, cel (Vb D cA b t1 t2) sg0 43) H := by
  rw [cel_of sh_43]
  exact h
theorem st_44 (h : va_at D cls (b + 44, .inl (cA 0, 5, .inl (fun _ => 0))) H) : va_at D cls (b + 44, cel (Vb D cA b t1 t2) sg0 44) H := by
  rw [cel_of sh_44]
  exact at_i h (fun j _ => rfl)
theorem st_45 (h : va_at D cls (b + 45, .inl (cA 0, 5, .inl (fun _ => 0))) H) : va_at D cls (b + 45, cel (Vb D cA b t1 t2) sg0 45) H := by
  rw [cel_of sh_45]
  exact at_i h (fun j _ => rfl)
theorem st_46 (h : va_at D cls (b + 46, .inl (cA 0, 32, .inl (fun _ => 0))) H) : va_at D cls (b + 46, cel (Vb D cA b t1 t2) sg0 46) H := by
  rw [cel_of sh_46]
  exact at_i h (fun j _ => rfl)
theorem st_47 (h : va_at D cls (b + 47, .inl (cA 0, 32, .inl (fun _ => 0))) H) : va_at D cls (b + 47, cel (Vb D cA b t1 t2) sg0 47) H := by
  rw [cel_of sh_47]
  exact at_i h (fun j _ => rfl)
theorem st_48 (h : va_at D cls (b + 48, .inr (2, [.int 0, .int 0, .int 0, .int 0, .int 0, .int 0, .int 0, .int 0, .int 0])) H) : va_at D cls (b + 48, cel (Vb D cA b t1 t2) sg0 48) H := by
  rw [cel_of sh_48]
  exact h
theorem st_49 (h : va_at D cls (b + 49, .inr (0, [.ref (b + 50), .ref (b + 51), .ref (b + 52), .ref (b + 53)])) H) : va_at D cls (b + 49, cel (Vb D cA b t1 t2) sg0 49) H := by
  rw [cel_of sh_49]
  exact h
theorem st_50 (h : va_at D cls (b + 50, .inl (cA 0, 5, .inl (fun _ => 0))) H) : va_at D cls (b + 50, cel (Vb D cA b t1 t2) sg0 50) H := by
  rw [cel_of sh_50]
  exact at_i h (fun j _ => rfl)
theorem st_51 (h : va_at D cls (b + 51, .inl (cA 0, 32, .inl (fun _ => 0))) H) : va_at D cls (b + 51, cel (Vb D cA b t1 t2) sg0 51) H := by
  rw [cel_of sh_51]
  exact at_i h (fun j _ => rfl)
theorem st_52 (h : va_at D cls (b + 52, .inl (cA 0, 32, .inl (fun _ => 0))) H) : va_at D cls (b + 52, cel (Vb D cA b t1 t2) sg0 52) H := by
  rw [cel_of sh_52]
  exact at_i h (fun j _ => rfl)
theorem st_53 (h : va_at D cls (b + 53, .inl (cA 1, 100, .inr (.inl (fun _ => 0)))) H) : va_at D cls (b + 53, cel (Vb D cA b t1 t2) sg0 53) H := by
  rw [cel_of sh_53]
  exact h
theorem st_54 (h : va_at D cls (b + 54, .inr (5, [.ref (b + 55), .ref (b + 56), .int 0])) H) : va_at D cls (b + 54, cel (Vb D cA b t1 t2) sg0 54) H := by
  rw [cel_of sh_54]
  exact h
theorem st_55 (h : va_at D cls (b + 55, .inl (cA 4, 4, .inr (.inr (.inr (.inr (va_up (va_up (va_up (va_up (fun _ => none) 0 (some (b + 58))) 1 (some (b + 60))) 2 (some (b + 62))) 3 (some (b + 64)))))))) H) : va_at D cls (b + 55, cel (Vb D cA b t1 t2) sg0 55) H := by
  rw [cel_of sh_55]
  refine at_q h (fun j hj => ?_)
  rcases (show j = 0 ∨ j = 1 ∨ j = 2 ∨ j = 3 by omega) with rfl | rfl | rfl | rfl <;> rfl
theorem st_56 (h : va_at D cls (b + 56, .inr (4, [.ref (b + 57), .int (-1), .int 0])) H) : va_at D cls (b + 56, cel (Vb D cA b t1 t2) sg0 56) H := by
  rw [cel_of sh_56]
  exact h
theorem st_57 (h : va_at D cls (b + 57, .inl (cA 0, 60, .inl (fun _ => 0))) H) : va_at D cls (b + 57, cel (Vb D cA b t1 t2) sg0 57) H := by
  rw [cel_of sh_57]
  exact at_i h (fun j _ => rfl)
theorem st_58 (h : va_at D cls (b + 58, .inr (4, [.ref (b + 59), .int (-1), .int 0])) H) : va_at D cls (b + 58, cel (Vb D cA b t1 t2) sg0 58) H := by
  rw [cel_of sh_58]
  exact h
theorem st_59 (h : va_at D cls (b + 59, .inl (cA 0, 60, .inl (fun _ => 0))) H) : va_at D cls (b + 59, cel (Vb D cA b t1 t2) sg0 59) H := by
  rw [cel_of sh_59]
  exact at_i h (fun j _ => rfl)
theorem st_60 (h : va_at D cls (b + 60, .inr (4, [.ref (b + 61), .int (-1), .int 0])) H) : va_at D cls (b + 60, cel (Vb D cA b t1 t2) sg0 60) H := by
  rw [cel_of sh_60]
  exact h
theorem st_61 (h : va_at D cls (b + 61, .inl (cA 0, 60, .inl (fun _ => 0))) H) : va_at D cls (b + 61, cel (Vb D cA b t1 t2) sg0 61) H := by
  rw [cel_of sh_61]
  exact at_i h (fun j _ => rfl)
theorem st_62 (h : va_at D cls (b + 62, .inr (4, [.ref (b + 63), .int (-1), .int 0])) H) : va_at D cls (b + 62, cel (Vb D cA b t1 t2) sg0 62) H := by
  rw [cel_of sh_62]
  exact h
theorem st_63 (h : va_at D cls (b + 63, .inl (cA 0, 60, .inl (fun _ => 0))) H) : va_at D cls (b + 63, cel (Vb D cA b t1 t2) sg0 63) H := by
  rw [cel_of sh_63]
  exact at_i h (fun j _ => rfl)
theorem st_64 (h : va_at D cls (b + 64, .inr (4, [.ref (b + 65), .int (-1), .int 0])) H) : va_at D cls (b + 64, cel (Vb D cA b t1 t2) sg0 64) H := by
  rw [cel_of sh_64]
  exact h
theorem st_65 (h : va_at D cls (b + 65, .inl (cA 0, 60, .inl (fun _ => 0))) H) : va_at D cls (b + 65, cel (Vb D cA b t1 t2) sg0 65) H := by
  rw [cel_of sh_65]
  exact at_i h (fun j _ => rfl)
theorem st_66 (h : va_at D cls (b + 66, .inr (11, [.ref (b + 67), .ref (b + 68), .ref (b + 69), .ref (b + 70), .int 0, .ref (b + 71), .ref (b + 72), .int 0, .int 0, .ref (b + 73), .ref (b + 74), .ref (b + 75), .int 0, .int 0, .int 0, .ref (b + 76), .ref (b + 77), .int 0, .int 0, .ref (b + 78), .ref (b + 79), .ref (b + 80), .ref (b + 81), .ref (b + 82), .int 0, .int 0, .int 0, .int 0, .int 0, .ref (b + 83), .ref (b + 84), .ref (b + 85), .ref (b + 86)])) H) : va_at D cls (b + 66, cel (Vb D cA b t1 t2) sg0 66) H := by
  rw [cel_of sh_66]
  exact h
theorem st_67 (h : va_at D cls (b + 67, .inl (cA 0, 4, .inl (upd (upd (upd (upd (fun _ => 0) 0 (-1)) 1 (-1)) 2 (-1)) 3 (-1)))) H) : va_at D cls (b + 67, cel (Vb D cA b t1 t2) sg0 67) H := by
  rw [cel_of sh_67]
  refine at_i h (fun j hj => ?_)
  rcases (show j = 0 ∨ j = 1 ∨ j = 2 ∨ j = 3 by omega) with rfl | rfl | rfl | rfl <;> rfl
theorem st_68 (h : va_at D cls (b + 68, .inl (cA 0, 4, .inl (fun _ => 0))) H) : va_at D cls (b + 68, cel (Vb D cA b t1 t2) sg0 68) H := by
  rw [cel_of sh_68]
  exact at_i h (fun j _ => rfl)
theorem st_69 (h : va_at D cls (b + 69, .inl (cA 0, 240, .inl (fun _ => 0))) H) : va_at D cls (b + 69, cel (Vb D cA b t1 t2) sg0 69) H := by
  rw [cel_of sh_69]
  exact at_i h (fun j _ => rfl)
theorem st_70 (h : va_at D cls (b + 70, .inl (cA 0, 60, .inl (fun _ => 0))) H) : va_at D cls (b + 70, cel (Vb D cA b t1 t2) sg0 70) H := by
  rw [cel_of sh_70]
  exact at_i h (fun j _ => rfl)
theorem st_71 (h : va_at D cls (b + 71, .inl (cA 0, 70, .inl (fun _ => 0))) H) : va_at D cls (b + 71, cel (Vb D cA b t1 t2) sg0 71) H := by
  rw [cel_of sh_71]
  exact at_i h (fun j _ => rfl)
theorem st_72 (h : va_at D cls (b + 72, .inl (cA 0, 2, .inl (fun _ => 0))) H) : va_at D cls (b + 72, cel (Vb D cA b t1 t2) sg0 72) H := by
  rw [cel_of sh_72]
  exact at_i h (fun j _ => rfl)
theorem st_73 (h : va_at D cls (b + 73, .inl (cA 0, 54, .inl (fun _ => 0))) H) : va_at D cls (b + 73, cel (Vb D cA b t1 t2) sg0 73) H := by
  rw [cel_of sh_73]
  exact at_i h (fun j _ => rfl)
theorem st_74 (h : va_at D cls (b + 74, .inl (cA 0, 8, .inl (fun _ => 0))) H) : va_at D cls (b + 74, cel (Vb D cA b t1 t2) sg0 74) H := by
  rw [cel_of sh_74]
  exact at_i h (fun j _ => rfl)
theorem st_75 (h : va_at D cls (b + 75, .inl (cA 0, 3, .inl (upd (upd (upd (fun _ => 0) 0 3) 1 40) 2 100))) H) : va_at D cls (b + 75, cel (Vb D cA b t1 t2) sg0 75) H := by
  rw [cel_of sh_75]
  refine at_i h (fun j hj => ?_)
  rcases (show j = 0 ∨ j = 1 ∨ j = 2 by omega) with rfl | rfl | rfl <;> rfl
theorem st_76 (h : va_at D cls (b + 76, .inl (cA 0, 100, .inl (fun _ => 0))) H) : va_at D cls (b + 76, cel (Vb D cA b t1 t2) sg0 76) H := by
  rw [cel_of sh_76]
  exact at_i h (fun j _ => rfl)
theorem st_77 (h : va_at D cls (b + 77, .inl (cA 0, 20, .inl (fun _ => 0))) H) : va_at D cls (b + 77, cel (Vb D cA b t1 t2) sg0 77) H := by
  rw [cel_of sh_77]
  exact at_i h (fun j _ => rfl)
theorem st_78 (h : va_at D cls (b + 78, .inl (cA 0, 5, .inl (fun _ => 0))) H) : va_at D cls (b + 78, cel (Vb D cA b t1 t2) sg0 78) H := by
  rw [cel_of sh_78]
  exact at_i h (fun j _ => rfl)
theorem st_79 (h : va_at D cls (b + 79, .inl (cA 0, 5, .inl (fun _ => 0))) H) : va_at D cls (b + 79, cel (Vb D cA b t1 t2) sg0 79) H := by
  rw [cel_of sh_79]
  exact at_i h (fun j _ => rfl)
theorem st_80 (h : va_at D cls (b + 80, .inl (cA 0, 5, .inl (fun _ => 0))) H) : va_at D cls (b + 80, cel (Vb D cA b t1 t2) sg0 80) H := by
  rw [cel_of sh_80]
  exact at_i h (fun j _ => rfl)
theorem st_81 (h : va_at D cls (b + 81, .inl (cA 0, 5, .inl (fun _ => 0))) H) : va_at D cls (b + 81, cel (Vb D cA b t1 t2) sg0 81) H := by
  rw [cel_of sh_81]
  exact at_i h (fun j _ => rfl)
theorem st_82 (h : va_at D cls (b + 82, .inl (cA 0, 9, .inl (fun _ => 0))) H) : va_at D cls (b + 82, cel (Vb D cA b t1 t2) sg0 82) H := by
  rw [cel_of sh_82]
  exact at_i h (fun j _ => rfl)
theorem st_83 (h : va_at D cls (b + 83, .inl (cA 0, 5, .inl (fun _ => 0))) H) : va_at D cls (b + 83, cel (Vb D cA b t1 t2) sg0 83) H := by
  rw [cel_of sh_83]
  exact at_i h (fun j _ => rfl)
theorem st_84 (h : va_at D cls (b + 84, .inl (cA 0, 32, .inl (fun _ => 0))) H) : va_at D cls (b + 84, cel (Vb D cA b t1 t2) sg0 84) H := by
  rw [cel_of sh_84]
  exact at_i h (fun j _ => rfl)
theorem st_85 (h : va_at D cls (b + 85, .inl (cA 1, 100, .inr (.inl (fun _ => 0)))) H) : va_at D cls (b + 85, cel (Vb D cA b t1 t2) sg0 85) H := by
  rw [cel_of sh_85]
  exact h
theorem st_86 (h : va_at D cls (b + 86, .inl (cA 1, 100, .inr (.inl (fun _ => 0)))) H) : va_at D cls (b + 86, cel (Vb D cA b t1 t2) sg0 86) H := by
  rw [cel_of sh_86]
  exact h
abbrev cs87 (b : Nat) (cA : Nat → ClassId) : List va_E := [.inr (10, [.ref (b + 1), .ref (b + 3), .ref (b + 5), .ref (b + 17), .ref (b + 18), .ref (b + 41), .ref (b + 43), .ref (b + 49), .ref (b + 54)]),
  .inr (6, [.ref (b + 2), .int 60, .int 0]),
  .inl (cA 0, 60, .inl (fun _ => 0)),
  .inr (6, [.ref (b + 4), .int 10, .int 0]),
  .inl (cA 0, 60, .inl (fun _ => 0)),
  .inr (3, [.ref (b + 6), .ref (b + 7), .ref (b + 8), .int 0, .int (-1), .int (-1)]),
  .inl (cA 2, 8, .inr (.inr (.inr (.inr (va_up (va_up (va_up (va_up (va_up (va_up (va_up (va_up (fun _ => none) 0 (some (b + 9))) 1 (some (b + 10))) 2 (some (b + 11))) 3 (some (b + 12))) 4 (some (b + 13))) 5 (some (b + 14))) 6 (some (b + 15))) 7 (some (b + 16))))))),
  .inr (2, [.int 0, .int 0, .int 0, .int 0, .int 0, .int 0, .int 0, .int 0, .int 0]),
  .inl (cA 0, 8, .inl (fun _ => 0)),
  .inr (2, [.int 0, .int 0, .int 0, .int 0, .int 0, .int 0, .int 0, .int 0, .int 0]),
  .inr (2, [.int 0, .int 0, .int 0, .int 0, .int 0, .int 0, .int 0, .int 0, .int 0]),
  .inr (2, [.int 0, .int 0, .int 0, .int 0, .int 0, .int 0, .int 0, .int 0, .int 0]),
  .inr (2, [.int 0, .int 0, .int 0, .int 0, .int 0, .int 0, .int 0, .int 0, .int 0]),
  .inr (2, [.int 0, .int 0, .int 0, .int 0, .int 0, .int 0, .int 0, .int 0, .int 0]),
  .inr (2, [.int 0, .int 0, .int 0, .int 0, .int 0, .int 0, .int 0, .int 0, .int 0]),
  .inr (2, [.int 0, .int 0, .int 0, .int 0, .int 0, .int 0, .int 0, .int 0, .int 0]),
  .inr (2, [.int 0, .int 0, .int 0, .int 0, .int 0, .int 0, .int 0, .int 0, .int 0]),
  .inl (cA 0, 3, .inl (upd (upd (upd (fun _ => 0) 0 3) 1 40) 2 100)),
  .inr (9, [.ref (b + 19), .ref (b + 20), .int 0]),
  .inl (cA 3, 20, .inr (.inr (.inr (.inr (va_up (va_up (va_up (va_up (va_up (va_up (va_up (va_up (va_up (va_up (va_up (va_up (va_up (va_up (va_up (va_up (va_up (va_up (va_up (va_up (fun _ => none) 0 (some (b + 21))) 1 (some (b + 22))) 2 (some (b + 23))) 3 (some (b + 24))) 4 (some (b + 25))) 5 (some (b + 26))) 6 (some (b + 27))) 7 (some (b + 28))) 8 (some (b + 29))) 9 (some (b + 30))) 10 (some (b + 31))) 11 (some (b + 32))) 12 (some (b + 33))) 13 (some (b + 34))) 14 (some (b + 35))) 15 (some (b + 36))) 16 (some (b + 37))) 17 (some (b + 38))) 18 (some (b + 39))) 19 (some (b + 40))))))),
  .inr (8, [.int 0, .int 0, .int 0, .int 0, .int 0]),
  .inr (8, [.int 0, .int 0, .int 0, .int 0, .int 0]),
  .inr (8, [.int 0, .int 0, .int 0, .int 0, .int 0]),
  .inr (8, [.int 0, .int 0, .int 0, .int 0, .int 0]),
  .inr (8, [.int 0, .int 0, .int 0, .int 0, .int 0]),
  .inr (8, [.int 0, .int 0, .int 0, .int 0, .int 0]),
  .inr (8, [.int 0, .int 0, .int 0, .int 0, .int 0]),
  .inr (8, [.int 0, .int 0, .int 0, .int 0, .int 0]),
  .inr (8, [.int 0, .int 0, .int 0, .int 0, .int 0]),
  .inr (8, [.int 0, .int 0, .int 0, .int 0, .int 0]),
  .inr (8, [.int 0, .int 0, .int 0, .int 0, .int 0]),
  .inr (8, [.int 0, .int 0, .int 0, .int 0, .int 0]),
  .inr (8, [.int 0, .int 0, .int 0, .int 0, .int 0]),
  .inr (8, [.int 0, .int 0, .int 0, .int 0, .int 0]),
  .inr (8, [.int 0, .int 0, .int 0, .int 0, .int 0]),
  .inr (8, [.int 0, .int 0, .int 0, .int 0, .int 0]),
  .inr (8, [.int 0, .int 0, .int 0, .int 0, .int 0]),
  .inr (8, [.int 0, .int 0, .int 0, .int 0, .int 0]),
  .inr (8, [.int 0, .int 0, .int 0, .int 0, .int 0]),
  .inr (8, [.int 0, .int 0, .int 0, .int 0, .int 0]),
  .inr (8, [.int 0, .int 0, .int 0, .int 0, .int 0]),
  .inr (7, [.ref (b + 42), .int 0]),
  .inl (cA 0, 20, .inl (fun _ => 0)),
  .inr (1, [.ref (b + 44), .ref (b + 45), .ref (b + 46), .ref (b + 47), .ref (b + 48), .int 0, .int 0, .int 0, .int 0, .int 0]),
  .inl (cA 0, 5, .inl (fun _ => 0)),
  .inl (cA 0, 5, .inl (fun _ => 0)),
  .inl (cA 0, 32, .inl (fun _ => 0)),
  .inl (cA 0, 32, .inl (fun _ => 0)),
  .inr (2, [.int 0, .int 0, .int 0, .int 0, .int 0, .int 0, .int 0, .int 0, .int 0]),
  .inr (0, [.ref (b + 50), .ref (b + 51), .ref (b + 52), .ref (b + 53)]),
  .inl (cA 0, 5, .inl (fun _ => 0)),
  .inl (cA 0, 32, .inl (fun _ => 0)),
  .inl (cA 0, 32, .inl (fun _ => 0)),
  .inl (cA 1, 100, .inr (.inl (fun _ => 0))),
  .inr (5, [.ref (b + 55), .ref (b + 56), .int 0]),
  .inl (cA 4, 4, .inr (.inr (.inr (.inr (va_up (va_up (va_up (va_up (fun _ => none) 0 (some (b + 58))) 1 (some (b + 60))) 2 (some (b + 62))) 3 (some (b + 64))))))),
  .inr (4, [.ref (b + 57), .int (-1), .int 0]),
  .inl (cA 0, 60, .inl (fun _ => 0)),
  .inr (4, [.ref (b + 59), .int (-1), .int 0]),
  .inl (cA 0, 60, .inl (fun _ => 0)),
  .inr (4, [.ref (b + 61), .int (-1), .int 0]),
  .inl (cA 0, 60, .inl (fun _ => 0)),
  .inr (4, [.ref (b + 63), .int (-1), .int 0]),
  .inl (cA 0, 60, .inl (fun _ => 0)),
  .inr (4, [.ref (b + 65), .int (-1), .int 0]),
  .inl (cA 0, 60, .inl (fun _ => 0)),
  .inr (11, [.ref (b + 67), .ref (b + 68), .ref (b + 69), .ref (b + 70), .int 0, .ref (b + 71), .ref (b + 72), .int 0, .int 0, .ref (b + 73), .ref (b + 74), .ref (b + 75), .int 0, .int 0, .int 0, .ref (b + 76), .ref (b + 77), .int 0, .int 0, .ref (b + 78), .ref (b + 79), .ref (b + 80), .ref (b + 81), .ref (b + 82), .int 0, .int 0, .int 0, .int 0, .int 0, .ref (b + 83), .ref (b + 84), .ref (b + 85), .ref (b + 86)]),
  .inl (cA 0, 4, .inl (upd (upd (upd (upd (fun _ => 0) 0 (-1)) 1 (-1)) 2 (-1)) 3 (-1))),
  .inl (cA 0, 4, .inl (fun _ => 0)),
  .inl (cA 0, 240, .inl (fun _ => 0)),
  .inl (cA 0, 60, .inl (fun _ => 0)),
  .inl (cA 0, 70, .inl (fun _ => 0)),
  .inl (cA 0, 2, .inl (fun _ => 0)),
  .inl (cA 0, 54, .inl (fun _ => 0)),
  .inl (cA 0, 8, .inl (fun _ => 0)),
  .inl (cA 0, 3, .inl (upd (upd (upd (fun _ => 0) 0 3) 1 40) 2 100)),
  .inl (cA 0, 100, .inl (fun _ => 0)),
  .inl (cA 0, 20, .inl (fun _ => 0)),
  .inl (cA 0, 5, .inl (fun _ => 0)),
  .inl (cA 0, 5, .inl (fun _ => 0)),
  .inl (cA 0, 5, .inl (fun _ => 0)),
  .inl (cA 0, 5, .inl (fun _ => 0)),
  .inl (cA 0, 9, .inl (fun _ => 0)),
  .inl (cA 0, 5, .inl (fun _ => 0)),
  .inl (cA 0, 32, .inl (fun _ => 0)),
  .inl (cA 1, 100, .inr (.inl (fun _ => 0))),
  .inl (cA 1, 100, .inr (.inl (fun _ => 0)))]
set_option maxHeartbeats 4000000 in
set_option maxRecDepth 20000 in
theorem st_all (hP : va_P D cls (wsl b (cs87 b cA)) H) : va_P D cls (wsv (Vb D cA b t1 t2) sg0) H := by
  intro k q hk
  have hk2 : k < 87 := by have := (List.getElem?_eq_some_iff.mp hk).1; simpa [wsv] using this
  have e : q = (b + k, cel (Vb D cA b t1 t2) sg0 k) := by
    simp [wsv, hk2] at hk
    exact hk.symm
  subst e
  have key : ∀ (i : Nat) (x : va_E), (cs87 b cA)[i]? = some x → va_at D cls (b + i, x) H := fun i x hx => hP i _ (wsl_in hx)
  match k, hk2 with
  | 0, _ => exact st_0 (key 0 _ rfl)
  | 1, _ => exact st_1 (key 1 _ rfl)
  | 2, _ => exact st_2 (key 2 _ rfl)
  | 3, _ => exact st_3 (key 3 _ rfl)
  | 4, _ => exact st_4 (key 4 _ rfl)
  | 5, _ => exact st_5 (key 5 _ rfl)
  | 6, _ => exact st_6 (key 6 _ rfl)
  | 7, _ => exact st_7 (key 7 _ rfl)
  | 8, _ => exact st_8 (key 8 _ rfl)
  | 9, _ => exact st_9 (key 9 _ rfl)
  | 10, _ => exact st_10 (key 10 _ rfl)
  | 11, _ => exact st_11 (key 11 _ rfl)
  | 12, _ => exact st_12 (key 12 _ rfl)
  | 13, _ => exact st_13 (key 13 _ rfl)
  | 14, _ => exact st_14 (key 14 _ rfl)
  | 15, _ => exact st_15 (key 15 _ rfl)
  | 16, _ => exact st_16 (key 16 _ rfl)
  | 17, _ => exact st_17 (key 17 _ rfl)
  | 18, _ => exact st_18 (key 18 _ rfl)
  | 19, _ => exact st_19 (key 19 _ rfl)
  | 20, _ => exact st_20 (key 20 _ rfl)
  | 21, _ => exact st_21 (key 21 _ rfl)
  | 22, _ => exact st_22 (key 22 _ rfl)
  | 23, _ => exact st_23 (key 23 _ rfl)
  | 24, _ => exact st_24 (key 24 _ rfl)
  | 25, _ => exact st_25 (key 25 _ rfl)
  | 26, _ => exact st_26 (key 26 _ rfl)
  | 27, _ => exact st_27 (key 27 _ rfl)
  | 28, _ => exact st_28 (key 28 _ rfl)
  | 29, _ => exact st_29 (key 29 _ rfl)
  | 30, _ => exact st_30 (key 30 _ rfl)
  | 31, _ => exact st_31 (key 31 _ rfl)
  | 32, _ => exact st_32 (key 32 _ rfl)
  | 33, _ => exact st_33 (key 33 _ rfl)
  | 34, _ => exact st_34 (key 34 _ rfl)
  | 35, _ => exact st_35 (key 35 _ rfl)
  | 36, _ => exact st_36 (key 36 _ rfl)
  | 37, _ => exact st_37 (key 37 _ rfl)
  | 38, _ => exact st_38 (key 38 _ rfl)
  | 39, _ => exact st_39 (key 39 _ rfl)
  | 40, _ => exact st_40 (key 40 _ rfl)
  | 41, _ => exact st_41 (key 41 _ rfl)
  | 42, _ => exact st_42 (key 42 _ rfl)
  | 43, _ => exact st_43 (key 43 _ rfl)
  | 44, _ => exact st_44 (key 44 _ rfl)
  | 45, _ => exact st_45 (key 45 _ rfl)
  | 46, _ => exact st_46 (key 46 _ rfl)
  | 47, _ => exact st_47 (key 47 _ rfl)
  | 48, _ => exact st_48 (key 48 _ rfl)
  | 49, _ => exact st_49 (key 49 _ rfl)
  | 50, _ => exact st_50 (key 50 _ rfl)
  | 51, _ => exact st_51 (key 51 _ rfl)
  | 52, _ => exact st_52 (key 52 _ rfl)
  | 53, _ => exact st_53 (key 53 _ rfl)
  | 54, _ => exact st_54 (key 54 _ rfl)
  | 55, _ => exact st_55 (key 55 _ rfl)
  | 56, _ => exact st_56 (key 56 _ rfl)
  | 57, _ => exact st_57 (key 57 _ rfl)
  | 58, _ => exact st_58 (key 58 _ rfl)
  | 59, _ => exact st_59 (key 59 _ rfl)
  | 60, _ => exact st_60 (key 60 _ rfl)
  | 61, _ => exact st_61 (key 61 _ rfl)
  | 62, _ => exact st_62 (key 62 _ rfl)
  | 63, _ => exact st_63 (key 63 _ rfl)
  | 64, _ => exact st_64 (key 64 _ rfl)
  | 65, _ => exact st_65 (key 65 _ rfl)
  | 66, _ => exact st_66 (key 66 _ rfl)
  | 67, _ => exact st_67 (key 67 _ rfl)
  | 68, _ => exact st_68 (key 68 _ rfl)
  | 69, _ => exact st_69 (key 69 _ rfl)
  | 70, _ => exact st_70 (key 70 _ rfl)
  | 71, _ => exact st_71 (key 71 _ rfl)
  | 72, _ => exact st_72 (key 72 _ rfl)
  | 73, _ => exact st_73 (key 73 _ rfl)
  | 74, _ => exact st_74 (key 74 _ rfl)
  | 75, _ => exact st_75 (key 75 _ rfl)
  | 76, _ => exact st_76 (key 76 _ rfl)
  | 77, _ => exact st_77 (key 77 _ rfl)
  | 78, _ => exact st_78 (key 78 _ rfl)
  | 79, _ => exact st_79 (key 79 _ rfl)
  | 80, _ => exact st_80 (key 80 _ rfl)
  | 81, _ => exact st_81 (key 81 _ rfl)
  | 82, _ => exact st_82 (key 82 _ rfl)
  | 83, _ => exact st_83 (key 83 _ rfl)
  | 84, _ => exact st_84 (key 84 _ rfl)
  | 85, _ => exact st_85 (key 85 _ rfl)
  | 86, _ => exact st_86 (key 86 _ rfl)
  | k + 87, h => omega
end START
