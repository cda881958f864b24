/-! wind -/
def nxS (s : Int32) : Int32 := 1103515245 * s + 12345
def ltN (s : Int32) : Nat := (us s 16 - us s 16 / 4 * 4).toNatClampNeg % 4
theorem lot_k (s : Int32) : us s 16 - us s 16 / 4 * 4 = nI (ltN s) := by
  have h : (us s 16).toBitVec.toNat = s.toBitVec.toNat / 2 ^ 16 := pk_ushr s 16 16 (by decide)
  have hb : s.toBitVec.toNat < 2 ^ 32 := s.toBitVec.isLt
  have e : us s 16 = nI (s.toBitVec.toNat / 2 ^ 16) := by
    apply Int32.toBitVec_inj.mp
    apply BitVec.eq_of_toNat_eq
    rw [h, pk_tn (by omega)]
  have r : us s 16 - us s 16 / 4 * 4 = nI (s.toBitVec.toNat / 2 ^ 16 % 4) := by
    rw [e]
    exact pk_rem (d := 4) (by omega) (by omega) (by omega)
  unfold ltN
  rw [r, nI_clamp (by omega), Nat.mod_mod]
def sdW (nr : Nat) (T : Nat → Nat → Int32) (v : Int32) : Nat → Int32
  | 0 => v
  | i + 1 => if isR nr (T i 0) = true then nxS (sdW nr T v i) else sdW nr T v i
def BW (nr : Nat) (T : Nat → Nat → Int32) (v : Int32) (t : Nat) : Nat := B0 T t + ltN (nxS (sdW nr T v t))
