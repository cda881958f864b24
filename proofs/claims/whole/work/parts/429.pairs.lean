/-! pairs: counted upwards and downwards -/
def smN (f : Nat → Nat) : Nat → Nat
  | 0 => 0
  | n + 1 => smN f n + f n
def upR (p : Nat → Nat → Nat) (a : Nat) : Nat → Nat
  | 0 => 0
  | k + 1 => upR p a k + p a (a + 1 + k)
theorem smN_congr {f g : Nat → Nat} : ∀ n, (∀ i, i < n → f i = g i) → smN f n = smN g n
  | 0, _ => rfl
  | n + 1, h => by unfold smN; rw [smN_congr n (fun i hi => h i (by omega)), h n (by omega)]
theorem smN_add (f g : Nat → Nat) : ∀ n, smN (fun i => f i + g i) n = smN f n + smN g n
  | 0 => rfl
  | n + 1 => by unfold smN; rw [smN_add f g n]; omega
theorem up_dn {p : Nat → Nat → Nat} (hp : ∀ a b, p a b = p b a) : ∀ n, smN (fun a => upR p a (n - a - 1)) n = smN (fun a => smN (p a) a) n
  | 0 => rfl
  | n + 1 => by
    have h := up_dn hp n
    show smN (fun a => upR p a (n + 1 - a - 1)) n + upR p n (n + 1 - n - 1) = smN (fun a => smN (p a) a) n + smN (p n) n
    rw [← h, show n + 1 - n - 1 = 0 by omega]
    have e : smN (fun a => upR p a (n + 1 - a - 1)) n = smN (fun a => upR p a (n - a - 1) + p n a) n := smN_congr n (fun i hi => by
      obtain ⟨k, hk⟩ : ∃ k, n = i + 1 + k := ⟨n - i - 1, by omega⟩
      rw [show n + 1 - i - 1 = k + 1 by omega, show n - i - 1 = k by omega]
      show upR p i k + p i (i + 1 + k) = upR p i k + p n i
      rw [← hk, hp i n])
    rw [e, smN_add]
    show _ + _ + 0 = _
    rfl
theorem smN_le {f : Nat → Nat} {m : Nat} : ∀ n, (∀ i, i < n → f i ≤ m) → smN f n ≤ n * m
  | 0, _ => by rw [Nat.zero_mul]; exact Nat.le_refl 0
  | n + 1, h => by
    have h1 := smN_le n (fun i hi => h i (by omega))
    have h2 := h n (by omega)
    unfold smN
    rw [Nat.add_mul]
    omega
