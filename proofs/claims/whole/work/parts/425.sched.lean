/-! schedules -/
def cntT (nr : Nat) (T : Nat → Nat → Int32) (t : Nat) : Prop := isR nr (T t 0) = true
def BC (nr nt : Nat) (T : Nat → Nat → Int32) (B : Nat → Nat) (σ : Sg) : Prop := ∀ t, t < nt → (cntT nr T t → σ.1 42 t = nI (B t)) ∧ (¬ cntT nr T t → σ.1 42 t = -1)
def BM (nr nt : Nat) (T : Nat → Nat → Int32) (B : Nat → Nat) (σ : Sg) : Prop := ∀ t, t < nt → cntT nr T t → σ.1 77 t = nI (B t)
def colT (nr : Nat) (fa : Nat → Nat → Int32) (T : Nat → Nat → Int32) (g : Nat) (B : Nat → Nat) (a b : Nat) : Prop := cntT nr T a ∧ cntT nr T b ∧ colP fa g (T a 0).toNatClampNeg (T a 1).toNatClampNeg (B a) (T b 0).toNatClampNeg (T b 1).toNatClampNeg (B b)
theorem crs_comm (fa : Nat → Nat → Int32) (r s : Nat) : crs fa r s = crs fa s r := by
  unfold crs
  have h : ∀ u v x y : Int32, crP (u - v) (x - y) = crP (v - u) (y - x) := fun u v x y => by
    unfold crP
    have e : (v - u) * (y - x) = (u - v) * (x - y) := by
      rw [show v - u = -(u - v) from Int32.neg_sub.symm, show y - x = -(x - y) from Int32.neg_sub.symm, Int32.neg_mul, Int32.mul_neg, Int32.neg_neg]
    rw [e]
  exact h _ _ _ _
theorem colP_comm {fa : Nat → Nat → Int32} {g ra da x rb db y : Nat} (h : colP fa g ra da x rb db y) : colP fa g rb db y ra da x := by
  unfold colP at h ⊢
  by_cases c : ra = rb
  · rw [if_pos c] at h
    rw [if_pos c.symm]
    exact ⟨h.2, h.1⟩
  · rw [if_neg c] at h
    rw [if_neg (fun q => c q.symm), crs_comm fa rb ra, spN_comm fa rb ra]
    exact ⟨h.1, h.2.2, h.2.1⟩
theorem colT_comm {nr : Nat} {fa : Nat → Nat → Int32} {T : Nat → Nat → Int32} {g : Nat} {B : Nat → Nat} {a b : Nat} (h : colT nr fa T g B a b) : colT nr fa T g B b a := ⟨h.2.1, h.1, colP_comm h.2.2⟩
theorem cnt_rd {nr : Nat} {nt : Nat} {T : Nat → Nat → Int32} (h8 : nr ≤ 8) (hI : ∀ t, t < nt → tOk (T t)) {t : Nat} (ht : t < nt) (c : cntT nr T t) : (T t 0).toNatClampNeg < nr ∧ T t 0 = nI (T t 0).toNatClampNeg ∧ (T t 1).toNatClampNeg < 2 ∧ T t 1 = nI (T t 1).toNatClampNeg := by
  obtain ⟨r, hr, er⟩ := isR_nI c h8
  obtain ⟨-, ⟨s, hs, es⟩, -⟩ := hI t ht
  rw [er, es, nI_clamp (show r < 2 ^ 31 by omega), nI_clamp (show s < 2 ^ 31 by omega)]
  exact ⟨hr, rfl, hs, rfl⟩
theorem col_c {nr : Nat} {fa : Nat → Nat → Int32} {rk : Nat → Nat} {nt : Nat} {T : Nat → Nat → Int32} {σ : Sg} (hc : CV nr fa rk σ) (hin : ∀ r k, r < nr → k < 6 → ∃ j : Nat, j < hiN k ∧ fa r k = nI j) (hC : TC nt T σ) (hI : ∀ t, t < nt → tOk (T t)) {g : Nat} (hg : g ≤ 9) {B : Nat → Nat} (hB : BC nr nt T B σ) (hb20 : ∀ t, B t < 2 ^ 20) {a b : Nat} (ha : a < nt) (hb : b < nt) : (colT nr fa T g B a b → f_Tt_collide σ (nI a) (nI b) (nI g) = 1) ∧ (¬ colT nr fa T g B a b → f_Tt_collide σ (nI a) (nI b) (nI g) = 0) := by
  have h20 := hC.1
  by_cases ca : cntT nr T a
  · by_cases cb : cntT nr T b
    · obtain ⟨a1, a2, a3, a4⟩ := cnt_rd hc.1 hI ha ca
      obtain ⟨b1, b2, b3, b4⟩ := cnt_rd hc.1 hI hb cb
      have h := collide_k hc hin hC hg ha hb a1 b1 a3 b3 (hb20 a) (hb20 b) a2 a4 b2 b4 ((hB a ha).1 ca) ((hB b hb).1 cb)
      exact ⟨fun w => h.1 w.2.2, fun w => h.2 (fun q => w ⟨ca, cb, q⟩)⟩
    · refine ⟨fun w => absurd w.2.1 cb, fun _ => ?_⟩
      unfold f_Tt_collide
      rw [st_at (show a < 20 by omega), st_at (show b < 20 by omega), (hB b hb).2 cb, if_pos (rfl : (-1 : Int32) = -1), ite_self]
  · refine ⟨fun w => absurd w.1 ca, fun _ => ?_⟩
    unfold f_Tt_collide
    rw [st_at (show a < 20 by omega), (hB a ha).2 ca, if_pos (rfl : (-1 : Int32) = -1)]
theorem col_m {nr : Nat} {fa : Nat → Nat → Int32} {rk : Nat → Nat} {nt : Nat} {T : Nat → Nat → Int32} {σc σ : Sg} (hc : CV nr fa rk σc) (hm : MV' nr fa rk σ) (hin : ∀ r k, r < nr → k < 6 → ∃ j : Nat, j < hiN k ∧ fa r k = nI j) (hM : TM nt T σ) (hI : ∀ t, t < nt → tOk (T t)) {g : Nat} (hg : g ≤ 9) (eg : σ.1 75 0 = nI g) {B : Nat → Nat} (hB : BM nr nt T B σ) (hb20 : ∀ t, B t < 2 ^ 20) {a b : Nat} (ha : a < nt) (hb : b < nt) : ∃ v σ', f_Md_doClash σ (nI a) (nI b) = some (v, σ') ∧ (colT nr fa T g B a b → v = 1) ∧ (¬ colT nr fa T g B a b → v = 0) ∧ KPl σ σ' := by
  by_cases ca : cntT nr T a
  · by_cases cb : cntT nr T b
    · obtain ⟨a1, a2, a3, a4⟩ := cnt_rd hc.1 hI ha ca
      obtain ⟨b1, b2, b3, b4⟩ := cnt_rd hc.1 hI hb cb
      obtain ⟨v, σ', h1, h2, h3, h4⟩ := doClash_k hc hm hin hM hg eg ha hb a1 b1 a3 b3 (hb20 a) (hb20 b) a2 a4 b2 b4 (hB a ha ca) (hB b hb cb)
      exact ⟨v, σ', h1, fun w => h2 w.2.2, fun w => h3 (fun q => w ⟨ca, cb, q⟩), h4⟩
    · refine ⟨0, σ, ?_, fun w => absurd w.2.1 cb, fun _ => rfl, KPl.rf⟩
      unfold f_Md_doClash
      rw [counts_k hm hM ha, counts_k hm hM hb, if_pos (show isR nr (T a 0) = true from ca), if_neg (show ¬ isR nr (T b 0) = true from cb), Option.bind_some, if_neg (show ¬ (1 : Int32) = 0 by decide), Option.bind_some, if_pos rfl]
  · refine ⟨0, σ, ?_, fun w => absurd w.1 ca, fun _ => rfl, KPl.rf⟩
    unfold f_Md_doClash
    rw [counts_k hm hM ha, if_neg (show ¬ isR nr (T a 0) = true from ca), Option.bind_some, if_pos rfl]
