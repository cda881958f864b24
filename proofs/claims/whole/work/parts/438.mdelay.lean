/-! put off: one trip, the model -/
section
variable {nr nt g : Nat} {fa T : Nat → Nat → Int32} {rk : Nat → Nat}
def KM (σ σ' : Sg) : Prop := ∀ i k, i ≠ 77 → ¬ (i = 66 ∧ (k = 12 ∨ k = 13)) → σ'.1 i k = σ.1 i k
theorem KM.kp {σ σ' : Sg} (h : KM σ σ') : Kp σ σ' := fun i k _ w => h i k (by unfold scM at w; omega) (by unfold scM at w; omega)
theorem KM.mv {σ σ' : Sg} (h : KM σ σ') (hm : MV' nr fa rk σ) : MV' nr fa rk σ' := hm.of (h _ _ (by omega) (by omega)) (fun k => h _ _ (by omega) (by omega)) (fun k => h _ _ (by omega) (by omega))
theorem KM.tr {σ σ' σ'' : Sg} (h1 : KM σ σ') (h2 : KM σ' σ'') : KM σ σ'' := fun i k g1 g2 => (h2 i k g1 g2).trans (h1 i k g1 g2)
/-- when trips begin in the model's row, t at x -/
def MSt (nr nt : Nat) (T : Nat → Nat → Int32) (B : Nat → Nat) (dn : Nat → Prop) (t : Nat) (σ : Sg) : Prop := ∀ a, a < nt → a ≠ t → cntT nr T a → (dn a → σ.1 77 a = nI (B a)) ∧ (¬ dn a → σ.1 77 a = nI (B0 T a))
theorem ahead_m {σc σ : Sg} {B : Nat → Nat} {dn : Nat → Prop} {t x M : Nat} (hc : CV nr fa rk σc) (hm : MV' nr fa rk σ) (hM : TM nt T σ) (hin : ∀ r k, r < nr → k < 6 → ∃ j : Nat, j < hiN k ∧ fa r k = nI j) (hI : ∀ t, t < nt → tOk (T t)) (hg : g ≤ 9) (eg : σ.1 75 0 = nI g) (hB : ∀ a, B a ≤ M) (hMM : M < 10000) (ht : t < nt) (ct : cntT nr T t) (hdn : ∀ a, ahd rk T a t ↔ dn a) (hx : x < 2 ^ 20) (h : MSt nr nt T B dn t σ) (hs : σ.1 77 t = nI x) : ∃ v σ', f_Md_clashesAhead σ (nI t) = some (v, σ') ∧ KPl σ σ' ∧ ((v = 1 ∧ hit nr nt fa T g B dn t x) ∨ (v = 0 ∧ ¬ hit nr nt fa T g B dn t x)) := by
  have h20 := hM.1
  obtain ⟨B', hB'⟩ : ∃ B' : Nat → Nat, ∀ a, B' a < 2 ^ 20 ∧ (a = t → B' a = x) ∧ (a ≠ t → dn a → B' a = B a) ∧ (a ≠ t → ¬ dn a → B' a = B0 T a) := by
    refine ⟨fun a => if a = t then x else @ite Nat (dn a) (Classical.propDecidable _) (B a) (B0 T a), fun a => ?_⟩
    have q1 := hB a
    have q2 := B0_lt T a
    by_cases c : a = t
    · simp only [if_pos c]
      exact ⟨hx, fun _ => trivial, fun w => absurd c w, fun w => absurd c w⟩
    · simp only [if_neg c]
      by_cases c2 : dn a
      · simp only [if_pos c2]
        exact ⟨by omega, fun w => absurd w c, fun _ _ => trivial, fun _ w => absurd c2 w⟩
      · simp only [if_neg c2]
        exact ⟨by omega, fun w => absurd w c, fun _ w => absurd w c2, fun _ _ => trivial⟩
  have hBM : BM nr nt T B' σ := fun a ha ca => by
    by_cases c : a = t
    · subst c; rw [(hB' a).2.1 rfl]; exact hs
    · by_cases c2 : dn a
      · rw [(hB' a).2.2.1 c c2]; exact (h a ha c ca).1 c2
      · rw [(hB' a).2.2.2 c c2]; exact (h a ha c ca).2 c2
  obtain ⟨v, σ', e1, e2, e3⟩ := cah (P := fun a => colT nr fa T g B' a t) (σ0 := σ) hm hM hI (fun r hr => (hc.2.2 r hr).2.2.2.2.1) ht ct (fun σ1 a hk ha hat => by
    obtain ⟨v, σ', d1, d2, d3, d4⟩ := col_m hc (hm.of (hk _ _ (by omega)) (fun k => hk _ _ (by omega)) (fun k => hk _ _ (by omega))) hin (hM.of hk.kp) hI hg (by rw [hk _ _ (by omega)]; exact eg) (B := B') (fun a ha c => by rw [hk _ _ (by omega)]; exact hBM a ha c) (fun a => (hB' a).1) ha ht
    refine ⟨v, σ', d1, ?_, hk.tr d4⟩
    by_cases c : colT nr fa T g B' a t
    · exact Or.inl ⟨c, d2 c⟩
    · exact Or.inr ⟨c, d3 c⟩) nt FU 0 0 σ KPl.rf (by omega) (by unfold FU; omega) (Or.inl rfl)
  refine ⟨v, σ', e1, e2, ?_⟩
  rcases e3 with ⟨e3, w | ⟨a, a1, a2, a3, a4, a5⟩⟩ | ⟨e3, -, e4⟩
  · exact absurd w (by decide)
  · refine Or.inl ⟨e3, a, a1, a2, a3, (hdn a).mp a4, ?_⟩
    have := colP_comm a5.2.2
    rw [(hB' t).2.1 rfl, (hB' a).2.2.1 a2 ((hdn a).mp a4)] at this
    exact this
  · refine Or.inr ⟨e3, fun ⟨a, a1, a2, a3, a4, a5⟩ => ?_⟩
    refine e4 a (by omega) a1 a2 a3 ((hdn a).mpr a4) ⟨a3, ct, ?_⟩
    rw [(hB' t).2.1 rfl, (hB' a).2.2.1 a2 a4]
    exact colP_comm a5
theorem mdelay {k6 : Sg → Int32 → Option Sg} {k16 : Sg → Int32 → Int32 → Option Sg} {σc : Sg} {B : Nat → Nat} {dn : Nat → Prop} {t M : Nat} {p : Int32} (hc : CV nr fa rk σc) (hin : ∀ r k, r < nr → k < 6 → ∃ j : Nat, j < hiN k ∧ fa r k = nI j) (hI : ∀ t, t < nt → tOk (T t)) (hg : g ≤ 9) (hB : ∀ a, B a ≤ M) (hMM : M < 10000) (ht : t < nt) (ct : cntT nr T t) (hdn : ∀ a, ahd rk T a t ↔ dn a) : ∀ (d f x : Nat) (σ : Sg), MV' nr fa rk σ → TM nt T σ → σ.1 75 0 = nI g → MSt nr nt T B dn t σ → σ.1 77 t = nI x → M + 40 ≤ x + d → x ≤ M + 40 → d < f → ∃ y σ', f_Md_findPutOff_49 k6 k16 f σ p (nI t) = k16 σ' p (nI t + 1) ∧ x ≤ y ∧ ¬ hit nr nt fa T g B dn t y ∧ (∀ w, x ≤ w → w < y → hit nr nt fa T g B dn t w) ∧ σ'.1 77 t = nI y ∧ (∀ a b, ¬ (a = 77 ∧ b = t) → ¬ (a = 66 ∧ (b = 12 ∨ b = 13)) → σ'.1 a b = σ.1 a b) := by
  intro d
  induction d with
  | zero =>
    intro f x σ hm hM eg hS hs hL hx hf
    obtain ⟨m, rfl⟩ : ∃ m, f = m + 1 := ⟨f - 1, by omega⟩
    obtain ⟨v, σ1, e1, e2, e3⟩ := ahead_m hc hm hM hin hI hg eg hB hMM ht ct hdn (x := x) (by omega) hS hs
    rw [f_Md_findPutOff_49_s, e1, bd_s]
    rcases e3 with ⟨-, e3⟩ | ⟨e3, e4⟩
    · have := hit_up hin hc.1 hI hg hB e3
      omega
    · rw [if_pos e3]
      exact ⟨x, σ1, rfl, Nat.le_refl _, e4, fun w q1 q2 => by omega, by rw [e2 _ _ (by omega)]; exact hs, fun a b q1 q2 => e2 a b q2⟩
  | succ d ih =>
    intro f x σ hm hM eg hS hs hL hx hf
    have h20 := hM.1
    obtain ⟨m, rfl⟩ : ∃ m, f = m + 1 := ⟨f - 1, by omega⟩
    obtain ⟨v, σ1, e1, e2, e3⟩ := ahead_m hc hm hM hin hI hg eg hB hMM ht ct hdn (x := x) (by omega) hS hs
    rw [f_Md_findPutOff_49_s, e1, bd_s]
    rcases e3 with ⟨e3, e4⟩ | ⟨e3, e4⟩
    · have hx2 := hit_up hin hc.1 hI hg hB e4
      have f1 : ∀ a b, ¬ (a = 77 ∧ b = t) → ¬ (a = 66 ∧ (b = 12 ∨ b = 13)) → (pI σ1 77 t (nI (x + 1))).1 a b = σ.1 a b := fun a b q1 q2 => by rw [pI_ne q1, e2 a b q2]
      have km : KM σ (pI σ1 77 t (nI (x + 1))) := fun a b q1 q2 => f1 a b (by omega) q2
      obtain ⟨y, σ', y1, y2, y3, y4, y5, y6⟩ := ih m (x + 1) (pI σ1 77 t (nI (x + 1))) (km.mv hm) (hM.of km.kp) (by rw [f1 _ _ (by omega) (by omega)]; exact eg) (fun a ha hat ca => by rw [f1 _ _ (by omega) (by omega)]; exact hS a ha hat ca) pI_eq (by omega) (by omega) (by omega)
      rw [if_neg (show ¬ v = 0 by rw [e3]; decide), gd_of (vin_nI (by omega) (by decide)), gd_of (vin_nI (by omega) (by decide)), nI_clamp (by omega), e2 _ _ (by omega), hs, nI_1 x]
      refine ⟨y, σ', y1, by omega, y3, fun w q1 q2 => ?_, y5, fun a b q1 q2 => (y6 a b q1 q2).trans (f1 a b q1 q2)⟩
      by_cases c : w = x
      · subst c; exact e4
      · exact y4 w (by omega) q2
    · rw [if_pos e3]
      exact ⟨x, σ1, rfl, Nat.le_refl _, e4, fun w q1 q2 => by omega, by rw [e2 _ _ (by omega)]; exact hs, fun a b q1 q2 => e2 a b q2⟩
end
