/-! steps of a state: class (in state k) and reference -/
def FkX (k : Nat) (σ τ : Hp) : Prop := hN σ ≤ hN τ ∧ (∀ j, j < hN σ → hC τ j = hC σ j ∧ hI τ (100 + j) = hI σ (100 + j)) ∧ (∀ i, i < 100 → ¬ i = k → ¬ i = k + 6 → ¬ i = 31 → hI τ i = hI σ i) ∧ (∀ i, ¬ i = k + 9 → hJ τ i = hJ σ i) ∧ (∀ i, ¬ i = k + 3 → ¬ i = 31 → hR τ i = hR σ i) ∧ (okH σ → okH τ)
def FwM (σ τ : Hp) : Prop := hR τ = hR σ ∧ hC τ = hC σ ∧ hN τ = hN σ ∧ (∀ i, ¬ i = 40 → ¬ i = 46 → ¬ i = 47 → ¬ i = 48 → ¬ i = 57 → ¬ i = 67 → hI τ i = hI σ i) ∧ (∀ i, 4 ≤ i → scF i = false → hI τ 40 i = hI σ 40 i) ∧ ∀ i, ¬ i = 49 → hJ τ i = hJ σ i
theorem FkX_refl (k : Nat) (σ : Hp) : FkX k σ σ := ⟨Nat.le_refl _, fun _ _ => ⟨rfl, rfl⟩, fun _ _ _ _ _ => rfl, fun _ _ => rfl, fun _ _ _ => rfl, id⟩
theorem FkX_trans {k : Nat} {σ τ υ : Hp} (h1 : FkX k σ τ) (h2 : FkX k τ υ) : FkX k σ υ :=
  ⟨Nat.le_trans h1.1 h2.1, fun j hj => ⟨(h2.2.1 j (Nat.lt_of_lt_of_le hj h1.1)).1.trans (h1.2.1 j hj).1, (h2.2.1 j (Nat.lt_of_lt_of_le hj h1.1)).2.trans (h1.2.1 j hj).2⟩, fun i a b c d => (h2.2.2.1 i a b c d).trans (h1.2.2.1 i a b c d), fun i a => (h2.2.2.2.1 i a).trans (h1.2.2.2.1 i a), fun i a b => (h2.2.2.2.2.1 i a b).trans (h1.2.2.2.2.1 i a b), fun h => h2.2.2.2.2.2 (h1.2.2.2.2.2 h)⟩
theorem FwM_refl (σ : Hp) : FwM σ σ := ⟨rfl, rfl, rfl, fun _ _ _ _ _ _ _ => rfl, fun _ _ _ => rfl, fun _ _ => rfl⟩
theorem FwM_trans {σ τ υ : Hp} (h1 : FwM σ τ) (h2 : FwM τ υ) : FwM σ υ :=
  ⟨h2.1.trans h1.1, h2.2.1.trans h1.2.1, h2.2.2.1.trans h1.2.2.1, fun i a b c d e f => (h2.2.2.2.1 i a b c d e f).trans (h1.2.2.2.1 i a b c d e f), fun i a b => (h2.2.2.2.2.1 i a b).trans (h1.2.2.2.2.1 i a b), fun i a => (h2.2.2.2.2.2 i a).trans (h1.2.2.2.2.2 i a)⟩
theorem FkX_I {k : Nat} {σ τ : Hp} (hk : k ≤ 3) (h : FkX k σ τ) {i : Nat} (hi : i = k ∨ i = k + 6 ∨ i = 31) (F : Nat → Int32) : FkX k σ (rowI τ i F) := by
  refine FkX_trans h ⟨Nat.le_refl _, fun j _ => ⟨rfl, ?_⟩, fun i2 a b c d => ?_, fun _ _ => rfl, fun _ _ _ => rfl, fun h => h⟩
  · rw [hI_rowI_n _ _ (by omega)]
  · rw [hI_rowI_n _ _ (by omega)]
theorem FkX_J {k : Nat} {σ τ : Hp} (h : FkX k σ τ) (F : Nat → Int64) : FkX k σ (rowJ τ (k + 9) F) := by
  refine FkX_trans h ⟨Nat.le_refl _, fun j _ => ⟨rfl, rfl⟩, fun i2 a b c d => rfl, fun i a => ?_, fun _ _ _ => rfl, fun h => h⟩
  rw [hJ_rowJ_n _ _ a]
theorem FwM_I {σ τ : Hp} (h : FwM σ τ) {i : Nat} (hi : i = 46 ∨ i = 47 ∨ i = 48 ∨ i = 57 ∨ i = 67) (F : Nat → Int32) : FwM σ (rowI τ i F) := by
  refine FwM_trans h ⟨rfl, rfl, rfl, fun i2 a b c d e f => ?_, fun i2 a b => ?_, fun _ _ => rfl⟩
  · rw [hI_rowI_n _ _ (by omega)]
  · rw [hI_rowI_n _ _ (by omega)]
theorem FwM_40 {σ τ : Hp} (h : FwM σ τ) {i : Nat} (hi : i < 4 ∨ scF i = true) (v : Int32) : FwM σ (sI τ 40 i v) := by
  unfold sI
  refine FwM_trans h ⟨rfl, rfl, rfl, fun i2 a b c d e f => ?_, fun i2 a b => ?_, fun _ _ => rfl⟩
  · rw [hI_rowI_n _ _ a]
  · rw [hI_rowI_k, up_ne]
    rcases hi with hi | hi
    · omega
    · intro e; subst e; rw [hi] at b; cases b
theorem FwM_J {σ τ : Hp} (h : FwM σ τ) (F : Nat → Int64) : FwM σ (rowJ τ 49 F) := by
  refine FwM_trans h ⟨rfl, rfl, rfl, fun _ _ _ _ _ _ _ => rfl, fun _ _ _ => rfl, fun i a => ?_⟩
  rw [hJ_rowJ_n _ _ a]
theorem StX_M {σ τ : Hp} {k : Nat} {A : AbS} (hk : 1 ≤ k ∧ k ≤ 3) (h : FwM σ τ) (hX : StX σ k A) : StX τ k A := by
  obtain ⟨f1, f2, f3, f4, f5, f6⟩ := h
  obtain ⟨h1, h2, h3, h4, h5, h6, h7⟩ := hX
  have e1 := f4 k (by omega) (by omega) (by omega) (by omega) (by omega) (by omega)
  have e2 := f4 (k + 6) (by omega) (by omega) (by omega) (by omega) (by omega) (by omega)
  have e3 := f6 (k + 9) (by omega)
  refine ⟨by rw [e1]; exact h1, by rw [e1]; exact h2, by rw [e1]; exact h3, by rw [e1]; exact h4, fun i hi => ?_, by rw [e2]; exact h6, by rw [e3]; exact h7⟩
  obtain ⟨j, g1, g2, g3, g4, g5⟩ := h5 i hi
  have e4 := f4 (100 + j) (by omega) (by omega) (by omega) (by omega) (by omega) (by omega)
  refine ⟨j, by rw [f1]; exact g1, ?_, by rw [f2]; exact g3, by rw [e4]; exact g4, by rw [e4]; exact g5⟩
  unfold isLaw at g2 ⊢
  rw [f2, f3]
  exact g2
theorem isLaw_lt {σ : Hp} {j : Nat} (h : isLaw σ j = true) : j < hN σ := by
  unfold isLaw at h
  exact (of_decide_eq_true h).1
theorem isLaw_X {k : Nat} {σ τ : Hp} {j : Nat} (h : FkX k σ τ) (hl : isLaw σ j = true) : isLaw τ j = true := by
  have h1 := isLaw_lt hl
  unfold isLaw at hl ⊢
  rw [decide_eq_true_iff] at hl ⊢
  rw [(h.2.1 j h1).1]
  exact ⟨Nat.lt_of_lt_of_le h1 h.1, hl.2⟩
/-- another state of the class is left as it is -/
theorem StX_X {σ τ : Hp} {k m : Nat} {A : AbS} (hm : 1 ≤ m ∧ m ≤ 3) (hk : 1 ≤ k ∧ k ≤ 3) (hmk : ¬ m = k) (h : FkX k σ τ) (hX : StX σ m A) : StX τ m A := by
  have f := h
  obtain ⟨f1, f2, f4, f6, f7, f8⟩ := f
  obtain ⟨h1, h2, h3, h4, h5, h6, h7⟩ := hX
  have e1 := f4 m (by omega) (by omega) (by omega) (by omega)
  have e2 := f4 (m + 6) (by omega) (by omega) (by omega) (by omega)
  have e3 := f6 (m + 9) (by omega)
  have e5 := f7 (m + 3) (by omega) (by omega)
  refine ⟨by rw [e1]; exact h1, by rw [e1]; exact h2, by rw [e1]; exact h3, by rw [e1]; exact h4, fun i hi => ?_, by rw [e2]; exact h6, by rw [e3]; exact h7⟩
  obtain ⟨j, g1, g2, g3, g4, g5⟩ := h5 i hi
  have hj := f2 j (isLaw_lt g2)
  exact ⟨j, by rw [e5]; exact g1, isLaw_X h g2, by rw [hj.1]; exact g3, by rw [hj.2]; exact g4, by rw [hj.2]; exact g5⟩
theorem StM_X {σ τ : Hp} {k : Nat} {A : AbS} (hk : 1 ≤ k ∧ k ≤ 3) (h : FkX k σ τ) (hM : StM σ A) : StM τ A := by
  obtain ⟨f1, f2, f4, f6, f7, f8⟩ := h
  unfold StM at *
  rw [f4 40 (by omega) (by omega) (by omega) (by omega), f4 46 (by omega) (by omega) (by omega) (by omega), f4 47 (by omega) (by omega) (by omega) (by omega), f4 48 (by omega) (by omega) (by omega) (by omega), f6 49 (by omega)]
  exact hM
theorem ShR_eq {σ τ : Hp} {n m s : Nat} (hnm : n ≤ m) (e50 : hI τ 50 = hI σ 50) (e51 : hI τ 51 = hI σ 51) (e52 : hI τ 52 = hI σ 52) (e53 : hI τ 53 = hI σ 53) (e14 : hI τ (14 + s) = hI σ (14 + s)) (e22 : hJ τ (22 + s) = hJ σ (22 + s)) (e54 : hJ τ 54 = hJ σ 54) (h : ShR σ n s) : ShR τ m s := by
  unfold ShR at *
  rw [e50, e51, e52, e53, e14, e22, e54]
  exact h.imp id (Or.imp id (fun ⟨l, hl, h⟩ => ⟨l, by omega, h⟩))
theorem Inv_mk {σ τ : Hp} {A B : AbS} (h : InA σ A) (hO : okA B) (hX : StX τ 1 B) (hM : StM τ B) (hS : ∀ s, s < 8 → ShR τ (aN B) s) (hok : okH τ) (hft : hI τ 0 7 = hI τ 40 4) (hrf : RfR τ) (b1 : hN σ ≤ hN τ) (b2 : ∀ j, j < hN σ → hC τ j = hC σ j ∧ hI τ (100 + j) = hI σ (100 + j)) (b3 : hR τ 6 = hR σ 6) (b4 : ∀ k, k = 3 ∨ k = 9 ∨ k = 32 ∨ k = 56 ∨ k = 64 ∨ k = 75 → hI τ k = hI σ k) (b5 : hI τ 0 3 = hI σ 0 3) (b6 : hI τ 40 36 = hI σ 40 36 ∧ hI τ 40 37 = hI σ 40 37) (b7 : hJ τ 12 = hJ σ 12 ∧ hJ τ 66 = hJ σ 66) : Inv τ := by
  obtain ⟨h1, h2, h3, h4, h5, h6, h7, h8, h9⟩ := h
  refine ⟨B, ⟨hO, hX, hM, ?_, hS, hok, hft, ?_, ?_⟩, hrf⟩
  · unfold ImR at *
    rw [b5, b6.2]
    refine h4.imp id (fun ⟨a1, a2, C, c1, c2, c3⟩ => ⟨a1, a2, C, c1, ?_, ?_⟩)
    · obtain ⟨h1, h2, h3, h4, h5, h6, h7⟩ := c2
      have e3 := b4 3 (by omega)
      have e9 := b4 9 (by omega)
      refine ⟨by rw [e3]; exact h1, by rw [e3]; exact h2, by rw [e3]; exact h3, by rw [e3]; exact h4, fun i hi => ?_, ?_, ?_⟩
      · obtain ⟨j, g1, g2, g3, g4, g5⟩ := h5 i hi
        have hj := b2 j (isLaw_lt g2)
        refine ⟨j, by show hR τ 6 i = _; rw [b3]; exact g1, ?_, by rw [hj.1]; exact g3, by rw [hj.2]; exact g4, by rw [hj.2]; exact g5⟩
        have g6 := isLaw_lt g2
        unfold isLaw at g2 ⊢
        rw [decide_eq_true_iff] at g2 ⊢
        rw [hj.1]
        exact ⟨by omega, g2.2⟩
      · intro i f hi hf; show hI τ 9 _ = _; rw [e9]; exact h6 i f hi hf
      · intro i hi; show hJ τ 12 _ = _; rw [b7.1]; exact h7 i hi
    · unfold StK at *
      rw [b4 64 (by omega), b7.2]
      exact c3
  · unfold TrR at *
    rw [b4 32 (by omega), b6.1, b4 75 (by omega)]
    exact h8
  · rw [b4 56 (by omega)]; exact h9
theorem Inv_12 {σ σ1 σ2 : Hp} {A B : AbS} (h : InA σ A) (hr : RfR σ) (hO : okA B) (hn : aN A ≤ aN B) (hx : FkX 1 σ σ1) (hm : FwM σ1 σ2) (hX : StX σ1 1 B) (hM : StM σ2 B) : Inv σ2 := by
  obtain ⟨f1, f2, f4, f6, f7, f8⟩ := id hx
  obtain ⟨g1, g2, g3, g4, g5, g6⟩ := id hm
  have ei : ∀ i, i < 100 → ¬ i = 1 → ¬ i = 7 → ¬ i = 31 → ¬ i = 40 → ¬ i = 46 → ¬ i = 47 → ¬ i = 48 → ¬ i = 57 → ¬ i = 67 → hI σ2 i = hI σ i := fun i a b c d e f g h k l => (g4 i e f g h k l).trans (f4 i a b c d)
  have ej : ∀ i, ¬ i = 10 → ¬ i = 49 → hJ σ2 i = hJ σ i := fun i a b => (g6 i b).trans (f6 i a)
  have e40 : ∀ i, 4 ≤ i → scF i = false → hI σ2 40 i = hI σ 40 i := fun i a b => (g5 i a b).trans (by rw [f4 40 (by omega) (by omega) (by omega) (by omega)])
  refine Inv_mk h hO (StX_M (by omega) hm hX) hM (fun s hs => ?_) ?_ ?_ ?_ (by rw [g3]; exact f1) (fun j hj => ?_) (by rw [g1, f7 6 (by omega) (by omega)]) (fun k hk => ei k (by omega) (by omega) (by omega) (by omega) (by omega) (by omega) (by omega) (by omega) (by omega) (by omega)) (by rw [ei 0 (by omega) (by omega) (by omega) (by omega) (by omega) (by omega) (by omega) (by omega) (by omega) (by omega)]) ⟨e40 36 (by omega) rfl, e40 37 (by omega) rfl⟩ ⟨ej 12 (by omega) (by omega), ej 66 (by omega) (by omega)⟩
  · exact ShR_eq hn (ei 50 (by omega) (by omega) (by omega) (by omega) (by omega) (by omega) (by omega) (by omega) (by omega) (by omega)) (ei 51 (by omega) (by omega) (by omega) (by omega) (by omega) (by omega) (by omega) (by omega) (by omega) (by omega)) (ei 52 (by omega) (by omega) (by omega) (by omega) (by omega) (by omega) (by omega) (by omega) (by omega) (by omega)) (ei 53 (by omega) (by omega) (by omega) (by omega) (by omega) (by omega) (by omega) (by omega) (by omega) (by omega)) (ei (14 + s) (by omega) (by omega) (by omega) (by omega) (by omega) (by omega) (by omega) (by omega) (by omega) (by omega)) (ej _ (by omega) (by omega)) (ej _ (by omega) (by omega)) (h.2.2.2.2.1 s hs)
  · have := f8 h.2.2.2.2.2.1
    exact okH_eq g1 g2 g3 this
  · rw [ei 0 (by omega) (by omega) (by omega) (by omega) (by omega) (by omega) (by omega) (by omega) (by omega) (by omega), e40 4 (by omega) rfl]
    exact h.2.2.2.2.2.2.1
  · unfold RfR at *
    rw [ei 30 (by omega) (by omega) (by omega) (by omega) (by omega) (by omega) (by omega) (by omega) (by omega) (by omega), ei 45 (by omega) (by omega) (by omega) (by omega) (by omega) (by omega) (by omega) (by omega) (by omega) (by omega)]
    exact hr
  · exact ⟨by rw [g2]; exact (f2 j hj).1, by rw [g4 (100 + j) (by omega) (by omega) (by omega) (by omega) (by omega) (by omega)]; exact (f2 j hj).2⟩
/-- a row that may change the state -/
theorem op_mx {α : Type} {fx fm : Hp → Option (α × Hp)} {σ : Hp} (hv : Inv σ) (h : ∀ A, InA σ A → opG fx fm σ A ∨ ∃ r σ1 B, okA B ∧ aN A ≤ aN B ∧ fx σ = some (r, σ1) ∧ FkX 1 σ σ1 ∧ StX σ1 1 B ∧ (StM σ1 A → ∃ σ2, fm σ1 = some (r, σ2) ∧ FwM σ1 σ2 ∧ StM σ2 B)) : ∃ r σ1 σ2, fx σ = some (r, σ1) ∧ fm σ1 = some (r, σ2) ∧ Inv σ2 := by
  obtain ⟨A, hA, hr⟩ := id hv
  rcases h A hA with h | ⟨r, σ1, B, b1, b2, b3, b4, b5, b6⟩
  · obtain ⟨v, c, hc, ⟨b1, x1, x2, x3, x4, x5⟩, hm⟩ := h
    obtain ⟨b2, m1, m2, m3, m4, m5⟩ := hm b1.2 x3 (InA_Fr x3 hA)
    refine ⟨v, b1.2, b2.2, by rw [x1, ← x2], by rw [m1, ← m2], A, InA_Fr (Fr_trans x3 m3) hA, fun i hi => ?_⟩
    rw [m4, m5, x4, x5]
    have h0 := hr i hi
    cases c with
    | none => exact h0
    | some k =>
      show va_up (hI σ 30) k (hI σ 30 k + 1) i = va_up (hI σ 45) (k + 1) (hI σ 45 (k + 1) + 1) (i + 1)
      have hk := hc k rfl
      by_cases e : i = k
      · subst e; rw [up_eq, up_eq, h0]
      · rw [up_ne _ _ e, up_ne _ _ (by omega), h0]
  · obtain ⟨σ2, c1, c2, c3⟩ := b6 (StM_X (by omega) b4 hA.2.2.1)
    exact ⟨r, σ1, σ2, b3, c1, Inv_12 hA hr b1 b2 b4 c2 b5 c3⟩
def mA (n b m : Nat) (s : Int32) (k a : Nat → Nat) (w : Nat → Nat → Nat) (l : Nat → Nat) : AbS := (n, b, m, s, k, a, w, l)
def upN {α : Type} (f : Nat → α) (i : Nat) (v : α) : Nat → α := fun j => if j = i then v else f j
theorem upN_eq {α : Type} (f : Nat → α) (i : Nat) (v : α) : upN f i v i = v := by simp [upN]
theorem upN_ne {α : Type} (f : Nat → α) {i j : Nat} (v : α) (h : ¬ j = i) : upN f i v j = f j := by simp [upN, h]
def putA (A : AbS) (v : Nat) : AbS := mA (aN A) (aB A) (aM A + 1) (aS A) (aK A) (aA A) (aW A) (upN (aL A) (aM A) v)
theorem okA_put {A : AbS} {v : Nat} (h : okA A) (hm : aM A < 20) (hv : v ≤ 999999999999999) : okA (putA A v) := by
  obtain ⟨h1, h2, h3, h4, h5, h6, h7, h8, h9⟩ := h
  refine ⟨h1, h2, h3, hm, h5, h6, h7, h8, fun i => ?_⟩
  show upN (aL A) (aM A) v i ≤ _
  unfold upN
  split
  · exact hv
  · exact h9 i
theorem x_put {σ : Hp} {k v : Nat} {A : AbS} (hk : 1 ≤ k ∧ k ≤ 3) (h : StX σ k A) (hm : aM A < 20) : ∃ τ, f_X7_put k (lN v) σ = some ((), τ) ∧ FkX k σ τ ∧ StX τ k (putA A v) := by
  obtain ⟨h1, h2, h3, h4, h5, h6, h7⟩ := h
  refine ⟨sI (sJ σ (k + 9) (aM A) (lN v)) k 3 (nI (aM A + 1)), ?_, ?_, ?_, ?_, ?_, ?_, fun i hi => ?_, fun i f hi hf => ?_, fun i hi => ?_⟩
  · unfold f_X7_put
    rw [h4, if_neg (nI_0le (by omega)), if_neg (by rw [show (20 : Int32) = nI 20 from rfl, nI_leI (by omega) (by omega)]; omega), ck_pos (inb_nI (by omega) (by omega)), nI_clamp (by omega)]
    have : hI (sJ σ (k + 9) (aM A) (lN v)) k 3 = nI (aM A) := h4
    rw [this, nI_1]
  · exact FkX_I hk.2 (FkX_J (FkX_refl k σ) _) (Or.inl rfl) _
  · unfold sI; rw [hI_rowI_k, up_ne _ _ (by decide)]; exact h1
  · unfold sI; rw [hI_rowI_k, up_ne _ _ (by decide)]; exact h2
  · unfold sI; rw [hI_rowI_k, up_ne _ _ (by decide)]; exact h3
  · unfold sI; rw [hI_rowI_k, up_eq]; rfl
  · obtain ⟨j, g1, g2, g3, g4, g5⟩ := h5 i hi
    exact ⟨j, g1, g2, g3, by unfold sI; rw [hI_rowI_n _ _ (by omega)]; exact g4, by unfold sI; rw [hI_rowI_n _ _ (by omega)]; exact g5⟩
  · unfold sI; rw [hI_rowI_n _ _ (by omega)]; exact h6 i f hi hf
  · show hJ (sJ σ (k + 9) (aM A) (lN v)) (k + 9) i = lN (upN (aL A) (aM A) v i)
    unfold sJ
    rw [hJ_rowJ_k]
    by_cases e : i = aM A
    · subst e; rw [up_eq, upN_eq]
    · rw [up_ne _ _ e, upN_ne _ _ e]
      exact h7 i (by have : i < aM A + 1 := hi; omega)
theorem m_writes {σ : Hp} {v : Nat} {A : AbS} (h : StM σ A) (hm : aM A < 20) : ∃ τ, f_X12_writes (lN v) σ = some (nI (aM A + 1), τ) ∧ FwM σ τ ∧ StM τ (putA A v) := by
  obtain ⟨h1, h2, h3, h4, h5, h6, h7⟩ := h
  refine ⟨sI (sJ σ 49 (aM A) (lN v)) 40 1 (nI (aM A + 1)), ?_, FwM_40 (FwM_J (FwM_refl σ) _) (Or.inl (by omega)) _, ?_, ?_, ?_, ?_, fun i hi => h5 i hi, fun i f hi hf => h6 i f hi hf, fun i hi => ?_⟩
  · unfold f_X12_writes
    rw [h2, ck_pos (inb_nI (by omega) (by omega)), nI_clamp (by omega)]
    have : hI (sJ σ 49 (aM A) (lN v)) 40 1 = nI (aM A) := h2
    rw [this, nI_1]
    unfold sI
    rw [hI_rowI_k, up_eq]
  · unfold sI; rw [hI_rowI_k, up_ne _ _ (by decide)]; exact h1
  · unfold sI; rw [hI_rowI_k, up_eq]; rfl
  · unfold sI; rw [hI_rowI_k, up_ne _ _ (by decide)]; exact h3
  · unfold sI; rw [hI_rowI_k, up_ne _ _ (by decide)]; exact h4
  · show hJ (sJ σ 49 (aM A) (lN v)) 49 i = lN (upN (aL A) (aM A) v i)
    unfold sJ
    rw [hJ_rowJ_k]
    by_cases e : i = aM A
    · subst e; rw [up_eq, upN_eq]
    · rw [up_ne _ _ e, upN_ne _ _ e]
      exact h7 i (by have : i < aM A + 1 := hi; omega)
