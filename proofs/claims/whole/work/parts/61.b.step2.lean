/-! steps: base, seed, value, a law more, one go -/
def setB (A : AbS) (b : Nat) : AbS := mA (aN A) b (aM A) (aS A) (aK A) (aA A) (aW A) (aL A)
def setS (A : AbS) (s : Int32) : AbS := mA (aN A) (aB A) (aM A) s (aK A) (aA A) (aW A) (aL A)
def setM (A : AbS) (m : Nat) : AbS := mA (aN A) (aB A) m (aS A) (aK A) (aA A) (aW A) (aL A)
def setW (A : AbS) (l f v : Nat) : AbS := mA (aN A) (aB A) (aM A) (aS A) (aK A) (aA A) (upN (aW A) l (upN (aW A l) f v)) (aL A)
def addA (A : AbS) (k a : Nat) : AbS := mA (aN A + 1) (aB A) (aM A) (aS A) (upN (aK A) (aN A) k) (upN (aA A) (aN A) a) (aW A) (aL A)
theorem okA_B {A : AbS} {b : Nat} (h : okA A) (h2 : 2 ≤ b) (h10 : b ≤ 10) : okA (setB A b) := ⟨h.1, h2, h10, h.2.2.2⟩
theorem okA_S {A : AbS} {s : Int32} (h : okA A) : okA (setS A s) := h
theorem okA_M {A : AbS} {m : Nat} (h : okA A) (hm : m ≤ 20) : okA (setM A m) := ⟨h.1, h.2.1, h.2.2.1, hm, h.2.2.2.2⟩
theorem okA_W {A : AbS} {l f v : Nat} (h : okA A) (hl : l < aN A) (hv : v ≤ 999) : okA (setW A l f v) := by
  obtain ⟨h1, h2, h3, h4, h5, h6, h7, h8, h9⟩ := h
  refine ⟨h1, h2, h3, h4, h5, h6, fun i g => ?_, fun i g hi => ?_, h9⟩
  · show upN (aW A) l (upN (aW A l) f v) i g ≤ 999
    by_cases e : i = l
    · subst e
      rw [upN_eq]
      by_cases e2 : g = f
      · subst e2; rw [upN_eq]; exact hv
      · rw [upN_ne _ _ e2]; exact h7 i g
    · rw [upN_ne _ _ e]; exact h7 i g
  · show upN (aW A) l (upN (aW A l) f v) i g = 0
    have hi2 : aN A ≤ i := hi
    rw [upN_ne _ _ (by omega)]
    exact h8 i g hi
theorem okA_add {A : AbS} {k a : Nat} (h : okA A) (hn : aN A < 6) (hk : k ≤ 6) (ha : a ≤ 9) : okA (addA A k a) := by
  obtain ⟨h1, h2, h3, h4, h5, h6, h7, h8, h9⟩ := h
  refine ⟨hn, h2, h3, h4, fun i => ?_, fun i => ?_, h7, fun i f hi => h8 i f (by have : aN A + 1 ≤ i := hi; omega), h9⟩
  · show upN (aK A) (aN A) k i ≤ 6
    unfold upN
    split
    · exact hk
    · exact h5 i
  · show upN (aA A) (aN A) a i ≤ 9
    unfold upN
    split
    · exact ha
    · exact h6 i
/-- the laws of a state stand, whatever of the state's own numbers is written -/
theorem x_lawsI {σ : Hp} {k i : Nat} {A : AbS} {F : Nat → Int32} (hi : i < 100) (h : ∀ i, i < aN A → ∃ j, hR σ (k + 3) i = some j ∧ isLaw σ j = true ∧ hC σ j = clK (aK A i) ∧ hI σ (100 + j) 0 = nI i ∧ hI σ (100 + j) 1 = nI (aA A i)) : ∀ l, l < aN A → ∃ j, hR (rowI σ i F) (k + 3) l = some j ∧ isLaw (rowI σ i F) j = true ∧ hC (rowI σ i F) j = clK (aK A l) ∧ hI (rowI σ i F) (100 + j) 0 = nI l ∧ hI (rowI σ i F) (100 + j) 1 = nI (aA A l) := by
  intro l hl
  obtain ⟨j, g1, g2, g3, g4, g5⟩ := h l hl
  exact ⟨j, g1, g2, g3, by rw [hI_rowI_n _ _ (by omega)]; exact g4, by rw [hI_rowI_n _ _ (by omega)]; exact g5⟩
theorem x_setB {σ : Hp} {k b : Nat} {A : AbS} (hk : 1 ≤ k ∧ k ≤ 3) (h : StX σ k A) : FkX k σ (sI σ k 0 (nI b)) ∧ StX (sI σ k 0 (nI b)) k (setB A b) := by
  obtain ⟨h1, h2, h3, h4, h5, h6, h7⟩ := h
  refine ⟨FkX_I hk.2 (FkX_refl k σ) (Or.inl rfl) _, ?_, ?_, ?_, ?_, x_lawsI (by omega) h5, fun i f hi hf => ?_, h7⟩
  · unfold sI; rw [hI_rowI_k, up_eq]; rfl
  · unfold sI; rw [hI_rowI_k, up_ne _ _ (by decide)]; exact h2
  · unfold sI; rw [hI_rowI_k, up_ne _ _ (by decide)]; exact h3
  · unfold sI; rw [hI_rowI_k, up_ne _ _ (by decide)]; exact h4
  · unfold sI; rw [hI_rowI_n _ _ (by omega)]; exact h6 i f hi hf
theorem x_setS {σ : Hp} {k : Nat} {s : Int32} {A : AbS} (hk : 1 ≤ k ∧ k ≤ 3) (h : StX σ k A) : FkX k σ (sI σ k 1 s) ∧ StX (sI σ k 1 s) k (setS A s) := by
  obtain ⟨h1, h2, h3, h4, h5, h6, h7⟩ := h
  refine ⟨FkX_I hk.2 (FkX_refl k σ) (Or.inl rfl) _, ?_, ?_, ?_, ?_, x_lawsI (by omega) h5, fun i f hi hf => ?_, h7⟩
  · unfold sI; rw [hI_rowI_k, up_ne _ _ (by decide)]; exact h1
  · unfold sI; rw [hI_rowI_k, up_eq]; rfl
  · unfold sI; rw [hI_rowI_k, up_ne _ _ (by decide)]; exact h3
  · unfold sI; rw [hI_rowI_k, up_ne _ _ (by decide)]; exact h4
  · unfold sI; rw [hI_rowI_n _ _ (by omega)]; exact h6 i f hi hf
theorem x_setM {σ : Hp} {k m : Nat} {A : AbS} (hk : 1 ≤ k ∧ k ≤ 3) (hm : m ≤ aM A) (h : StX σ k A) : FkX k σ (sI σ k 3 (nI m)) ∧ StX (sI σ k 3 (nI m)) k (setM A m) := by
  obtain ⟨h1, h2, h3, h4, h5, h6, h7⟩ := h
  refine ⟨FkX_I hk.2 (FkX_refl k σ) (Or.inl rfl) _, ?_, ?_, ?_, ?_, x_lawsI (by omega) h5, fun i f hi hf => ?_, fun i hi => h7 i (by have : i < m := hi; omega)⟩
  · unfold sI; rw [hI_rowI_k, up_ne _ _ (by decide)]; exact h1
  · unfold sI; rw [hI_rowI_k, up_ne _ _ (by decide)]; exact h2
  · unfold sI; rw [hI_rowI_k, up_ne _ _ (by decide)]; exact h3
  · unfold sI; rw [hI_rowI_k, up_eq]; rfl
  · unfold sI; rw [hI_rowI_n _ _ (by omega)]; exact h6 i f hi hf
theorem x_setW {σ : Hp} {k l f v : Nat} {A : AbS} (hk : 1 ≤ k ∧ k ≤ 3) (hl : l < 6) (hf : f < 10) (h : StX σ k A) : f_X7_tellValue k (nI l) (nI f) (nI v) σ = some ((), sI σ (k + 6) (10 * l + f) (nI v)) ∧ FkX k σ (sI σ (k + 6) (10 * l + f) (nI v)) ∧ StX (sI σ (k + 6) (10 * l + f) (nI v)) k (setW A l f v) := by
  obtain ⟨h1, h2, h3, h4, h5, h6, h7⟩ := h
  refine ⟨?_, FkX_I hk.2 (FkX_refl k σ) (Or.inr (Or.inl rfl)) _, ?_, ?_, ?_, ?_, x_lawsI (by omega) h5, fun i g hi hg => ?_, h7⟩
  · unfold f_X7_tellValue
    rw [show (10 : Int32) = nI 10 from rfl, nI_mul, nI_add, Nat.mul_comm l 10, if_neg (nI_0le (by omega)), if_neg (by rw [show (60 : Int32) = nI 60 from rfl, nI_leI (by omega) (by omega)]; omega), ck_pos (inb_nI (by omega) (by omega)), nI_clamp (by omega)]
  · unfold sI; rw [hI_rowI_n _ _ (by omega)]; exact h1
  · unfold sI; rw [hI_rowI_n _ _ (by omega)]; exact h2
  · unfold sI; rw [hI_rowI_n _ _ (by omega)]; exact h3
  · unfold sI; rw [hI_rowI_n _ _ (by omega)]; exact h4
  · show hI (sI σ (k + 6) (10 * l + f) (nI v)) (k + 6) (10 * i + g) = nI (upN (aW A) l (upN (aW A l) f v) i g)
    unfold sI
    rw [hI_rowI_k]
    by_cases e : i = l
    · subst e
      rw [upN_eq]
      by_cases e2 : g = f
      · subst e2; rw [upN_eq, up_eq]
      · rw [upN_ne _ _ e2, up_ne _ _ (by omega)]; exact h6 i g hi hg
    · rw [upN_ne _ _ e, up_ne _ _ (by omega)]; exact h6 i g hi hg
theorem m_setW {σ : Hp} {l f v : Nat} {A : AbS} (hl : l < 6) (hf : f < 10) (h : StM σ A) : FwM σ (sI σ 48 (10 * l + f) (nI v)) ∧ StM (sI σ 48 (10 * l + f) (nI v)) (setW A l f v) := by
  obtain ⟨h1, h2, h3, h4, h5, h6, h7⟩ := h
  refine ⟨FwM_I (FwM_refl σ) (by omega) _, h1, h2, h3, h4, h5, fun i g hi hg => ?_, h7⟩
  show hI (sI σ 48 (10 * l + f) (nI v)) 48 (10 * i + g) = nI (upN (aW A) l (upN (aW A l) f v) i g)
  unfold sI
  rw [hI_rowI_k]
  by_cases e : i = l
  · subst e
    rw [upN_eq]
    by_cases e2 : g = f
    · subst e2; rw [upN_eq, up_eq]
    · rw [upN_ne _ _ e2, up_ne _ _ (by omega)]; exact h6 i g hi hg
  · rw [upN_ne _ _ e, up_ne _ _ (by omega)]; exact h6 i g hi hg
theorem m_setB {σ : Hp} {b : Nat} {A : AbS} (h : StM σ A) : FwM σ (sI σ 40 2 (nI b)) ∧ StM (sI σ 40 2 (nI b)) (setB A b) := by
  obtain ⟨h1, h2, h3, h4, h5, h6, h7⟩ := h
  refine ⟨FwM_40 (FwM_refl σ) (Or.inl (by omega)) _, ?_, ?_, ?_, ?_, h5, h6, h7⟩ <;> unfold sI <;> rw [hI_rowI_k]
  · rw [up_ne _ _ (by decide)]; exact h1
  · rw [up_ne _ _ (by decide)]; exact h2
  · rw [up_eq]; rfl
  · rw [up_ne _ _ (by decide)]; exact h4
theorem m_setS {σ : Hp} {s : Int32} {A : AbS} (h : StM σ A) : FwM σ (sI σ 40 3 s) ∧ StM (sI σ 40 3 s) (setS A s) := by
  obtain ⟨h1, h2, h3, h4, h5, h6, h7⟩ := h
  refine ⟨FwM_40 (FwM_refl σ) (Or.inl (by omega)) _, ?_, ?_, ?_, ?_, h5, h6, h7⟩ <;> unfold sI <;> rw [hI_rowI_k]
  · rw [up_ne _ _ (by decide)]; exact h1
  · rw [up_ne _ _ (by decide)]; exact h2
  · rw [up_ne _ _ (by decide)]; exact h3
  · rw [up_eq]; rfl
theorem m_setM {σ : Hp} {m : Nat} {A : AbS} (hm : m ≤ aM A) (h : StM σ A) : FwM σ (sI σ 40 1 (nI m)) ∧ StM (sI σ 40 1 (nI m)) (setM A m) := by
  obtain ⟨h1, h2, h3, h4, h5, h6, h7⟩ := h
  refine ⟨FwM_40 (FwM_refl σ) (Or.inl (by omega)) _, ?_, ?_, ?_, ?_, h5, h6, fun i hi => h7 i (by have : i < m := hi; omega)⟩ <;> unfold sI <;> rw [hI_rowI_k]
  · rw [up_ne _ _ (by decide)]; exact h1
  · rw [up_eq]; rfl
  · rw [up_ne _ _ (by decide)]; exact h3
  · rw [up_ne _ _ (by decide)]; exact h4
theorem hI_addN (σ : Hp) (c : Nat) {i : Nat} (h : ¬ i = 100 + hN σ) : hI (addH σ c) i = hI σ i := by
  show (if i = 100 + hN σ then _ else _) = _
  rw [if_neg h]
/-- a law made anew -/
theorem x_newLaw {σ : Hp} {kd n a : Nat} (hk : kd ≤ 6) (hok : okRefs σ = true) : ∃ τ, f_X7_newLaw (nI kd) (nI n) (nI a) σ = some (hN σ, τ) ∧ τ = sI (sI (addH σ (clK kd)) (100 + hN σ) 0 (nI n)) (100 + hN σ) 1 (nI a) := by
  have hl : ∀ c, (c = 0 ∨ c = 1 ∨ c = 2 ∨ c = 5 ∨ c = 7 ∨ c = 8 ∨ c = 9) → isLaw (addH σ c) (hN σ) = true := by
    intro c hc
    unfold isLaw
    rw [decide_eq_true_iff]
    refine ⟨Nat.lt_succ_self _, ?_⟩
    have : hC (addH σ c) (hN σ) = c := up_eq _ _ _
    rw [this]
    exact hc
  have e2 : ∀ c, (c = 0 ∨ c = 1 ∨ c = 2 ∨ c = 5 ∨ c = 7 ∨ c = 8 ∨ c = 9) → f_X2_init (hN σ) (nI n) (nI a) (addH σ c) = some ((), sI (sI (addH σ c) (100 + hN σ) 0 (nI n)) (100 + hN σ) 1 (nI a)) := by
    intro c hc
    unfold f_X2_init
    rw [ck_pos (hl c hc), ck_pos (show isLaw (sI (addH σ c) (100 + hN σ) 0 (nI n)) (hN σ) = true from hl c hc)]
  refine ⟨_, ?_, rfl⟩
  unfold f_X7_newLaw f_X8_init f_X6_init f_X3_init f_X9_init f_X10_init f_X0_init f_X8_init f_X6_init
  rw [ck_pos hok, ck_pos hok, ck_pos hok, ck_pos hok, ck_pos hok, ck_pos hok, ck_pos hok, e2 7 (by omega), e2 5 (by omega), e2 2 (by omega), e2 8 (by omega), e2 9 (by omega), e2 0 (by omega), e2 1 (by omega)]
  simp only [b2_some]
  rcases kd_cs hk with rfl | rfl | rfl | rfl | rfl | rfl | rfl <;> rfl
theorem okRefs_iff {σ : Hp} : okRefs σ = true ↔ ∀ k i j, k < 3 → i < 6 → hR σ (4 + k) i = some j → j < hN σ := by
  unfold okRefs
  rw [List.all_eq_true]
  constructor
  · intro h k i j hk hi hj
    have h1 := h k (List.mem_range.mpr hk)
    rw [List.all_eq_true] at h1
    have h2 := h1 i (List.mem_range.mpr hi)
    rw [hj] at h2
    exact of_decide_eq_true h2
  · intro h k hk
    rw [List.all_eq_true]
    intro i hi
    cases e : hR σ (4 + k) i with
    | none => rfl
    | some j => exact decide_eq_true (h k i j (List.mem_range.mp hk) (List.mem_range.mp hi) e)
theorem x_addLaw {σ : Hp} {k kd a : Nat} {A : AbS} (hk : 1 ≤ k ∧ k ≤ 3) (hO : okA A) (hn : aN A < 6) (hkd : kd ≤ 6) (hok : okRefs σ = true) (h : StX σ k A) : ∃ τ, f_X7_addLaw k (nI kd) (nI a) σ = some (nI (aN A), τ) ∧ FkX k σ τ ∧ StX τ k (addA A kd a) := by
  obtain ⟨h1, h2, h3, h4, h5, h6, h7⟩ := h
  obtain ⟨υ, e1, e2⟩ := x_newLaw (n := aN A) (a := a) hkd hok
  have hNu : hN υ = hN σ + 1 := by rw [e2]; rfl
  have hCu : ∀ j, j < hN σ → hC υ j = hC σ j := by
    intro j hj
    rw [e2]
    exact up_ne _ _ (by omega)
  have hCn : hC υ (hN σ) = clK kd := by rw [e2]; exact up_eq _ _ _
  have hIu : ∀ i, ¬ i = 100 + hN σ → hI υ i = hI σ i := by
    intro i hi
    rw [e2]
    unfold sI
    rw [hI_rowI_n _ _ hi, hI_rowI_n _ _ hi, hI_addN _ _ hi]
  have hI0 : hI υ (100 + hN σ) 0 = nI (aN A) := by
    rw [e2]; unfold sI; rw [hI_rowI_k, up_ne _ _ (by decide), hI_rowI_k, up_eq]
  have hI1 : hI υ (100 + hN σ) 1 = nI a := by
    rw [e2]; unfold sI; rw [hI_rowI_k, up_eq]
  have hJu : hJ υ = hJ σ := by rw [e2]; rfl
  have hRu : hR υ = hR σ := by rw [e2]; rfl
  have hku : hI υ k = hI σ k := hIu k (by omega)
  have hf : FkX k σ (sI (sR υ (k + 3) (aN A) (some (hN σ))) k 2 (nI (aN A + 1))) := by
    refine ⟨by show hN σ ≤ hN υ; omega, fun j hj => ⟨hCu j hj, ?_⟩, fun i i1 i2 i3 i4 => ?_, fun i _ => by show hJ υ i = _; rw [hJu], fun i i1 i2 => ?_, fun ho => ?_⟩
    · unfold sI; rw [hI_rowI_n _ _ (by omega)]; exact hIu _ (by omega)
    · unfold sI; rw [hI_rowI_n _ _ i2]; exact hIu i (by omega)
    · show hR (rowR υ (k + 3) _) i = _
      rw [hR_rowR, if_neg i1, hRu]
    · refine ⟨?_, fun j hj => ?_⟩
      rotate_left
      · have hj2 : j < hN υ := hj
        by_cases c : j = hN σ
        · subst c
          show isLaw υ (hN σ) = true
          unfold isLaw
          rw [decide_eq_true_iff, hNu, hCn]
          refine ⟨by omega, ?_⟩
          have := clK_in kd
          omega
        · have hl := ho.2 j (by omega)
          show isLaw υ j = true
          unfold isLaw at hl ⊢
          rw [decide_eq_true_iff] at hl ⊢
          rw [hCu j (by omega)]
          exact ⟨by omega, hl.2⟩
      replace ho := ho.1
      rw [okRefs_iff] at ho ⊢
      intro p i j hp hi hj
      have hj2 : (if 4 + p = k + 3 then va_up (hR υ (k + 3)) (aN A) (some (hN σ)) else hR υ (4 + p)) i = some j := hj
      show j < hN υ
      rw [hNu]
      by_cases c : 4 + p = k + 3
      · rw [if_pos c] at hj2
        by_cases c2 : i = aN A
        · subst c2; rw [up_eq] at hj2; cases hj2; omega
        · rw [up_ne _ _ c2, hRu, ← c] at hj2
          have := ho p i j hp hi hj2
          omega
      · rw [if_neg c, hRu] at hj2
        have := ho p i j hp hi hj2
        omega
  refine ⟨sI (sR υ (k + 3) (aN A) (some (hN σ))) k 2 (nI (aN A + 1)), ?_, hf, ?_, ?_, ?_, ?_, fun i hi => ?_, fun i f hi hf2 => ?_, fun i hi => ?_⟩
  · unfold f_X7_addLaw
    rw [h3, if_neg (nI_0le (by omega)), if_pos (by rw [show (6 : Int32) = nI 6 from rfl, nI_ltI (by omega) (by omega)]; exact hn), e1, b2_some, ck_pos (inb_nI (by omega) (by omega)), nI_clamp (by omega)]
    have e4 : okLaw υ (some (hN σ)) = true := by
      show isLaw υ (hN σ) = true
      unfold isLaw
      rw [decide_eq_true_iff, hNu, hCn]
      refine ⟨by omega, ?_⟩
      have := clK_in kd
      omega
    rw [ck_pos e4]
    have e5 : hI (sR υ (k + 3) (aN A) (some (hN σ))) k 2 = nI (aN A) := by
      show hI υ k 2 = _
      rw [hku]; exact h3
    rw [e5, nI_1]
  · unfold sI; rw [hI_rowI_k, up_ne _ _ (by decide)]; show hI υ k 0 = _; rw [hku]; exact h1
  · unfold sI; rw [hI_rowI_k, up_ne _ _ (by decide)]; show hI υ k 1 = _; rw [hku]; exact h2
  · unfold sI; rw [hI_rowI_k, up_eq]; rfl
  · unfold sI; rw [hI_rowI_k, up_ne _ _ (by decide)]; show hI υ k 3 = _; rw [hku]; exact h4
  · have hi2 : i < aN A + 1 := hi
    have er : ∀ i, hR (sI (sR υ (k + 3) (aN A) (some (hN σ))) k 2 (nI (aN A + 1))) (k + 3) i = va_up (hR υ (k + 3)) (aN A) (some (hN σ)) i := by
      intro i
      show (if k + 3 = k + 3 then va_up (hR υ (k + 3)) (aN A) (some (hN σ)) else hR υ (k + 3)) i = _
      rw [if_pos rfl]
    by_cases c : i = aN A
    · subst c
      refine ⟨hN σ, by rw [er, up_eq], ?_, ?_, ?_, ?_⟩
      · show isLaw υ (hN σ) = true
        unfold isLaw
        rw [decide_eq_true_iff, hNu, hCn]
        refine ⟨by omega, ?_⟩
        have := clK_in kd
        omega
      · show hC υ (hN σ) = clK (upN (aK A) (aN A) kd (aN A))
        rw [upN_eq, hCn]
      · unfold sI; rw [hI_rowI_n _ _ (by omega)]; exact hI0
      · unfold sI; rw [hI_rowI_n _ _ (by omega)]; show hI υ _ 1 = nI (upN (aA A) (aN A) a (aN A)); rw [upN_eq]; exact hI1
    · obtain ⟨j, g1, g2, g3, g4, g5⟩ := h5 i (by omega)
      have hj := isLaw_lt g2
      refine ⟨j, by rw [er, up_ne _ _ c, hRu]; exact g1, isLaw_X hf g2, ?_, ?_, ?_⟩
      · show hC υ j = clK (upN (aK A) (aN A) kd i)
        rw [upN_ne _ _ c, hCu j hj]; exact g3
      · unfold sI; rw [hI_rowI_n _ _ (by omega)]; show hI υ _ 0 = _; rw [hIu _ (by omega)]; exact g4
      · unfold sI; rw [hI_rowI_n _ _ (by omega)]; show hI υ _ 1 = nI (upN (aA A) (aN A) a i); rw [upN_ne _ _ c, hIu _ (by omega)]; exact g5
  · unfold sI; rw [hI_rowI_n _ _ (by omega)]; show hI υ (k + 6) _ = _; rw [hIu _ (by omega)]; exact h6 i f hi hf2
  · show hJ υ (k + 9) i = _
    rw [hJu]; exact h7 i hi
theorem m_addL {σ : Hp} {n : Nat} (hn : n < 6) (h0 : hI σ 40 0 = nI n) : ∀ (k i fu : Nat) (τ : Hp), i + k = 10 → k < fu → FwM σ τ → hI τ 40 = hI σ 40 → hI τ 46 = hI σ 46 → hI τ 47 = hI σ 47 → hJ τ = hJ σ → (∀ q, ¬ (10 * n ≤ q ∧ q < 10 * n + i) → hI τ 48 q = hI σ 48 q) → (∀ q, q < i → hI τ 48 (10 * n + q) = 0) → ∃ υ, iter f_X12_adds_s22 fu (nI i, τ) = some (nI n, sI υ 40 0 (nI (n + 1))) ∧ FwM σ υ ∧ hI υ 40 = hI σ 40 ∧ hI υ 46 = hI σ 46 ∧ hI υ 47 = hI σ 47 ∧ hJ υ = hJ σ ∧ (∀ q, ¬ (10 * n ≤ q ∧ q < 10 * n + 10) → hI υ 48 q = hI σ 48 q) ∧ ∀ q, q < 10 → hI υ 48 (10 * n + q) = 0
  | k, i, 0, τ, _, hf, _, _, _, _, _, _, _ => by omega
  | 0, i, fu + 1, τ, hi, hf, w1, w2, w3, w4, w5, w6, w7 => by
    have hi10 : i = 10 := by omega
    subst hi10
    refine ⟨τ, iter_inr ?_, w1, w2, w3, w4, w5, w6, w7⟩
    unfold f_X12_adds_s22 f_X12_adds_t22
    simp only
    rw [if_pos (by decide), w2, h0, nI_1]
    rfl
  | k + 1, i, fu + 1, τ, hi, hf, w1, w2, w3, w4, w5, w6, w7 => by
    have hst : f_X12_adds_s22 (nI i, τ) = some (.inl (nI (i + 1), sI τ 48 (10 * n + i) 0)) := by
      unfold f_X12_adds_s22 f_X12_adds_t22
      simp only
      rw [if_neg (by rw [show (10 : Int32) = nI 10 from rfl, nI_leI (by omega) (by omega)]; omega), w2, h0, show (10 : Int32) = nI 10 from rfl, nI_mul, nI_add, ck_pos (inb_nI (by omega) (by omega)), nI_clamp (by omega), nI_1]
    rw [iter_inl hst]
    refine m_addL hn h0 k (i + 1) fu (sI τ 48 (10 * n + i) 0) (by omega) (by omega) (FwM_I w1 (by omega) _) ?_ ?_ ?_ w5 (fun q hq => ?_) (fun q hq => ?_)
    · unfold sI; rw [hI_rowI_n _ _ (by decide)]; exact w2
    · unfold sI; rw [hI_rowI_n _ _ (by decide)]; exact w3
    · unfold sI; rw [hI_rowI_n _ _ (by decide)]; exact w4
    · unfold sI; rw [hI_rowI_k, up_ne _ _ (by omega)]; exact w6 q (by omega)
    · unfold sI; rw [hI_rowI_k]
      by_cases e : q = i
      · subst e; rw [up_eq]
      · rw [up_ne _ _ (by omega)]; exact w7 q (by omega)
theorem m_adds {σ : Hp} {kd a : Nat} {A : AbS} (hO : okA A) (hn : aN A < 6) (h : StM σ A) : ∃ τ, f_X12_adds (nI kd) (nI a) σ = some (nI (aN A), τ) ∧ FwM σ τ ∧ StM τ (addA A kd a) := by
  obtain ⟨h1, h2, h3, h4, h5, h6, h7⟩ := h
  have f0 : FwM σ (sI (sI σ 46 (aN A) (nI kd)) 47 (aN A) (nI a)) := FwM_I (FwM_I (FwM_refl σ) (by omega) _) (by omega) _
  obtain ⟨υ, e1, e2, e3, e4, e5, e6, e7, e8⟩ := m_addL (σ := sI (sI σ 46 (aN A) (nI kd)) 47 (aN A) (nI a)) hn h1 10 0 fuel _ (by omega) (by unfold fuel; omega) (FwM_refl _) rfl rfl rfl rfl (fun q _ => rfl) (fun q hq => by omega)
  have e46 : hI υ 46 = va_up (hI σ 46) (aN A) (nI kd) := by rw [e4]; unfold sI; rw [hI_rowI_n _ _ (by decide), hI_rowI_k]
  have e47 : hI υ 47 = va_up (hI σ 47) (aN A) (nI a) := by rw [e5]; unfold sI; rw [hI_rowI_k, hI_rowI_n _ _ (by decide)]
  have e40 : hI υ 40 = hI σ 40 := e3
  refine ⟨sI υ 40 0 (nI (aN A + 1)), ?_, FwM_40 (FwM_trans f0 e2) (Or.inl (by omega)) _, ?_, ?_, ?_, ?_, fun i hi => ?_, fun i f hi hf => ?_, fun i hi => ?_⟩
  · unfold f_X12_adds
    have e9 : hI (sI σ 46 (aN A) (nI kd)) 40 0 = nI (aN A) := h1
    rw [h1, ck_pos (inb_nI (by omega) (by omega)), nI_clamp (by omega), e9, ck_pos (inb_nI (by omega) (by omega)), nI_clamp (by omega)]
    exact e1
  · unfold sI; rw [hI_rowI_k, up_eq]; rfl
  · unfold sI; rw [hI_rowI_k, up_ne _ _ (by decide), e40]; exact h2
  · unfold sI; rw [hI_rowI_k, up_ne _ _ (by decide), e40]; exact h3
  · unfold sI; rw [hI_rowI_k, up_ne _ _ (by decide), e40]; exact h4
  · have hi2 : i < aN A + 1 := hi
    unfold sI
    rw [hI_rowI_n _ _ (by decide), hI_rowI_n _ _ (by decide), e46, e47]
    show _ = nI (upN (aK A) (aN A) kd i) ∧ _ = nI (upN (aA A) (aN A) a i)
    by_cases c : i = aN A
    · subst c; rw [up_eq, up_eq, upN_eq, upN_eq]; exact ⟨rfl, rfl⟩
    · rw [up_ne _ _ c, up_ne _ _ c, upN_ne _ _ c, upN_ne _ _ c]; exact h5 i (by omega)
  · have hi2 : i < aN A + 1 := hi
    unfold sI
    rw [hI_rowI_n _ _ (by decide)]
    show _ = nI (aW A i f)
    by_cases c : i = aN A
    · subst c
      rw [e8 f hf, hO.2.2.2.2.2.2.2.1 _ f (Nat.le_refl _)]
      rfl
    · rw [e7 _ (by omega)]
      show hI σ 48 _ = _
      exact h6 i f (by omega) hf
  · show hJ υ 49 i = _
    rw [e6]
    exact h7 i hi
