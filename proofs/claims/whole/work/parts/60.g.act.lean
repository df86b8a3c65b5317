/-! row: act, the bodies that run -/
def trX (R : Nat → Int32) (L : List Int32) : Prop := R 0 = nI L.length ∧ ∀ i, i < L.length → R (i + 1) = L.getD i 0
theorem trX_s {R : Nat → Int32} {L : List Int32} {v : Int32} (h : trX R L) : trX (va_up (va_up R 0 (nI (L.length + 1))) (L.length + 1) v) (L ++ [v]) := by
  refine ⟨?_, fun i hi => ?_⟩
  · rw [up_ne _ _ (by omega), up_eq, List.length_append]; rfl
  · rw [List.length_append] at hi
    by_cases e : i = L.length
    · subst e
      rw [up_eq, List.getD_eq_getElem?_getD, List.getElem?_append_right (Nat.le_refl _)]
      simp
    · rw [up_ne _ _ (by omega), up_ne _ _ (by omega), h.2 i (by simp at hi; omega), List.getD_eq_getElem?_getD, List.getD_eq_getElem?_getD, List.getElem?_append_left (by simp at hi; omega)]
/-- one more body is noted -/
theorem x_note {β : Type} {σ : Hp} {L : List Int32} {v : Int32} {K : Hp → Option β} (h : trX (hI σ 32) L) (hl : L.length < 20) : (ck (inb (0 : Int32) (ln 32) = true) (if (Int32.ofNat (ln 32)) ≤ ((hI σ 32 (0 : Int32).toNatClampNeg) + (1 : Int32)) then K (sI σ 32 (0 : Int32).toNatClampNeg ((hI σ 32 (0 : Int32).toNatClampNeg) + (1 : Int32))) else ck (inb (hI (sI σ 32 (0 : Int32).toNatClampNeg ((hI σ 32 (0 : Int32).toNatClampNeg) + (1 : Int32))) 32 (0 : Int32).toNatClampNeg) (ln 32) = true) (K (sI (sI σ 32 (0 : Int32).toNatClampNeg ((hI σ 32 (0 : Int32).toNatClampNeg) + (1 : Int32))) 32 (hI (sI σ 32 (0 : Int32).toNatClampNeg ((hI σ 32 (0 : Int32).toNatClampNeg) + (1 : Int32))) 32 (0 : Int32).toNatClampNeg).toNatClampNeg v)))) = K (rowI σ 32 (va_up (va_up (hI σ 32) 0 (nI (L.length + 1))) (L.length + 1) v)) := by
  have e1 : (0 : Int32).toNatClampNeg = 0 := rfl
  have e2 : hI (sI σ 32 0 (nI (L.length + 1))) 32 0 = nI (L.length + 1) := by unfold sI; rw [hI_rowI_k, up_eq]
  rw [ck_pos (by decide), e1, h.1, nI_1, if_neg (by rw [show Int32.ofNat (ln 32) = nI 21 from rfl, nI_leI (by omega) (by omega)]; omega), e2, ck_pos (inb_nI (by show _ < 21; omega) (by decide)), nI_clamp (by omega)]
  unfold sI
  rw [hI_rowI_k, rowI_rowI]
def tnL (kd : Nat) : List Int32 := if kd = 6 then [70, 10] else if kd = 4 then [51, 10] else if kd = 1 ∨ kd = 3 then [20, 10] else [10]
def tnV (kd l a : Nat) (x : Int32) : Int32 := if kd = 1 ∨ kd = 3 then x + nI l + nI a else if kd = 4 then x + nI l - nI l else if kd = 6 then (x + nI l) * 2 else x + nI l
def adL (kd : Nat) : List Int32 := (if kd = 6 then [71, 30, 11] else if kd = 3 then [40, 11] else if kd = 2 ∨ kd = 5 then [30, 11] else [11]) ++ tnL kd
def adV (kd l a : Nat) (x : Int32) : Int32 := if kd = 6 then tnV kd l a (x - nI a) * 2 * 3 else if kd = 3 then tnV kd l a (x + 1) * 2 else if kd = 2 ∨ kd = 5 then tnV kd l a x * 2 * 3 else tnV kd l a x * 2
def rdA (kd : Nat) : List Int32 := (if kd = 4 then [50, 12] else if kd = 5 then [60, 12] else [12]) ++ adL kd ++ tnL kd
def rdV (kd l a : Nat) (x : Int32) : Int32 := if kd = 4 then -(adV kd l a x ^^^ tnV kd l a (x - nI a)) else if kd = 5 then (adV kd l a x ^^^ tnV kd l a (x - nI a)) ^^^ 5 else adV kd l a x ^^^ tnV kd l a (x - nI a)
/-- what of a law the bodies look at -/
def lwA (σ : Hp) (j kd l a : Nat) : Prop := isLaw σ j = true ∧ hC σ j = clK kd ∧ hI σ (100 + j) 0 = nI l ∧ hI σ (100 + j) 1 = nI a
theorem lwA_r {σ : Hp} {j kd l a : Nat} {R : Nat → Int32} (h : lwA σ j kd l a) : lwA (rowI σ 32 R) j kd l a := by
  obtain ⟨h1, h2, h3, h4⟩ := h
  exact ⟨h1, h2, by rw [hI_rowI_n _ _ (by omega)]; exact h3, by rw [hI_rowI_n _ _ (by omega)]; exact h4⟩
def axR {β : Type} (o : Option (β × Hp)) (v : β) (σ : Hp) (L : List Int32) : Prop := ∃ R, o = some (v, rowI σ 32 R) ∧ trX R L
theorem x_t2 {σ : Hp} {j kd l a : Nat} {x : Int32} {L : List Int32} (h : lwA σ j kd l a) (ht : trX (hI σ 32) L) (hl : L.length < 20) : axR (f_X2_turns j x 32 σ) (x + nI l) σ (L ++ [10]) := by
  refine ⟨_, ?_, trX_s ht⟩
  unfold f_X2_turns
  rw [x_note (K := fun s => f_X2_turns_b20 j x s) ht hl]
  have h2 := lwA_r (R := va_up (va_up (hI σ 32) 0 (nI (L.length + 1))) (L.length + 1) 10) h
  unfold f_X2_turns_b20
  rw [ck_pos h2.1, h2.2.2.1]
theorem axR_len {β : Type} {o : Option (β × Hp)} {v : β} {σ : Hp} {L : List Int32} (h : axR o v σ L) : True := trivial
theorem x_turns {σ : Hp} {j kd l a : Nat} {x : Int32} {L : List Int32} (h : lwA σ j kd l a) (hk : kd ≤ 6) (ht : trX (hI σ 32) L) (hl : L.length < 18) : axR (v_turns j x 32 σ) (tnV kd l a x) σ (L ++ tnL kd) := by
  have hn : ∀ v : Int32, (L ++ [v]).length < 20 := fun v => by rw [List.length_append]; simp; omega
  have e8 : axR (f_X8_turns j x 32 σ) (x + nI l + nI a) σ (L ++ [20, 10]) := by
    have h2 := lwA_r (R := va_up (va_up (hI σ 32) 0 (nI (L.length + 1))) (L.length + 1) 20) h
    obtain ⟨R, g1, g2⟩ := x_t2 (x := x) h2 (by rw [hI_rowI_k]; exact trX_s ht) (hn 20)
    refine ⟨R, ?_, by rw [List.append_assoc] at g2; exact g2⟩
    unfold f_X8_turns
    rw [x_note (K := fun s => f_X8_turns_b20 j x 32 s) ht (by omega)]
    unfold f_X8_turns_b20
    have h3 := lwA_r (R := R) h
    rw [ck_pos h2.1, g1, b2_some, rowI_rowI, ck_pos h3.1, h3.2.2.2]
  have e9 : axR (f_X9_turns j x 32 σ) (x + nI l - nI l) σ (L ++ [51, 10]) := by
    have h2 := lwA_r (R := va_up (va_up (hI σ 32) 0 (nI (L.length + 1))) (L.length + 1) 51) h
    obtain ⟨R, g1, g2⟩ := x_t2 (x := x) h2 (by rw [hI_rowI_k]; exact trX_s ht) (hn 51)
    refine ⟨R, ?_, by rw [List.append_assoc] at g2; exact g2⟩
    unfold f_X9_turns
    rw [x_note (K := fun s => f_X9_turns_b20 j x 32 s) ht (by omega)]
    unfold f_X9_turns_b20
    have h3 := lwA_r (R := R) h
    rw [ck_pos h2.1, g1, b2_some, rowI_rowI, ck_pos h3.1, h3.2.2.1]
  have e0 : axR (f_X0_turns j x 32 σ) ((x + nI l) * 2) σ (L ++ [70, 10]) := by
    have h2 := lwA_r (R := va_up (va_up (hI σ 32) 0 (nI (L.length + 1))) (L.length + 1) 70) h
    obtain ⟨R, g1, g2⟩ := x_t2 (x := x) h2 (by rw [hI_rowI_k]; exact trX_s ht) (hn 70)
    refine ⟨R, ?_, by rw [List.append_assoc] at g2; exact g2⟩
    unfold f_X0_turns
    rw [x_note (K := fun s => f_X0_turns_b20 j x 32 s) ht (by omega)]
    unfold f_X0_turns_b20
    rw [ck_pos h2.1, g1, b2_some, rowI_rowI]
  have e2 := x_t2 (x := x) h ht (by omega)
  unfold v_turns
  rw [h.2.1]
  rcases kd_cs hk with rfl | rfl | rfl | rfl | rfl | rfl | rfl
  · exact e2
  · exact e8
  · exact e2
  · exact e8
  · exact e9
  · exact e2
  · exact e0
theorem axR_st {σ : Hp} {R : Nat → Int32} {β : Type} {o : Option (β × Hp)} {v : β} {L : List Int32} (h : axR o v (rowI σ 32 R) L) : axR o v σ L := by
  obtain ⟨R2, g1, g2⟩ := h
  exact ⟨R2, by rw [g1, rowI_rowI], g2⟩
theorem tnL_len (kd : Nat) : (tnL kd).length ≤ 2 := by
  unfold tnL
  split
  · decide
  · split
    · decide
    · split <;> decide
theorem x_a2 {σ : Hp} {j kd l a : Nat} {x : Int32} {L : List Int32} (h : lwA σ j kd l a) (hk : kd ≤ 6) (ht : trX (hI σ 32) L) (hl : L.length < 17) : axR (f_X2_adds j x 32 σ) (tnV kd l a x * 2) σ (L ++ ([11] ++ tnL kd)) := by
  have h2 := lwA_r (R := va_up (va_up (hI σ 32) 0 (nI (L.length + 1))) (L.length + 1) 11) h
  obtain ⟨R, g1, g2⟩ := x_turns (x := x) h2 hk (by rw [hI_rowI_k]; exact trX_s ht) (by rw [List.length_append]; simp; omega)
  refine ⟨R, ?_, by rw [List.append_assoc] at g2; exact g2⟩
  unfold f_X2_adds
  rw [x_note (K := fun s => f_X2_adds_b20 j x 32 s) ht (by omega)]
  unfold f_X2_adds_b20
  rw [ck_pos h2.1, g1, b2_some, rowI_rowI]
theorem x_a6 {σ : Hp} {j kd l a : Nat} {x : Int32} {L : List Int32} (h : lwA σ j kd l a) (hk : kd ≤ 6) (ht : trX (hI σ 32) L) (hl : L.length < 16) : axR (f_X6_adds j x 32 σ) (tnV kd l a x * 2 * 3) σ (L ++ ([30, 11] ++ tnL kd)) := by
  have h2 := lwA_r (R := va_up (va_up (hI σ 32) 0 (nI (L.length + 1))) (L.length + 1) 30) h
  obtain ⟨R, g1, g2⟩ := x_a2 (x := x) h2 hk (by rw [hI_rowI_k]; exact trX_s ht) (by rw [List.length_append]; simp; omega)
  refine ⟨R, ?_, by rw [List.append_assoc] at g2; exact g2⟩
  unfold f_X6_adds
  rw [x_note (K := fun s => f_X6_adds_b20 j x 32 s) ht (by omega)]
  unfold f_X6_adds_b20
  rw [ck_pos h2.1, g1, b2_some, rowI_rowI]
theorem x_adds {σ : Hp} {j kd l a : Nat} {x : Int32} {L : List Int32} (h : lwA σ j kd l a) (hk : kd ≤ 6) (ht : trX (hI σ 32) L) (hl : L.length < 15) : axR (v_adds j x 32 σ) (adV kd l a x) σ (L ++ adL kd) := by
  have e3 : axR (f_X3_adds j x 32 σ) (tnV kd l a (x + 1) * 2) σ (L ++ ([40, 11] ++ tnL kd)) := by
    have h2 := lwA_r (R := va_up (va_up (hI σ 32) 0 (nI (L.length + 1))) (L.length + 1) 40) h
    obtain ⟨R, g1, g2⟩ := x_a2 (x := x + 1) h2 hk (by rw [hI_rowI_k]; exact trX_s ht) (by rw [List.length_append]; simp; omega)
    refine ⟨R, ?_, by rw [List.append_assoc] at g2; exact g2⟩
    unfold f_X3_adds
    rw [x_note (K := fun s => f_X3_adds_b20 j x 32 s) ht (by omega)]
    unfold f_X3_adds_b20
    rw [ck_pos h2.1, g1, b2_some, rowI_rowI]
  have e0 : axR (f_X0_adds j x 32 σ) (tnV kd l a (x - nI a) * 2 * 3) σ (L ++ ([71, 30, 11] ++ tnL kd)) := by
    have h2 := lwA_r (R := va_up (va_up (hI σ 32) 0 (nI (L.length + 1))) (L.length + 1) 71) h
    obtain ⟨R, g1, g2⟩ := x_a6 (x := x - nI a) h2 hk (by rw [hI_rowI_k]; exact trX_s ht) (by rw [List.length_append]; simp; omega)
    refine ⟨R, ?_, by rw [List.append_assoc] at g2; exact g2⟩
    unfold f_X0_adds
    rw [x_note (K := fun s => f_X0_adds_b20 j x 32 s) ht (by omega)]
    unfold f_X0_adds_b20
    rw [ck_pos h2.1, ck_pos h2.1, h2.2.2.2, g1, b2_some, rowI_rowI]
  have e2 := x_a2 (x := x) h hk ht (by omega)
  have e6 := x_a6 (x := x) h hk ht (by omega)
  unfold v_adds
  rw [h.2.1]
  rcases kd_cs hk with rfl | rfl | rfl | rfl | rfl | rfl | rfl
  · exact e2
  · exact e2
  · exact e6
  · exact e3
  · exact e2
  · exact e6
  · exact e0
theorem adL_len (kd : Nat) : (adL kd).length ≤ 5 := by
  unfold adL
  have := tnL_len kd
  rw [List.length_append]
  split
  · simp; omega
  · split
    · simp; omega
    · split <;> (simp; omega)
theorem x_rd2 {σ : Hp} {j kd l a : Nat} {x : Int32} {L : List Int32} (h : lwA σ j kd l a) (hk : kd ≤ 6) (ht : trX (hI σ 32) L) (hl : L.length < 4) : axR (f_X2_reads j x 32 σ) (adV kd l a x ^^^ tnV kd l a (x - nI a)) σ (L ++ ([12] ++ adL kd ++ tnL kd)) := by
  have h2 := lwA_r (R := va_up (va_up (hI σ 32) 0 (nI (L.length + 1))) (L.length + 1) 12) h
  obtain ⟨R, g1, g2⟩ := x_adds (x := x) h2 hk (by rw [hI_rowI_k]; exact trX_s ht) (by rw [List.length_append]; simp; omega)
  rw [rowI_rowI] at g1
  have h3 := lwA_r (R := R) h
  obtain ⟨R2, q1, q2⟩ := x_turns (x := x - nI a) h3 hk (by rw [hI_rowI_k]; exact g2) (by have := adL_len kd; rw [List.length_append, List.length_append]; simp; omega)
  refine ⟨R2, ?_, by rw [List.append_assoc, List.append_assoc] at q2; rw [List.append_assoc]; exact q2⟩
  unfold f_X2_reads
  rw [x_note (K := fun s => f_X2_reads_b20 j x 32 s) ht (by omega)]
  unfold f_X2_reads_b20
  rw [ck_pos h2.1, g1, b2_some, ck_pos h3.1, ck_pos h3.1, h3.2.2.2, q1, b2_some, rowI_rowI]
theorem x_reads {σ : Hp} {j kd l a : Nat} {x : Int32} {L : List Int32} (h : lwA σ j kd l a) (hk : kd ≤ 6) (ht : trX (hI σ 32) L) (hl : L.length < 3) : axR (v_reads j x 32 σ) (rdV kd l a x) σ (L ++ rdA kd) := by
  have e9 : axR (f_X9_reads j x 32 σ) (-(adV kd l a x ^^^ tnV kd l a (x - nI a))) σ (L ++ ([50, 12] ++ adL kd ++ tnL kd)) := by
    have h2 := lwA_r (R := va_up (va_up (hI σ 32) 0 (nI (L.length + 1))) (L.length + 1) 50) h
    obtain ⟨R, g1, g2⟩ := x_rd2 (x := x) h2 hk (by rw [hI_rowI_k]; exact trX_s ht) (by rw [List.length_append]; simp; omega)
    refine ⟨R, ?_, by rw [List.append_assoc] at g2; exact g2⟩
    unfold f_X9_reads
    rw [x_note (K := fun s => f_X9_reads_b20 j x 32 s) ht (by omega)]
    unfold f_X9_reads_b20
    rw [ck_pos h2.1, g1, b2_some, rowI_rowI]
  have e10 : axR (f_X10_reads j x 32 σ) ((adV kd l a x ^^^ tnV kd l a (x - nI a)) ^^^ 5) σ (L ++ ([60, 12] ++ adL kd ++ tnL kd)) := by
    have h2 := lwA_r (R := va_up (va_up (hI σ 32) 0 (nI (L.length + 1))) (L.length + 1) 60) h
    obtain ⟨R, g1, g2⟩ := x_rd2 (x := x) h2 hk (by rw [hI_rowI_k]; exact trX_s ht) (by rw [List.length_append]; simp; omega)
    refine ⟨R, ?_, by rw [List.append_assoc] at g2; exact g2⟩
    unfold f_X10_reads
    rw [x_note (K := fun s => f_X10_reads_b20 j x 32 s) ht (by omega)]
    unfold f_X10_reads_b20
    rw [ck_pos h2.1, g1, b2_some, rowI_rowI]
  have e2 := x_rd2 (x := x) h hk ht (by omega)
  unfold v_reads
  rw [h.2.1]
  rcases kd_cs hk with rfl | rfl | rfl | rfl | rfl | rfl | rfl
  · exact e2
  · exact e2
  · exact e2
  · exact e2
  · exact e9
  · exact e10
  · exact e2
/-! the reference's -/
def trM (σ : Hp) (L : List Int32) : Prop := hI σ 40 36 = nI L.length ∧ ∀ i, i < L.length → hI σ 75 i = L.getD i 0
def AcM (σ τ : Hp) : Prop := ∃ (R : Nat → Int32) (c : Int32), τ = rowI (rowI σ 75 R) 40 (va_up (hI σ 40) 36 c)
theorem va_up2 {α : Type} (f : Nat → α) (i : Nat) (a b : α) : va_up (va_up f i a) i b = va_up f i b := by
  funext j
  by_cases e : j = i
  · subst e; rw [up_eq, up_eq]
  · rw [up_ne _ _ e, up_ne _ _ e, up_ne _ _ e]
theorem va_self {α : Type} (f : Nat → α) (i : Nat) : va_up f i (f i) = f := by
  funext j
  by_cases e : j = i
  · subst e; rw [up_eq]
  · rw [up_ne _ _ e]
theorem rowI_sw (σ : Hp) {k k2 : Nat} (h : ¬ k = k2) (f g : Nat → Int32) : rowI (rowI σ k f) k2 g = rowI (rowI σ k2 g) k f := by
  unfold rowI
  simp only [hI, hJ, hR, hC, hN]
  congr 1
  funext j
  by_cases h1 : j = k
  · by_cases h2 : j = k2
    · omega
    · simp [h1, h]
  · by_cases h2 : j = k2
    · simp [h2, Ne.symm h]
    · simp [h1, h2]
theorem AcM_t {σ τ υ : Hp} (h1 : AcM σ τ) (h2 : AcM τ υ) : AcM σ υ := by
  obtain ⟨R, c, rfl⟩ := h1
  obtain ⟨R2, c2, rfl⟩ := h2
  refine ⟨R2, c2, ?_⟩
  rw [rowI_sw _ (show ¬ 40 = 75 by decide), rowI_rowI, rowI_rowI, hI_rowI_k, va_up2]
theorem m_body {σ : Hp} {L : List Int32} {v : Int32} (h : trM σ L) (hl : L.length < 20) : ∃ τ, f_X12_body v σ = some ((), τ) ∧ AcM σ τ ∧ trM τ (L ++ [v]) := by
  refine ⟨rowI (rowI σ 75 (va_up (hI σ 75) L.length v)) 40 (va_up (hI σ 40) 36 (nI (L.length + 1))), ?_, ⟨_, _, rfl⟩, ?_, fun i hi => ?_⟩
  · unfold f_X12_body f_X12_body_b19
    rw [h.1, if_neg (by rw [show (20 : Int32) = nI 20 from rfl, nI_leI (by omega) (by omega)]; omega), ck_pos (inb_nI (by omega) (by omega)), nI_clamp (by omega)]
    unfold sI
    rw [hI_rowI_n _ _ (show ¬ 40 = 75 by decide), h.1, nI_1]
  · rw [hI_rowI_k, up_eq, List.length_append]; rfl
  · rw [hI_rowI_n _ _ (by decide), hI_rowI_k]
    rw [List.length_append] at hi
    by_cases e : i = L.length
    · subst e
      rw [up_eq, List.getD_eq_getElem?_getD, List.getElem?_append_right (Nat.le_refl _)]
      simp
    · rw [up_ne _ _ e, h.2 i (by simp at hi; omega), List.getD_eq_getElem?_getD, List.getD_eq_getElem?_getD, List.getElem?_append_left (by simp at hi; omega)]
def lmA (σ : Hp) (l kd a : Nat) : Prop := hI σ 46 l = nI kd ∧ hI σ 47 l = nI a ∧ l < 6
theorem lmA_A {σ τ : Hp} {l kd a : Nat} (hc : AcM σ τ) (h : lmA σ l kd a) : lmA τ l kd a := by
  obtain ⟨R, c, rfl⟩ := hc
  exact h
def amR {β : Type} (o : Option (β × Hp)) (v : β) (σ : Hp) (L : List Int32) : Prop := ∃ τ, o = some (v, τ) ∧ AcM σ τ ∧ trM τ L
theorem m_b46 {σ : Hp} {l kd a : Nat} {x : Int32} {L : List Int32} (h : lmA σ l kd a) (hk : kd ≤ 6) (ht : trM σ L) (hl : L.length < 20) : amR (f_X12_turning_b46 (nI l) x (nI kd) σ) (tnV kd l a x) σ (L ++ [10]) := by
  obtain ⟨τ, e1, e2, e3⟩ := m_body (v := 10) ht hl
  have h2 := lmA_A e2 h
  refine ⟨τ, ?_, e2, e3⟩
  unfold f_X12_turning_b46 f_X12_turning_b67 f_X12_turning_b78 f_X12_turning_b89
  rw [e1, b2_some]
  rcases kd_cs hk with rfl | rfl | rfl | rfl | rfl | rfl | rfl
  · rfl
  · rw [if_pos (by decide), ck_pos (inb_nI h.2.2 (by omega)), nI_clamp (by have := h.2.2; omega), h2.2.1]; rfl
  · rfl
  · rw [if_neg (by decide), if_pos (by decide), ck_pos (inb_nI h.2.2 (by omega)), nI_clamp (by have := h.2.2; omega), h2.2.1]; rfl
  · rfl
  · rfl
  · rfl
theorem m_turning {σ : Hp} {l kd a : Nat} {x : Int32} {L : List Int32} (h : lmA σ l kd a) (hk : kd ≤ 6) (ht : trM σ L) (hl : L.length < 18) : amR (f_X12_turning (nI l) x σ) (tnV kd l a x) σ (L ++ tnL kd) := by
  have hn : ∀ v : Int32, (L ++ [v]).length < 20 := fun v => by rw [List.length_append]; simp; omega
  have e0 := m_b46 (x := x) h hk ht (by omega)
  have e1 : ∀ v : Int32, amR (b2 (f_X12_body v σ) (fun r_5 s_6 => f_X12_turning_b46 (nI l) x (nI kd) s_6)) (tnV kd l a x) σ (L ++ [v, 10]) := by
    intro v
    obtain ⟨τ, g1, g2, g3⟩ := m_body (v := v) ht (by omega)
    obtain ⟨υ, q1, q2, q3⟩ := m_b46 (x := x) (lmA_A g2 h) hk g3 (hn v)
    exact ⟨υ, by rw [g1, b2_some, q1], AcM_t g2 q2, by rw [List.append_assoc] at q3; exact q3⟩
  unfold f_X12_turning
  rw [ck_pos (inb_nI h.2.2 (by omega)), nI_clamp (by have := h.2.2; omega), h.1]
  unfold f_X12_turning_b19 f_X12_turning_b30 f_X12_turning_b40
  rcases kd_cs hk with rfl | rfl | rfl | rfl | rfl | rfl | rfl
  · exact e0
  · exact e1 20
  · exact e0
  · exact e1 20
  · exact e1 51
  · exact e0
  · exact e1 70
theorem m_b82 {σ : Hp} {l kd a : Nat} {x q : Int32} {L : List Int32} (h : lmA σ l kd a) (hk : kd ≤ 6) (ht : trM σ L) (hl : L.length < 17) : amR (f_X12_adding_b82 (nI l) x q σ) (if q = 0 then tnV kd l a x * 2 else tnV kd l a x * 2 * 3) σ (L ++ ([11] ++ tnL kd)) := by
  obtain ⟨τ, g1, g2, g3⟩ := m_body (v := 11) ht (by omega)
  obtain ⟨υ, q1, q2, q3⟩ := m_turning (x := x) (lmA_A g2 h) hk g3 (by rw [List.length_append]; simp; omega)
  refine ⟨υ, ?_, AcM_t g2 q2, by rw [List.append_assoc] at q3; exact q3⟩
  unfold f_X12_adding_b82
  rw [g1, b2_some, q1, b2_some]
  by_cases c : q = 0
  · rw [if_pos c, if_pos c]
  · rw [if_neg c, if_neg c]
theorem m_b64 {σ : Hp} {l kd a : Nat} {x : Int32} {L : List Int32} (h : lmA σ l kd a) (hk : kd ≤ 6) (ht : trM σ L) (hl : L.length < 16) : amR (f_X12_adding_b64 (nI l) x σ) (tnV kd l a x * 2 * 3) σ (L ++ ([30, 11] ++ tnL kd)) := by
  obtain ⟨τ, g1, g2, g3⟩ := m_body (v := 30) ht (by omega)
  obtain ⟨υ, q1, q2, q3⟩ := m_b82 (x := x) (q := 1) (lmA_A g2 h) hk g3 (by rw [List.length_append]; simp; omega)
  refine ⟨υ, ?_, AcM_t g2 q2, by rw [List.append_assoc] at q3; exact q3⟩
  unfold f_X12_adding_b64 f_X12_adding_b69
  rw [if_neg (by decide), g1, b2_some, q1, if_neg (by decide)]
theorem m_adding {σ : Hp} {l kd a : Nat} {x : Int32} {L : List Int32} (h : lmA σ l kd a) (hk : kd ≤ 6) (ht : trM σ L) (hl : L.length < 15) : amR (f_X12_adding (nI l) x σ) (adV kd l a x) σ (L ++ adL kd) := by
  have e0 : amR (f_X12_adding_b69 (nI l) x 0 σ) (tnV kd l a x * 2) σ (L ++ ([11] ++ tnL kd)) := by
    have := m_b82 (x := x) (q := 0) h hk ht (by omega)
    unfold f_X12_adding_b69
    rw [if_pos rfl]
    rw [if_pos rfl] at this
    exact this
  have e1 := m_b64 (x := x) h hk ht (by omega)
  have e3 : amR (b2 (f_X12_body (40 : Int32) σ) (fun r_18 s_19 => f_X12_adding_b69 (nI l) (x + 1) 0 s_19)) (tnV kd l a (x + 1) * 2) σ (L ++ ([40, 11] ++ tnL kd)) := by
    obtain ⟨τ, g1, g2, g3⟩ := m_body (v := 40) ht (by omega)
    obtain ⟨υ, q1, q2, q3⟩ := m_b82 (x := x + 1) (q := 0) (lmA_A g2 h) hk g3 (by rw [List.length_append]; simp; omega)
    refine ⟨υ, ?_, AcM_t g2 q2, by rw [List.append_assoc] at q3; exact q3⟩
    unfold f_X12_adding_b69
    rw [g1, b2_some, if_pos rfl, q1, if_pos rfl]
  have e6 : amR (b2 (f_X12_body (71 : Int32) σ) (fun r_21 s_22 => f_X12_adding_b64 (nI l) (x - (hI s_22 47 (nI l).toNatClampNeg)) s_22)) (tnV kd l a (x - nI a) * 2 * 3) σ (L ++ ([71, 30, 11] ++ tnL kd)) := by
    obtain ⟨τ, g1, g2, g3⟩ := m_body (v := 71) ht (by omega)
    have h2 := lmA_A g2 h
    obtain ⟨υ, q1, q2, q3⟩ := m_b64 (x := x - nI a) h2 hk g3 (by rw [List.length_append]; simp; omega)
    refine ⟨υ, ?_, AcM_t g2 q2, by rw [List.append_assoc] at q3; exact q3⟩
    rw [g1, b2_some, nI_clamp (by have := h.2.2; omega), h2.2.1, q1]
  unfold f_X12_adding
  rw [ck_pos (inb_nI h.2.2 (by omega)), nI_clamp (by have := h.2.2; omega), h.1]
  rw [nI_clamp (by have := h.2.2; omega)] at e6
  unfold f_X12_adding_b32 f_X12_adding_b48
  rcases kd_cs hk with rfl | rfl | rfl | rfl | rfl | rfl | rfl
  · exact e0
  · exact e0
  · exact e1
  · exact e3
  · exact e0
  · exact e1
  · exact e6
theorem m_b29 {σ : Hp} {l kd a : Nat} {x : Int32} {L : List Int32} (h : lmA σ l kd a) (hk : kd ≤ 6) (ht : trM σ L) (hl : L.length < 4) : amR (f_X12_reading_b29 (nI l) x (nI kd) σ) (rdV kd l a x) σ (L ++ ([12] ++ adL kd ++ tnL kd)) := by
  obtain ⟨τ, g1, g2, g3⟩ := m_body (v := 12) ht (by omega)
  have h2 := lmA_A g2 h
  obtain ⟨υ, q1, q2, q3⟩ := m_adding (x := x) h2 hk g3 (by rw [List.length_append]; simp; omega)
  have h3 := lmA_A q2 h2
  obtain ⟨ω, r1, r2, r3⟩ := m_turning (x := x - nI a) h3 hk q3 (by have := adL_len kd; rw [List.length_append, List.length_append]; simp; omega)
  refine ⟨ω, ?_, AcM_t g2 (AcM_t q2 r2), by rw [List.append_assoc, List.append_assoc] at r3; rw [List.append_assoc]; exact r3⟩
  unfold f_X12_reading_b29 rdV
  rw [g1, b2_some, q1, b2_some, ck_pos (inb_nI h.2.2 (by omega)), nI_clamp (by have := h.2.2; omega), h3.2.1, r1, b2_some]
  generalize adV kd l a x = u
  generalize tnV kd l a (x - nI a) = w
  rcases kd_cs hk with rfl | rfl | rfl | rfl | rfl | rfl | rfl <;> rfl
theorem m_reading {σ : Hp} {l kd a : Nat} {x : Int32} {L : List Int32} (h : lmA σ l kd a) (hk : kd ≤ 6) (ht : trM σ L) (hl : L.length < 3) : amR (f_X12_reading (nI l) x σ) (rdV kd l a x) σ (L ++ rdA kd) := by
  have e0 := m_b29 (x := x) h hk ht (by omega)
  have e1 : ∀ v : Int32, amR (b2 (f_X12_body v σ) (fun r_16 s_17 => f_X12_reading_b29 (nI l) x (nI kd) s_17)) (rdV kd l a x) σ (L ++ ([v, 12] ++ adL kd ++ tnL kd)) := by
    intro v
    obtain ⟨τ, g1, g2, g3⟩ := m_body (v := v) ht (by omega)
    obtain ⟨υ, q1, q2, q3⟩ := m_b29 (x := x) (lmA_A g2 h) hk g3 (by rw [List.length_append]; simp; omega)
    exact ⟨υ, by rw [g1, b2_some, q1], AcM_t g2 q2, by rw [List.append_assoc] at q3; exact q3⟩
  unfold f_X12_reading
  rw [ck_pos (inb_nI h.2.2 (by omega)), nI_clamp (by have := h.2.2; omega), h.1]
  unfold f_X12_reading_b18
  rcases kd_cs hk with rfl | rfl | rfl | rfl | rfl | rfl | rfl
  · exact e0
  · exact e0
  · exact e0
  · exact e0
  · exact e1 50
  · exact e1 60
  · exact e0
theorem x_fillI {k0 : Nat} {v : Int32} (hl : ln k0 < 2 ^ 14) : ∀ (k i fu : Nat) (σ : Hp), i + k = ln k0 → k < fu → ∃ R, iter (f_J7_fill_53178_s5 k0 v (Int32.ofNat (ln k0))) fu (nI i, σ) = some ((), rowI σ k0 R) ∧ (∀ q, q < i → R q = hI σ k0 q) ∧ ∀ q, i ≤ q → q < ln k0 → R q = v
  | k, i, 0, σ, _, hf => by omega
  | 0, i, fu + 1, σ, hi, hf => by
    refine ⟨hI σ k0, iter_inr ?_, fun _ _ => rfl, fun q h1 h2 => by omega⟩
    unfold f_J7_fill_53178_s5 f_J7_fill_53178_t5
    simp only
    rw [if_pos (by rw [show Int32.ofNat (ln k0) = nI (ln k0) from rfl, nI_leI (by omega) (by omega)]; omega), rowI_self]
    rfl
  | k + 1, i, fu + 1, σ, hi, hf => by
    obtain ⟨R, g1, g2, g3⟩ := x_fillI (v := v) hl k (i + 1) fu (sI σ k0 i v) (by omega) (by omega)
    refine ⟨R, (iter_inl (a' := (nI (i + 1), sI σ k0 i v)) ?_).trans (g1.trans ?_), fun q hq => ?_, fun q h1 h2 => ?_⟩
    · unfold f_J7_fill_53178_s5 f_J7_fill_53178_t5
      simp only
      rw [if_neg (by rw [show Int32.ofNat (ln k0) = nI (ln k0) from rfl, nI_leI (by omega) (by omega)]; omega), ck_pos (inb_nI (by omega) (by omega)), nI_clamp (by omega), nI_1]
    · unfold sI; rw [rowI_rowI]
    · rw [g2 q (by omega)]; unfold sI; rw [hI_rowI_k, up_ne _ _ (by omega)]
    · by_cases e : q = i
      · subst e; rw [g2 q (by omega)]; unfold sI; rw [hI_rowI_k, up_eq]
      · exact g3 q (by omega) h2
theorem Inv_T {σ τ : Hp} {A : AbS} (h : InA σ A) (hr : RfR σ) (f1 : hR τ = hR σ) (f2 : hC τ = hC σ) (f3 : hN τ = hN σ) (f4 : ∀ k, ¬ k = 32 → ¬ k = 75 → ¬ k = 40 → hI τ k = hI σ k) (f5 : ∀ i, ¬ i = 36 → hI τ 40 i = hI σ 40 i) (f6 : hJ τ = hJ σ) (ht : TrR τ) : Inv τ := by
  have sx : ∀ k A, (1 ≤ k ∧ k ≤ 3) → StX σ k A → StX τ k A := by
    intro k A hk ⟨h1, h2, h3, h4, h5, h6, h7⟩
    have e1 := f4 k (by omega) (by omega) (by omega)
    have e2 := f4 (k + 6) (by omega) (by omega) (by omega)
    refine ⟨by rw [e1]; exact h1, by rw [e1]; exact h2, by rw [e1]; exact h3, by rw [e1]; exact h4, fun i hi => ?_, by rw [e2]; exact h6, by rw [f6]; exact h7⟩
    obtain ⟨j, g1, g2, g3, g4, g5⟩ := h5 i hi
    have e4 := f4 (100 + j) (by omega) (by omega) (by omega)
    refine ⟨j, by rw [f1]; exact g1, ?_, by rw [f2]; exact g3, by rw [e4]; exact g4, by rw [e4]; exact g5⟩
    unfold isLaw at g2 ⊢
    rw [f2, f3]
    exact g2
  obtain ⟨h1, h2, h3, h4, h5, h6, h7, h8, h9⟩ := h
  refine ⟨A, ⟨h1, sx 1 A (by omega) h2, ?_, ?_, fun s hs => ?_, ?_, ?_, ht, ?_⟩, ?_⟩
  · unfold StM at *
    rw [f5 0 (by decide), f5 1 (by decide), f5 2 (by decide), f5 3 (by decide), f4 46 (by decide) (by decide) (by decide), f4 47 (by decide) (by decide) (by decide), f4 48 (by decide) (by decide) (by decide), f6]
    exact h3
  · unfold ImR at *
    rw [f4 0 (by decide) (by decide) (by decide), f5 37 (by decide)]
    refine h4.imp id (fun ⟨a1, a2, B, b1, b2, b3⟩ => ⟨a1, a2, B, b1, sx 3 B (by omega) b2, ?_⟩)
    unfold StK at *
    rw [f4 64 (by decide) (by decide) (by decide), f6]
    exact b3
  · have := h5 s hs
    unfold ShR at *
    rw [f4 50 (by decide) (by decide) (by decide), f4 51 (by decide) (by decide) (by decide), f4 52 (by decide) (by decide) (by decide), f4 53 (by decide) (by decide) (by decide), f4 (14 + s) (by omega) (by omega) (by omega), f6]
    exact this
  · exact okH_eq f1 f2 f3 h6
  · rw [f4 0 (by decide) (by decide) (by decide), f5 4 (by decide)]; exact h7
  · rw [f4 56 (by decide) (by decide) (by decide)]; exact h9
  · unfold RfR at *
    rw [f4 30 (by decide) (by decide) (by decide), f4 45 (by decide) (by decide) (by decide)]
    exact hr
theorem rdA_len (kd : Nat) : (rdA kd).length ≤ 9 := by
  unfold rdA
  have := tnL_len kd
  have := adL_len kd
  rw [List.length_append, List.length_append]
  split
  · simp; omega
  · split <;> (simp; omega)
/-- class and reference both ran the same bodies -/
theorem act_two {σ : Hp} {A : AbS} {L : List Int32} {R : Nat → Int32} {τ : Hp} (h : InA σ A) (hr : RfR σ) (hl : L.length ≤ 20) (ht : trX R L) (hc : AcM (sI (rowI σ 32 R) 40 36 0) τ) (hm : trM τ L) : Inv τ := by
  obtain ⟨R2, c, e⟩ := hc
  have e1 : hI τ 32 = R := by rw [e]; unfold sI; rw [hI_rowI_n _ _ (by decide), hI_rowI_n _ _ (by decide), hI_rowI_n _ _ (by decide), hI_rowI_k]
  refine Inv_T h hr (by rw [e]; rfl) (by rw [e]; rfl) (by rw [e]; rfl) (fun k k1 k2 k3 => ?_) (fun i hi => ?_) (by rw [e]; rfl) ?_
  · rw [e]; unfold sI; rw [hI_rowI_n _ _ k3, hI_rowI_n _ _ k2, hI_rowI_n _ _ k3, hI_rowI_n _ _ k1]
  · rw [e, hI_rowI_k, up_ne _ _ hi]; unfold sI; rw [hI_rowI_k, up_ne _ _ hi, hI_rowI_n _ _ (by decide)]
  · exact ⟨L.length, hl, by rw [e1]; exact ht.1, hm.1, fun i hi => by rw [e1, ht.2 i hi, hm.2 i hi]⟩
theorem op_act (σ : Hp) (hv : Inv σ) (a0 : Int32) (a1 : Int32) (a2 : Int32) : ∃ (r : Int32) (σ1 σ2 : Hp), f_X11_act a0 a1 a2 σ = some (r, σ1) ∧ f_X12_act a0 a1 a2 σ1 = some (r, σ2) ∧ Inv σ2 := by
  obtain ⟨A, hA, hr⟩ := hv
  obtain ⟨hO, hX, hM, -⟩ := id hA
  obtain ⟨R0, f1, -, f2⟩ := x_fillI (k0 := 32) (v := 0) (by decide) 21 0 fuel σ rfl (by unfold fuel; omega)
  have f1' : f_J7_fill_53178 32 0 σ = some ((), rowI σ 32 R0) := f1
  have t0 : trX R0 [] := ⟨f2 0 (by omega) (by decide), fun i hi => absurd hi (Nat.not_lt_zero i)⟩
  have hX0 : StX (rowI σ 32 R0) 1 A := by
    obtain ⟨h1, h2, h3, h4, h5, h6, h7⟩ := hX
    refine ⟨h1, h2, h3, h4, fun i hi => ?_, h6, h7⟩
    obtain ⟨j, g1, g2, g3, g4, g5⟩ := h5 i hi
    exact ⟨j, g1, g2, g3, by rw [hI_rowI_n _ _ (by omega)]; exact g4, by rw [hI_rowI_n _ _ (by omega)]; exact g5⟩
  have hM0 : ∀ R, StM (sI (rowI σ 32 R) 40 36 0) A := fun R => hM
  have tm0 : ∀ R, trM (sI (rowI σ 32 R) 40 36 0) [] := fun R => ⟨rfl, fun i hi => absurd hi (Nat.not_lt_zero i)⟩
  have ac0 : ∀ R, AcM (sI (rowI σ 32 R) 40 36 0) (sI (rowI σ 32 R) 40 36 0) := by
    intro R
    refine ⟨hI (sI (rowI σ 32 R) 40 36 0) 75, 0, ?_⟩
    rw [rowI_self]
    have : va_up (hI (sI (rowI σ 32 R) 40 36 0) 40) 36 0 = hI (sI (rowI σ 32 R) 40 36 0) 40 := by
      unfold sI
      rw [hI_rowI_k, va_up2]
    rw [this, rowI_self]
  have hz : f_X11_act a0 a1 a2 σ = some (0, rowI σ 32 R0) → f_X12_act a0 a1 a2 (rowI σ 32 R0) = some (0, sI (rowI σ 32 R0) 40 36 0) → ∃ (r : Int32) (σ1 σ2 : Hp), f_X11_act a0 a1 a2 σ = some (r, σ1) ∧ f_X12_act a0 a1 a2 σ1 = some (r, σ2) ∧ Inv σ2 :=
    fun h1 h2 => ⟨0, _, _, h1, h2, act_two hA hr (L := []) (by simp) t0 (ac0 R0) (tm0 R0)⟩
  rcases law_cs2 hO a0 with ⟨i, hi, rfl⟩ | ⟨l1, l2⟩
  · obtain ⟨j, e1, hlX⟩ := law_X (by omega) hO hX0 hi
    have hlw := hlX.1
    have hkd := hO.2.2.2.2.1 i
    have hla : lwA (rowI σ 32 R0) j (aK A i) i (aA A i) := ⟨hlX.1, hlX.2.1, hlX.2.2.1, hlX.2.2.2.1⟩
    have hlm : ∀ R, lmA (sI (rowI σ 32 R) 40 36 0) i (aK A i) (aA A i) := fun R => ⟨((hM0 R).2.2.2.2.1 i hi).1, ((hM0 R).2.2.2.2.1 i hi).2, by have := hO.1; omega⟩
    have mI : ∀ R, f_X12_isLaw (nI i) (sI (rowI σ 32 R) 40 36 0) = some (1, sI (rowI σ 32 R) 40 36 0) := fun R => m_isLaw hO (hM0 R) hi
    have t0' : trX (hI (rowI σ 32 R0) 32) [] := by rw [hI_rowI_k]; exact t0
    rcases int_cs a1 with c | ⟨w, hw, rfl⟩
    · refine hz ?_ ?_
      · have n0 : ¬ a1 = 0 := by rintro rfl; exact absurd c (by decide)
        have n1 : ¬ a1 = 1 := by rintro rfl; exact absurd c (by decide)
        have n2 : ¬ a1 = 2 := by rintro rfl; exact absurd c (by decide)
        unfold f_X11_act
        rw [f1', b2_some, e1, b2_some, cs_some, if_neg n0, if_neg n1, if_neg n2]
      · unfold f_X12_act
        rw [mI R0, b2_some, if_neg (by decide), if_pos c]
    · by_cases w0 : w = 0
      · subst w0
        obtain ⟨R, g1, g2⟩ := x_turns (x := a2) hla hkd t0' (by simp)
        rw [rowI_rowI] at g1
        obtain ⟨τ, q1, q2, q3⟩ := m_turning (x := a2) (hlm R) hkd (tm0 R) (by simp)
        refine ⟨tnV (aK A i) i (aA A i) a2, rowI σ 32 R, τ, ?_, ?_, act_two hA hr (by have := tnL_len (aK A i); rw [List.nil_append]; omega) g2 q2 q3⟩
        · unfold f_X11_act
          rw [f1', b2_some, e1, b2_some, cs_some, if_pos (show nI 0 = 0 from rfl), ck_pos hlw, g1, b2_some]
        · unfold f_X12_act
          rw [mI R, b2_some, if_neg (by decide), if_neg (by decide), if_pos (by decide), if_pos (show nI 0 = 0 from rfl), q1, b2_some]
      · by_cases w1 : w = 1
        · subst w1
          obtain ⟨R, g1, g2⟩ := x_adds (x := a2) hla hkd t0' (by simp)
          rw [rowI_rowI] at g1
          obtain ⟨τ, q1, q2, q3⟩ := m_adding (x := a2) (hlm R) hkd (tm0 R) (by simp)
          refine ⟨adV (aK A i) i (aA A i) a2, rowI σ 32 R, τ, ?_, ?_, act_two hA hr (by have := adL_len (aK A i); rw [List.nil_append]; omega) g2 q2 q3⟩
          · unfold f_X11_act
            rw [f1', b2_some, e1, b2_some, cs_some, if_neg (by decide), if_pos (show nI 1 = 1 from rfl), ck_pos hlw, g1, b2_some]
          · unfold f_X12_act
            rw [mI R, b2_some, if_neg (by decide), if_neg (by decide), if_pos (by decide), if_neg (by decide), if_pos (show nI 1 = 1 from rfl), q1, b2_some]
        · by_cases w2 : w = 2
          · subst w2
            obtain ⟨R, g1, g2⟩ := x_reads (x := a2) hla hkd t0' (by simp)
            rw [rowI_rowI] at g1
            obtain ⟨τ, q1, q2, q3⟩ := m_reading (x := a2) (hlm R) hkd (tm0 R) (by simp)
            refine ⟨rdV (aK A i) i (aA A i) a2, rowI σ 32 R, τ, ?_, ?_, act_two hA hr (by have := rdA_len (aK A i); rw [List.nil_append]; omega) g2 q2 q3⟩
            · unfold f_X11_act
              rw [f1', b2_some, e1, b2_some, cs_some, if_neg (by decide), if_neg (by decide), if_pos (show nI 2 = 2 from rfl), ck_pos hlw, g1, b2_some]
            · unfold f_X12_act
              rw [mI R, b2_some, if_neg (by decide), if_neg (by decide), if_pos (by decide), if_neg (by decide), if_neg (by decide), q1, b2_some]
          · have ne : ∀ m, m < 3 → ¬ nI w = nI m := by
              intro m hm
              rw [nI_eq (by omega) (by omega)]; omega
            have n0 : ¬ nI w = 0 := ne 0 (by omega)
            have n1 : ¬ nI w = 1 := ne 1 (by omega)
            have n2 : ¬ nI w = 2 := ne 2 (by omega)
            refine hz ?_ ?_
            · unfold f_X11_act
              rw [f1', b2_some, e1, b2_some, cs_some, if_neg n0, if_neg n1, if_neg n2]
            · unfold f_X12_act
              rw [mI R0, b2_some, if_neg (by decide), if_neg (nI_0le hw), if_neg (by rw [show (2 : Int32) = nI 2 from rfl, nI_leI (by omega) (by omega)]; omega)]
  · refine hz ?_ ?_
    · unfold f_X11_act
      rw [f1', b2_some, l1 _ 1 (by omega) hX0, b2_some, cs_none]
    · unfold f_X12_act
      rw [l2 _ (hM0 R0), b2_some, if_pos rfl]
