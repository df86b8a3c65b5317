/-! texts: the reference's items -/
def resM (f : Option (Int32 × Hp)) (σ : Hp) (r : Nat ⊕ (Nat × AbS)) : Prop := match r with
  | .inr z => ∃ τ, f = some (1, τ) ∧ FrM σ τ ∧ hI τ 40 19 = nI z.1 ∧ StM τ z.2
  | .inl q => ∃ τ, f = some (0, τ) ∧ FrM σ τ ∧ hI τ 40 22 = nI q
theorem so_le {v m : Nat} {τ : Hp} (hv : v < 2 ^ 31) (hm : m < 2 ^ 31) : (if nI m < nI v then some ((0 : Int32), τ) else some ((1 : Int32), τ)) = some (if decide (v ≤ m) = true then 1 else 0, τ) := by
  by_cases c : v ≤ m
  · rw [if_neg (by rw [nI_ltI hm hv]; omega), if_pos (decide_eq_true c)]
  · rw [if_pos (by rw [nI_ltI hm hv]; omega), if_neg (by rw [decide_eq_true_iff]; exact c)]
theorem m_so0 {A : AbS} (τ : Hp) (v : Nat) (_ : StM τ A) (hv : hI τ 40 21 = nI v) (hl : v < 1000000) : f_X12_isSo (nI 0) (nI 0) τ = some (if decide (2 ≤ v ∧ v ≤ 10) = true then 1 else 0, τ) := by
  unfold f_X12_isSo
  rw [if_pos (show nI 0 = 0 from rfl), hv]
  by_cases c : v < 2
  · rw [if_pos (by rw [show (2 : Int32) = nI 2 from rfl, nI_ltI (by omega) (by omega)]; exact c), if_neg (by rw [decide_eq_true_iff]; omega)]
  · rw [if_neg (by rw [show (2 : Int32) = nI 2 from rfl, nI_ltI (by omega) (by omega)]; exact c)]
    by_cases c2 : v ≤ 10
    · rw [if_neg (by rw [show (10 : Int32) = nI 10 from rfl, nI_ltI (by omega) (by omega)]; omega), if_pos (by rw [decide_eq_true_iff]; omega)]
    · rw [if_pos (by rw [show (10 : Int32) = nI 10 from rfl, nI_ltI (by omega) (by omega)]; omega), if_neg (by rw [decide_eq_true_iff]; omega)]
theorem m_so10 {A : AbS} (τ : Hp) (v : Nat) (_ : StM τ A) (hv : hI τ 40 21 = nI v) (hl : v < 1000000) : f_X12_isSo (nI 1) (nI 0) τ = some (if decide (v ≤ 6) = true then 1 else 0, τ) := by
  unfold f_X12_isSo f_X12_isSo_b70
  rw [if_neg (by decide), if_pos (show nI 1 = 1 from rfl), if_pos (show nI 0 = 0 from rfl), hv]
  exact so_le (m := 6) (by omega) (by omega)
theorem m_so11 {A : AbS} (τ : Hp) (v : Nat) (_ : StM τ A) (hv : hI τ 40 21 = nI v) (hl : v < 1000000) : f_X12_isSo (nI 1) (nI 1) τ = some (if decide (v ≤ 9) = true then 1 else 0, τ) := by
  unfold f_X12_isSo f_X12_isSo_b70
  rw [if_neg (by decide), if_pos (show nI 1 = 1 from rfl), if_neg (by decide), hv]
  exact so_le (m := 9) (by omega) (by omega)
theorem m_so20 {A : AbS} (hO : okA A) (τ : Hp) (v : Nat) (hM : StM τ A) (hv : hI τ 40 21 = nI v) (hl : v < 1000000) : f_X12_isSo (nI 2) (nI 0) τ = some (if decide (v < aN A ∧ aK A v = 5) = true then 1 else 0, τ) := by
  have hn := hO.1
  have hk := hO.2.2.2.2.1 v
  unfold f_X12_isSo f_X12_isSo_b111
  rw [if_neg (by decide), if_neg (by decide), if_pos (show nI 2 = 2 from rfl), if_pos (show nI 0 = 0 from rfl), hv, hM.1]
  by_cases c : v < aN A
  · rw [if_neg (by rw [nI_leI (by omega) (by omega)]; omega), ck_pos (inb_nI (by omega) (by omega)), nI_clamp (by omega), (hM.2.2.2.2.1 v c).1]
    by_cases c2 : aK A v = 5
    · rw [c2, if_pos (show nI 5 = 5 from rfl), if_pos (by rw [decide_eq_true_iff]; exact ⟨c, rfl⟩)]
    · rw [if_neg (by rw [show (5 : Int32) = nI 5 from rfl, nI_eq (by omega) (by omega)]; exact c2), if_neg (by rw [decide_eq_true_iff]; exact fun h => c2 h.2)]
  · rw [if_pos (by rw [nI_leI (by omega) (by omega)]; omega), if_neg (by rw [decide_eq_true_iff]; exact fun h => c h.1)]
theorem m_so21 {A : AbS} (τ : Hp) (v : Nat) (_ : StM τ A) (hv : hI τ 40 21 = nI v) (hl : v < 1000000) : f_X12_isSo (nI 2) (nI 1) τ = some (if decide (v ≤ 9) = true then 1 else 0, τ) := by
  unfold f_X12_isSo f_X12_isSo_b132
  rw [if_neg (by decide), if_neg (by decide), if_pos (show nI 2 = 2 from rfl), if_neg (by decide), if_pos (show nI 1 = 1 from rfl), hv]
  exact so_le (m := 9) (by omega) (by omega)
theorem m_so22 {A : AbS} (τ : Hp) (v : Nat) (_ : StM τ A) (hv : hI τ 40 21 = nI v) (hl : v < 1000000) : f_X12_isSo (nI 2) (nI 2) τ = some (if decide (v ≤ 999) = true then 1 else 0, τ) := by
  unfold f_X12_isSo f_X12_isSo_b132
  rw [if_neg (by decide), if_neg (by decide), if_pos (show nI 2 = 2 from rfl), if_neg (by decide), if_neg (by decide), hv]
  exact so_le (m := 999) (by omega) (by omega)
theorem m_so3 {A : AbS} (τ : Hp) (v : Nat) (_ : StM τ A) (_ : hI τ 40 21 = nI v) (_ : v < 1000000) : f_X12_isSo (nI 3) (nI 0) τ = some (if true = true then 1 else 0, τ) := by
  unfold f_X12_isSo
  rw [if_neg (by decide), if_neg (by decide), if_neg (by decide), if_pos (show nI 3 = 3 from rfl)]
  rfl
theorem m_so4 {A : AbS} (hO : okA A) (τ : Hp) (v : Nat) (hM : StM τ A) (hv : hI τ 40 21 = nI v) (hl : v < 1000000) : f_X12_isSo (nI 4) (nI 0) τ = some (if decide (v < aN A) = true then 1 else 0, τ) := by
  have hn := hO.1
  unfold f_X12_isSo
  rw [if_neg (by decide), if_neg (by decide), if_neg (by decide), if_neg (by decide), hv, hM.1]
  by_cases c : v < aN A
  · rw [if_neg (by rw [nI_leI (by omega) (by omega)]; omega), if_pos (decide_eq_true c)]
  · rw [if_pos (by rw [nI_leI (by omega) (by omega)]; omega), if_neg (by rw [decide_eq_true_iff]; exact c)]
theorem m_wr40 {σ τ : Hp} {v : Int64} {r : Int32} (e : f_X12_writes v σ = some (r, τ)) : ∀ i, 4 ≤ i → hI τ 40 i = hI σ 40 i := by
  unfold f_X12_writes at e
  by_cases c : inb (hI σ 40 1) 20 = true
  · rw [ck_pos c] at e
    cases e
    intro i hi
    unfold sI
    rw [hI_rowI_k, up_ne _ _ (by omega)]
    rfl
  · rw [show ∀ x : Option (Int32 × Hp), ck (inb (hI σ 40 1) 20 = true) x = none from fun x => if_neg c] at e
    cases e
theorem m_ad40 {σ τ : Hp} {kd a : Nat} {r : Int32} {A : AbS} (hn : aN A < 6) (h : StM σ A) (e : f_X12_adds (nI kd) (nI a) σ = some (r, τ)) : ∀ i, 4 ≤ i → hI τ 40 i = hI σ 40 i := by
  obtain ⟨h1, h2, h3, h4, h5, h6, h7⟩ := h
  obtain ⟨υ, e1, e2, e3, e4, e5, e6, e7, e8⟩ := m_addL (σ := sI (sI σ 46 (aN A) (nI kd)) 47 (aN A) (nI a)) hn h1 10 0 fuel _ (by omega) (by unfold fuel; omega) (FwM_refl _) rfl rfl rfl rfl (fun q _ => rfl) (fun q hq => by omega)
  have : f_X12_adds (nI kd) (nI a) σ = some (nI (aN A), sI υ 40 0 (nI (aN A + 1))) := by
    unfold f_X12_adds
    have e9 : hI (sI σ 46 (aN A) (nI kd)) 40 0 = nI (aN A) := h1
    rw [h1, ck_pos (inb_nI (by omega) (by omega)), nI_clamp (by omega), e9, ck_pos (inb_nI (by omega) (by omega)), nI_clamp (by omega)]
    exact e1
  rw [this] at e
  cases e
  intro i hi
  unfold sI
  rw [hI_rowI_k, up_ne _ _ (by omega), e3]
  rfl
theorem FrM_w {σ τ : Hp} (h : FwM σ τ) (h4 : ∀ i, 4 ≤ i → hI τ 40 i = hI σ 40 i) : FrM σ τ := ⟨h, h4 18 (by omega), h4 20 (by omega)⟩
theorem m_bd {step : (Int32 × Hp) → Option ((Int32 × Hp) ⊕ (Int32 × Hp))} {fu i len : Nat} {v : Int32 × Hp} {σ0 σ : Hp} {A : AbS} {P : Nat → Bool} {r : Nat ⊕ (Nat × Nat)} {k : Nat × Nat → Nat ⊕ (Nat × AbS)} (hf : FrM σ0 σ) (h : agR (step v) σ len i A P r) (hk : ∀ z τ, FrM σ0 τ → StM τ A → hI τ 40 19 = nI z.1 → hI τ 57 = va_up (hI σ 57) i (nI z.2) → z.1 ≤ len → z.2 < 1000000 → P z.2 = true → resM (iter step fu (nI (i + 1), τ)) σ0 (k z)) : resM (iter step (fu + 1) v) σ0 (bdS r k) := by
  cases r with
  | inl y =>
    obtain ⟨τ, g1, g2, g3⟩ := h
    exact ⟨τ, iter_inr g1, FrM_trans hf g2, g3⟩
  | inr z =>
    obtain ⟨τ, g1, g2, g3, g4, g5, g6, g7, g8⟩ := h
    rw [show bdS (Sum.inr z) k = k z from rfl, iter_inl g1]
    exact hk z τ (FrM_trans hf g2) g3 g4 g5 g6 g7 g8
theorem m_step0 {x1 x2 x3 : Int32} {σ : Hp} (h : ¬ x3 ≤ 0) : f_X12_item_s106 x1 x2 x3 (0, σ) = f_X12_item_b167 x1 x2 x3 (nI 0) σ := by
  unfold f_X12_item_s106 f_X12_item_t106
  simp only
  rw [if_neg h, if_pos (show (0 : Int32) ≤ 0 by decide)]
  rfl
theorem m_fin0 {fu q b : Nat} {x1 : Int32} {σ0 τ : Hp} {A : AbS} (hf : FrM σ0 τ) (hM : StM τ A) (ha : hI τ 40 19 = nI q) (h57 : hI τ 57 0 = nI b) : resM (iter (f_X12_item_s106 x1 (nI 0) 1) (fu + 1) (nI 1, τ)) σ0 (.inr (q, setB A b)) := by
  obtain ⟨g1, g2⟩ := m_setB (b := b) hM
  refine ⟨sI τ 40 2 (nI b), iter_ex ?_, FrM_40 hf (by omega) _, ?_, g2⟩
  · unfold f_X12_item_s106 f_X12_item_t106
    simp only
    rw [if_pos (by decide), if_pos (show nI 0 = 0 from rfl), ck_pos (by decide), show (0 : Int32).toNatClampNeg = 0 from rfl, h57]
  · unfold sI; rw [hI_rowI_k, up_ne _ _ (by decide)]; exact ha
theorem m_fin1 {fu q kd a : Nat} {x1 : Int32} {σ0 τ : Hp} {A : AbS} (hO : okA A) (hn : aN A < 6) (hf : FrM σ0 τ) (hM : StM τ A) (ha : hI τ 40 19 = nI q) (h0 : hI τ 57 0 = nI kd) (h1 : hI τ 57 1 = nI a) : resM (iter (f_X12_item_s106 x1 (nI 1) 2) (fu + 1) (nI 2, τ)) σ0 (.inr (q, addA A kd a)) := by
  obtain ⟨υ, g1, g2, g3⟩ := m_adds (kd := kd) (a := a) hO hn hM
  have g4 := m_ad40 hn hM g1
  refine ⟨υ, iter_ex ?_, FrM_trans hf (FrM_w g2 g4), by rw [g4 19 (by omega)]; exact ha, g3⟩
  unfold f_X12_item_s106 f_X12_item_t106
  simp only
  rw [if_pos (by decide), if_neg (by decide), if_pos (show nI 1 = 1 from rfl), ck_pos (by decide), ck_pos (by decide), show (0 : Int32).toNatClampNeg = 0 from rfl, show (1 : Int32).toNatClampNeg = 1 from rfl, h0, h1, g1, b2_some]
theorem m_fin2 {fu q l f v : Nat} {x1 : Int32} {σ0 τ : Hp} {A : AbS} (hl : l < 6) (hf9 : f ≤ 9) (hf : FrM σ0 τ) (hM : StM τ A) (ha : hI τ 40 19 = nI q) (h0 : hI τ 57 0 = nI l) (h1 : hI τ 57 1 = nI f) (h2 : hI τ 57 2 = nI v) : resM (iter (f_X12_item_s106 x1 (nI 2) 3) (fu + 1) (nI 3, τ)) σ0 (.inr (q, setW A l f v)) := by
  obtain ⟨g1, g2⟩ := m_setW (l := l) (f := f) (v := v) hl (by omega) hM
  refine ⟨sI τ 48 (10 * l + f) (nI v), iter_ex ?_, ⟨FwM_trans hf.1 g1, ?_, ?_⟩, ?_, g2⟩
  · unfold f_X12_item_s106 f_X12_item_t106
    simp only
    rw [if_pos (by decide), if_neg (by decide), if_neg (by decide), if_pos (show nI 2 = 2 from rfl), ck_pos (by decide), ck_pos (by decide), ck_pos (by decide), show (0 : Int32).toNatClampNeg = 0 from rfl, show (1 : Int32).toNatClampNeg = 1 from rfl, show (2 : Int32).toNatClampNeg = 2 from rfl, h0, h1, h2, show (10 : Int32) = nI 10 from rfl, nI_mul, nI_add, ck_pos (inb_nI (by omega) (by omega)), nI_clamp (by omega)]
  · unfold sI; rw [hI_rowI_n _ _ (by decide)]; exact hf.2.1
  · unfold sI; rw [hI_rowI_n _ _ (by decide)]; exact hf.2.2
  · unfold sI; rw [hI_rowI_n _ _ (by decide)]; exact ha
theorem m_fin3 {fu q v : Nat} {x1 : Int32} {σ0 τ : Hp} {A : AbS} (hm : aM A < 20) (hv : v < 1000000) (hf : FrM σ0 τ) (hM : StM τ A) (ha : hI τ 40 19 = nI q) (h0 : hI τ 57 0 = nI v) : resM (iter (f_X12_item_s106 x1 (nI 3) 1) (fu + 1) (nI 1, τ)) σ0 (.inr (q, putA A v)) := by
  obtain ⟨υ, g1, g2, g3⟩ := m_writes (v := v) hM hm
  have g4 := m_wr40 g1
  refine ⟨υ, iter_ex ?_, FrM_trans hf (FrM_w g2 g4), by rw [g4 19 (by omega)]; exact ha, g3⟩
  unfold f_X12_item_s106 f_X12_item_t106
  simp only
  rw [if_pos (by decide), if_neg (by decide), if_neg (by decide), if_neg (by decide), if_pos (show nI 3 = 3 from rfl), ck_pos (by decide), show (0 : Int32).toNatClampNeg = 0 from rfl, h0, nI_l (by omega), g1, b2_some]
theorem m_fin4 {fu p q l : Nat} {σ0 τ : Hp} {A : AbS} (hO : okA A) (hm0 : 0 < aM A) (hm : aM A < 20) (hl : l < aN A) (hf : FrM σ0 τ) (hM : StM τ A) (ha : hI τ 40 19 = nI q) (h0 : hI τ 57 0 = nI l) : resM (iter (f_X12_item_s106 (nI p) (nI 4) 1) (fu + 1) (nI 1, τ)) σ0 (match goA A l with | some B => .inr (q, B) | none => .inl p) := by
  have h9 := hO.2.2.2.2.2.2.2.2 (aM A - 1)
  obtain ⟨F, e1⟩ := m_next2 (law_M hO hM hl) h9
  have hst : f_X12_item_s106 (nI p) (nI 4) 1 (nI 1, τ) = ex (if lg_cmp (oL (nxA A l (aL A (aM A - 1)))) (-1 : Int64) = 0 then b2 (f_X12_wrong (nI p) (rowI τ 67 F)) (fun r_52 s_53 => ck (isB r_52 = true) (some (r_52, s_53))) else b2 (f_X12_writes (oL (nxA A l (aL A (aM A - 1)))) (rowI τ 67 F)) (fun r_49 s_50 => some ((1 : Int32), s_50))) := by
    unfold f_X12_item_s106 f_X12_item_t106
    simp only
    rw [if_pos (by decide), if_neg (by decide), if_neg (by decide), if_neg (by decide), if_neg (by decide), ck_pos (by decide), show (0 : Int32).toNatClampNeg = 0 from rfl, h0, hM.2.1, show (1 : Int32) = nI 1 from rfl, nI_sub2 (by omega) (by omega), ck_pos (inb_nI (by omega) (by omega)), nI_clamp (by omega), hM.2.2.2.2.2.2 _ (by omega), e1, b2_some]
  have hf2 : FrM σ0 (rowI τ 67 F) := FrM_trans hf ⟨FwM_67 (FwM_refl τ) F, rfl, rfl⟩
  unfold goA
  rw [if_neg (by omega)]
  cases hn : nxA A l (aL A (aM A - 1)) with
  | none =>
    rw [hn, oL_n, if_pos lc_m1m] at hst
    refine ⟨sI (rowI τ 67 F) 40 22 (nI p), iter_ex ?_, FrM_40 hf2 (by omega) _, ?_⟩
    · rw [hst]
      unfold f_X12_wrong
      rw [b2_some, ck_pos (by decide)]
    · unfold sI; rw [hI_rowI_k, up_eq]
  | some v =>
    have hv : v ≤ 999999999999999 := okO_nx v hn
    obtain ⟨υ, g1, g2, g3⟩ := m_writes (v := v) (StM_67 (F := F) hM) hm
    have g4 := m_wr40 g1
    rw [hn, oL_s, if_neg (lc_m1 hv), g1, b2_some] at hst
    exact ⟨υ, iter_ex hst, FrM_trans hf2 (FrM_w g2 g4), by rw [g4 19 (by omega)]; exact ha, g3⟩
