/-! texts: the reference's numbers, and its words against the class's -/
theorem m_isDigit {L : Nat → Int32} {s len p : Nat} {σ : Hp} (hp : p ≤ len) (h : CM L s len σ) (ha : hI σ 40 19 = nI p) : f_X12_isDigit σ = some (if digB (L p) = true then 1 else 0, σ) := by
  have hle := h.2.1
  unfold f_X12_isDigit
  rw [h.2.2.2.1, ha]
  by_cases c : len ≤ p
  · rw [if_pos (by rw [nI_leI (by omega) (by omega)]; exact c), h.2.2.2.2.2.1 p c, if_neg (by decide)]
  · obtain ⟨i1, i2⟩ := m_cell h (show p < len by omega)
    rw [if_neg (by rw [nI_leI (by omega) (by omega)]; exact c), h.2.2.1, nI_add, ck_pos i1, i2]
    unfold digB
    by_cases h1 : L p < 48
    · rw [if_pos h1, if_neg (by simp [h1])]
    · by_cases h2 : 57 < L p
      · rw [if_neg h1, if_pos h2, if_neg (by simp [h2])]
      · rw [if_neg h1, if_neg h2, if_pos (by simp [h1, h2])]
theorem m_nuL {L : Nat → Int32} {s len : Nat} : ∀ (k i fu p v : Nat) (σ : Hp), i + k = 6 → k < fu → p ≤ len → v < 10 ^ i → CM L s len σ → hI σ 40 19 = nI p → hI σ 40 21 = nI v → ∃ G, iter f_X12_number_s23 fu (nI i, σ) = some (1, rowI σ 40 G) ∧ G 19 = nI (dgT L k p v).1 ∧ G 21 = nI (dgT L k p v).2 ∧ ∀ q, ¬ q = 19 → ¬ q = 21 → G q = hI σ 40 q
  | k, i, 0, p, v, σ, _, hf, _, _, _, _, _ => by omega
  | 0, i, fu + 1, p, v, σ, hi, hf, hp, hv, h, a2, a3 => by
    refine ⟨hI σ 40, iter_inr ?_, a2, a3, fun _ _ _ => rfl⟩
    unfold f_X12_number_s23 f_X12_number_t23
    simp only
    rw [if_pos (by rw [show (6 : Int32) = nI 6 from rfl, nI_leI (by omega) (by omega)]; omega), rowI_self]
    rfl
  | k + 1, i, fu + 1, p, v, σ, hi, hf, hp, hv, h, a2, a3 => by
    have hle : len ≤ 160 := h.2.1
    have h8 := h.1
    have hv6 : v < 10 ^ 5 := Nat.lt_of_lt_of_le hv (Nat.pow_le_pow_right (by omega) (by omega))
    have h6 : ¬ (6 : Int32) ≤ nI i := by rw [show (6 : Int32) = nI 6 from rfl, nI_leI (by omega) (by omega)]; omega
    unfold dgT
    by_cases c : digB (L p) = true
    · obtain ⟨m, m1, m2, m3, m4⟩ := digB_n c
      have hpl : p < len := M_lt h (by rw [m1, show (0 : Int32) = nI 0 from rfl, nI_eq (by omega) (by omega)]; omega)
      obtain ⟨i1, i2⟩ := m_cell h hpl
      have hst : f_X12_number_s23 (nI i, σ) = some (.inl (nI (i + 1), sI (sI σ 40 21 (nI (10 * v + ((L p).toNatClampNeg - 48)))) 40 19 (nI (p + 1)))) := by
        unfold f_X12_number_s23 f_X12_number_t23
        simp only
        have e19 : ∀ w, hI (sI σ 40 21 w) 40 19 = nI p := fun w => by unfold sI; rw [hI_rowI_k, up_ne _ _ (by decide)]; exact a2
        rw [if_neg h6, m_isDigit hp h a2, b2_some, if_pos c, if_neg (by decide), h.2.2.1, a2, nI_add, ck_pos i1, i2, a3, m4, m1, show (10 : Int32) = nI 10 from rfl, nI_mul, nI_add, show (48 : Int32) = nI 48 from rfl, nI_sub2 (by omega) (by omega), e19, nI_1, nI_1, show 10 * v + m - 48 = 10 * v + (m - 48) by omega]
      rw [if_pos c]
      have hf2 : FrM σ (sI (sI σ 40 21 (nI (10 * v + ((L p).toNatClampNeg - 48)))) 40 19 (nI (p + 1))) := FrM_40 (FrM_40 (FrM_refl σ) (by omega) _) (by omega) _
      obtain ⟨G, g1, g2, g3, g4⟩ := m_nuL (L := L) (s := s) (len := len) k (i + 1) fu (p + 1) (10 * v + ((L p).toNatClampNeg - 48)) _ (by omega) (by omega) (by omega) (by rw [Nat.pow_succ]; omega) (CM_f hf2 h) (by unfold sI; rw [hI_rowI_k, up_eq]) (by unfold sI; rw [hI_rowI_k, up_ne _ _ (by decide), hI_rowI_k, up_eq])
      refine ⟨G, (iter_inl hst).trans (g1.trans ?_), g2, g3, fun q h1 h2 => ?_⟩
      · unfold sI; rw [rowI_rowI, rowI_rowI]
      · rw [g4 q h1 h2]; unfold sI; rw [hI_rowI_k, up_ne _ _ h1, hI_rowI_k, up_ne _ _ h2]
    · rw [if_neg c]
      refine ⟨hI σ 40, iter_inr ?_, a2, a3, fun _ _ _ => rfl⟩
      unfold f_X12_number_s23 f_X12_number_t23
      simp only
      rw [if_neg h6, m_isDigit hp h a2, b2_some, if_neg c, if_pos rfl, rowI_self]
      rfl
theorem StM_40 {σ : Hp} {A : AbS} {G : Nat → Int32} (hG : ∀ q, q < 4 → G q = hI σ 40 q) (h : StM σ A) : StM (rowI σ 40 G) A := by
  obtain ⟨h1, h2, h3, h4, h5, h6, h7⟩ := h
  exact ⟨by rw [hI_rowI_k, hG 0 (by omega)]; exact h1, by rw [hI_rowI_k, hG 1 (by omega)]; exact h2, by rw [hI_rowI_k, hG 2 (by omega)]; exact h3, by rw [hI_rowI_k, hG 3 (by omega)]; exact h4, h5, h6, h7⟩
theorem FrM_G {σ τ : Hp} (h : FrM σ τ) {G : Nat → Int32} (hG : ∀ q, ¬ q = 19 → ¬ q = 21 → ¬ q = 22 → G q = hI τ 40 q) : FrM σ (rowI τ 40 G) := by
  refine FrM_trans h ⟨⟨rfl, rfl, rfl, fun i a b c d e f => by rw [hI_rowI_n _ _ a], fun i a b => ?_, fun _ _ => rfl⟩, ?_, ?_⟩
  · rw [hI_rowI_k, hG i (by intro e; subst e; cases b) (by intro e; subst e; cases b) (by intro e; subst e; cases b)]
  · rw [hI_rowI_k, hG 18 (by decide) (by decide) (by decide)]
  · rw [hI_rowI_k, hG 20 (by decide) (by decide) (by decide)]
theorem dgT_p {L : Nat → Int32} {k p v : Nat} : (dgT L (k + 1) p v).1 = p ↔ ¬ digB (L p) = true := by
  unfold dgT
  by_cases c : digB (L p) = true
  · rw [if_pos c]
    have := dgT_ge (L := L) k (p + 1) (10 * v + ((L p).toNatClampNeg - 48))
    exact ⟨fun h => by omega, fun h => absurd c h⟩
  · rw [if_neg c]
    exact ⟨fun _ => c, fun _ => rfl⟩
/-- one told number of an item -/
def agR (f : Option ((Int32 × Hp) ⊕ (Int32 × Hp))) (σ : Hp) (len i : Nat) (A : AbS) (P : Nat → Bool) (r : Nat ⊕ (Nat × Nat)) : Prop := match r with
  | .inr z => ∃ τ, f = some (.inl (nI (i + 1), τ)) ∧ FrM σ τ ∧ StM τ A ∧ hI τ 40 19 = nI z.1 ∧ hI τ 57 = va_up (hI σ 57) i (nI z.2) ∧ z.1 ≤ len ∧ z.2 < 1000000 ∧ P z.2 = true
  | .inl y => ∃ τ, f = some (.inr (0, τ)) ∧ FrM σ τ ∧ hI τ 40 22 = nI y
theorem m_arg {L : Nat → Int32} {s len q w n i : Nat} {σ : Hp} {A : AbS} {P : Nat → Bool} {x1 x3 : Int32} (hq : q < len) (h32 : L q = 32) (hi : i < 3) (hso : ∀ τ v, StM τ A → hI τ 40 21 = nI v → v < 1000000 → f_X12_isSo (nI w) (nI i) τ = some (if P v = true then 1 else 0, τ)) (h : CM L s len σ) (ha : hI σ 40 19 = nI (q + 1)) (hM : StM σ A) : agR (f_X12_item_b167 x1 (nI w) x3 (nI i) σ) σ len i A P (arS L P q) := by
  have hle := h.2.1
  unfold arS
  rw [if_pos h32]
  have f0 : FrM σ (sI σ 40 21 0) := FrM_40 (FrM_refl σ) (by omega) _
  have h0 := CM_f f0 h
  have a0 : hI (sI σ 40 21 0) 40 19 = nI (q + 1) := by unfold sI; rw [hI_rowI_k, up_ne _ _ (by decide)]; exact ha
  have hd := m_isDigit (show q + 1 ≤ len by omega) h0 a0
  unfold f_X12_item_b167 f_X12_number f_X12_wrong
  rw [hd, b2_some, a0]
  by_cases c1 : (dgT L 6 (q + 1) 0).1 = q + 1
  · have c1' := dgT_p.mp c1
    rw [if_pos (Or.inl c1), if_neg c1', if_pos rfl, b2_some, ck_pos (by decide), b2_some, if_pos rfl]
    refine ⟨_, rfl, FrM_40 f0 (by omega) _, ?_⟩
    unfold sI; rw [hI_rowI_k, up_eq]
  · have c1' : digB (L (q + 1)) = true := Classical.byContradiction (fun c => c1 (dgT_p.mpr c))
    obtain ⟨G, g1, g2, g3, g4⟩ := m_nuL (L := L) (s := s) (len := len) 6 0 fuel (q + 1) 0 (sI σ 40 21 0) (by omega) (by unfold fuel; omega) (by omega) (by omega) h0 a0 (by unfold sI; rw [hI_rowI_k, up_eq]; rfl)
    have g1' : iter f_X12_number_s23 fuel (0, sI σ 40 21 0) = some (1, rowI (sI σ 40 21 0) 40 G) := g1
    obtain ⟨d1, d2, d3⟩ := dgT_le h.2.2.2.2.2.1 6 (q + 1) 0 (by omega) (by omega) (by omega)
    have hG : ∀ r, ¬ r = 19 → ¬ r = 21 → G r = hI σ 40 r := fun r h1 h2 => by rw [g4 r h1 h2]; unfold sI; rw [hI_rowI_k, up_ne _ _ h2]
    have er : rowI (sI σ 40 21 0) 40 G = rowI σ 40 G := by unfold sI; rw [rowI_rowI]
    rw [er] at g1'
    have hM2 : StM (rowI σ 40 G) A := StM_40 (fun r hr => hG r (by omega) (by omega)) hM
    have hf2 : FrM σ (rowI σ 40 G) := FrM_G (FrM_refl σ) (fun r h1 h2 _ => hG r h1 h2)
    have hs := hso (rowI σ 40 G) _ hM2 (by rw [hI_rowI_k]; exact g3) d3
    rw [if_pos c1', if_neg (show ¬ (1 : Int32) = 0 by decide), g1', b2_some, if_neg (show ¬ (1 : Int32) = 0 by decide), hs, b2_some, ha]
    by_cases c2 : P (dgT L 6 (q + 1) 0).2 = true
    · rw [if_pos c2, if_neg (show ¬ (1 : Int32) = 0 by decide), if_neg (fun c => c.elim c1 (fun c => by rw [c2] at c; cases c)), ck_pos (inb_nI (by omega) (by omega)), nI_clamp (by omega), hI_rowI_k, g3, nI_1]
      refine ⟨_, rfl, ⟨FwM_I hf2.1 (by omega) _, ?_, ?_⟩, ?_, ?_, ?_, d2, d3, c2⟩
      · unfold sI; rw [hI_rowI_n _ _ (by decide)]; exact hf2.2.1
      · unfold sI; rw [hI_rowI_n _ _ (by decide)]; exact hf2.2.2
      · exact hM2
      · unfold sI; rw [hI_rowI_n _ _ (by decide), hI_rowI_k]; exact g2
      · unfold sI; rw [hI_rowI_k, hI_rowI_n _ _ (by decide)]
    · rw [if_neg c2, if_pos rfl, if_pos (Or.inr (by cases hb : P (dgT L 6 (q + 1) 0).2 with | false => rfl | true => exact absurd hb c2)), b2_some, ck_pos (by decide)]
      refine ⟨_, rfl, FrM_40 hf2 (by omega) _, ?_⟩
      unfold sI; rw [hI_rowI_k, up_eq]
theorem m_argN {L : Nat → Int32} {s len q w n i : Nat} {σ : Hp} {A : AbS} {P : Nat → Bool} {x1 : Int32} (hq : q ≤ len) (hi : i < n) (hn : n ≤ 3) (h0 : 0 < i) (hso : ∀ τ v, StM τ A → hI τ 40 21 = nI v → v < 1000000 → f_X12_isSo (nI w) (nI i) τ = some (if P v = true then 1 else 0, τ)) (h : CM L s len σ) (ha : hI σ 40 19 = nI q) (hM : StM σ A) : agR (f_X12_item_s106 x1 (nI w) (nI n) (nI i, σ)) σ len i A P (arS L P q) := by
  have hle := h.2.1
  unfold f_X12_item_s106 f_X12_item_t106 f_X12_item_b148 f_X12_wrong
  simp only
  rw [if_neg (by rw [nI_leI (by omega) (by omega)]; omega), if_neg (by rw [show (0 : Int32) = nI 0 from rfl, nI_leI (by omega) (by omega)]; omega), h.2.2.2.1, ha, b2_some, ck_pos (show isB 0 = true by decide)]
  have hfl : agR (ex (some (0, sI σ 40 22 (nI q)))) σ len i A P (.inl q) := ⟨_, rfl, FrM_40 (FrM_refl σ) (by omega) _, by unfold sI; rw [hI_rowI_k, up_eq]⟩
  by_cases cq : len ≤ q
  · rw [if_pos (by rw [nI_leI (by omega) (by omega)]; exact cq)]
    have : arS L P q = .inl q := by unfold arS; rw [h.2.2.2.2.2.1 q cq, if_neg (by decide)]
    rw [this]
    exact hfl
  · obtain ⟨i1, i2⟩ := m_cell h (show q < len by omega)
    rw [if_neg (by rw [nI_leI (by omega) (by omega)]; exact cq), h.2.2.1, nI_add, ck_pos i1, i2]
    by_cases c : L q = 32
    · rw [if_pos c, nI_1]
      have hf : FrM σ (sI σ 40 19 (nI (q + 1))) := FrM_40 (FrM_refl σ) (by omega) _
      have g := m_arg (w := w) (n := n) (x1 := x1) (x3 := nI n) (P := P) (show q < len by omega) c (show i < 3 by omega) hso (CM_f hf h) (by unfold sI; rw [hI_rowI_k, up_eq]) (StM_40 (σ := σ) (G := va_up (hI σ 40) 19 (nI (q + 1))) (fun r hr => up_ne _ _ (by omega)) hM)
      cases hr : arS L P q with
      | inl y =>
        rw [hr] at g
        obtain ⟨τ, g1, g2, g3⟩ := g
        exact ⟨τ, g1, FrM_trans hf g2, g3⟩
      | inr z =>
        rw [hr] at g
        obtain ⟨τ, g1, g2, g3, g4, g5, g6⟩ := g
        refine ⟨τ, g1, FrM_trans hf g2, g3, g4, ?_, g6⟩
        rw [g5]
        unfold sI; rw [hI_rowI_n _ _ (by decide)]
    · rw [if_neg c]
      have : arS L P q = .inl q := by unfold arS; rw [if_neg c]
      rw [this]
      exact hfl
theorem mwF_app {L : Nat → Int32} : ∀ (w : List Int32) (p : Nat) (c : Int32), mwF L (w ++ [c]) p = if mwF L w p = w.length then (if L (p + w.length) = c then w.length + 1 else w.length) else mwF L w p
  | [], p, c => by
    show (if L p = c then mwF L [] (p + 1) + 1 else 0) = _
    rw [if_pos (show mwF L [] p = ([] : List Int32).length from rfl)]
    rfl
  | d :: w, p, c => by
    have ih := mwF_app (L := L) w (p + 1) c
    show (if L p = d then mwF L (w ++ [c]) (p + 1) + 1 else 0) = if (if L p = d then mwF L w (p + 1) + 1 else 0) = (d :: w).length then _ else (if L p = d then mwF L w (p + 1) + 1 else 0)
    rw [List.length_cons]
    by_cases e : L p = d
    · rw [if_pos e, if_pos e, ih]
      by_cases c2 : mwF L w (p + 1) = w.length
      · rw [if_pos c2, if_pos (show mwF L w (p + 1) + 1 = w.length + 1 by omega), show p + (w.length + 1) = p + 1 + w.length by omega]
        by_cases c3 : L (p + 1 + w.length) = c
        · rw [if_pos c3, if_pos c3]
        · rw [if_neg c3, if_neg c3]
      · rw [if_neg c2, if_neg (by omega)]
    · rw [if_neg e, if_neg e, if_neg (by omega)]
def fsL (w : Nat) : Int32 := (wdL w).getD 0 0
theorem mwF_0 {L : Nat → Int32} {w p : Nat} (h : ¬ L p = fsL w) : mwF L (wdL w) p = 0 ∧ mwF L (wlS w) p = 0 := by
  have e : ∀ l : List Int32, ¬ l = [] → ¬ L p = l.getD 0 0 → mwF L l p = 0 := by
    intro l hl hn
    cases l with
    | nil => exact absurd rfl hl
    | cons c l =>
      show (if L p = c then _ else 0) = 0
      rw [if_neg (show ¬ L p = c from hn)]
  refine ⟨e _ ?_ h, e _ ?_ ?_⟩
  · unfold wdL; split <;> simp
  · unfold wlS; simp
  · unfold fsL wdL at h
    unfold wlS wdL
    split at h <;> exact h
theorem fs_ne : ∀ w, w < 5 → ∀ v, v < 5 → ¬ w = v → ¬ fsL w = fsL v := by decide
theorem woS_z {L : Nat → Int32} {p m w far : Nat} (h : mwF L (wlS w) p = 0) (hf : p ≤ far) : woS L p (m + 1) w far = woS L p m (w + 1) far := by
  show (if mwF L (wlS w) p = (wlS w).length then _ else woS L p m (w + 1) (if p + mwF L (wlS w) p ≤ far then far else p + mwF L (wlS w) p)) = _
  rw [h, if_neg (by rw [wlS_len]; omega), if_pos (show p + 0 ≤ far from hf)]
theorem woS_zz {L : Nat → Int32} {p : Nat} : ∀ (m w far : Nat), (∀ i, w ≤ i → i < w + m → mwF L (wlS i) p = 0) → p ≤ far → woS L p m w far = .inl far
  | 0, w, far, _, _ => rfl
  | m + 1, w, far, h, hf => by
    rw [woS_z (h w (by omega) (by omega)) hf]
    exact woS_zz m (w + 1) far (fun i h1 h2 => h i (by omega) (by omega)) hf
theorem woS_hit {L : Nat → Int32} {p w0 : Nat} : ∀ (m w : Nat), w ≤ w0 → w0 < w + m → (∀ i, w ≤ i → i < w + m → ¬ i = w0 → mwF L (wlS i) p = 0) → woS L p m w p = if mwF L (wlS w0) p = (wlS w0).length then .inr w0 else .inl (p + mwF L (wlS w0) p)
  | 0, w, h1, h2, _ => by omega
  | m + 1, w, h1, h2, z => by
    by_cases c : w = w0
    · subst c
      show (if mwF L (wlS w) p = (wlS w).length then _ else woS L p m (w + 1) (if p + mwF L (wlS w) p ≤ p then p else p + mwF L (wlS w) p)) = _
      have e : (if p + mwF L (wlS w) p ≤ p then p else p + mwF L (wlS w) p) = p + mwF L (wlS w) p := by split <;> omega
      rw [e, woS_zz m (w + 1) _ (fun i h3 h4 => z i (by omega) (by omega) (by omega)) (by omega)]
    · rw [woS_z (z w (by omega) (by omega) c) (Nat.le_refl _)]
      exact woS_hit m (w + 1) (by omega) (by omega) (fun i h3 h4 h5 => z i (by omega) (by omega) h5)
theorem wo_hit {L : Nat → Int32} {p w0 : Nat} (hw : w0 < 5) (h : L p = fsL w0) : woS L p 5 0 p = if mwF L (wlS w0) p = (wlS w0).length then .inr w0 else .inl (p + mwF L (wlS w0) p) :=
  woS_hit 5 0 (by omega) (by omega) (fun i _ h2 h3 => (mwF_0 (fun c => fs_ne i (by omega) w0 hw h3 (c.symm.trans h))).2)
theorem wo_no {L : Nat → Int32} {p : Nat} (h : ∀ w, w < 5 → ¬ L p = fsL w) : woS L p 5 0 p = .inl p :=
  woS_zz 5 0 p (fun i _ h2 => (mwF_0 (h i (by omega))).2) (Nat.le_refl _)
