/-! texts: how the reference reads words and numbers -/
def stW : Nat → Nat
  | 0 => 0
  | 1 => 6
  | 2 => 11
  | 3 => 18
  | 4 => 25
  | _ => 29
def wlS (w : Nat) : List Int32 := wdL w ++ [32]
theorem w_at : ∀ w, w < 5 → ∀ k, k < 7 → k < (wdL w).length + 2 → wordsF (stW w + k) = (wdL w ++ [32, 0]).getD k 0 ∧ stW w + k < 29 := by decide
theorem w_le1 : ∀ w, w < 5 → ∀ k, k < 7 → k < (wdL w).length + 2 → (wordsF (stW w + k) ≤ 32 ↔ ¬ k < (wdL w).length) := by decide
theorem w_le2 : ∀ w, w < 5 → ∀ k, k < 7 → k < (wdL w).length + 2 → (wordsF (stW w + k) = 0 ↔ k = (wdL w).length + 1) := by decide
theorem w_le3 : ∀ w, w < 5 → ∀ k, k < 7 → k < (wdL w).length → wordsF (stW w + k) = (wdL w).getD k 0 := by decide
theorem w_le4 : ∀ w, w < 5 → ∀ k, k < 7 → k < (wdL w).length + 1 → wordsF (stW w + k) = (wlS w).getD k 0 := by decide
theorem w_le5 : ∀ w, w < 5 → ∀ k, k < 7 → k < (wdL w).length + 1 → ¬ (wlS w).getD k 0 = 0 := by decide
theorem w_le (w : Nat) (hw : w < 5) (k : Nat) (hk : k < 7) (h : k < (wdL w).length + 2) : (wordsF (stW w + k) ≤ 32 ↔ ¬ k < (wdL w).length) ∧ (wordsF (stW w + k) = 0 ↔ k = (wdL w).length + 1) ∧ (k < (wdL w).length → wordsF (stW w + k) = (wdL w).getD k 0) ∧ (k < (wdL w).length + 1 → wordsF (stW w + k) = (wlS w).getD k 0) ∧ (k < (wdL w).length + 1 → ¬ (wlS w).getD k 0 = 0) :=
  ⟨w_le1 w hw k hk h, w_le2 w hw k hk h, w_le3 w hw k hk, w_le4 w hw k hk, w_le5 w hw k hk⟩
theorem w_nx : ∀ w, w < 5 → stW w + ((wdL w).length + 2) = stW (w + 1) := by decide
def zcW : Nat → Nat
  | 0 => 0
  | c + 1 => zcW c + (if wordsF c = 0 then 1 else 0)
theorem z_lt : ∀ w, w < 5 → ∀ c, c < 29 → c < stW w → zcW c < w := by decide
theorem z_at : ∀ w, w < 5 → zcW (stW w) = w := by decide
theorem z_le : ∀ c, c < 30 → zcW c ≤ 5 := by decide
def CM (L : Nat → Int32) (s len : Nat) (σ : Hp) : Prop := s < 8 ∧ len ≤ 160 ∧ hI σ 40 18 = nI (160 * s) ∧ hI σ 40 20 = nI len ∧ (∀ p, p < len → (hJ σ 54 (160 * s + p)).toInt32 = L p) ∧ (∀ p, len ≤ p → L p = 0) ∧ ∀ i, hI σ 56 i = wordsF i
def FrM (σ τ : Hp) : Prop := FwM σ τ ∧ hI τ 40 18 = hI σ 40 18 ∧ hI τ 40 20 = hI σ 40 20
theorem FrM_refl (σ : Hp) : FrM σ σ := ⟨FwM_refl σ, rfl, rfl⟩
theorem FrM_trans {σ τ υ : Hp} (h1 : FrM σ τ) (h2 : FrM τ υ) : FrM σ υ := ⟨FwM_trans h1.1 h2.1, h2.2.1.trans h1.2.1, h2.2.2.trans h1.2.2⟩
theorem FrM_40 {σ τ : Hp} (h : FrM σ τ) {i : Nat} (hi : i < 4 ∨ i = 19 ∨ i = 21 ∨ i = 22) (v : Int32) : FrM σ (sI τ 40 i v) := by
  refine ⟨FwM_40 h.1 (by rcases hi with h | h | h | h; exact Or.inl h; subst h; exact Or.inr rfl; subst h; exact Or.inr rfl; subst h; exact Or.inr rfl) v, ?_, ?_⟩
  · unfold sI; rw [hI_rowI_k, up_ne _ _ (by omega)]; exact h.2.1
  · unfold sI; rw [hI_rowI_k, up_ne _ _ (by omega)]; exact h.2.2
theorem CM_f {L : Nat → Int32} {s len : Nat} {σ τ : Hp} (hf : FrM σ τ) (h : CM L s len σ) : CM L s len τ := by
  obtain ⟨h1, h2, h3, h4, h5, h6, h7⟩ := h
  exact ⟨h1, h2, by rw [hf.2.1]; exact h3, by rw [hf.2.2]; exact h4, by rw [hf.1.2.2.2.2.2 54 (by decide)]; exact h5, h6, by rw [hf.1.2.2.2.1 56 (by decide) (by decide) (by decide) (by decide) (by decide) (by decide)]; exact h7⟩
theorem M_lt {L : Nat → Int32} {s len p : Nat} {σ : Hp} (h : CM L s len σ) (hp : ¬ L p = 0) : p < len := by
  refine Classical.byContradiction (fun c => hp (h.2.2.2.2.2.1 p (by omega)))
theorem m_cell {L : Nat → Int32} {s len p : Nat} {σ : Hp} (h : CM L s len σ) (hp : p < len) : inb (nI (160 * s + p)) 1280 = true ∧ (hJ σ 54 (nI (160 * s + p)).toNatClampNeg).toInt32 = L p := by
  have h1 := h.1
  have h2 := h.2.1
  refine ⟨inb_nI (by omega) (by omega), ?_⟩
  rw [nI_clamp (by omega)]
  exact h.2.2.2.2.1 p hp
theorem m_cmpL {L : Nat → Int32} {s len p w : Nat} {σ : Hp} (hw : w < 5) (hp : p ≤ len) (h : CM L s len σ) : ∀ (m k fu : Nat), k + m = (wdL w).length → m < fu → p + k ≤ len → iter f_X12_isWordAt_s37 fu (nI (stW w + k), nI (p + k), σ) = some (if mwF L ((wdL w).drop k) (p + k) = (wdL w).length - k then 1 else 0, σ)
  | m, k, 0, _, hf, _ => by omega
  | 0, k, fu + 1, hk, hf, hpk => by
    have hl := @wdL_len w
    have hk2 : k = (wdL w).length := by omega
    obtain ⟨a1, a2, a3, a4⟩ := w_le w hw k (by omega) (by omega)
    have b1 := (w_at w hw k (by omega) (by omega)).2
    rw [show (wdL w).drop k = [] from by rw [hk2]; exact List.drop_length, if_pos (show mwF L [] (p + k) = (wdL w).length - k by show 0 = _; omega)]
    refine iter_ex ?_
    unfold f_X12_isWordAt_s37 f_X12_isWordAt_t37 f_X12_isWordAt_b86
    simp only
    have c32 : wordsF (stW w + k) ≤ 32 := a1.mpr (by omega)
    rw [ck_pos (inb_nI (by omega) (by omega)), nI_clamp (by omega), h.2.2.2.2.2.2, if_pos c32, if_neg (Int32.not_lt.mpr c32), ck_pos (inb_nI (by omega) (by omega))]
  | m + 1, k, fu + 1, hk, hf, hpk => by
    have hl := @wdL_len w
    have hle := h.2.1
    obtain ⟨a1, a2, a3, a4⟩ := w_le w hw k (by omega) (by omega)
    have b1 := (w_at w hw k (by omega) (by omega)).2
    have c32 : ¬ wordsF (stW w + k) ≤ 32 := fun c => (a1.mp c) (by omega)
    have hst : f_X12_isWordAt_s37 (nI (stW w + k), nI (p + k), σ) = if L (p + k) = (wdL w).getD k 0 then some (.inl (nI (stW w + (k + 1)), nI (p + (k + 1)), σ)) else ex (some (0, σ)) := by
      unfold f_X12_isWordAt_s37 f_X12_isWordAt_t37 f_X12_isWordAt_b86
      simp only
      rw [ck_pos (inb_nI (by omega) (by omega)), nI_clamp (by omega), h.2.2.2.2.2.2, if_neg c32, ck_pos (inb_nI (by omega) (by omega)), if_pos (Int32.not_le.mp c32), h.2.2.2.1, h.2.2.1, nI_1, nI_1]
      by_cases cq : len ≤ p + k
      · rw [if_pos (by rw [nI_leI (by omega) (by omega)]; exact cq), if_neg (by rw [h.2.2.2.2.2.1 _ cq]; exact fun c => wdL_0 (i := w) (k := k) (by omega) c.symm)]
      · obtain ⟨i1, i2⟩ := m_cell h (show p + k < len by omega)
        rw [if_neg (by rw [nI_leI (by omega) (by omega)]; exact cq), nI_add, ck_pos i1, i2, a3 (by omega)]
        by_cases c : L (p + k) = (wdL w).getD k 0
        · rw [if_pos c, if_pos c]; rfl
        · rw [if_neg c, if_neg c]
    rw [dropD (show k < (wdL w).length by omega)]
    by_cases c : L (p + k) = (wdL w).getD k 0
    · have e1 : mwF L ((wdL w).getD k 0 :: (wdL w).drop (k + 1)) (p + k) = mwF L ((wdL w).drop (k + 1)) (p + (k + 1)) + 1 := by
        show (if _ then _ else _) = _
        rw [if_pos c, Nat.add_assoc p k 1]
      have hlt : p + k < len := M_lt h (by rw [c]; exact wdL_0 (by omega))
      rw [iter_inl (by rw [hst, if_pos c]), m_cmpL hw hp h m (k + 1) fu (by omega) (by omega) (by omega), e1]
      by_cases c2 : mwF L ((wdL w).drop (k + 1)) (p + (k + 1)) = (wdL w).length - (k + 1)
      · rw [if_pos c2, if_pos (by omega)]
      · rw [if_neg c2, if_neg (by omega)]
    · have e1 : mwF L ((wdL w).getD k 0 :: (wdL w).drop (k + 1)) (p + k) = 0 := by
        show (if _ then _ else _) = _
        rw [if_neg c]
      rw [e1, if_neg (by omega)]
      exact iter_inr (by rw [hst, if_neg c]; rfl)
theorem m_wAtL {L : Nat → Int32} {s len p w : Nat} {σ : Hp} (hw : w < 5) (hp : p ≤ len) (h : CM L s len σ) (ha : hI σ 40 19 = nI p) : ∀ (m c fu : Nat), c + m = stW w → m < fu → iter (f_X12_isWordAt_s4 (nI w)) fu (nI c, nI (zcW c), σ) = some (if mwF L (wdL w) p = (wdL w).length then 1 else 0, σ)
  | m, c, 0, _, hf => by omega
  | 0, c, fu + 1, hc, hf => by
    have hc2 : c = stW w := by omega
    subst hc2
    have g := m_cmpL hw hp h (wdL w).length 0 fuel (by omega) (by have := @wdL_len w; unfold fuel; omega) hp
    rw [Nat.add_zero, Nat.add_zero, List.drop_zero, Nat.sub_zero] at g
    refine iter_ex ?_
    unfold f_X12_isWordAt_s4 f_X12_isWordAt_t4
    simp only
    rw [z_at w hw, if_pos (by rw [nI_leI (by omega) (by omega)]; omega), ha, g]
  | m + 1, c, fu + 1, hc, hf => by
    have hs29 : stW w ≤ 29 := (by decide : ∀ w, w < 5 → stW w ≤ 29) w hw
    have hz := z_lt w hw c (by omega) (by omega)
    have hst : f_X12_isWordAt_s4 (nI w) (nI c, nI (zcW c), σ) = some (.inl (nI (c + 1), nI (zcW (c + 1)), σ)) := by
      unfold f_X12_isWordAt_s4 f_X12_isWordAt_t4 f_X12_isWordAt_b24
      simp only
      rw [if_neg (by rw [nI_leI (by omega) (by omega)]; omega), ck_pos (inb_nI (by omega) (by omega)), nI_clamp (by omega), h.2.2.2.2.2.2, nI_1]
      show _ = (some (Sum.inl (nI (c + 1), nI (zcW c + (if wordsF c = 0 then 1 else 0)), σ)) : Option ((Int32 × Int32 × Hp) ⊕ (Int32 × Hp)))
      by_cases c0 : wordsF c = 0
      · rw [if_pos c0, if_pos c0, nI_1]
      · rw [if_neg c0, if_neg c0, Nat.add_zero]
        congr 4
        show nI (zcW c) + nI 0 = _
        rw [nI_add, Nat.add_zero]
    rw [iter_inl hst]
    exact m_wAtL hw hp h ha m (c + 1) fu (by omega) (by omega)
theorem m_isWordAt {L : Nat → Int32} {s len p w : Nat} {σ : Hp} (hw : w < 5) (hp : p ≤ len) (h : CM L s len σ) (ha : hI σ 40 19 = nI p) : f_X12_isWordAt (nI w) σ = some (if mwF L (wdL w) p = (wdL w).length then 1 else 0, σ) :=
  m_wAtL hw hp h ha (stW w) 0 fuel (by omega) (by have := (by decide : ∀ w, w < 5 → stW w ≤ 29) w hw; unfold fuel; omega)
theorem wlS_len (w : Nat) : (wlS w).length = (wdL w).length + 1 := by unfold wlS; rw [List.length_append]; rfl
theorem m_inL {L : Nat → Int32} {s len p w : Nat} {x1 x2 x3 : Int32} {σ : Hp} (hw : w < 5) (hp : p ≤ len) (h : CM L s len σ) : ∀ (m k fu : Nat), k + m = (wlS w).length → m < fu → p + k ≤ len → iter (f_X12_word_s23 x1 x2 x3) fu (nI (p + k), nI (stW w + k), σ) = f_X12_word_b74 x1 x2 x3 (nI (p + (k + mwF L ((wlS w).drop k) (p + k)))) (nI (stW w + (k + mwF L ((wlS w).drop k) (p + k)))) σ
  | m, k, 0, _, hf, _ => by omega
  | 0, k, fu + 1, hk, hf, hpk => by
    have hl := @wdL_len w
    have hwl := wlS_len w
    obtain ⟨a1, a2, a3, a4, a5⟩ := w_le w hw k (by omega) (by omega)
    have b1 := (w_at w hw k (by omega) (by omega)).2
    rw [show (wlS w).drop k = [] from by rw [show k = (wlS w).length by omega]; exact List.drop_length, show mwF L [] (p + k) = 0 from rfl, Nat.add_zero]
    refine iter_ex ?_
    unfold f_X12_word_s23 f_X12_word_t23
    simp only
    rw [ck_pos (inb_nI (by omega) (by omega)), nI_clamp (by omega), h.2.2.2.2.2.2, if_pos (a2.mpr (by omega))]
    rfl
  | m + 1, k, fu + 1, hk, hf, hpk => by
    have hl := @wdL_len w
    have hle := h.2.1
    have hwl := wlS_len w
    obtain ⟨a1, a2, a3, a4, a5⟩ := w_le w hw k (by omega) (by omega)
    have b1 := (w_at w hw k (by omega) (by omega)).2
    have c0 : ¬ wordsF (stW w + k) = 0 := fun c => by have := a2.mp c; omega
    have hst : f_X12_word_s23 x1 x2 x3 (nI (p + k), nI (stW w + k), σ) = if L (p + k) = (wlS w).getD k 0 then some (.inl (nI (p + (k + 1)), nI (stW w + (k + 1)), σ)) else ex (f_X12_word_b74 x1 x2 x3 (nI (p + k)) (nI (stW w + k)) σ) := by
      unfold f_X12_word_s23 f_X12_word_t23
      simp only
      rw [ck_pos (inb_nI (by omega) (by omega)), nI_clamp (by omega), h.2.2.2.2.2.2, if_neg c0, h.2.2.2.1, h.2.2.1, nI_1, nI_1]
      by_cases cq : len ≤ p + k
      · rw [if_pos (by rw [nI_leI (by omega) (by omega)]; exact cq), if_neg (by rw [h.2.2.2.2.2.1 _ cq]; exact fun c => a5 (by omega) c.symm)]
      · obtain ⟨i1, i2⟩ := m_cell h (show p + k < len by omega)
        rw [if_neg (by rw [nI_leI (by omega) (by omega)]; exact cq), nI_add, ck_pos i1, i2, a4 (by omega)]
        by_cases c : L (p + k) = (wlS w).getD k 0
        · rw [if_pos c, if_pos c]; rfl
        · rw [if_neg c, if_neg c]
    rw [dropD (show k < (wlS w).length by omega)]
    by_cases c : L (p + k) = (wlS w).getD k 0
    · have e1 : mwF L ((wlS w).getD k 0 :: (wlS w).drop (k + 1)) (p + k) = mwF L ((wlS w).drop (k + 1)) (p + (k + 1)) + 1 := by
        show (if _ then _ else _) = _
        rw [if_pos c, Nat.add_assoc p k 1]
      have hlt : p + k < len := M_lt h (by rw [c]; exact a5 (by omega))
      rw [iter_inl (by rw [hst, if_pos c]), m_inL hw hp h m (k + 1) fu (by omega) (by omega) (by omega), e1, show k + 1 + mwF L ((wlS w).drop (k + 1)) (p + (k + 1)) = k + (mwF L ((wlS w).drop (k + 1)) (p + (k + 1)) + 1) by omega]
    · have e1 : mwF L ((wlS w).getD k 0 :: (wlS w).drop (k + 1)) (p + k) = 0 := by
        show (if _ then _ else _) = _
        rw [if_neg c]
      rw [e1]
      exact iter_ex (by rw [hst, if_neg c]; rfl)
theorem m_skL {w : Nat} {x2 x3 : Int32} {σ : Hp} (hw : w < 5) (hW : ∀ i, hI σ 56 i = wordsF i) : ∀ (m k fu : Nat), k + m = (wdL w).length + 1 → m < fu → iter (f_X12_word_s105 x2 x3) fu (nI (stW w + k), σ) = some (.inl (nI (stW (w + 1)), x2, x3 + 1, σ))
  | m, k, 0, _, hf => by omega
  | 0, k, fu + 1, hk, hf => by
    have hl := @wdL_len w
    obtain ⟨a1, a2, a3, a4, a5⟩ := w_le w hw k (by omega) (by omega)
    have b1 := (w_at w hw k (by omega) (by omega)).2
    have b2' := w_nx w hw
    refine iter_inr ?_
    unfold f_X12_word_s105 f_X12_word_t105
    simp only
    rw [ck_pos (inb_nI (by omega) (by omega)), nI_clamp (by omega), hW, if_pos (a2.mpr (by omega)), nI_1, show stW w + k + 1 = stW (w + 1) by omega]
    rfl
  | m + 1, k, fu + 1, hk, hf => by
    have hl := @wdL_len w
    obtain ⟨a1, a2, a3, a4, a5⟩ := w_le w hw k (by omega) (by omega)
    have b1 := (w_at w hw k (by omega) (by omega)).2
    refine (iter_inl (a' := (nI (stW w + (k + 1)), σ)) ?_).trans (m_skL hw hW m (k + 1) fu (by omega) (by omega))
    unfold f_X12_word_s105 f_X12_word_t105
    simp only
    rw [ck_pos (inb_nI (by omega) (by omega)), nI_clamp (by omega), hW, if_neg (fun c => by have := a2.mp c; omega), nI_1]
    rfl
theorem mwF_len (L : Nat → Int32) : ∀ (w : List Int32) (p : Nat), mwF L w p ≤ w.length
  | [], p => Nat.le_refl _
  | c :: w, p => by
    unfold mwF
    by_cases e : L p = c
    · rw [if_pos e]
      have := mwF_len L w (p + 1)
      rw [List.length_cons]
      omega
    · rw [if_neg e]; exact Nat.zero_le _
/-- the words tried in turn: which, or how far any reached -/
def woS (L : Nat → Int32) (p : Nat) : Nat → Nat → Nat → Nat ⊕ Nat
  | 0, _, far => .inl far
  | m + 1, w, far => if mwF L (wlS w) p = (wlS w).length then .inr w else woS L p m (w + 1) (if p + mwF L (wlS w) p ≤ far then far else p + mwF L (wlS w) p)
theorem wlS_ne (w : Nat) : ∀ c, c ∈ wlS w → ¬ c = 0 := by
  intro c hc
  unfold wlS at hc
  rcases List.mem_append.mp hc with h | h
  · exact wdL_ne w c h
  · rw [List.mem_singleton] at h; subst h; decide
theorem m_woL {L : Nat → Int32} {s len p : Nat} {σ : Hp} (hp : p ≤ len) (h : CM L s len σ) (ha : hI σ 40 19 = nI p) : ∀ (m w far fu : Nat), w + m = 5 → m < fu → far ≤ len → iter f_X12_word_s9 fu (nI (stW w), nI far, nI w, σ) = match woS L p m w far with | .inr v => some (nI v, sI σ 40 19 (nI (p + (wlS v).length))) | .inl far => some (-1, sI σ 40 22 (nI far))
  | m, w, far, 0, _, hf, _ => by omega
  | 0, w, far, fu + 1, hw, hf, hfar => by
    refine iter_inr ?_
    unfold f_X12_word_s9 f_X12_word_t9
    simp only
    rw [if_pos (by rw [show (5 : Int32) = nI 5 from rfl, nI_leI (by omega) (by omega)]; omega)]
    rfl
  | m + 1, w, far, fu + 1, hw, hf, hfar => by
    have hw5 : w < 5 := by omega
    have hle := h.2.1
    have hl := @wdL_len w
    have hwl := wlS_len w
    have hcnt := mwF_le h.2.2.2.2.2.1 (wlS w) p (wlS_ne w) hp
    have hs29 : stW w ≤ 29 := (by decide : ∀ w, w < 5 → stW w ≤ 29) w hw5
    have g := m_inL (x1 := nI (stW w)) (x2 := nI far) (x3 := nI w) hw5 hp h (wlS w).length 0 fuel (by omega) (by unfold fuel; omega) hp
    rw [List.drop_zero, Nat.add_zero, Nat.add_zero, Nat.zero_add] at g
    have hst : f_X12_word_s9 (nI (stW w), nI far, nI w, σ) = f_X12_word_b74 (nI (stW w)) (nI far) (nI w) (nI (p + mwF L (wlS w) p)) (nI (stW w + mwF L (wlS w) p)) σ := by
      unfold f_X12_word_s9 f_X12_word_t9
      simp only
      rw [if_neg (by rw [show (5 : Int32) = nI 5 from rfl, nI_leI (by omega) (by omega)]; omega), ha, g]
    have hcl : mwF L (wlS w) p ≤ (wlS w).length := mwF_len L (wlS w) p
    obtain ⟨a1, a2, a3, a4, a5⟩ := w_le w hw5 (mwF L (wlS w) p) (by omega) (by omega)
    have b1 := (w_at w hw5 (mwF L (wlS w) p) (by omega) (by omega)).2
    unfold woS
    by_cases c : mwF L (wlS w) p = (wlS w).length
    · rw [if_pos c]
      refine iter_inr ?_
      rw [hst]
      unfold f_X12_word_b74
      rw [ck_pos (inb_nI (by omega) (by omega)), nI_clamp (by omega), h.2.2.2.2.2.2, if_pos (a2.mpr (by omega)), c]
      rfl
    · rw [if_neg c]
      have hb : f_X12_word_s9 (nI (stW w), nI far, nI w, σ) = some (.inl (nI (stW (w + 1)), nI (if p + mwF L (wlS w) p ≤ far then far else p + mwF L (wlS w) p), nI (w + 1), σ)) := by
        rw [hst]
        unfold f_X12_word_b74 f_X12_word_b104
        have sk : ∀ x2, iter (f_X12_word_s105 x2 (nI w)) fuel (nI (stW w), σ) = some (.inl (nI (stW (w + 1)), x2, nI w + 1, σ)) := fun x2 => m_skL hw5 h.2.2.2.2.2.2 ((wdL w).length + 1) 0 fuel (by omega) (by unfold fuel; omega)
        rw [ck_pos (inb_nI (by omega) (by omega)), nI_clamp (by omega), h.2.2.2.2.2.2, if_neg (fun c2 => by have := a2.mp c2; omega), sk, sk, nI_1]
        by_cases c3 : p + mwF L (wlS w) p ≤ far
        · rw [if_pos c3, if_pos (by rw [nI_leI (by omega) (by omega)]; exact c3)]
        · rw [if_neg c3, if_neg (by rw [nI_leI (by omega) (by omega)]; exact c3)]
      rw [iter_inl hb]
      exact m_woL hp h ha m (w + 1) _ fu (by omega) (by omega) (by split <;> omega)
theorem m_word {L : Nat → Int32} {s len p : Nat} {σ : Hp} (hp : p ≤ len) (h : CM L s len σ) (ha : hI σ 40 19 = nI p) : f_X12_word σ = match woS L p 5 0 p with | .inr v => some (nI v, sI σ 40 19 (nI (p + (wlS v).length))) | .inl far => some (-1, sI σ 40 22 (nI far)) := by
  unfold f_X12_word
  rw [ha]
  exact m_woL hp h ha 5 0 p fuel (by omega) (by unfold fuel; omega) hp
