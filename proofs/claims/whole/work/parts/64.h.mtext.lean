/-! texts: the reference's loop -/
theorem m_textL {L : Nat → Int32} {s len : Nat} {σ0 : Hp} : ∀ (k n fu p : Nat) (σ : Hp) (A : AbS), len < p + k → n ≤ p → k + 2 ≤ fu → p ≤ len → FrM σ0 σ → okA A → CM L s len σ → hI σ 40 19 = nI p → StM σ A → ∃ σ1 r, f_X12_item σ = some (r, σ1) ∧ match txS L len k A p n with | .inr z => ∃ τ, iter f_X12_text_s66 fu (nI (n + 1), r, σ1) = some (nI z.1, τ) ∧ FrM σ0 τ ∧ StM τ z.2 | .inl q => ∃ x τ, iter f_X12_text_s66 fu (nI (n + 1), r, σ1) = f_X12_text_b137 x 0 τ ∧ FrM σ0 τ ∧ hI τ 40 22 = nI q
  | 0, n, fu, p, σ, A, hk, hn, hf, hp, hfr, hO, h, ha, hM => by omega
  | k + 1, n, 0, p, σ, A, hk, hn, hf, hp, hfr, hO, h, ha, hM => by omega
  | k + 1, n, 1, p, σ, A, hk, hn, hf, hp, hfr, hO, h, ha, hM => by omega
  | k + 1, n, fu + 2, p, σ, A, hk, hn, hf, hp, hfr, hO, h, ha, hM => by
    have hle := h.2.1
    have hs8 := h.1
    have g1 := m_item hO hp h ha hM
    have hz : ∀ (x : Int32) (τ : Hp) (fu : Nat), iter f_X12_text_s66 (fu + 1) (x, 0, τ) = f_X12_text_b137 x 0 τ := fun x τ fu => by
      refine iter_ex ?_
      unfold f_X12_text_s66 f_X12_text_t66
      simp only
      rw [if_pos trivial]
    unfold txS
    cases hi : itS L A p with
    | inl q =>
      rw [hi] at g1
      obtain ⟨τ, e1, e2, e3⟩ := g1
      exact ⟨τ, 0, e1, nI (n + 1), τ, hz _ _ _, FrM_trans hfr e2, e3⟩
    | inr z =>
      rw [hi] at g1
      obtain ⟨τ, e1, e2, e3, e4⟩ := g1
      obtain ⟨z1, z2, z3, z4⟩ := itS_r h.2.2.2.2.2.1 hp hO hi
      have hC := CM_f e2 h
      refine ⟨τ, 1, e1, ?_⟩
      have hst : f_X12_text_s66 (nI (n + 1), 1, τ) = if len ≤ z.1 then ex (some (nI (n + 1), τ)) else if L z.1 = 59 then b2 (f_X12_item (sI τ 40 19 (nI (z.1 + 1)))) (fun r_23 s_24 => some (.inl (nI (n + 2), r_23, s_24))) else some (.inl (nI (n + 1), 0, sI τ 40 22 (nI z.1))) := by
        unfold f_X12_text_s66 f_X12_text_t66 f_X12_text_b137 f_X12_wrong
        simp only
        rw [if_neg (show ¬ (1 : Int32) = 0 by decide), if_neg (show ¬ (1 : Int32) = 0 by decide), hC.2.2.2.1, e3]
        by_cases c : len ≤ z.1
        · rw [if_pos c, if_pos (by rw [nI_leI (by omega) (by omega)]; exact c)]
        · obtain ⟨i1, i2⟩ := m_cell hC (show z.1 < len by omega)
          rw [if_neg c, if_neg (by rw [nI_leI (by omega) (by omega)]; exact c), hC.2.2.1, nI_add, ck_pos i1, i2, nI_1, nI_1, b2_some]
      show match (if len ≤ z.1 then .inr (n + 1, z.2) else if L z.1 = 59 then txS L len k z.2 (z.1 + 1) (n + 1) else .inl z.1) with | .inr z => _ | .inl q => _
      by_cases c : len ≤ z.1
      · rw [if_pos c]
        exact ⟨τ, iter_ex (by rw [hst, if_pos c]), FrM_trans hfr e2, e4⟩
      · rw [if_neg c]
        by_cases c2 : L z.1 = 59
        · rw [if_pos c2]
          have f2 : FrM τ (sI τ 40 19 (nI (z.1 + 1))) := FrM_40 (FrM_refl τ) (by omega) _
          obtain ⟨σ1, r, q1, q2⟩ := m_textL (L := L) (s := s) (len := len) (σ0 := σ0) k (n + 1) (fu + 1) (z.1 + 1) (sI τ 40 19 (nI (z.1 + 1))) z.2 (by omega) (by omega) (by omega) (by omega) (FrM_trans (FrM_trans hfr e2) f2) z3 (CM_f f2 hC) (by unfold sI; rw [hI_rowI_k, up_eq]) (StM_40 (σ := τ) (G := va_up (hI τ 40) 19 (nI (z.1 + 1))) (fun r hr => up_ne _ _ (by omega)) e4)
          have hs2 : iter f_X12_text_s66 (fu + 2) (nI (n + 1), 1, τ) = iter f_X12_text_s66 (fu + 1) (nI (n + 2), r, σ1) := by
            refine iter_inl ?_
            rw [hst, if_neg c, if_pos c2, q1, b2_some]
          rw [hs2]
          exact q2
        · rw [if_neg c2]
          have hs2 : iter f_X12_text_s66 (fu + 2) (nI (n + 1), 1, τ) = iter f_X12_text_s66 (fu + 1) (nI (n + 1), 0, sI τ 40 22 (nI z.1)) := by
            refine iter_inl ?_
            rw [hst, if_neg c, if_neg c2]
          rw [hs2]
          exact ⟨nI (n + 1), sI τ 40 22 (nI z.1), hz _ _ _, FrM_40 (FrM_trans hfr e2) (by omega) _, by unfold sI; rw [hI_rowI_k, up_eq]⟩
/-- a state of the class taken over from a text, or put back -/
theorem Inv_txt {σ σ1 σ2 : Hp} {A B : AbS} (h : InA σ A) (hO : okA B) (hn : aN A ≤ aN B) (x1 : hN σ ≤ hN σ1) (x2 : ∀ j, j < hN σ → hC σ1 j = hC σ j ∧ hI σ1 (100 + j) = hI σ (100 + j)) (x3 : ∀ i, i < 100 → ¬ i = 0 → ¬ i = 1 → ¬ i = 2 → ¬ i = 7 → ¬ i = 8 → ¬ i = 30 → ¬ i = 31 → hI σ1 i = hI σ i) (x3b : hI σ1 0 3 = hI σ 0 3) (x4 : ∀ i, ¬ i = 10 → ¬ i = 11 → hJ σ1 i = hJ σ i) (x5 : hR σ1 6 = hR σ 6) (x6 : okH σ1) (x7 : StX σ1 1 B) (m1 : hR σ2 = hR σ1) (m2 : hC σ2 = hC σ1) (m3 : hN σ2 = hN σ1) (m4 : ∀ i, ¬ i = 40 → ¬ i = 46 → ¬ i = 47 → ¬ i = 48 → ¬ i = 57 → ¬ i = 67 → ¬ i = 63 → ¬ i = 45 → hI σ2 i = hI σ1 i) (m5 : hI σ2 40 36 = hI σ1 40 36 ∧ hI σ2 40 37 = hI σ1 40 37) (m6 : ∀ i, ¬ i = 49 → ¬ i = 65 → hJ σ2 i = hJ σ1 i) (m7 : StM σ2 B) (hft : hI σ2 0 7 = hI σ2 40 4) (hrf : RfR σ2) : Inv σ2 := by
  have ei : ∀ i, i < 100 → ¬ i = 0 → ¬ i = 1 → ¬ i = 2 → ¬ i = 7 → ¬ i = 8 → ¬ i = 30 → ¬ i = 31 → ¬ i = 40 → ¬ i = 46 → ¬ i = 47 → ¬ i = 48 → ¬ i = 57 → ¬ i = 67 → ¬ i = 63 → ¬ i = 45 → hI σ2 i = hI σ i := fun i a b c d e f g h k l m n o p q r => (m4 i k l m n o p q r).trans (x3 i a b c d e f g h)
  have ej : ∀ i, ¬ i = 10 → ¬ i = 11 → ¬ i = 49 → ¬ i = 65 → hJ σ2 i = hJ σ i := fun i a b c d => (m6 i c d).trans (x4 i a b)
  have e40 : hI σ1 40 = hI σ 40 := x3 40 (by omega) (by omega) (by omega) (by omega) (by omega) (by omega) (by omega) (by omega)
  refine Inv_mk h hO ?_ m7 (fun s hs => ?_) (okH_eq m1 m2 m3 x6) hft hrf (by rw [m3]; exact x1) (fun j hj => ⟨by rw [m2]; exact (x2 j hj).1, by rw [m4 _ (by omega) (by omega) (by omega) (by omega) (by omega) (by omega) (by omega) (by omega)]; exact (x2 j hj).2⟩) (by rw [m1, x5]) (fun k hk => ei k (by omega) (by omega) (by omega) (by omega) (by omega) (by omega) (by omega) (by omega) (by omega) (by omega) (by omega) (by omega) (by omega) (by omega) (by omega) (by omega)) (by rw [m4 0 (by omega) (by omega) (by omega) (by omega) (by omega) (by omega) (by omega) (by omega), x3b]) ⟨by rw [m5.1, e40], by rw [m5.2, e40]⟩ ⟨ej 12 (by omega) (by omega) (by omega) (by omega), ej 66 (by omega) (by omega) (by omega) (by omega)⟩
  · obtain ⟨h1, h2, h3, h4, h5, h6, h7⟩ := x7
    have e1 := m4 1 (by omega) (by omega) (by omega) (by omega) (by omega) (by omega) (by omega) (by omega)
    have e7 := m4 7 (by omega) (by omega) (by omega) (by omega) (by omega) (by omega) (by omega) (by omega)
    refine ⟨by rw [e1]; exact h1, by rw [e1]; exact h2, by rw [e1]; exact h3, by rw [e1]; exact h4, fun i hi => ?_, fun i f hi hf => ?_, fun i hi => ?_⟩
    · obtain ⟨j, g1, g2, g3, g4, g5⟩ := h5 i hi
      have ej := m4 (100 + j) (by omega) (by omega) (by omega) (by omega) (by omega) (by omega) (by omega) (by omega)
      refine ⟨j, by rw [m1]; exact g1, ?_, by rw [m2]; exact g3, by rw [ej]; exact g4, by rw [ej]; exact g5⟩
      unfold isLaw at g2 ⊢
      rw [m2, m3]
      exact g2
    · show hI σ2 7 _ = _; rw [e7]; exact h6 i f hi hf
    · show hJ σ2 10 _ = _; rw [m6 10 (by omega) (by omega)]; exact h7 i hi
  · have ez : ∀ i, (50 ≤ i ∧ i ≤ 53) ∨ (14 ≤ i ∧ i ≤ 21) → hI σ2 i = hI σ i := fun i hi => ei i (by omega) (by omega) (by omega) (by omega) (by omega) (by omega) (by omega) (by omega) (by omega) (by omega) (by omega) (by omega) (by omega) (by omega) (by omega) (by omega)
    exact ShR_eq hn (ez 50 (by omega)) (ez 51 (by omega)) (ez 52 (by omega)) (ez 53 (by omega)) (ez (14 + s) (by omega)) (ej _ (by omega) (by omega) (by omega) (by omega)) (ej _ (by omega) (by omega) (by omega) (by omega)) (h.2.2.2.2.1 s hs)
