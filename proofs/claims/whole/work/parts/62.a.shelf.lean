/-! rows: row, set, show -/
def FsH (σ τ : Hp) : Prop := hR τ = hR σ ∧ hC τ = hC σ ∧ hN τ = hN σ ∧ (∀ i, ¬ (50 ≤ i ∧ i ≤ 53) → ¬ (14 ≤ i ∧ i ≤ 21) → hI τ i = hI σ i) ∧ ∀ i, ¬ (54 ≤ i ∧ i ≤ 55) → ¬ (22 ≤ i ∧ i ≤ 29) → hJ τ i = hJ σ i
theorem FsH_refl (σ : Hp) : FsH σ σ := ⟨rfl, rfl, rfl, fun _ _ _ => rfl, fun _ _ _ => rfl⟩
theorem FsH_I {σ τ : Hp} (h : FsH σ τ) {k : Nat} (hk : (50 ≤ k ∧ k ≤ 53) ∨ (14 ≤ k ∧ k ≤ 21)) (F : Nat → Int32) : FsH σ (rowI τ k F) := by
  obtain ⟨h1, h2, h3, h4, h5⟩ := h
  refine ⟨h1, h2, h3, fun i a b => ?_, h5⟩
  rw [hI_rowI_n _ _ (by omega)]
  exact h4 i a b
theorem FsH_J {σ τ : Hp} (h : FsH σ τ) {k : Nat} (hk : (54 ≤ k ∧ k ≤ 55) ∨ (22 ≤ k ∧ k ≤ 29)) (F : Nat → Int64) : FsH σ (rowJ τ k F) := by
  obtain ⟨h1, h2, h3, h4, h5⟩ := h
  refine ⟨h1, h2, h3, h4, fun i a b => ?_⟩
  rw [hJ_rowJ_n _ _ (by omega)]
  exact h5 i a b
theorem Inv_H {σ τ : Hp} {A : AbS} (h : InA σ A) (hr : RfR σ) (f : FsH σ τ) (hS : ∀ s, s < 8 → ShR τ (aN A) s) : Inv τ := by
  obtain ⟨f1, f2, f3, f4, f5⟩ := f
  have e1 := f4 1 (by omega) (by omega)
  have e7 := f4 7 (by omega) (by omega)
  have e40 := f4 40 (by omega) (by omega)
  refine Inv_mk h h.1 ?_ ?_ hS ?_ ?_ ?_ (by rw [f3]; exact Nat.le_refl _) (fun j _ => ⟨by rw [f2], f4 _ (by omega) (by omega)⟩) (by rw [f1]) (fun k hk => f4 k (by omega) (by omega)) (by rw [f4 0 (by omega) (by omega)]) ⟨by rw [e40], by rw [e40]⟩ ⟨f5 12 (by omega) (by omega), f5 66 (by omega) (by omega)⟩
  · obtain ⟨h1, h2, h3, h4, h5, h6, h7⟩ := h.2.1
    refine ⟨by rw [e1]; exact h1, by rw [e1]; exact h2, by rw [e1]; exact h3, by rw [e1]; exact h4, fun i hi => ?_, fun i f hi hf => ?_, fun i hi => ?_⟩
    · obtain ⟨j, g1, g2, g3, g4, g5⟩ := h5 i hi
      have ej := f4 (100 + j) (by omega) (by omega)
      refine ⟨j, by rw [f1]; exact g1, ?_, by rw [f2]; exact g3, by rw [ej]; exact g4, by rw [ej]; exact g5⟩
      unfold isLaw at g2 ⊢
      rw [f2, f3]
      exact g2
    · show hI τ 7 _ = _; rw [e7]; exact h6 i f hi hf
    · show hJ τ 10 _ = _; rw [f5 10 (by omega) (by omega)]; exact h7 i hi
  · have hM := h.2.2.1
    unfold StM at *
    rw [e40, f4 46 (by omega) (by omega), f4 47 (by omega) (by omega), f4 48 (by omega) (by omega), f5 49 (by omega) (by omega)]
    exact hM
  · have := h.2.2.2.2.2.1
    exact okH_eq f1 f2 f3 this
  · rw [f4 0 (by omega) (by omega), e40]; exact h.2.2.2.2.2.2.1
  · unfold RfR at *
    rw [f4 30 (by omega) (by omega), f4 45 (by omega) (by omega)]
    exact hr
theorem op_shx {α : Type} {fx fm : Hp → Option (α × Hp)} {σ : Hp} (hv : Inv σ) (h : ∀ A, InA σ A → opG fx fm σ A ∨ ∃ r σ1 σ2, fx σ = some (r, σ1) ∧ fm σ1 = some (r, σ2) ∧ FsH σ σ2 ∧ ∀ s, s < 8 → ShR σ2 (aN A) s) : ∃ r σ1 σ2, fx σ = some (r, σ1) ∧ fm σ1 = some (r, σ2) ∧ Inv σ2 := by
  obtain ⟨A, hA, hr⟩ := id hv
  rcases h A hA with h | ⟨r, σ1, σ2, b1, b2, b3, b4⟩
  · obtain ⟨v, c, hc, ⟨b1, x1, x2, x3, x4, x5⟩, hm⟩ := h
    obtain ⟨b2, m1, m2, m3, m4, m5⟩ := hm b1.2 x3 (InA_Fr x3 hA)
    refine ⟨v, b1.2, b2.2, by rw [x1, ← x2], by rw [m1, ← m2], A, InA_Fr (Fr_trans x3 m3) hA, fun i hi => ?_⟩
    rw [m4, m5, x4, x5]
    have h0 := hr i hi
    cases c with
    | none => exact h0
    | some k =>
      show va_up (hI σ 30) k (hI σ 30 k + 1) i = va_up (hI σ 45) (k + 1) (hI σ 45 (k + 1) + 1) (i + 1)
      have hk := hc k rfl
      by_cases e : i = k
      · subst e; rw [up_eq, up_eq, h0]
      · rw [up_ne _ _ e, up_ne _ _ (by omega), h0]
  · exact ⟨r, σ1, σ2, b1, b2, Inv_H hA hr b3 b4⟩
theorem ShR_pt {σ τ : Hp} {n s : Nat} (e50 : hI τ 50 s = hI σ 50 s) (e51 : hI τ 51 s = hI σ 51 s) (e52 : hI τ 52 s = hI σ 52 s) (e53 : hI τ 53 s = hI σ 53 s) (e14 : hI τ (14 + s) = hI σ (14 + s)) (e22 : hJ τ (22 + s) = hJ σ (22 + s)) (e54 : ∀ i, i < 160 → hJ τ 54 (160 * s + i) = hJ σ 54 (160 * s + i)) (h : ShR σ n s) : ShR τ n s := by
  unfold ShR at *
  rw [e50, e51, e52, e53, e14, e22]
  refine h.imp id (Or.imp (fun ⟨t, len, h1, h2, h3, h4, h5, h6, h7, h8, h9⟩ => ⟨t, len, h1, h2, h3, h4, h5, h6, h7, h8, fun i hi => ?_⟩) id)
  rw [h9 i hi, e54 i (by omega)]
theorem m_rowL {s : Nat} (hs : s < 8) : ∀ (k i fu : Nat) (σ : Hp), i + k = 160 → k < fu → ∃ R, iter (f_X12_row_s79 (nI s)) fu (nI i, σ) = some (1, rowJ σ 54 R) ∧ (∀ q, ¬ (160 * s + i ≤ q ∧ q < 160 * s + 160) → R q = hJ σ 54 q) ∧ ∀ q, i ≤ q → q < 160 → R (160 * s + q) = 0
  | k, i, 0, σ, _, hf => by omega
  | 0, i, fu + 1, σ, hi, hf => by
    refine ⟨hJ σ 54, iter_inr ?_, fun _ _ => rfl, fun q h1 h2 => by omega⟩
    unfold f_X12_row_s79 f_X12_row_t79
    simp only
    rw [if_pos (by rw [show (160 : Int32) = nI 160 from rfl, nI_leI (by omega) (by omega)]; omega), rowJ_self]
    rfl
  | k + 1, i, fu + 1, σ, hi, hf => by
    obtain ⟨R, g1, g2, g3⟩ := m_rowL hs k (i + 1) fu (sJ σ 54 (160 * s + i) 0) (by omega) (by omega)
    refine ⟨R, (iter_inl (a' := (nI (i + 1), sJ σ 54 (160 * s + i) 0)) ?_).trans (g1.trans ?_), fun q hq => ?_, fun q h1 h2 => ?_⟩
    · unfold f_X12_row_s79 f_X12_row_t79
      simp only
      rw [if_neg (by rw [show (160 : Int32) = nI 160 from rfl, nI_leI (by omega) (by omega)]; omega), show (160 : Int32) = nI 160 from rfl, nI_mul, nI_add, ck_pos (inb_nI (by omega) (by omega)), nI_clamp (by omega), nI_1]
    · unfold sJ; rw [rowJ_rowJ]
    · rw [g2 q (by omega)]; unfold sJ; rw [hJ_rowJ_k, up_ne _ _ (by omega)]
    · by_cases e : q = i
      · subst e; rw [g2 _ (by omega)]; unfold sJ; rw [hJ_rowJ_k, up_eq]
      · exact g3 q (by omega) h2
theorem ln22 {s : Nat} (h : s < 8) : ln (22 + s) = 160 := (by decide : ∀ s, s < 8 → ln (22 + s) = 160) s h
theorem op_row (σ : Hp) (hv : Inv σ) (a0 : Int32) (a1 : Int32) (a2 : Int32) : ∃ (r : Int32) (σ1 σ2 : Hp), f_X11_row a0 a1 a2 σ = some (r, σ1) ∧ f_X12_row a0 a1 a2 σ1 = some (r, σ2) ∧ Inv σ2 := by
  refine op_shx hv (fun A hA => ?_)
  obtain ⟨hO, hX, hM, hI1, hS, -⟩ := id hA
  rcases sh_cs a0 with ⟨s, hs, rfl, s1, s2⟩ | ⟨s1, s2⟩
  · by_cases c1 : 0 ≤ a2
    · obtain ⟨n, hn, rfl⟩ := nI_cs a2 (Int32.not_lt.mpr c1)
      have h6 : (a1 < 0 ∨ ¬ a1 ≤ 3) → opG (f_X11_row (nI s) a1 (nI n)) (f_X12_row (nI s) a1 (nI n)) σ A := by
        intro h
        refine op_no (k := 5) (by omega) (v := -6) ?_ (fun τ hτ => ?_)
        · unfold f_X11_row f_X11_row_b38
          rw [s1, b2_some, cs_some, ck_pos (ky14 hs), if_pos c1, x_r6, b2_some]
          by_cases c : a1 < 0
          · rw [if_pos c]
          · rw [if_neg c, if_neg (h.resolve_left c)]
        · unfold f_X12_row f_X12_row_b34
          rw [s2, b2_some, if_neg (by decide), if_pos c1, m_r6, b2_some]
          by_cases c : a1 < 0
          · rw [if_pos c]
          · rw [if_neg c, if_neg (h.resolve_left c)]
      by_cases c2 : a1 < 0
      · exact Or.inl (h6 (Or.inl c2))
      · by_cases c3 : a1 ≤ 3
        · obtain ⟨t, ht, rfl⟩ := nI_cs a1 c2
          have ht3 : t ≤ 3 := by rw [show (3 : Int32) = nI 3 from rfl, nI_leI (by omega) (by omega)] at c3; exact c3
          by_cases c4 : nI n ≤ 160
          · have hn6 : n ≤ 160 := by rw [show (160 : Int32) = nI 160 from rfl, nI_leI (by omega) (by omega)] at c4; exact c4
            obtain ⟨R, g1, g2⟩ := x_fill (k0 := 22 + s) (v := 0) (σ := sI (sI (sI σ (14 + s) 1 (nI t)) (14 + s) 2 (nI n)) (14 + s) 3 (-1)) (by rw [ln22 hs]; decide)
            rw [ln22 hs] at g2
            obtain ⟨R2, q1, q2, q3⟩ := m_rowL hs 160 0 fuel (sI (sI (sI (rowJ (sI (sI (sI σ (14 + s) 1 (nI t)) (14 + s) 2 (nI n)) (14 + s) 3 (-1)) (22 + s) R) 50 s 1) 51 s (nI t)) 52 s (nI n)) (by omega) (by unfold fuel; omega)
            have hk14 : 14 ≤ 14 + s ∧ 14 + s ≤ 21 := by omega
            refine Or.inr ⟨1, rowJ (sI (sI (sI σ (14 + s) 1 (nI t)) (14 + s) 2 (nI n)) (14 + s) 3 (-1)) (22 + s) R, rowJ (sI (sI (sI (rowJ (sI (sI (sI σ (14 + s) 1 (nI t)) (14 + s) 2 (nI n)) (14 + s) 3 (-1)) (22 + s) R) 50 s 1) 51 s (nI t)) 52 s (nI n)) 54 R2, ?_, ?_, ?_, ?_⟩
            · unfold f_X11_row f_X5_holdRow
              rw [s1, b2_some, cs_some, ck_pos (ky14 hs), if_pos c1, if_neg c2, if_pos c3, if_pos c4, show 14 + s + 8 = 22 + s by omega, g1]
              rfl
            · unfold f_X12_row
              rw [s2, b2_some, if_neg (by decide), if_pos c1, if_neg c2, if_pos c3, if_pos c4, ck_pos (inb_nI (by omega) (by omega)), nI_clamp (by omega)]
              exact q1
            · exact FsH_J (FsH_I (FsH_I (FsH_I (FsH_J (FsH_I (FsH_I (FsH_I (FsH_refl σ) (Or.inr hk14) _) (Or.inr hk14) _) (Or.inr hk14) _) (Or.inr (by omega)) _) (Or.inl (by omega)) _) (Or.inl (by omega)) _) (Or.inl (by omega)) _) (Or.inl (by omega)) _
            · intro u hu
              have z50 : ∀ q, ¬ q = s → hI (rowJ (sI (sI (sI (rowJ (sI (sI (sI σ (14 + s) 1 (nI t)) (14 + s) 2 (nI n)) (14 + s) 3 (-1)) (22 + s) R) 50 s 1) 51 s (nI t)) 52 s (nI n)) 54 R2) 50 q = hI σ 50 q := by
                intro q hq
                unfold sI
                rw [hI_rowJ, hI_rowI_n _ _ (by decide), hI_rowI_n _ _ (by decide), hI_rowI_k, up_ne _ _ hq, hI_rowJ, hI_rowI_n _ _ (by omega), hI_rowI_n _ _ (by omega), hI_rowI_n _ _ (by omega)]
              by_cases e : u = s
              · subst e
                refine Or.inr (Or.inl ⟨t, n, ht3, hn6, ?_, ?_, ?_, ?_, ?_, ?_, fun i hi => ?_⟩)
                · unfold sI; rw [hI_rowJ, hI_rowI_n _ _ (by decide), hI_rowI_n _ _ (by decide), hI_rowI_k, up_eq]
                · unfold sI; rw [hI_rowJ, hI_rowI_n _ _ (by decide), hI_rowI_k, up_eq]
                · unfold sI; rw [hI_rowJ, hI_rowI_k, up_eq]
                · unfold sI; rw [hI_rowJ, hI_rowI_n _ _ (by omega), hI_rowI_n _ _ (by omega), hI_rowI_n _ _ (by omega), hI_rowJ, hI_rowI_k, up_ne _ _ (by decide), hI_rowI_k, up_ne _ _ (by decide), hI_rowI_k, up_eq]
                · unfold sI; rw [hI_rowJ, hI_rowI_n _ _ (by omega), hI_rowI_n _ _ (by omega), hI_rowI_n _ _ (by omega), hI_rowJ, hI_rowI_k, up_ne _ _ (by decide), hI_rowI_k, up_eq]
                · unfold sI; rw [hI_rowJ, hI_rowI_n _ _ (by omega), hI_rowI_n _ _ (by omega), hI_rowI_n _ _ (by omega), hI_rowJ, hI_rowI_k, up_eq]
                · rw [hJ_rowJ_k, q3 i (by omega) (by omega), hJ_rowJ_n _ _ (by omega)]
                  unfold sI
                  rw [hJ_rowI, hJ_rowI, hJ_rowI, hJ_rowJ_k]
                  exact g2 i (by omega)
              · refine ShR_pt (z50 u e) ?_ ?_ ?_ ?_ ?_ (fun i hi => ?_) (hS u hu)
                · unfold sI; rw [hI_rowJ, hI_rowI_n _ _ (by decide), hI_rowI_k, up_ne _ _ e, hI_rowI_n _ _ (by decide), hI_rowJ, hI_rowI_n _ _ (by omega), hI_rowI_n _ _ (by omega), hI_rowI_n _ _ (by omega)]
                · unfold sI; rw [hI_rowJ, hI_rowI_k, up_ne _ _ e, hI_rowI_n _ _ (by decide), hI_rowI_n _ _ (by decide), hI_rowJ, hI_rowI_n _ _ (by omega), hI_rowI_n _ _ (by omega), hI_rowI_n _ _ (by omega)]
                · unfold sI; rw [hI_rowJ, hI_rowI_n _ _ (by decide), hI_rowI_n _ _ (by decide), hI_rowI_n _ _ (by decide), hI_rowJ, hI_rowI_n _ _ (by omega), hI_rowI_n _ _ (by omega), hI_rowI_n _ _ (by omega)]
                · unfold sI; rw [hI_rowJ, hI_rowI_n _ _ (by omega), hI_rowI_n _ _ (by omega), hI_rowI_n _ _ (by omega), hI_rowJ, hI_rowI_n _ _ (by omega), hI_rowI_n _ _ (by omega), hI_rowI_n _ _ (by omega)]
                · unfold sI; rw [hJ_rowJ_n _ _ (by omega), hJ_rowI, hJ_rowI, hJ_rowI, hJ_rowJ_n _ _ (by omega), hJ_rowI, hJ_rowI, hJ_rowI]
                · rw [hJ_rowJ_k, q2 _ (by omega)]
                  unfold sI
                  rw [hJ_rowI, hJ_rowI, hJ_rowI, hJ_rowJ_n _ _ (by omega), hJ_rowI, hJ_rowI, hJ_rowI]
          · refine Or.inl (op_no (k := 6) (by omega) (v := -7) ?_ (fun τ hτ => ?_))
            · unfold f_X11_row
              rw [s1, b2_some, cs_some, ck_pos (ky14 hs), if_pos c1, if_neg c2, if_pos c3, if_neg c4, x_r7, b2_some]
            · unfold f_X12_row
              rw [s2, b2_some, if_neg (by decide), if_pos c1, if_neg c2, if_pos c3, if_neg c4, m_r7, b2_some]
        · exact Or.inl (h6 (Or.inr c3))
    · refine Or.inl (op_no (k := 3) (by omega) (v := -4) ?_ (fun τ hτ => ?_))
      · unfold f_X11_row
        rw [s1, b2_some, cs_some, ck_pos (ky14 hs), if_neg c1, x_r4, b2_some]
      · unfold f_X12_row
        rw [s2, b2_some, if_neg (by decide), if_neg c1, m_r4, b2_some]
  · refine Or.inl (op_no (k := 0) (by omega) (v := -1) ?_ (fun τ hτ => ?_))
    · unfold f_X11_row
      rw [s1, b2_some, cs_none, x_r1, b2_some]
    · unfold f_X12_row
      rw [s2, b2_some, if_pos rfl, m_r1, b2_some]
