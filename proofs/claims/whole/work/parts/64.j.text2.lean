/-! row: text, whole -/
theorem op_g {α : Type} {fx fm : Hp → Option (α × Hp)} {σ : Hp} {A : AbS} (hA : InA σ A) (hr : RfR σ) (h : opG fx fm σ A) : ∃ r σ1 σ2, fx σ = some (r, σ1) ∧ fm σ1 = some (r, σ2) ∧ Inv σ2 := by
  obtain ⟨v, c, hc, ⟨b1, x1, x2, x3, x4, x5⟩, hm⟩ := h
  obtain ⟨b2, m1, m2, m3, m4, m5⟩ := hm b1.2 x3 (InA_Fr x3 hA)
  refine ⟨v, b1.2, b2.2, by rw [x1, ← x2], by rw [m1, ← m2], A, InA_Fr (Fr_trans x3 m3) hA, fun i hi => ?_⟩
  rw [m4, m5, x4, x5]
  have h0 := hr i hi
  cases c with
  | none => exact h0
  | some k =>
    show va_up (hI σ 30) k (hI σ 30 k + 1) i = va_up (hI σ 45) (k + 1) (hI σ 45 (k + 1) + 1) (i + 1)
    have hk := hc k rfl
    by_cases e : i = k
    · subst e; rw [up_eq, up_eq, h0]
    · rw [up_ne _ _ e, up_ne _ _ (by omega), h0]
/-- a shelf that holds no row: both refuse alike -/
theorem w_no {σ : Hp} {s : Nat} (hs : s < 8) (h : hI σ 50 s = 0) (s2 : ∀ τ, f_X12_isShelf (nI s) τ = some (1, τ)) : f_X12_wanted (nI s) σ = some (-3, σ) := by
  unfold f_X12_wanted
  rw [s2, b2_some, if_neg (by decide), ck_pos (inb_nI (by omega) (by omega)), nI_clamp (by omega), h, if_neg (by decide), if_pos rfl]
theorem w_law {σ : Hp} {s : Nat} (hs : s < 8) (h : hI σ 50 s = 2) (s2 : ∀ τ, f_X12_isShelf (nI s) τ = some (1, τ)) : f_X12_wanted (nI s) σ = some (-2, σ) := by
  unfold f_X12_wanted
  rw [s2, b2_some, if_neg (by decide), ck_pos (inb_nI (by omega) (by omega)), nI_clamp (by omega), h, if_pos rfl]
theorem w_row {σ : Hp} {s : Nat} (hs : s < 8) (h : hI σ 50 s = 1) (s2 : ∀ τ, f_X12_isShelf (nI s) τ = some (1, τ)) : f_X12_wanted (nI s) σ = some (0, σ) := by
  unfold f_X12_wanted
  rw [s2, b2_some, if_neg (by decide), ck_pos (inb_nI (by omega) (by omega)), nI_clamp (by omega), h, if_neg (by decide), if_neg (by decide)]
theorem op_text (σ : Hp) (hv : Inv σ) (a0 : Int32) : ∃ (r : Int32) (σ1 σ2 : Hp), f_X11_text a0 σ = some (r, σ1) ∧ f_X12_text a0 σ1 = some (r, σ2) ∧ Inv σ2 := by
  obtain ⟨A, hA, hr⟩ := id hv
  obtain ⟨hO, hX, hM, hI1, hS, hok, hft, hT, hW⟩ := id hA
  have hO1 := hO.1
  rcases sh_cs a0 with ⟨s, hs, rfl, s1, s2⟩ | ⟨s1, s2⟩
  · rcases hS s hs with ⟨h1, h2, h3, h4⟩ | ⟨t, len, h⟩ | ⟨l, hl, h1, h2, h3, h4, h5⟩
    · refine op_g hA hr ⟨-3, some 2, (fun k e => by cases e; omega), ⟨(-3, sI σ 30 2 (hI σ 30 2 + 1)), ?_, anX_s (Fs_refl σ)⟩, fun τ hf hτ => ⟨(-3, sI τ 45 3 (hI τ 45 3 + 1)), ?_, anM_s (k := 2) (Fs_refl τ)⟩⟩
      · unfold f_X11_text f_X5_refusalOfRow
        rw [s1, b2_some, cs_some, ck_pos (ky14 hs), h4, if_pos rfl, h2, if_pos rfl, b2_some, if_neg (by decide), x_r3, b2_some]
      · unfold f_X12_text
        rw [w_no hs (by rw [hf.2.2.2.1 50 rfl (by decide)]; exact h1) s2, b2_some, if_neg (by decide), m_r3, b2_some]
    · have hrw : rwR σ s t len := h
      obtain ⟨ht3, hl160, r50, r51, r52, r1, r2, r3, r4⟩ := h
      obtain ⟨L, hL1, hL2⟩ : ∃ L : Nat → Int32, (∀ p, p < len → (hJ σ (22 + s) p).toInt32 = L p) ∧ ∀ p, len ≤ p → L p = 0 := ⟨fun p => if p < len then (hJ σ (22 + s) p).toInt32 else 0, fun p hp => (if_pos hp).symm, fun p hp => if_neg (by omega)⟩
      obtain ⟨k, hk⟩ : ∃ k, k = 161 := ⟨_, rfl⟩
      have gx := x_text (L := L) (k := k) hs hA hrw hL1 hL2 s1 hk
      have gm : ∀ σ1, ClT σ σ1 → StM σ1 A ∧ (match txS L len k A 0 0 with | .inr z => ∃ σ2, f_X12_text (nI s) σ1 = some (nI z.1, σ2) ∧ ReT σ1 σ2 ∧ StM σ2 z.2 ∧ hI σ2 40 4 = -1 ∧ hI σ2 45 = hI σ1 45 | .inl q => ∃ σ2, f_X12_text (nI s) σ1 = some (-6, σ2) ∧ ReT σ1 σ2 ∧ StM σ2 A ∧ hI σ2 40 4 = nI q ∧ hI σ2 45 = va_up (hI σ1 45) 6 (hI σ1 45 6 + 1)) := by
        intro σ1 ⟨c1, c2, c3, c4, c5, c6, c7⟩
        have ez : ∀ i, 40 ≤ i → i < 100 → hI σ1 i = hI σ i := fun i a b => c3 i b (by omega) (by omega) (by omega) (by omega) (by omega) (by omega) (by omega)
        have hM1 : StM σ1 A := by
          unfold StM at *
          rw [ez 40 (by omega) (by omega), ez 46 (by omega) (by omega), ez 47 (by omega) (by omega), ez 48 (by omega) (by omega), c5 49 (by omega) (by omega)]
          exact hM
        refine ⟨hM1, m_text hs hO hM1 hl160 (by rw [ez 50 (by omega) (by omega)]; exact r50) (by rw [ez 52 (by omega) (by omega)]; exact r52) (fun p hp => ?_) hL2 (by rw [ez 56 (by omega) (by omega)]; exact hW) s2 hk⟩
        rw [c5 54 (by omega) (by omega), ← r4 p hp]
        exact hL1 p hp
      cases ht : txS L len k A 0 0 with
      | inr z =>
        rw [ht] at gx gm
        obtain ⟨σ1, x1, x2, x3, x4, x5, x6, x7⟩ := gx
        obtain ⟨hM1, σ2, m1, m2, m3, m4, m5⟩ := gm σ1 x2
        obtain ⟨c1, c2, c3, c4, c5, c6, c7⟩ := x2
        obtain ⟨d1, d2, d3, d4, d5, d6⟩ := m2
        refine ⟨nI z.1, σ1, σ2, x1, m1, Inv_txt hA x4 x5 c1 c2 c3 c4 c5 c6 c7 x3 d1 d2 d3 d4 d5 d6 m3 ?_ (fun i hi => ?_)⟩
        · rw [m4, d4 0 (by omega) (by omega) (by omega) (by omega) (by omega) (by omega) (by omega) (by omega), x6]
        · rw [m5, d4 30 (by omega) (by omega) (by omega) (by omega) (by omega) (by omega) (by omega) (by omega), x7, c3 45 (by omega) (by omega) (by omega) (by omega) (by omega) (by omega) (by omega) (by omega)]
          exact hr i hi
      | inl q =>
        rw [ht] at gx gm
        obtain ⟨σ1, x1, x2, x3, x6, x7⟩ := gx
        obtain ⟨hM1, σ2, m1, m2, m3, m4, m5⟩ := gm σ1 x2
        obtain ⟨c1, c2, c3, c4, c5, c6, c7⟩ := x2
        obtain ⟨d1, d2, d3, d4, d5, d6⟩ := m2
        refine ⟨-6, σ1, σ2, x1, m1, Inv_txt hA hO (Nat.le_refl _) c1 c2 c3 c4 c5 c6 c7 x3 d1 d2 d3 d4 d5 d6 m3 ?_ (fun i hi => ?_)⟩
        · rw [m4, d4 0 (by omega) (by omega) (by omega) (by omega) (by omega) (by omega) (by omega) (by omega), x6]
        · rw [m5, d4 30 (by omega) (by omega) (by omega) (by omega) (by omega) (by omega) (by omega) (by omega), x7, c3 45 (by omega) (by omega) (by omega) (by omega) (by omega) (by omega) (by omega) (by omega)]
          by_cases e : i = 5
          · subst e
            rw [up_eq, up_eq, hr 5 (by omega)]
          · rw [up_ne _ _ e, up_ne _ _ (by omega)]
            exact hr i hi
    · refine op_g hA hr ⟨-2, some 1, (fun k e => by cases e; omega), ⟨(-2, sI σ 30 1 (hI σ 30 1 + 1)), ?_, anX_s (Fs_refl σ)⟩, fun τ hf hτ => ⟨(-2, sI τ 45 2 (hI τ 45 2 + 1)), ?_, anM_s (k := 1) (Fs_refl τ)⟩⟩
      · unfold f_X11_text f_X5_refusalOfRow
        rw [s1, b2_some, cs_some, ck_pos (ky14 hs), h5, if_neg (by have := oI_m1 (q := l) (by omega); exact this), b2_some, if_neg (by decide), x_r2, b2_some]
      · unfold f_X12_text
        rw [w_law hs (by rw [hf.2.2.2.1 50 rfl (by decide)]; exact h1) s2, b2_some, if_neg (by decide), m_r2, b2_some]
  · refine op_g hA hr (op_no (k := 0) (by omega) (v := -1) ?_ (fun τ hτ => ?_))
    · unfold f_X11_text
      rw [s1, b2_some, cs_none, x_r1, b2_some]
    · unfold f_X12_text f_X12_wanted
      rw [s2, b2_some, if_pos rfl, b2_some, if_neg (by decide), m_r1, b2_some]
