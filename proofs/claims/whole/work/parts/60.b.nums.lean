/-! rows: numbers alone, and runs of a law -/
theorem op_turned (σ : Hp) (hv : Inv σ) (a0 : Int64) : ∃ (r : Int64) (σ1 σ2 : Hp), f_X11_turned a0 σ = some (r, σ1) ∧ f_X12_turned a0 σ1 = some (r, σ2) ∧ Inv σ2 := by
  refine op_go hv (fun A hA => ?_)
  obtain ⟨hO, hX, hM, -⟩ := id hA
  rcases num_cs a0 with ⟨n, hn, rfl, n1, n2⟩ | ⟨n1, n2⟩
  · refine op_an (Fs_refl σ) (v := lN (rvN (aB A) n)) ?_ (fun τ hτ => ⟨τ, ?_, Fs_refl τ⟩)
    · unfold f_X11_turned
      rw [n1, b2_some, if_neg (by decide), hX.1, x_turnedOf hO.2.1 hO.2.2.1 (by omega), b2_some]
    · unfold f_X12_turned
      rw [n2, b2_some, if_neg (by decide), m_turnedOf hO.2.1 hO.2.2.1 (by omega) hτ.2.2.1.2.2.1, b2_some]
  · refine op_no (k := 5) (by omega) (v := (-6 : Int32).toInt64) ?_ (fun τ hτ => ?_)
    · unfold f_X11_turned
      rw [n1, b2_some, if_pos rfl, x_r6, b2_some]
    · unfold f_X12_turned
      rw [n2, b2_some, if_pos rfl, m_r6, b2_some]
theorem op_numberOf (σ : Hp) (hv : Inv σ) (a0 : Int64) (a1 : Int32) : ∃ (r : Int32) (σ1 σ2 : Hp), f_X11_numberOf a0 a1 σ = some (r, σ1) ∧ f_X12_numberOf a0 a1 σ1 = some (r, σ2) ∧ Inv σ2 := by
  refine op_go hv (fun A hA => ?_)
  obtain ⟨hO, hX, hM, -⟩ := id hA
  have h5 : (a1 < 0 ∨ ¬ a1 ≤ 3) → opG (f_X11_numberOf a0 a1) (f_X12_numberOf a0 a1) σ A := by
    intro h
    refine op_no (k := 4) (by omega) (v := -5) ?_ (fun τ hτ => ?_)
    · unfold f_X11_numberOf f_X11_numberOf_b9
      by_cases c : a1 < 0
      · rw [if_pos c, x_r5, b2_some]
      · rw [if_neg c, if_neg (h.resolve_left c), x_r5, b2_some]
    · unfold f_X12_numberOf f_X12_numberOf_b9
      by_cases c : a1 < 0
      · rw [if_pos c, m_r5, b2_some]
      · rw [if_neg c, if_neg (h.resolve_left c), m_r5, b2_some]
  rcases int_cs a1 with c | ⟨w, hw, rfl⟩
  · exact h5 (Or.inl c)
  · by_cases c : nI w ≤ 3
    · have hw3 : w ≤ 3 := by rw [show (3 : Int32) = nI 3 from rfl, nI_leI (by omega) (by omega)] at c; exact c
      rcases num_cs a0 with ⟨n, hn, rfl, n1, n2⟩ | ⟨n1, n2⟩
      · exact op_an (Fs_refl σ) (x_numberOf hO.2.1 hO.2.2.1 hn hw3 hX.1 n1) (fun τ hτ => m_numberOf hO.2.1 hO.2.2.1 hn hw3 hτ.2.2.1.2.2.1 n2)
      · refine op_no (k := 5) (by omega) (v := -6) ?_ (fun τ hτ => ?_)
        · unfold f_X11_numberOf
          rw [if_neg (nI_0le hw), if_pos c, n1, b2_some, if_pos rfl, x_r6, b2_some]
        · unfold f_X12_numberOf
          rw [if_neg (nI_0le hw), if_pos c, n2, b2_some, if_pos rfl, m_r6, b2_some]
    · exact h5 (Or.inr c)
theorem op_waits (σ : Hp) (hv : Inv σ) (a0 : Int64) : ∃ (r : Int64) (σ1 σ2 : Hp), f_X11_waits a0 σ = some (r, σ1) ∧ f_X12_waits a0 σ1 = some (r, σ2) ∧ Inv σ2 := by
  refine op_go hv (fun A hA => ?_)
  obtain ⟨hO, hX, hM, -⟩ := id hA
  rcases num_cs a0 with ⟨n, hn, rfl, n1, n2⟩ | ⟨n1, n2⟩
  · have hl := (alN_lt hO.2.1 hO.2.2.1 hn).1
    have hg := alN_ge hO.2.1 (show n < 2 ^ 63 by omega)
    by_cases c : alN (aB A) n ≤ 999999999999999
    · refine op_an (Fs_refl σ) (v := lN (alN (aB A) n) - lN n) ?_ (fun τ hτ => ?_)
      · unfold f_X11_waits
        rw [n1, b2_some, if_neg (by decide), hX.1, x_alikeFrom hO.2.1 hO.2.2.1 hn, b2_some, numB_x, if_pos ((numB_lN (by omega)).mpr c), b2_some, if_neg (by decide)]
      · obtain ⟨F, g⟩ := m_alikeFrom hO.2.1 hO.2.2.1 hn hτ.2.2.1.2.2.1
        refine ⟨_, ?_, Fs_67 (Fs_refl τ) F⟩
        unfold f_X12_waits
        rw [n2, b2_some, if_neg (by decide), g, b2_some, show (999999999999999 : Int64) = lN 999999999999999 from rfl, if_pos ((lc_LE (by omega) (by omega)).mpr c)]
    · refine op_vc (c := some 5) (v := (-6 : Int32).toInt64) (fun k e => by cases e; omega) ⟨(_, _), ?_, anX_s (Fs_refl σ)⟩ (fun τ hτ => ?_)
      · unfold f_X11_waits
        rw [n1, b2_some, if_neg (by decide), hX.1, x_alikeFrom hO.2.1 hO.2.2.1 hn, b2_some, numB_x, if_neg (fun c2 => c ((numB_lN (by omega)).mp c2)), b2_some, if_pos rfl, x_r6, b2_some]
      · obtain ⟨F, g⟩ := m_alikeFrom hO.2.1 hO.2.2.1 hn hτ.2.2.1.2.2.1
        refine ⟨_, ?_, anM_s (Fs_67 (Fs_refl τ) F)⟩
        unfold f_X12_waits
        rw [n2, b2_some, if_neg (by decide), g, b2_some, show (999999999999999 : Int64) = lN 999999999999999 from rfl, if_neg (fun c2 => c ((lc_LE (by omega) (by omega)).mp c2)), m_r6, b2_some]
  · refine op_no (k := 5) (by omega) (v := (-6 : Int32).toInt64) ?_ (fun τ hτ => ?_)
    · unfold f_X11_waits
      rw [n1, b2_some, if_pos rfl, x_r6, b2_some]
    · unfold f_X12_waits
      rw [n2, b2_some, if_pos rfl, m_r6, b2_some]
theorem op_slip (σ : Hp) (hv : Inv σ) (a0 : Int64) (a1 : Int64) : ∃ (r : Int32) (σ1 σ2 : Hp), f_X11_slip a0 a1 σ = some (r, σ1) ∧ f_X12_slip a0 a1 σ1 = some (r, σ2) ∧ Inv σ2 := by
  refine op_go hv (fun A hA => ?_)
  obtain ⟨hO, hX, hM, -⟩ := id hA
  rcases num_cs a0 with ⟨n, hn, rfl, n1, n2⟩ | ⟨n1, n2⟩
  · rcases num_cs a1 with ⟨m, hm, rfl, m1, m2⟩ | ⟨m1, m2⟩
    · have hr := rvN_le hO.2.1 (show n < 2 ^ 63 by omega)
      have hbn : aB A * n ≤ 10 * 999999999999999 := Nat.mul_le_mul hO.2.2.1 hn
      refine op_an (Fs_refl σ) (v := oI (slN (aB A) 63 0 (n + rvN (aB A) n) m)) ?_ (fun τ hτ => ⟨τ, ?_, Fs_refl τ⟩)
      · unfold f_X11_slip f_X1_firstUnlike
        rw [n1, b2_some, if_neg (by decide), m1, b2_some, if_neg (by decide), hX.1, x_turnedOf hO.2.1 hO.2.2.1 (by omega), b2_some, hX.1, if_pos (ge2 hO.2.1 hO.2.2.1), lN_add]
        have := x_slL hO.2.1 hO.2.2.1 σ 63 0 fuel (n + rvN (aB A) n) m (by omega) (by omega) (by omega) (by unfold fuel; omega)
        exact congrArg (fun z => b2 z (fun r_15 s_16 => some (r_15, s_16))) this
      · unfold f_X12_slip
        rw [n2, b2_some, if_neg (by decide), m2, b2_some, if_neg (by decide), m_turnedOf hO.2.1 hO.2.2.1 (by omega) hτ.2.2.1.2.2.1, b2_some, lN_add]
        exact m_slL hO.2.1 hO.2.2.1 τ hτ.2.2.1.2.2.1 63 0 fuel (n + rvN (aB A) n) m (by omega) (by omega) (by omega) (by unfold fuel; omega)
    · refine op_no (k := 5) (by omega) (v := -6 - 10) ?_ (fun τ hτ => ?_)
      · unfold f_X11_slip f_X11_slip_b14
        rw [n1, b2_some, if_neg (by decide), m1, b2_some, if_pos rfl, x_r6, b2_some]
      · unfold f_X12_slip f_X12_slip_b16
        rw [n2, b2_some, if_neg (by decide), m2, b2_some, if_pos rfl, m_t6, b2_some]
  · refine op_no (k := 5) (by omega) (v := -6 - 10) ?_ (fun τ hτ => ?_)
    · unfold f_X11_slip f_X11_slip_b14
      rw [n1, b2_some, if_pos rfl, x_r6, b2_some]
    · unfold f_X12_slip f_X12_slip_b16
      rw [n2, b2_some, if_pos rfl, m_t6, b2_some]
theorem op_missed (σ : Hp) (hv : Inv σ) (a0 : Int64) : ∃ (r : Int32) (σ1 σ2 : Hp), f_X11_missed a0 σ = some (r, σ1) ∧ f_X12_missed a0 σ1 = some (r, σ2) ∧ Inv σ2 := by
  refine op_go hv (fun A hA => ?_)
  obtain ⟨hO, hX, hM, -⟩ := id hA
  rcases num_cs a0 with ⟨n, hn, rfl, n1, n2⟩ | ⟨n1, n2⟩
  · refine op_vc (c := none) (v := msS (aB A) n) (fun k e => by cases e) ⟨(_, σ), ?_, anX_n (Fs_refl σ)⟩ (fun τ hτ => ?_)
    · unfold f_X11_missed
      rw [n1, b2_some, if_neg (by decide), hX.1, x_missed hO.2.1 hO.2.2.1 hn, b2_some]
    · unfold f_X12_missed
      rw [n2, b2_some, if_neg (by decide)]
      exact m_missed hO.2.1 hO.2.2.1 hn hτ.2.2.1.2.2.1
  · refine op_no (k := 5) (by omega) (v := -6) ?_ (fun τ hτ => ?_)
    · unfold f_X11_missed
      rw [n1, b2_some, if_pos rfl, x_r6, b2_some]
    · unfold f_X12_missed
      rw [n2, b2_some, if_pos rfl, m_r6, b2_some]
/-- a row of a law and a number -/
theorem op_ln {α : Type} {fx fm : Hp → Option (α × Hp)} {σ : Hp} {a0 : Int32} {a1 : Int64} {v1 v6 : α} (hv : Inv σ)
    (x1 : f_X7_lawAt 1 a0 σ = some (none, σ) → fx σ = some (v1, sI σ 30 0 (hI σ 30 0 + 1))) (m1 : ∀ τ, f_X12_isLaw a0 τ = some (0, τ) → fm τ = some (v1, sI τ 45 1 (hI τ 45 1 + 1)))
    (x6 : ∀ j, f_X7_lawAt 1 a0 σ = some (some j, σ) → f_X11_isNumber a1 σ = some (0, σ) → fx σ = some (v6, sI σ 30 5 (hI σ 30 5 + 1))) (m6 : ∀ τ, f_X12_isLaw a0 τ = some (1, τ) → f_X12_isNumber a1 τ = some (0, τ) → fm τ = some (v6, sI τ 45 6 (hI τ 45 6 + 1)))
    (h : ∀ A i j n, InA σ A → i < aN A → n ≤ 999999999999999 → a0 = nI i → a1 = lN n → f_X7_lawAt 1 a0 σ = some (some j, σ) → f_X11_isNumber a1 σ = some (1, σ) → lawX σ j 1 (aK A i) (aA A i) i (aB A) (aW A i) → (∀ τ, f_X12_isNumber a1 τ = some (1, τ)) → opG fx fm σ A) : ∃ r σ1 σ2, fx σ = some (r, σ1) ∧ fm σ1 = some (r, σ2) ∧ Inv σ2 := by
  refine op_go hv (fun A hA => ?_)
  obtain ⟨hO, hX, hM, -⟩ := id hA
  rcases law_cs2 hO a0 with ⟨i, hi, rfl⟩ | ⟨l1, l2⟩
  · obtain ⟨j, e1, e2⟩ := law_X (by omega) hO hX hi
    rcases num_cs a1 with ⟨n, hn, rfl, n1, n2⟩ | ⟨n1, n2⟩
    · exact h A i j n hA hi hn rfl rfl e1 (n1 σ) e2 n2
    · exact op_no (k := 5) (by omega) (x6 j e1 (n1 σ)) (fun τ hτ => m6 τ (m_isLaw hτ.1 hτ.2.2.1 hi) (n2 τ))
  · exact op_no (k := 0) (by omega) (x1 (l1 σ 1 (by omega) hX)) (fun τ hτ => m1 τ (l2 τ hτ.2.2.1))
theorem op_next (σ : Hp) (hv : Inv σ) (a0 : Int32) (a1 : Int64) : ∃ (r : Int64) (σ1 σ2 : Hp), f_X11_next a0 a1 σ = some (r, σ1) ∧ f_X12_next a0 a1 σ1 = some (r, σ2) ∧ Inv σ2 := by
  refine op_ln (v1 := (-1 : Int32).toInt64) (v6 := (-6 : Int32).toInt64) (a0 := a0) (a1 := a1) hv (fun e => ?_) (fun τ e => ?_) (fun j e n => ?_) (fun τ e n => ?_) (fun A i j n hA hi hn ei en e1 n1 hlX n2 => ?_)
  · unfold f_X11_next; rw [e, b2_some, cs_none, x_r1, b2_some]
  · unfold f_X12_next; rw [e, b2_some, if_pos rfl, m_r1, b2_some]
  · unfold f_X11_next; rw [e, b2_some, cs_some, n, b2_some, if_pos rfl, x_r6, b2_some]
  · unfold f_X12_next; rw [e, b2_some, if_neg (by decide), n, b2_some, if_pos rfl, m_r6, b2_some]
  · subst ei en
    have hlw := hlX.1
    cases ho : nxO (aK A i) (aA A i) (aB A) (aW A i) n with
    | none =>
      refine op_vc (c := some 6) (v := (-7 : Int32).toInt64) (fun k e => by cases e; omega) ⟨(_, _), ?_, anX_s (Fs_refl σ)⟩ (fun τ hτ => ?_)
      · unfold f_X11_next
        rw [e1, b2_some, cs_some, n1, b2_some, if_neg (by decide), ck_pos hlw, x_on2 hlX hn, b2_some, ho, oL_n, if_pos lc_m1m, x_r7, b2_some]
      · obtain ⟨υ, g1, g2⟩ := m_next3 (Fs_refl τ) (law_M hτ.1 hτ.2.2.1 hi) hn
        refine ⟨_, ?_, anM_s g2⟩
        unfold f_X12_next
        rw [m_isLaw hτ.1 hτ.2.2.1 hi, b2_some, if_neg (by decide), n2, b2_some, if_neg (by decide), g1, b2_some, ho, oL_n, if_pos lc_m1m, m_r7, b2_some]
    | some m =>
      have hm : m ≤ 999999999999999 := okO_nx m ho
      refine op_an (Fs_refl σ) (v := lN m) ?_ (fun τ hτ => ?_)
      · unfold f_X11_next
        rw [e1, b2_some, cs_some, n1, b2_some, if_neg (by decide), ck_pos hlw, x_on2 hlX hn, b2_some, ho, oL_s, if_neg (lc_m1 hm)]
      · obtain ⟨υ, g1, g2⟩ := m_next3 (Fs_refl τ) (law_M hτ.1 hτ.2.2.1 hi) hn
        refine ⟨υ, ?_, g2⟩
        unfold f_X12_next
        rw [m_isLaw hτ.1 hτ.2.2.1 hi, b2_some, if_neg (by decide), n2, b2_some, if_neg (by decide), g1, b2_some, ho, oL_s, if_neg (lc_m1 hm)]
theorem op_after (σ : Hp) (hv : Inv σ) (a0 : Int32) (a1 : Int64) (a2 : Int32) : ∃ (r : Int64) (σ1 σ2 : Hp), f_X11_after a0 a1 a2 σ = some (r, σ1) ∧ f_X12_after a0 a1 a2 σ1 = some (r, σ2) ∧ Inv σ2 := by
  refine op_ln (v1 := (-1 : Int32).toInt64) (v6 := (-6 : Int32).toInt64) (a0 := a0) (a1 := a1) hv (fun e => ?_) (fun τ e => ?_) (fun j e n => ?_) (fun τ e n => ?_) (fun A i j n hA hi hn ei en e1 n1 hlX n2 => ?_)
  · unfold f_X11_after; rw [e, b2_some, cs_none, x_r1, b2_some]
  · unfold f_X12_after; rw [e, b2_some, if_pos rfl, m_r1, b2_some]
  · unfold f_X11_after f_X11_after_b42; rw [e, b2_some, cs_some, n, b2_some, if_pos rfl, x_r6, b2_some]
  · unfold f_X12_after f_X12_after_b36; rw [e, b2_some, if_neg (by decide), n, b2_some, if_pos rfl, m_r6, b2_some]
  · subst ei en
    have h6 : (a2 < 0 ∨ ¬ a2 ≤ 1000) → opG (f_X11_after (nI i) (lN n) a2) (f_X12_after (nI i) (lN n) a2) σ A := by
      intro h
      refine op_no (k := 5) (by omega) (v := (-6 : Int32).toInt64) ?_ (fun τ hτ => ?_)
      · unfold f_X11_after f_X11_after_b42
        rw [e1, b2_some, cs_some, n1, b2_some, if_neg (by decide)]
        by_cases c : a2 < 0
        · rw [if_pos c, x_r6, b2_some]
        · rw [if_neg c, if_neg (h.resolve_left c), x_r6, b2_some]
      · unfold f_X12_after f_X12_after_b36
        rw [m_isLaw hτ.1 hτ.2.2.1 hi, b2_some, if_neg (by decide), n2, b2_some, if_neg (by decide)]
        by_cases c : a2 < 0
        · rw [if_pos c, m_r6, b2_some]
        · rw [if_neg c, if_neg (h.resolve_left c), m_r6, b2_some]
    rcases int_cs a2 with c | ⟨g, hg, rfl⟩
    · exact h6 (Or.inl c)
    · by_cases c : nI g ≤ 1000
      · have hg2 : g ≤ 1000 := by rw [show (1000 : Int32) = nI 1000 from rfl, nI_leI (by omega) (by omega)] at c; exact c
        cases ho : goN (nxO (aK A i) (aA A i) (aB A) (aW A i)) g (some n) with
        | none =>
          refine op_vc (c := some 6) (v := (-7 : Int32).toInt64) (fun k e => by cases e; omega) ⟨(_, _), ?_, anX_s (Fs_refl σ)⟩ (fun τ hτ => ?_)
          · unfold f_X11_after
            rw [e1, b2_some, cs_some, n1, b2_some, if_neg (by decide), if_neg (nI_0le hg), if_pos c, x_behind hlX (by omega) hn, b2_some, ho, oL_n, if_pos lc_m1m, x_r7, b2_some]
          · obtain ⟨υ, g1, g2⟩ := m_after3 (g := g) (Fs_refl τ) (law_M hτ.1 hτ.2.2.1 hi) (by omega) hn
            refine ⟨_, ?_, anM_s g2⟩
            unfold f_X12_after
            rw [m_isLaw hτ.1 hτ.2.2.1 hi, b2_some, if_neg (by decide), n2, b2_some, if_neg (by decide), if_neg (nI_0le hg), if_pos c, g1, b2_some, ho, oL_n, if_pos lc_m1m, m_r7, b2_some]
        | some m =>
          have hm : m ≤ 999999999999999 := okO_go (o := some n) (fun m e => by cases e; exact hn) g m ho
          refine op_an (Fs_refl σ) (v := lN m) ?_ (fun τ hτ => ?_)
          · unfold f_X11_after
            rw [e1, b2_some, cs_some, n1, b2_some, if_neg (by decide), if_neg (nI_0le hg), if_pos c, x_behind hlX (by omega) hn, b2_some, ho, oL_s, if_neg (lc_m1 hm)]
          · obtain ⟨υ, g1, g2⟩ := m_after3 (g := g) (Fs_refl τ) (law_M hτ.1 hτ.2.2.1 hi) (by omega) hn
            refine ⟨υ, ?_, g2⟩
            unfold f_X12_after
            rw [m_isLaw hτ.1 hτ.2.2.1 hi, b2_some, if_neg (by decide), n2, b2_some, if_neg (by decide), if_neg (nI_0le hg), if_pos c, g1, b2_some, ho, oL_s, if_neg (lc_m1 hm)]
      · exact h6 (Or.inr c)
theorem op_goes (σ : Hp) (hv : Inv σ) (a0 : Int32) (a1 : Int64) : ∃ (r : Int32) (σ1 σ2 : Hp), f_X11_goes a0 a1 σ = some (r, σ1) ∧ f_X12_goes a0 a1 σ1 = some (r, σ2) ∧ Inv σ2 := by
  refine op_ln (v1 := -1 - 10) (v6 := -6 - 10) (a0 := a0) (a1 := a1) hv (fun e => ?_) (fun τ e => ?_) (fun j e n => ?_) (fun τ e n => ?_) (fun A i j n hA hi hn ei en e1 n1 hlX n2 => ?_)
  · unfold f_X11_goes; rw [e, b2_some, cs_none, x_r1, b2_some]
  · unfold f_X12_goes; rw [e, b2_some, if_pos rfl, m_t1, b2_some]
  · unfold f_X11_goes; rw [e, b2_some, cs_some, n, b2_some, if_pos rfl, x_r6, b2_some]
  · unfold f_X12_goes; rw [e, b2_some, if_neg (by decide), n, b2_some, if_pos rfl, m_t6, b2_some]
  · subst ei en
    refine op_an (Fs_refl σ) (v := oI (gs (nxA A i) (aB A) 201 0 (some n))) ?_ (fun τ hτ => ?_)
    · unfold f_X11_goes
      rw [e1, b2_some, cs_some, n1, b2_some, if_neg (by decide), x_countGoes hlX hn, b2_some]
    · obtain ⟨υ, g1, g2⟩ := m_goes2 (Fs_refl τ) (law_M hτ.1 hτ.2.2.1 hi) hn
      refine ⟨υ, ?_, g2⟩
      unfold f_X12_goes
      rw [m_isLaw hτ.1 hτ.2.2.1 hi, b2_some, if_neg (by decide), n2, b2_some, if_neg (by decide), g1, b2_some]
theorem gs_lt {f : Nat → Option Nat} {b : Nat} : ∀ (k i : Nat) (o : Option Nat) (q : Nat), gs f b k i o = some q → q < i + k
  | 0, i, o, q, h => by cases h
  | k + 1, i, none, q, h => by cases h
  | k + 1, i, some n, q, h => by
    have h2 : (if rvN b n = n then some i else gs f b k (i + 1) (f n)) = some q := h
    by_cases c : rvN b n = n
    · rw [if_pos c] at h2; cases h2; omega
    · rw [if_neg c] at h2
      have := gs_lt k (i + 1) (f n) q h2
      omega
theorem oI_m1 {q : Nat} (h : q < 2 ^ 31) : ¬ oI (some q) = -1 := by
  intro c
  have c1 := congrArg Int32.toInt c
  have c2 : (oI (some q)).toInt = (q : Int) := nI_toInt h
  rw [c2, show ((-1 : Int32)).toInt = -1 from rfl] at c1
  omega
theorem op_comes (σ : Hp) (hv : Inv σ) (a0 : Int32) (a1 : Int64) : ∃ (r : Int64) (σ1 σ2 : Hp), f_X11_comes a0 a1 σ = some (r, σ1) ∧ f_X12_comes a0 a1 σ1 = some (r, σ2) ∧ Inv σ2 := by
  refine op_ln (v1 := (-1 : Int32).toInt64) (v6 := (-6 : Int32).toInt64) (a0 := a0) (a1 := a1) hv (fun e => ?_) (fun τ e => ?_) (fun j e n => ?_) (fun τ e n => ?_) (fun A i j n hA hi hn ei en e1 n1 hlX n2 => ?_)
  · unfold f_X11_comes; rw [e, b2_some, cs_none, x_r1, b2_some]
  · unfold f_X12_comes; rw [e, b2_some, if_pos rfl, m_r1, b2_some]
  · unfold f_X11_comes; rw [e, b2_some, cs_some, n, b2_some, if_pos rfl, x_r6, b2_some]
  · unfold f_X12_comes; rw [e, b2_some, if_neg (by decide), n, b2_some, if_pos rfl, m_r6, b2_some]
  · subst ei en
    cases ho : gs (nxO (aK A i) (aA A i) (aB A) (aW A i)) (aB A) 201 0 (some n) with
    | none =>
      refine op_vc (c := some 4) (v := (-5 : Int32).toInt64) (fun k e => by cases e; omega) ⟨(_, _), ?_, anX_s (Fs_refl σ)⟩ (fun τ hτ => ?_)
      · unfold f_X11_comes
        rw [e1, b2_some, cs_some, n1, b2_some, if_neg (by decide), x_countGoes hlX hn, b2_some, ho, if_pos (show oI none = -1 from rfl), x_r5, b2_some]
      · obtain ⟨υ, g1, g2⟩ := m_goes2 (Fs_refl τ) (law_M hτ.1 hτ.2.2.1 hi) hn
        refine ⟨_, ?_, anM_s g2⟩
        unfold f_X12_comes
        rw [m_isLaw hτ.1 hτ.2.2.1 hi, b2_some, if_neg (by decide), n2, b2_some, if_neg (by decide), g1, b2_some, ho, if_pos (show oI none = -1 from rfl), m_r5, b2_some]
    | some q =>
      have hq := gs_lt 201 0 _ q ho
      refine op_an (Fs_refl σ) (v := oL (goN (nxO (aK A i) (aA A i) (aB A) (aW A i)) q (some n))) ?_ (fun τ hτ => ?_)
      · unfold f_X11_comes
        rw [e1, b2_some, cs_some, n1, b2_some, if_neg (by decide), x_countGoes hlX hn, b2_some, ho, if_neg (oI_m1 (by omega))]
        show b2 (f_X11_behind j (lN n) (nI q) σ) _ = _
        rw [x_behind hlX (by omega) hn, b2_some]
      · obtain ⟨F, C, g1, g2⟩ := m_goesOf (law_M hτ.1 hτ.2.2.1 hi) hn
        refine ⟨rowJ (rowI τ 67 F) 40 C, ?_, Fs_J (Fs_67 (Fs_refl τ) F) rfl C⟩
        unfold f_X12_comes
        rw [m_isLaw hτ.1 hτ.2.2.1 hi, b2_some, if_neg (by decide), n2, b2_some, if_neg (by decide), g1, b2_some, ho, if_neg (oI_m1 (by omega)), hJ_rowJ_k, g2 q ho]
