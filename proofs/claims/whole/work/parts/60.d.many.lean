/-! rows: small numbers counted, laws that fit, told slates -/
theorem op_barren (σ : Hp) (hv : Inv σ) (a0 : Int32) (a1 : Int32) (a2 : Int32) : ∃ (r : Int32) (σ1 σ2 : Hp), f_X11_barren a0 a1 a2 σ = some (r, σ1) ∧ f_X12_barren a0 a1 a2 σ1 = some (r, σ2) ∧ Inv σ2 := by
  refine op_go hv (fun A hA => ?_)
  obtain ⟨hO, hX, hM, -⟩ := id hA
  rcases law_cs2 hO a0 with ⟨i, hi, rfl⟩ | ⟨l1, l2⟩
  · obtain ⟨j, e1, hlX⟩ := law_X (by omega) hO hX hi
    have h6 : (a1 < 0 ∨ 10000 ≤ a2 ∨ ¬ a1 ≤ a2) → opG (f_X11_barren (nI i) a1 a2) (f_X12_barren (nI i) a1 a2) σ A := by
      intro h
      refine op_no (k := 5) (by omega) (v := -6) ?_ (fun τ hτ => ?_)
      · unfold f_X11_barren f_X11_barren_b37
        rw [e1, b2_some, cs_some, x_r6, b2_some]
        by_cases c1 : a1 < 0
        · rw [if_pos c1]
        · by_cases c2 : 10000 ≤ a2
          · rw [if_neg c1, if_pos c2]
          · rw [if_neg c1, if_neg c2, if_neg ((h.resolve_left c1).resolve_left c2)]
      · unfold f_X12_barren f_X12_barren_b30
        rw [m_isLaw hτ.1 hτ.2.2.1 hi, b2_some, if_neg (by decide), m_r6, b2_some]
        by_cases c1 : a1 < 0
        · rw [if_pos c1]
        · by_cases c2 : a2 < a1
          · rw [if_neg c1, if_pos c2]
          · rw [if_neg c1, if_neg c2, if_neg (fun c3 => ?_)]
            rcases h with h | h | h
            · exact c1 h
            · exact absurd c3 (Int32.not_lt.mpr h)
            · exact h (Int32.not_lt.mp c2)
    rcases int_cs a1 with c | ⟨f, hf, rfl⟩
    · exact h6 (Or.inl c)
    · by_cases c1 : 10000 ≤ a2
      · exact h6 (Or.inr (Or.inl c1))
      · by_cases c2 : nI f ≤ a2
        · obtain ⟨t, ht, rfl⟩ := nI_cs a2 (fun h => nI_0le hf (Int32.lt_of_le_of_lt c2 h))
          have ht2 : t < 10000 := by rw [show (10000 : Int32) = nI 10000 from rfl, nI_leI (by omega) (by omega)] at c1; omega
          have hft : f ≤ t := by rw [nI_leI hf ht] at c2; exact c2
          have c3 : nI t < 10000 := Int32.not_le.mp c1
          obtain ⟨bb, g1, g2⟩ := x_barren hlX hft ht2
          refine op_vc (c := none) (v := brS (hitB (nxO (aK A i) (aA A i) (aB A) (aW A i))) f (t - f + 1)) (fun k e => by cases e) ⟨bb, ?_, g2⟩ (fun τ hτ => ?_)
          · unfold f_X11_barren
            rw [e1, b2_some, cs_some, if_neg (nI_0le hf), if_neg c1, if_pos c2]
            exact g1
          · obtain ⟨bb2, k1, k2⟩ := m_barren (law_M hτ.1 hτ.2.2.1 hi) hft ht2
            refine ⟨bb2, ?_, k2⟩
            unfold f_X12_barren
            rw [m_isLaw hτ.1 hτ.2.2.1 hi, b2_some, if_neg (by decide), if_neg (nI_0le hf), if_neg (Int32.not_lt.mpr c2), if_pos c3]
            exact k1
        · exact h6 (Or.inr (Or.inr c2))
  · refine op_no (k := 0) (by omega) (v := -1) ?_ (fun τ hτ => ?_)
    · unfold f_X11_barren
      rw [l1 σ 1 (by omega) hX, b2_some, cs_none, x_r1, b2_some]
    · unfold f_X12_barren
      rw [l2 τ hτ.2.2.1, b2_some, if_pos rfl, m_r1, b2_some]
theorem op_longest (σ : Hp) (hv : Inv σ) (a0 : Int32) (a1 : Int32) : ∃ (r : Int32) (σ1 σ2 : Hp), f_X11_longest a0 a1 σ = some (r, σ1) ∧ f_X12_longest a0 a1 σ1 = some (r, σ2) ∧ Inv σ2 := by
  refine op_go hv (fun A hA => ?_)
  obtain ⟨hO, hX, hM, -⟩ := id hA
  rcases law_cs2 hO a0 with ⟨i, hi, rfl⟩ | ⟨l1, l2⟩
  · obtain ⟨j, e1, hlX⟩ := law_X (by omega) hO hX hi
    have h6 : (a1 < 1 ∨ ¬ a1 ≤ 2000) → opG (f_X11_longest (nI i) a1) (f_X12_longest (nI i) a1) σ A := by
      intro h
      refine op_no (k := 5) (by omega) (v := -6 - 10) ?_ (fun τ hτ => ?_)
      · unfold f_X11_longest f_X11_longest_b34
        rw [e1, b2_some, cs_some, x_r6, b2_some]
        by_cases c1 : a1 < 1
        · rw [if_pos c1]
        · rw [if_neg c1, if_neg (h.resolve_left c1)]
      · unfold f_X12_longest f_X12_longest_b26
        rw [m_isLaw hτ.1 hτ.2.2.1 hi, b2_some, if_neg (by decide), m_t6, b2_some]
        by_cases c1 : a1 < 1
        · rw [if_pos c1]
        · rw [if_neg c1, if_neg (h.resolve_left c1)]
    by_cases c1 : a1 < 1
    · exact h6 (Or.inl c1)
    · by_cases c2 : a1 ≤ 2000
      · obtain ⟨n, hn, rfl⟩ := nI_cs a1 (fun h => c1 (Int32.lt_trans h (by decide)))
        have hn2 : n ≤ 2000 := by rw [show (2000 : Int32) = nI 2000 from rfl, nI_leI (by omega) (by omega)] at c2; exact c2
        obtain ⟨bb, g1, g2⟩ := x_longest hlX hn2
        refine op_vc (c := none) (v := lgS (nxO (aK A i) (aA A i) (aB A) (aW A i)) (aB A) n) (fun k e => by cases e) ⟨bb, ?_, g2⟩ (fun τ hτ => ?_)
        · unfold f_X11_longest
          rw [e1, b2_some, cs_some, if_neg c1, if_pos c2]
          exact g1
        · obtain ⟨bb2, k1, k2⟩ := m_longest (law_M hτ.1 hτ.2.2.1 hi) hn2
          refine ⟨bb2, ?_, k2⟩
          unfold f_X12_longest
          rw [m_isLaw hτ.1 hτ.2.2.1 hi, b2_some, if_neg (by decide), if_neg c1, if_pos c2]
          exact k1
      · exact h6 (Or.inr c2)
  · refine op_no (k := 0) (by omega) (v := -1 - 10) ?_ (fun τ hτ => ?_)
    · unfold f_X11_longest
      rw [l1 σ 1 (by omega) hX, b2_some, cs_none, x_r1, b2_some]
    · unfold f_X12_longest
      rw [l2 τ hτ.2.2.1, b2_some, if_pos rfl, m_t1, b2_some]
theorem op_rounds (σ : Hp) (hv : Inv σ) (a0 : Int32) (a1 : Int32) : ∃ (r : Int32) (σ1 σ2 : Hp), f_X11_rounds a0 a1 σ = some (r, σ1) ∧ f_X12_rounds a0 a1 σ1 = some (r, σ2) ∧ Inv σ2 := by
  refine op_go hv (fun A hA => ?_)
  obtain ⟨hO, hX, hM, -⟩ := id hA
  rcases law_cs2 hO a0 with ⟨i, hi, rfl⟩ | ⟨l1, l2⟩
  · obtain ⟨j, e1, hlX⟩ := law_X (by omega) hO hX hi
    have h6 : (a1 < 1 ∨ ¬ a1 ≤ 500) → opG (f_X11_rounds (nI i) a1) (f_X12_rounds (nI i) a1) σ A := by
      intro h
      refine op_no (k := 5) (by omega) (v := -6) ?_ (fun τ hτ => ?_)
      · unfold f_X11_rounds f_X11_rounds_b31
        rw [e1, b2_some, cs_some, x_r6, b2_some]
        by_cases c1 : a1 < 1
        · rw [if_pos c1]
        · rw [if_neg c1, if_neg (h.resolve_left c1)]
      · unfold f_X12_rounds f_X12_rounds_b26
        rw [m_isLaw hτ.1 hτ.2.2.1 hi, b2_some, if_neg (by decide), m_r6, b2_some]
        by_cases c1 : a1 < 1
        · rw [if_pos c1]
        · rw [if_neg c1, if_neg (h.resolve_left c1)]
    by_cases c1 : a1 < 1
    · exact h6 (Or.inl c1)
    · by_cases c2 : a1 ≤ 500
      · obtain ⟨n, hn, rfl⟩ := nI_cs a1 (fun h => c1 (Int32.lt_trans h (by decide)))
        have hn2 : n ≤ 500 := by rw [show (500 : Int32) = nI 500 from rfl, nI_leI (by omega) (by omega)] at c2; exact c2
        obtain ⟨L, hL⟩ := rd_ex (nxO (aK A i) (aA A i) (aB A) (aW A i))
        obtain ⟨bb, g1, g2⟩ := x_rounds hlX hL hn2
        refine op_vc (c := none) (v := rsS (nxO (aK A i) (aA A i) (aB A) (aW A i)) L n) (fun k e => by cases e) ⟨bb, ?_, g2⟩ (fun τ hτ => ?_)
        · unfold f_X11_rounds
          rw [e1, b2_some, cs_some, if_neg c1, if_pos c2]
          exact g1
        · obtain ⟨bb2, k1, k2⟩ := m_rounds (law_M hτ.1 hτ.2.2.1 hi) hL hn2
          refine ⟨bb2, ?_, k2⟩
          unfold f_X12_rounds
          rw [m_isLaw hτ.1 hτ.2.2.1 hi, b2_some, if_neg (by decide), if_neg c1, if_pos c2]
          exact k1
      · exact h6 (Or.inr c2)
  · refine op_no (k := 0) (by omega) (v := -1) ?_ (fun τ hτ => ?_)
    · unfold f_X11_rounds
      rw [l1 σ 1 (by omega) hX, b2_some, cs_none, x_r1, b2_some]
    · unfold f_X12_rounds
      rw [l2 τ hτ.2.2.1, b2_some, if_pos rfl, m_r1, b2_some]
theorem op_many (σ : Hp) (hv : Inv σ) (a0 : Int32) (a1 : Int32) (a2 : Int32) (a3 : Int32) : ∃ (r : Int32) (σ1 σ2 : Hp), f_X11_many a0 a1 a2 a3 σ = some (r, σ1) ∧ f_X12_many a0 a1 a2 a3 σ1 = some (r, σ2) ∧ Inv σ2 := by
  refine op_go hv (fun A hA => ?_)
  obtain ⟨hO, hX, hM, -⟩ := id hA
  rcases law_cs2 hO a0 with ⟨i, hi, rfl⟩ | ⟨l1, l2⟩
  · obtain ⟨j, e1, hlX⟩ := law_X (by omega) hO hX hi
    have hlt : ∀ v : Int32, 2000 ≤ v ↔ 1999 < v := by
      intro v
      rw [Int32.le_iff_toInt_le, Int32.lt_iff_toInt_lt, show (2000 : Int32).toInt = 2000 from rfl, show (1999 : Int32).toInt = 1999 from rfl]
      omega
    have h6 : (a1 < 0 ∨ a2 < a1 ∨ 2000 ≤ a2 - a1 ∨ a3 < -1 ∨ ¬ a3 ≤ 200) → opG (f_X11_many (nI i) a1 a2 a3) (f_X12_many (nI i) a1 a2 a3) σ A := by
      intro h
      refine op_no (k := 5) (by omega) (v := -6) ?_ (fun τ hτ => ?_)
      · unfold f_X11_many f_X11_many_b53
        rw [e1, b2_some, cs_some, x_r6, b2_some]
        by_cases c1 : a1 < 0
        · rw [if_pos c1]
        · rw [if_neg c1]
          by_cases c2 : a2 < a1
          · rw [if_pos c2]
          · rw [if_neg c2]
            by_cases c3 : 2000 ≤ a2 - a1
            · rw [if_pos c3]
            · rw [if_neg c3]
              by_cases c4 : a3 < -1
              · rw [if_pos c4]
              · rw [if_neg c4, if_neg ((((h.resolve_left c1).resolve_left c2).resolve_left c3).resolve_left c4)]
      · unfold f_X12_many f_X12_many_b46
        rw [m_isLaw hτ.1 hτ.2.2.1 hi, b2_some, if_neg (by decide), m_r6, b2_some]
        by_cases c1 : a1 < 0
        · rw [if_pos c1]
        · rw [if_neg c1]
          by_cases c2 : a2 < a1
          · rw [if_pos c2]
          · rw [if_neg c2]
            by_cases c3 : 2000 ≤ a2 - a1
            · rw [if_pos ((hlt _).mp c3)]
            · rw [if_neg (fun c => c3 ((hlt _).mpr c))]
              by_cases c4 : a3 < -1
              · rw [if_pos c4]
              · rw [if_neg c4, if_neg ((((h.resolve_left c1).resolve_left c2).resolve_left c3).resolve_left c4)]
    rcases int_cs a1 with c | ⟨f, hf, rfl⟩
    · exact h6 (Or.inl c)
    · by_cases c2 : a2 < nI f
      · exact h6 (Or.inr (Or.inl c2))
      · obtain ⟨t, ht, rfl⟩ := nI_cs a2 (fun h => nI_0le hf (Int32.lt_of_le_of_lt (Int32.not_lt.mp c2) h))
        have hft : f ≤ t := by have := Int32.not_lt.mp c2; rw [nI_leI hf ht] at this; exact this
        by_cases c3 : 2000 ≤ nI t - nI f
        · exact h6 (Or.inr (Or.inr (Or.inl c3)))
        · have hn : t - f < 2000 := by rw [nI_sub2 ht hft, show (2000 : Int32) = nI 2000 from rfl, nI_leI (by omega) (by omega)] at c3; omega
          by_cases c4 : a3 < -1
          · exact h6 (Or.inr (Or.inr (Or.inr (Or.inl c4))))
          · by_cases c5 : a3 ≤ 200
            · obtain ⟨bb, g1, g2⟩ := x_manyL (g := a3) hlX hft ht hn
              refine op_vc (c := none) (v := mnS (nxO (aK A i) (aA A i) (aB A) (aW A i)) (aB A) f a3 (t - f + 1)) (fun k e => by cases e) ⟨bb, ?_, g2⟩ (fun τ hτ => ?_)
              · unfold f_X11_many
                rw [e1, b2_some, cs_some, if_neg (nI_0le hf), if_neg c2, if_neg c3, if_neg c4, if_pos c5]
                exact g1
              · obtain ⟨bb2, k1, k2⟩ := m_manyL (g := a3) (law_M hτ.1 hτ.2.2.1 hi) hft ht hn
                refine ⟨bb2, ?_, k2⟩
                unfold f_X12_many
                rw [m_isLaw hτ.1 hτ.2.2.1 hi, b2_some, if_neg (by decide), if_neg (nI_0le hf), if_neg c2, if_neg (fun c => c3 ((hlt _).mpr c)), if_neg c4, if_pos c5]
                exact k1
            · exact h6 (Or.inr (Or.inr (Or.inr (Or.inr c5))))
  · refine op_no (k := 0) (by omega) (v := -1) ?_ (fun τ hτ => ?_)
    · unfold f_X11_many
      rw [l1 σ 1 (by omega) hX, b2_some, cs_none, x_r1, b2_some]
    · unfold f_X12_many
      rw [l2 τ hτ.2.2.1, b2_some, if_pos rfl, m_r1, b2_some]
theorem op_fit (σ : Hp) (hv : Inv σ) (a0 : Int64) (a1 : Int64) : ∃ (r : Int32) (σ1 σ2 : Hp), f_X11_fit a0 a1 σ = some (r, σ1) ∧ f_X12_fit a0 a1 σ1 = some (r, σ2) ∧ Inv σ2 := by
  refine op_go hv (fun A hA => ?_)
  obtain ⟨hO, hX, hM, -⟩ := id hA
  rcases num_cs a0 with ⟨x, hx, rfl, n1, n2⟩ | ⟨n1, n2⟩
  · rcases num_cs a1 with ⟨y, hy, rfl, y1, y2⟩ | ⟨y1, y2⟩
    · obtain ⟨bb, g1, g2⟩ := x_fit hO hX hx hy
      refine op_vc (c := none) (v := ftS (nxA A) (aN A) x y) (fun k e => by cases e) ⟨bb, ?_, g2⟩ (fun τ hτ => ?_)
      · unfold f_X11_fit
        rw [n1, b2_some, if_neg (by decide), y1, b2_some, if_neg (by decide)]
        exact g1
      · obtain ⟨bb2, k1, k2⟩ := m_fit2 hτ.1 hτ.2.2.1 hx hy
        refine ⟨bb2, ?_, k2⟩
        unfold f_X12_fit
        rw [n2, b2_some, if_neg (by decide), y2, b2_some, if_neg (by decide)]
        exact k1
    · refine op_no (k := 5) (by omega) (v := -6) ?_ (fun τ hτ => ?_)
      · unfold f_X11_fit f_X11_fit_b14
        rw [n1, b2_some, if_neg (by decide), y1, b2_some, if_pos rfl, x_r6, b2_some]
      · unfold f_X12_fit f_X12_fit_b16
        rw [n2, b2_some, if_neg (by decide), y2, b2_some, if_pos rfl, m_r6, b2_some]
  · refine op_no (k := 5) (by omega) (v := -6) ?_ (fun τ hτ => ?_)
    · unfold f_X11_fit f_X11_fit_b14
      rw [n1, b2_some, if_pos rfl, x_r6, b2_some]
    · unfold f_X12_fit f_X12_fit_b16
      rw [n2, b2_some, if_pos rfl, m_r6, b2_some]
/-- a shelf, or none -/
theorem sh_cs (a : Int32) : (∃ s, s < 8 ∧ a = nI s ∧ (∀ τ, f_X11_shelfAt a τ = some (some (14 + s), τ)) ∧ ∀ τ, f_X12_isShelf a τ = some (1, τ)) ∨ ((∀ τ, f_X11_shelfAt a τ = some (none, τ)) ∧ ∀ τ, f_X12_isShelf a τ = some (0, τ)) := by
  rcases int_cs a with c | ⟨s, hs, rfl⟩
  · refine Or.inr ⟨fun τ => ?_, fun τ => ?_⟩
    · unfold f_X11_shelfAt; rw [if_pos c]
    · unfold f_X12_isShelf; rw [if_pos c]
  · by_cases c2 : s < 8
    · refine Or.inl ⟨s, c2, rfl, fun τ => ?_, fun τ => ?_⟩
      · unfold f_X11_shelfAt
        rw [if_neg (nI_0le hs), if_neg (by rw [show (8 : Int32) = nI 8 from rfl, nI_leI (by omega) (by omega)]; omega), ck_pos (inb_nI (by omega) (by omega)), nI_clamp (by omega), ck_pos ((by decide : ∀ s, s < 8 → ky (14 + s) = 6) s c2)]
      · unfold f_X12_isShelf
        rw [if_neg (nI_0le hs), if_neg (by rw [show (8 : Int32) = nI 8 from rfl, nI_leI (by omega) (by omega)]; omega)]
    · have c3 : (8 : Int32) ≤ nI s := by rw [show (8 : Int32) = nI 8 from rfl, nI_leI (by omega) (by omega)]; omega
      refine Or.inr ⟨fun τ => ?_, fun τ => ?_⟩
      · unfold f_X11_shelfAt; rw [if_neg (nI_0le hs), if_pos c3]
      · unfold f_X12_isShelf; rw [if_neg (nI_0le hs), if_pos c3]
theorem ky14 {s : Nat} (h : s < 8) : ky (14 + s) = 6 := (by decide : ∀ s, s < 8 → ky (14 + s) = 6) s h
def rwR (σ : Hp) (s t len : Nat) : Prop := t ≤ 3 ∧ len ≤ 160 ∧ hI σ 50 s = 1 ∧ hI σ 51 s = nI t ∧ hI σ 52 s = nI len ∧ hI σ (14 + s) 1 = nI t ∧ hI σ (14 + s) 2 = nI len ∧ hI σ (14 + s) 3 = -1 ∧ ∀ i, i < len → hJ σ (22 + s) i = hJ σ 54 (160 * s + i)
theorem rw_no {σ : Hp} {n s : Nat} (hn : n ≤ 6) (h : ShR σ n s) (hs : s < 8) : (∃ t len, rwR σ s t len ∧ f_X5_refusalOfRow (14 + s) σ = some (0, σ) ∧ f_X12_wanted (nI s) σ = some (0, σ)) ∨ (f_X5_refusalOfRow (14 + s) σ = some (-2, σ) ∧ f_X12_wanted (nI s) σ = some (-2, σ)) ∨ (f_X5_refusalOfRow (14 + s) σ = some (-3, σ) ∧ f_X12_wanted (nI s) σ = some (-3, σ)) := by
  have w0 : f_X12_wanted (nI s) σ = if hI σ 50 s = 2 then some (-2, σ) else if hI σ 50 s = 0 then some (-3, σ) else some (0, σ) := by
    unfold f_X12_wanted f_X12_isShelf
    rw [if_neg (nI_0le (by omega)), if_neg (by rw [show (8 : Int32) = nI 8 from rfl, nI_leI (by omega) (by omega)]; omega), b2_some, if_neg (by decide), ck_pos (inb_nI (by omega) (by omega)), nI_clamp (by omega)]
  rw [w0]
  unfold f_X5_refusalOfRow
  rcases h with ⟨h1, h2, h3, h4⟩ | ⟨t, len, h⟩ | ⟨l, hl, h1, h2, h3, h4, h5⟩
  · refine Or.inr (Or.inr ?_)
    rw [h1, h2, h4, if_pos rfl, if_pos rfl, if_neg (by decide), if_pos rfl]
    exact ⟨rfl, rfl⟩
  · refine Or.inl ⟨t, len, h, ?_⟩
    obtain ⟨h1, h2, h3, h4, h5, h6, h7, h8, h9⟩ := h
    rw [h3, h6, h8, if_pos rfl, if_neg (by have := oI_m1 (q := t) (by omega); exact this), if_neg (by decide), if_neg (by decide)]
    exact ⟨rfl, rfl⟩
  · refine Or.inr (Or.inl ?_)
    rw [h1, h5, if_neg (by have := oI_m1 (q := l) (by omega); exact this), if_pos rfl]
    exact ⟨rfl, rfl⟩
/-- what is told against a slate on a shelf: nothing, or the same number in both -/
theorem bars_cs {σ : Hp} {n s : Nat} (hn : n ≤ 6) (h : ShR σ n s) (hs : s < 8) (a : Int32) : (∃ t len m, rwR σ s t len ∧ a = nI m ∧ m ≤ len ∧ m ≤ 20 ∧ f_X11_refusalOfSlate (14 + s) a σ = some (0, σ) ∧ f_X12_bars (nI s) a σ = some (0, σ)) ∨ ∃ r k, -r = nI (k + 1) ∧ (-r) - 1 = nI k ∧ k < 7 ∧ ¬ r = 0 ∧ f_X11_refusalOfSlate (14 + s) a σ = some (r, σ) ∧ f_X12_bars (nI s) a σ = some (r, σ) := by
  unfold f_X11_refusalOfSlate f_X12_bars f_X11_refusalOfSlate_b39 f_X12_bars_b47
  rcases rw_no hn h hs with ⟨t, len, hr, e1, e2⟩ | ⟨e1, e2⟩ | ⟨e1, e2⟩
  · obtain ⟨h1, h2, h3, h4, h5, h6, h7, h8, h9⟩ := id hr
    rw [e1, e2, b2_some, b2_some, if_pos rfl, if_pos rfl]
    by_cases c1 : 0 ≤ a
    · obtain ⟨m, hm, rfl⟩ := nI_cs a (Int32.not_lt.mpr c1)
      rw [if_pos c1, if_pos c1, ck_pos (inb_nI (by omega) (by omega)), nI_clamp (by omega), h5, h7]
      by_cases c2 : nI m ≤ nI len
      · rw [if_pos c2, if_pos c2]
        have hml : m ≤ len := by rw [nI_leI hm (by omega)] at c2; exact c2
        by_cases c3 : m = 0
        · refine Or.inr ⟨-6, 5, by decide, by decide, by omega, by decide, ?_, ?_⟩
          · rw [if_pos (by rw [c3]; rfl)]
          · rw [if_pos (by rw [show (1 : Int32) = nI 1 from rfl, nI_ltI (by omega) (by omega)]; omega)]
        · have d1 : ¬ nI m < 1 := by rw [show (1 : Int32) = nI 1 from rfl, nI_ltI (by omega) (by omega)]; omega
          have d0 : ¬ nI m = 0 := by rw [show (0 : Int32) = nI 0 from rfl, nI_eq (by omega) (by omega)]; exact c3
          rw [if_neg d0, if_neg d1]
          by_cases c4 : nI m ≤ 20
          · rw [if_pos c4]
            exact Or.inl ⟨t, len, m, hr, rfl, hml, by rw [show (20 : Int32) = nI 20 from rfl, nI_leI (by omega) (by omega)] at c4; exact c4, rfl, rfl⟩
          · rw [if_neg c4]
            exact Or.inr ⟨-6, 5, by decide, by decide, by omega, by decide, rfl, rfl⟩
      · rw [if_neg c2, if_neg c2]
        exact Or.inr ⟨-5, 4, by decide, by decide, by omega, by decide, rfl, rfl⟩
    · rw [if_neg c1, if_neg c1]
      exact Or.inr ⟨-4, 3, by decide, by decide, by omega, by decide, rfl, rfl⟩
  · rw [e1, e2, b2_some, b2_some, if_neg (by decide), if_neg (by decide)]
    exact Or.inr ⟨-2, 1, by decide, by decide, by omega, by decide, rfl, rfl⟩
  · rw [e1, e2, b2_some, b2_some, if_neg (by decide), if_neg (by decide)]
    exact Or.inr ⟨-3, 2, by decide, by decide, by omega, by decide, rfl, rfl⟩
theorem rwR_Fr {σ τ : Hp} {s t len : Nat} (hf : Fr σ τ) (hs : s < 8) (h : rwR σ s t len) : rwR τ s t len := by
  obtain ⟨f1, f2, f3, f4, f5, f6⟩ := hf
  unfold rwR at *
  rw [f4 50 rfl (by decide), f4 51 rfl (by decide), f4 52 rfl (by decide), f4 (14 + s) (by unfold scI; simp; omega) (by omega), f6 (22 + s) (by unfold scJ; simp; omega), f6 54 rfl]
  exact h
def bvF (u w a : Int32) : Int32 := if u = 2 then -2 else if u = 0 then -3 else if 0 ≤ a then (if a ≤ w then (if a < 1 then -6 else if a ≤ 20 then 0 else -6) else -5) else -4
theorem bars_v {s : Nat} {a : Int32} (hs : s < 8) (τ : Hp) : f_X12_bars (nI s) a τ = some (bvF (hI τ 50 s) (hI τ 52 s) a, τ) := by
  unfold f_X12_bars f_X12_wanted f_X12_isShelf f_X12_bars_b47 bvF
  rw [if_neg (nI_0le (by omega)), if_neg (by rw [show (8 : Int32) = nI 8 from rfl, nI_leI (by omega) (by omega)]; omega), b2_some, if_neg (by decide), ck_pos (inb_nI (by omega) (by omega)), nI_clamp (by omega)]
  by_cases c1 : hI τ 50 s = 2
  · rw [if_pos c1, if_pos c1, b2_some, if_neg (by decide)]
  · rw [if_neg c1, if_neg c1]
    by_cases c2 : hI τ 50 s = 0
    · rw [if_pos c2, if_pos c2, b2_some, if_neg (by decide)]
    · rw [if_neg c2, if_neg c2, b2_some, if_pos rfl]
      by_cases c3 : 0 ≤ a
      · rw [if_pos c3, if_pos c3, ck_pos (inb_nI (by omega) (by omega))]
        by_cases c4 : a ≤ hI τ 52 s
        · rw [if_pos c4, if_pos c4]
          by_cases c5 : a < 1
          · rw [if_pos c5, if_pos c5]
          · rw [if_neg c5, if_neg c5]
            by_cases c6 : a ≤ 20
            · rw [if_pos c6, if_pos c6]
            · rw [if_neg c6, if_neg c6]
        · rw [if_neg c4, if_neg c4]
      · rw [if_neg c3, if_neg c3]
theorem bars_Fr {σ τ : Hp} {s : Nat} {a : Int32} {r : Int32} (hs : s < 8) (hf : Fr σ τ) (h : f_X12_bars (nI s) a σ = some (r, σ)) : f_X12_bars (nI s) a τ = some (r, τ) := by
  rw [bars_v hs] at h ⊢
  rw [hf.2.2.2.1 50 rfl (by decide), hf.2.2.2.1 52 rfl (by decide)]
  cases h
  rfl
theorem op_judge (σ : Hp) (hv : Inv σ) (a0 : Int32) (a1 : Int32) (a2 : Int32) : ∃ (r : Int32) (σ1 σ2 : Hp), f_X11_judge a0 a1 a2 σ = some (r, σ1) ∧ f_X12_judge a0 a1 a2 σ1 = some (r, σ2) ∧ Inv σ2 := by
  refine op_go hv (fun A hA => ?_)
  obtain ⟨hO, hX, hM, hI1, hS, -⟩ := id hA
  rcases law_cs2 hO a0 with ⟨i, hi, rfl⟩ | ⟨l1, l2⟩
  · obtain ⟨j, e1, hlX⟩ := law_X (by omega) hO hX hi
    rcases sh_cs a1 with ⟨s, hs, rfl, s1, s2⟩ | ⟨s1, s2⟩
    · rcases bars_cs hO.1 (hS s hs) hs a2 with ⟨t, len, m, hr, rfl, hml, hm, b1, b2'⟩ | ⟨r, k, k1, k2, k3, k4, b1, b2'⟩
      · refine ⟨wrS (nxA A i) (hJ σ (22 + s)) m, none, (fun k e => by cases e), ⟨(_, σ), ?_, anX_n (Fs_refl σ)⟩, fun τ hf hτ => ?_⟩
        · unfold f_X11_judge
          rw [e1, b2_some, s1, b2_some, cs_some, cs_some, ck_pos (ky14 hs), b1, b2_some, if_pos rfl, x_firstWrong hlX hs hr.2.2.2.2.2.2.1 hr.2.1 hml, b2_some]
        · obtain ⟨υ, g1, g2⟩ := m_wrongIn (s := s) (n := m) (law_M hτ.1 hτ.2.2.1 hi) hs (by have := hr.2.1; omega)
          have e2 : wrS (nxA A i) (hJ σ (22 + s)) m = wrS (nxA A i) (fun i => hJ τ 54 (160 * s + i)) m := by
            refine wr_congr (fun q hq => ?_)
            rw [hf.2.2.2.2.2 54 rfl]
            exact hr.2.2.2.2.2.2.2.2 q (by omega)
          refine ⟨(_, υ), ?_, anM_n g2⟩
          unfold f_X12_judge f_X12_judge_b18
          rw [m_isLaw hτ.1 hτ.2.2.1 hi, b2_some, if_neg (by decide), bars_Fr hs hf b2', b2_some, if_pos rfl, g1, b2_some, e2]
      · refine ⟨r - 10, some k, (fun k2 e => by cases e; exact k3), ⟨_, ?_, anX_s (Fs_refl σ)⟩, fun τ hf hτ => ⟨_, ?_, anM_s (Fs_refl τ)⟩⟩
        · unfold f_X11_judge
          rw [e1, b2_some, s1, b2_some, cs_some, cs_some, ck_pos (ky14 hs), b1, b2_some, if_neg k4, x_ref k2 k3, b2_some]
        · unfold f_X12_judge f_X12_judge_b18
          rw [m_isLaw hτ.1 hτ.2.2.1 hi, b2_some, if_neg (by decide), bars_Fr hs hf b2', b2_some, if_neg k4, m_refT k1 k3, b2_some]
    · refine op_no (k := 0) (by omega) (v := -1 - 10) ?_ (fun τ hτ => ?_)
      · unfold f_X11_judge f_X11_judge_b27
        rw [e1, b2_some, s1, b2_some, cs_some, cs_none, x_r1, b2_some]
      · unfold f_X12_judge f_X12_judge_b18 f_X12_bars f_X12_wanted
        rw [m_isLaw hτ.1 hτ.2.2.1 hi, b2_some, if_neg (by decide), s2, b2_some, if_pos rfl, b2_some, if_neg (by decide), b2_some, if_neg (by decide), m_t1, b2_some]
  · refine op_no (k := 0) (by omega) (v := -1 - 10) ?_ (fun τ hτ => ?_)
    · unfold f_X11_judge f_X11_judge_b27
      rcases sh_cs a1 with ⟨s, hs, rfl, s1, s2⟩ | ⟨s1, s2⟩
      · rw [l1 σ 1 (by omega) hX, b2_some, s1, b2_some, cs_none, x_r1, b2_some]
      · rw [l1 σ 1 (by omega) hX, b2_some, s1, b2_some, cs_none, x_r1, b2_some]
    · unfold f_X12_judge f_X12_judge_b18
      rw [l2 τ hτ.2.2.1, b2_some, if_pos rfl, if_neg (by decide), m_t1, b2_some]
theorem op_laws (σ : Hp) (hv : Inv σ) (a0 : Int32) (a1 : Int32) : ∃ (r : Int32) (σ1 σ2 : Hp), f_X11_laws a0 a1 σ = some (r, σ1) ∧ f_X12_laws a0 a1 σ1 = some (r, σ2) ∧ Inv σ2 := by
  refine op_go hv (fun A hA => ?_)
  obtain ⟨hO, hX, hM, hI1, hS, -⟩ := id hA
  rcases sh_cs a0 with ⟨s, hs, rfl, s1, s2⟩ | ⟨s1, s2⟩
  · rcases bars_cs hO.1 (hS s hs) hs a1 with ⟨t, len, m, hr, rfl, hml, hm, b1, b2'⟩ | ⟨r, k, k1, k2, k3, k4, b1, b2'⟩
    · obtain ⟨bb, g1, g2⟩ := x_laws hO hX hs hr.2.2.2.2.2.2.1 hr.2.1 hml
      refine ⟨lsS (nxA A) (hJ σ (22 + s)) m (aN A), none, (fun k e => by cases e), ⟨bb, ?_, g2⟩, fun τ hf hτ => ?_⟩
      · unfold f_X11_laws
        rw [s1, b2_some, cs_some, ck_pos (ky14 hs), b1, b2_some, if_pos rfl]
        exact g1
      · obtain ⟨bb2, k1, k2⟩ := m_laws (s := s) (n := m) hτ.1 hτ.2.2.1 hs (by have := hr.2.1; omega)
        have e2 : lsS (nxA A) (hJ σ (22 + s)) m (aN A) = lsS (nxA A) (fun i => hJ τ 54 (160 * s + i)) m (aN A) := by
          have e3 : lsG (nxA A) (hJ σ (22 + s)) m = lsG (nxA A) (fun i => hJ τ 54 (160 * s + i)) m := by
            funext l z
            unfold lsG
            rw [wr_congr (v := hJ σ (22 + s)) (u := fun i => hJ τ 54 (160 * s + i)) (fun q hq => ?_)]
            rw [hf.2.2.2.2.2 54 rfl]
            exact hr.2.2.2.2.2.2.2.2 q (by omega)
          unfold lsS
          rw [e3]
        refine ⟨bb2, ?_, by rw [e2]; exact k2⟩
        unfold f_X12_laws
        rw [bars_Fr hs hf b2', b2_some, if_pos rfl]
        exact k1
    · refine ⟨r, some k, (fun k2 e => by cases e; exact k3), ⟨_, ?_, anX_s (Fs_refl σ)⟩, fun τ hf hτ => ⟨_, ?_, anM_s (Fs_refl τ)⟩⟩
      · unfold f_X11_laws
        rw [s1, b2_some, cs_some, ck_pos (ky14 hs), b1, b2_some, if_neg k4, x_ref k2 k3, b2_some]
      · unfold f_X12_laws
        rw [bars_Fr hs hf b2', b2_some, if_neg k4, m_ref k1 k3, b2_some]
  · refine op_no (k := 0) (by omega) (v := -1) ?_ (fun τ hτ => ?_)
    · unfold f_X11_laws
      rw [s1, b2_some, cs_none, x_r1, b2_some]
    · unfold f_X12_laws f_X12_bars f_X12_wanted
      rw [s2, b2_some, if_pos rfl, b2_some, if_neg (by decide), b2_some, if_neg (by decide), m_r1, b2_some]
