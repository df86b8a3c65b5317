/-! rows: what shelves, laws and the slate show -/
theorem op_element (σ : Hp) (hv : Inv σ) (a0 : Int32) (a1 : Int32) : ∃ (r : Int64) (σ1 σ2 : Hp), f_X11_element a0 a1 σ = some (r, σ1) ∧ f_X12_element a0 a1 σ1 = some (r, σ2) ∧ Inv σ2 := by
  refine op_go hv (fun A hA => ?_)
  obtain ⟨hO, hX, hM, hI1, hS, -⟩ := id hA
  rcases sh_cs a0 with ⟨s, hs, rfl, s1, s2⟩ | ⟨s1, s2⟩
  · have x0 : ∀ r, f_X5_elementAt (14 + s) a1 σ = some (r, σ) → f_X11_element (nI s) a1 σ = some (r, σ) := by
      intro r h
      unfold f_X11_element
      rw [s1, b2_some, cs_some, ck_pos (ky14 hs), h, b2_some]
    have z0 : hI σ (14 + s) 2 = 0 → f_X5_elementAt (14 + s) a1 σ = some (0, σ) := by
      intro h
      unfold f_X5_elementAt
      by_cases c : a1 < 0
      · rw [if_pos c]
      · rw [if_neg c, h, if_pos (Int32.not_lt.mp c)]
    have f50 : ∀ τ, Fr σ τ → hI τ 50 = hI σ 50 := fun τ hf => hf.2.2.2.1 50 rfl (by decide)
    have m0 : ∀ τ, Fr σ τ → ¬ hI σ 50 s = 1 → f_X12_element (nI s) a1 τ = some (0, τ) := by
      intro τ hf h
      unfold f_X12_element
      rw [s2, b2_some, if_neg (by decide), ck_pos (inb_nI (by omega) (by omega)), nI_clamp (by omega), f50 τ hf, if_neg h]
    rcases hS s hs with ⟨h1, h2, h3, h4⟩ | ⟨t, len, h⟩ | ⟨l, hl, h1, h2, h3, h4, h5⟩
    · exact ⟨0, none, (fun k e => by cases e), ⟨_, x0 0 (z0 h3), anX_n (Fs_refl σ)⟩, fun τ hf hτ => ⟨_, m0 τ hf (by rw [h1]; decide), anM_n (Fs_refl τ)⟩⟩
    · have hr : rwR σ s t len := h
      obtain ⟨h1, h2, h3, h4, h5, h6, h7, h8, h9⟩ := h
      rcases int_cs a1 with c | ⟨i, hi, rfl⟩
      · refine ⟨0, none, (fun k e => by cases e), ⟨(0, σ), x0 0 ?_, anX_n (Fs_refl σ)⟩, fun τ hf hτ => ⟨(0, τ), ?_, anM_n (Fs_refl τ)⟩⟩
        · unfold f_X5_elementAt; rw [if_pos c]
        · obtain ⟨_, _, k3, _⟩ := rwR_Fr hf hs hr
          unfold f_X12_element
          rw [s2, b2_some, if_neg (by decide), ck_pos (inb_nI (by omega) (by omega)), nI_clamp (by omega), k3, if_pos rfl, if_pos c]
      · by_cases c2 : i < len
        · refine ⟨hJ σ (22 + s) i, none, (fun k e => by cases e), ⟨(_, σ), x0 _ ?_, anX_n (Fs_refl σ)⟩, fun τ hf hτ => ⟨(_, τ), ?_, anM_n (Fs_refl τ)⟩⟩
          · unfold f_X5_elementAt
            rw [if_neg (nI_0le hi), h7, if_neg (by rw [nI_leI (by omega) (by omega)]; omega), if_neg (by rw [show (160 : Int32) = nI 160 from rfl, nI_leI (by omega) (by omega)]; omega), ck_pos (inb_nI (by omega) (by omega)), nI_clamp (by omega), show 14 + s + 8 = 22 + s by omega]
          · obtain ⟨_, _, k3, _, k5, _⟩ := rwR_Fr hf hs hr
            unfold f_X12_element
            rw [s2, b2_some, if_neg (by decide), ck_pos (inb_nI (by omega) (by omega)), nI_clamp (by omega), k3, if_pos rfl, if_neg (nI_0le hi), k5, if_neg (by rw [nI_leI (by omega) (by omega)]; omega), show (160 : Int32) = nI 160 from rfl, nI_mul, nI_add, ck_pos (inb_nI (by omega) (by omega)), nI_clamp (by omega), hf.2.2.2.2.2 54 rfl, h9 i c2]
        · refine ⟨0, none, (fun k e => by cases e), ⟨(0, σ), x0 0 ?_, anX_n (Fs_refl σ)⟩, fun τ hf hτ => ⟨(0, τ), ?_, anM_n (Fs_refl τ)⟩⟩
          · unfold f_X5_elementAt
            rw [if_neg (nI_0le hi), h7, if_pos (by rw [nI_leI (by omega) (by omega)]; omega)]
          · obtain ⟨_, _, k3, _, k5, _⟩ := rwR_Fr hf hs hr
            unfold f_X12_element
            rw [s2, b2_some, if_neg (by decide), ck_pos (inb_nI (by omega) (by omega)), nI_clamp (by omega), k3, if_pos rfl, if_neg (nI_0le hi), k5, if_pos (by rw [nI_leI (by omega) (by omega)]; omega)]
    · exact ⟨0, none, (fun k e => by cases e), ⟨_, x0 0 (z0 h4), anX_n (Fs_refl σ)⟩, fun τ hf hτ => ⟨_, m0 τ hf (by rw [h1]; decide), anM_n (Fs_refl τ)⟩⟩
  · refine op_an (Fs_refl σ) (v := 0) ?_ (fun τ hτ => ⟨τ, ?_, Fs_refl τ⟩)
    · unfold f_X11_element; rw [s1, b2_some, cs_none]
    · unfold f_X12_element; rw [s2, b2_some, if_pos rfl]
theorem op_holds (σ : Hp) (hv : Inv σ) (a0 : Int32) : ∃ (r : Int32) (σ1 σ2 : Hp), f_X11_holds a0 σ = some (r, σ1) ∧ f_X12_holds a0 σ1 = some (r, σ2) ∧ Inv σ2 := by
  refine op_go hv (fun A hA => ?_)
  obtain ⟨hO, hX, hM, hI1, hS, -⟩ := id hA
  rcases sh_cs a0 with ⟨s, hs, rfl, s1, s2⟩ | ⟨s1, s2⟩
  · have x0 : f_X11_holds (nI s) σ = if hI σ (14 + s) 1 = -1 then some (hI σ (14 + s) 3, σ) else some (100 + hI σ (14 + s) 1, σ) := by
      unfold f_X11_holds
      rw [s1, b2_some, cs_some, ck_pos (ky14 hs)]
    have m0 : ∀ τ, Fr σ τ → f_X12_holds (nI s) τ = if hI σ 50 s = 0 then some (-1, τ) else if hI σ 50 s = 1 then some (100 + hI σ 51 s, τ) else some (hI σ 53 s, τ) := by
      intro τ hf
      unfold f_X12_holds
      rw [s2, b2_some, if_neg (by decide), ck_pos (inb_nI (by omega) (by omega)), nI_clamp (by omega), hf.2.2.2.1 50 rfl (by decide), hf.2.2.2.1 51 rfl (by decide), hf.2.2.2.1 53 rfl (by decide)]
    rcases hS s hs with ⟨h1, h2, h3, h4⟩ | ⟨t, len, h1, h2, h3, h4, h5, h6, h7, h8, h9⟩ | ⟨l, hl, h1, h2, h3, h4, h5⟩
    · refine ⟨-1, none, (fun k e => by cases e), ⟨(_, σ), ?_, anX_n (Fs_refl σ)⟩, fun τ hf hτ => ⟨(_, τ), ?_, anM_n (Fs_refl τ)⟩⟩
      · rw [x0, h2, if_pos rfl, h4]
      · rw [m0 τ hf, h1, if_pos rfl]
    · refine ⟨100 + nI t, none, (fun k e => by cases e), ⟨(_, σ), ?_, anX_n (Fs_refl σ)⟩, fun τ hf hτ => ⟨(_, τ), ?_, anM_n (Fs_refl τ)⟩⟩
      · rw [x0, h6, if_neg (by have := oI_m1 (q := t) (by omega); exact this)]
      · rw [m0 τ hf, h3, if_neg (by decide), if_pos rfl, h4]
    · refine ⟨nI l, none, (fun k e => by cases e), ⟨(_, σ), ?_, anX_n (Fs_refl σ)⟩, fun τ hf hτ => ⟨(_, τ), ?_, anM_n (Fs_refl τ)⟩⟩
      · rw [x0, h3, if_pos rfl, h5]
      · rw [m0 τ hf, h1, if_neg (by decide), if_neg (by decide), h2]
  · refine op_an (Fs_refl σ) (v := -1) ?_ (fun τ hτ => ⟨τ, ?_, Fs_refl τ⟩)
    · unfold f_X11_holds; rw [s1, b2_some, cs_none]
    · unfold f_X12_holds; rw [s2, b2_some, if_pos rfl]
theorem op_slate (σ : Hp) (hv : Inv σ) (a0 : Int32) : ∃ (r : Int64) (σ1 σ2 : Hp), f_X11_slate a0 σ = some (r, σ1) ∧ f_X12_slate a0 σ1 = some (r, σ2) ∧ Inv σ2 := by
  refine op_go hv (fun A hA => ?_)
  obtain ⟨hO, hX, hM, -⟩ := id hA
  have hm20 := hO.2.2.2.1
  rcases int_cs a0 with c | ⟨i, hi, rfl⟩
  · refine op_no (k := 4) (by omega) (v := (-5 : Int32).toInt64) ?_ (fun τ hτ => ?_)
    · unfold f_X11_slate f_X11_slate_b31 f_X11_slate_b32
      rw [if_pos c, if_pos rfl, x_r5, b2_some]
    · unfold f_X12_slate f_X12_slate_b21
      rw [if_pos c, m_r5, b2_some]
  · by_cases c : i < aM A
    · refine op_an (Fs_refl σ) (v := lN (aL A i)) ?_ (fun τ hτ => ⟨τ, ?_, Fs_refl τ⟩)
      · unfold f_X11_slate f_X11_slate_b32
        rw [if_neg (nI_0le hi), hX.2.2.2.1, if_neg (by rw [nI_leI (by omega) (by omega)]; omega), if_neg (by rw [show (20 : Int32) = nI 20 from rfl, nI_leI (by omega) (by omega)]; omega), if_neg (by decide), ck_pos (inb_nI (by omega) (by omega)), nI_clamp (by omega)]
        have := hX.2.2.2.2.2.2 i c
        rw [this]
      · unfold f_X12_slate
        rw [if_neg (nI_0le hi), hτ.2.2.1.2.1, if_neg (by rw [nI_leI (by omega) (by omega)]; omega), ck_pos (inb_nI (by omega) (by omega)), nI_clamp (by omega), hτ.2.2.1.2.2.2.2.2.2 i c]
    · refine op_no (k := 4) (by omega) (v := (-5 : Int32).toInt64) ?_ (fun τ hτ => ?_)
      · unfold f_X11_slate f_X11_slate_b31 f_X11_slate_b32
        rw [if_neg (nI_0le hi), hX.2.2.2.1, if_pos (by rw [nI_leI (by omega) (by omega)]; omega), if_pos rfl, x_r5, b2_some]
      · unfold f_X12_slate f_X12_slate_b21
        rw [if_neg (nI_0le hi), hτ.2.2.1.2.1, if_pos (by rw [nI_leI (by omega) (by omega)]; omega), m_r5, b2_some]
theorem op_fault (σ : Hp) (hv : Inv σ) : ∃ (r : Int32) (σ1 σ2 : Hp), f_X11_fault σ = some (r, σ1) ∧ f_X12_fault σ1 = some (r, σ2) ∧ Inv σ2 := by
  obtain ⟨A, hA, hr⟩ := id hv
  refine ⟨hI σ 0 7, σ, σ, rfl, ?_, hv⟩
  unfold f_X12_fault
  rw [hA.2.2.2.2.2.2.1]
theorem op_trace (σ : Hp) (hv : Inv σ) (a0 : Int32) : ∃ (r : Int32) (σ1 σ2 : Hp), f_X11_trace a0 σ = some (r, σ1) ∧ f_X12_trace a0 σ1 = some (r, σ2) ∧ Inv σ2 := by
  obtain ⟨A, hA, hr⟩ := id hv
  obtain ⟨r, r1, r2, r3, r4⟩ := hA.2.2.2.2.2.2.2.1
  have hx : f_X11_trace a0 σ = f_X12_trace a0 σ := by
    unfold f_X11_trace f_X12_trace f_X11_trace_b24 f_X11_trace_b25
    rcases int_cs a0 with c | ⟨i, hi, rfl⟩
    · rw [if_pos c, if_pos c, if_pos rfl]
    · rw [if_neg (nI_0le hi), if_neg (nI_0le hi), ck_pos (by decide), show (0 : Int32).toNatClampNeg = 0 from rfl, r2, r3, if_pos rfl, if_neg (show ¬ (1 : Int32) = 0 by decide)]
      by_cases c1 : nI r ≤ nI i
      · rw [if_pos c1, if_pos c1, ite_self]
      · have hri : i < r := by rw [nI_leI (by omega) (by omega)] at c1; omega
        rw [if_neg c1, if_neg c1, if_neg (by rw [show (20 : Int32) = nI 20 from rfl, nI_leI (by omega) (by omega)]; omega), if_neg (by rw [show (20 : Int32) = nI 20 from rfl, nI_leI (by omega) (by omega)]; omega), nI_1, ck_pos (inb_nI (by omega) (by omega)), ck_pos (inb_nI (by omega) (by omega)), nI_clamp (by omega), nI_clamp (by omega), r4 i hri]
  have hs : ∃ v, f_X12_trace a0 σ = some (v, σ) := by
    unfold f_X12_trace
    rcases int_cs a0 with c | ⟨i, hi, rfl⟩
    · rw [if_pos c]; exact ⟨_, rfl⟩
    · rw [if_neg (nI_0le hi)]
      by_cases c1 : (20 : Int32) ≤ nI i
      · rw [if_pos c1]; exact ⟨_, rfl⟩
      · have hri : i < 20 := by rw [show (20 : Int32) = nI 20 from rfl, nI_leI (by omega) (by omega)] at c1; omega
        rw [if_neg c1]
        by_cases c2 : hI σ 40 36 ≤ nI i
        · rw [if_pos c2]; exact ⟨_, rfl⟩
        · rw [if_neg c2, ck_pos (inb_nI (by omega) (by omega))]; exact ⟨_, rfl⟩
  obtain ⟨v, hs⟩ := hs
  exact ⟨v, σ, σ, hx.trans hs, hs, hv⟩
theorem op_status (σ : Hp) (hv : Inv σ) (a0 : Int32) : ∃ (r : Int32) (σ1 σ2 : Hp), f_X11_status a0 σ = some (r, σ1) ∧ f_X12_status a0 σ1 = some (r, σ2) ∧ Inv σ2 := by
  obtain ⟨A, hA, hr⟩ := id hv
  obtain ⟨hO, hX, hM, -⟩ := id hA
  obtain ⟨r, r1, r2, r3, r4⟩ := hA.2.2.2.2.2.2.2.1
  have key : ∃ v, f_X11_status a0 σ = some (v, σ) ∧ f_X12_status a0 σ = some (v, σ) := by
    unfold f_X11_status f_X12_status f_X11_status_b97 f_X11_status_b98 f_X12_status_b22
    rw [hX.1, hX.2.1, hX.2.2.1, hX.2.2.2.1, hM.1, hM.2.1, hM.2.2.1, hM.2.2.2.1, r3, show (0 : Int32).toNatClampNeg = 0 from rfl, r2, ck_pos (show inb (0 : Int32) 21 = true by decide)]
    have low : a0 < 11 → ∃ v, (if a0 = 0 then some (nI (aN A), σ) else (if a0 = 1 then some (nI (aM A), σ) else (if a0 = 2 then some (nI (aB A), σ) else (if a0 = 3 then some (aS A, σ) else (if a0 = 4 then some (nI r, σ) else some (-1, σ)))))) = some (v, σ) ∧ (if a0 = 0 then some (nI (aN A), σ) else (if a0 = 1 then some (nI (aM A), σ) else (if a0 = 2 then some (nI (aB A), σ) else (if a0 = 3 then some (aS A, σ) else (if a0 = 4 then some (nI r, σ) else some (-1, σ)))))) = some (v, σ) := by
      intro _
      by_cases c0 : a0 = 0
      · rw [if_pos c0]; exact ⟨_, rfl, rfl⟩
      · rw [if_neg c0]
        by_cases c1 : a0 = 1
        · rw [if_pos c1]; exact ⟨_, rfl, rfl⟩
        · rw [if_neg c1]
          by_cases c2 : a0 = 2
          · rw [if_pos c2]; exact ⟨_, rfl, rfl⟩
          · rw [if_neg c2]
            by_cases c3 : a0 = 3
            · rw [if_pos c3]; exact ⟨_, rfl, rfl⟩
            · rw [if_neg c3]
              by_cases c4 : a0 = 4
              · rw [if_pos c4]; exact ⟨_, rfl, rfl⟩
              · rw [if_neg c4]; exact ⟨_, rfl, rfl⟩
    by_cases c1 : a0 < 11
    · rw [if_pos c1]
      have c2 : a0 ≤ 10 := by
        rw [Int32.le_iff_toInt_le, show (10 : Int32).toInt = 10 from rfl]
        rw [Int32.lt_iff_toInt_lt, show (11 : Int32).toInt = 11 from rfl] at c1
        omega
      rw [if_pos c2, if_pos rfl]
      exact low c1
    · obtain ⟨i, hi, rfl⟩ := nI_cs a0 (fun h => c1 (Int32.lt_trans h (by decide)))
      have hi11 : 11 ≤ i := by rw [show (11 : Int32) = nI 11 from rfl, nI_ltI (by omega) (by omega)] at c1; omega
      have ne : ∀ m, m < 11 → ¬ nI i = nI m := by
        intro m hm
        rw [nI_eq (by omega) (by omega)]; omega
      have n0 : ¬ nI i = 0 := ne 0 (by omega)
      have n1 : ¬ nI i = 1 := ne 1 (by omega)
      have n2 : ¬ nI i = 2 := ne 2 (by omega)
      have n3 : ¬ nI i = 3 := ne 3 (by omega)
      have n4 : ¬ nI i = 4 := ne 4 (by omega)
      have c2 : ¬ nI i ≤ 10 := by rw [show (10 : Int32) = nI 10 from rfl, nI_leI (by omega) (by omega)]; omega
      rw [if_neg c1, if_neg n0, if_neg n1, if_neg n2, if_neg n3, if_neg n4, if_neg c2, show (10 : Int32) + 7 = 17 from rfl]
      by_cases c3 : (17 : Int32) < nI i
      · rw [if_pos c3, if_pos rfl, if_pos c3, if_neg n0, if_neg n1, if_neg n2, if_neg n3, if_neg n4]
        exact ⟨_, rfl, rfl⟩
      · have hi17 : i ≤ 17 := by rw [show (17 : Int32) = nI 17 from rfl, nI_ltI (by omega) (by omega)] at c3; omega
        rw [if_neg c3, if_neg (by decide), if_neg c3, show (11 : Int32) = nI 11 from rfl, show (10 : Int32) = nI 10 from rfl, nI_sub2 (by omega) (by omega), nI_sub2 (by omega) (by omega), ck_pos (inb_nI (by omega) (by omega)), ck_pos (inb_nI (by omega) (by omega)), nI_clamp (by omega), nI_clamp (by omega), hr (i - 11) (by omega), show i - 11 + 1 = i - 10 by omega]
        exact ⟨_, rfl, rfl⟩
  obtain ⟨v, k1, k2⟩ := key
  exact ⟨v, σ, σ, k1, k2, hv⟩
