/-! rows: base, seed, value, law, write, wipe -/
theorem op_base (σ : Hp) (hv : Inv σ) (a0 : Int32) : ∃ (r : Int32) (σ1 σ2 : Hp), f_X11_base a0 σ = some (r, σ1) ∧ f_X12_base a0 σ1 = some (r, σ2) ∧ Inv σ2 := by
  refine op_mx hv (fun A hA => ?_)
  obtain ⟨hO, hX, hM, -⟩ := id hA
  have h6 : (a0 < 2 ∨ ¬ a0 ≤ 10) → opG (f_X11_base a0) (f_X12_base a0) σ A := by
    intro h
    refine op_no (k := 5) (by omega) (v := -6) ?_ (fun τ hτ => ?_)
    · unfold f_X11_base f_X11_base_b11
      rw [x_r6, b2_some]
      by_cases c1 : a0 < 2
      · rw [if_pos c1]
      · rw [if_neg c1, if_neg (h.resolve_left c1)]
    · unfold f_X12_base f_X12_base_b11
      rw [m_r6, b2_some]
      by_cases c1 : a0 < 2
      · rw [if_pos c1]
      · rw [if_neg c1, if_neg (h.resolve_left c1)]
  by_cases c1 : a0 < 2
  · exact Or.inl (h6 (Or.inl c1))
  · by_cases c2 : a0 ≤ 10
    · obtain ⟨b, hb, rfl⟩ := nI_cs a0 (fun h => c1 (Int32.lt_trans h (by decide)))
      have h2 : 2 ≤ b := by rw [show (2 : Int32) = nI 2 from rfl, nI_ltI (by omega) (by omega)] at c1; omega
      have h10 : b ≤ 10 := by rw [show (10 : Int32) = nI 10 from rfl, nI_leI (by omega) (by omega)] at c2; exact c2
      obtain ⟨g1, g2⟩ := x_setB (b := b) (by omega) hX
      refine Or.inr ⟨nI (aB A), _, setB A b, okA_B hO h2 h10, Nat.le_refl _, ?_, g1, g2, fun hM1 => ?_⟩
      · unfold f_X11_base
        rw [if_neg c1, if_pos c2, hX.1]
      · obtain ⟨k1, k2⟩ := m_setB (b := b) hM1
        refine ⟨_, ?_, k1, k2⟩
        unfold f_X12_base
        rw [if_neg c1, if_pos c2, hM1.2.2.1]
    · exact Or.inl (h6 (Or.inr c2))
theorem op_seed (σ : Hp) (hv : Inv σ) (a0 : Int32) : ∃ (r : Int32) (σ1 σ2 : Hp), f_X11_seed a0 σ = some (r, σ1) ∧ f_X12_seed a0 σ1 = some (r, σ2) ∧ Inv σ2 := by
  refine op_mx hv (fun A hA => ?_)
  obtain ⟨hO, hX, hM, -⟩ := id hA
  obtain ⟨g1, g2⟩ := x_setS (s := a0) (by omega) hX
  refine Or.inr ⟨aS A, _, setS A a0, okA_S hO, Nat.le_refl _, ?_, g1, g2, fun hM1 => ?_⟩
  · unfold f_X11_seed
    rw [hX.2.1]
  · obtain ⟨k1, k2⟩ := m_setS (s := a0) hM1
    refine ⟨_, ?_, k1, k2⟩
    unfold f_X12_seed
    rw [hM1.2.2.2.1]
theorem x_slateFull {σ : Hp} {k : Nat} {A : AbS} (hO : okA A) (h : StX σ k A) : f_X7_slateFull k σ = some (if aM A = 20 then 1 else 0, σ) := by
  have hm := hO.2.2.2.1
  unfold f_X7_slateFull
  rw [h.2.2.2.1]
  by_cases c : aM A = 20
  · rw [if_pos c, if_neg (by rw [show (20 : Int32) = nI 20 from rfl, nI_ltI (by omega) (by omega)]; omega)]
  · rw [if_neg c, if_pos (by rw [show (20 : Int32) = nI 20 from rfl, nI_ltI (by omega) (by omega)]; omega)]
theorem op_write (σ : Hp) (hv : Inv σ) (a0 : Int64) : ∃ (r : Int32) (σ1 σ2 : Hp), f_X11_write a0 σ = some (r, σ1) ∧ f_X12_write a0 σ1 = some (r, σ2) ∧ Inv σ2 := by
  refine op_mx hv (fun A hA => ?_)
  obtain ⟨hO, hX, hM, -⟩ := id hA
  have hm20 := hO.2.2.2.1
  rcases num_cs a0 with ⟨n, hn, rfl, n1, n2⟩ | ⟨n1, n2⟩
  · by_cases c : aM A = 20
    · refine Or.inl (op_no (k := 6) (by omega) (v := -7) ?_ (fun τ hτ => ?_))
      · unfold f_X11_write
        rw [n1, b2_some, if_neg (by decide), x_slateFull hO hX, b2_some, if_pos c, if_neg (by decide), x_r7, b2_some]
      · unfold f_X12_write
        rw [n2, b2_some, if_neg (by decide), hτ.2.2.1.2.1, c, if_pos (show nI 20 = 20 from rfl), m_r7, b2_some]
    · obtain ⟨τ, g1, g2, g3⟩ := x_put (v := n) (k := 1) (by omega) hX (show aM A < 20 by omega)
      refine Or.inr ⟨nI (aM A + 1), τ, putA A n, okA_put hO (by omega) hn, Nat.le_refl _, ?_, g2, g3, fun hM1 => ?_⟩
      · unfold f_X11_write
        rw [n1, b2_some, if_neg (by decide), x_slateFull hO hX, b2_some, if_neg c, if_pos rfl, g1, b2_some, g3.2.2.2.1]
        rfl
      · obtain ⟨υ, k1, k2, k3⟩ := m_writes (v := n) hM1 (show aM A < 20 by omega)
        refine ⟨υ, ?_, k2, k3⟩
        unfold f_X12_write
        rw [n2, b2_some, if_neg (by decide), hM1.2.1, if_neg (by rw [show (20 : Int32) = nI 20 from rfl, nI_eq (by omega) (by omega)]; exact c), k1, b2_some]
  · refine Or.inl (op_no (k := 5) (by omega) (v := -6) ?_ (fun τ hτ => ?_))
    · unfold f_X11_write
      rw [n1, b2_some, if_pos rfl, x_r6, b2_some]
    · unfold f_X12_write
      rw [n2, b2_some, if_pos rfl, m_r6, b2_some]
theorem op_wipe (σ : Hp) (hv : Inv σ) (a0 : Int32) : ∃ (r : Int32) (σ1 σ2 : Hp), f_X11_wipe a0 σ = some (r, σ1) ∧ f_X12_wipe a0 σ1 = some (r, σ2) ∧ Inv σ2 := by
  refine op_mx hv (fun A hA => ?_)
  obtain ⟨hO, hX, hM, -⟩ := id hA
  have hm20 := hO.2.2.2.1
  have h6 : (a0 < 0 ∨ ¬ a0 ≤ 20) → opG (f_X11_wipe a0) (f_X12_wipe a0) σ A := by
    intro h
    refine op_no (k := 5) (by omega) (v := -6) ?_ (fun τ hτ => ?_)
    · unfold f_X11_wipe f_X11_wipe_b10
      rw [x_r6, b2_some]
      by_cases c1 : a0 < 0
      · rw [if_pos c1]
      · rw [if_neg c1, if_neg (h.resolve_left c1)]
    · unfold f_X12_wipe f_X12_wipe_b10
      rw [m_r6, b2_some]
      by_cases c1 : a0 < 0
      · rw [if_pos c1]
      · rw [if_neg c1, if_neg (h.resolve_left c1)]
  rcases int_cs a0 with c | ⟨n, hn, rfl⟩
  · exact Or.inl (h6 (Or.inl c))
  · by_cases c2 : nI n ≤ 20
    · have hn20 : n ≤ 20 := by rw [show (20 : Int32) = nI 20 from rfl, nI_leI (by omega) (by omega)] at c2; exact c2
      obtain ⟨g1, g2⟩ := x_setM (m := aM A - n) (k := 1) (by omega) (by omega) hX
      have ex : (if (0 : Int32) < nI (aM A) - nI n then nI (aM A) - nI n else 0) = nI (aM A - n) := by
        by_cases c : n ≤ aM A
        · rw [nI_sub2 (by omega) c]
          by_cases c3 : aM A - n = 0
          · rw [c3]; rfl
          · rw [if_pos (by rw [show (0 : Int32) = nI 0 from rfl, nI_ltI (by omega) (by omega)]; omega)]
        · rw [i_subn (by omega), show aM A - n = 0 by omega, if_neg ?_]
          · rfl
          · have : ∀ m, m ≤ 20 → ¬ (0 : Int32) < -(nI m) := by decide
            exact this _ (by omega)
      refine Or.inr ⟨nI (aM A - n), _, setM A (aM A - n), okA_M hO (by omega), Nat.le_refl _, ?_, g1, g2, fun hM1 => ?_⟩
      · unfold f_X11_wipe
        rw [if_neg (nI_0le hn), if_pos c2, hX.2.2.2.1, ex]
        unfold sI
        rw [hI_rowI_k, up_eq]
      · obtain ⟨k1, k2⟩ := m_setM (m := aM A - n) (by omega) hM1
        refine ⟨_, ?_, k1, k2⟩
        unfold f_X12_wipe
        rw [if_neg (nI_0le hn), if_pos c2, hM1.2.1]
        by_cases c : n ≤ aM A
        · rw [if_pos (by rw [nI_leI (by omega) (by omega)]; exact c), nI_sub2 (by omega) c]
          unfold sI
          rw [hI_rowI_k, up_eq]
        · rw [if_neg (by rw [nI_leI (by omega) (by omega)]; exact c), show aM A - n = 0 by omega]
          unfold sI
          rw [hI_rowI_k, up_eq]
          rfl
    · exact Or.inl (h6 (Or.inr c2))
theorem x_lawsFull {σ : Hp} {k : Nat} {A : AbS} (hO : okA A) (h : StX σ k A) : f_X7_lawsFull k σ = some (if aN A = 6 then 1 else 0, σ) := by
  have hm := hO.1
  unfold f_X7_lawsFull
  rw [h.2.2.1]
  by_cases c : aN A = 6
  · rw [if_pos c, if_neg (by rw [show (6 : Int32) = nI 6 from rfl, nI_ltI (by omega) (by omega)]; omega)]
  · rw [if_neg c, if_pos (by rw [show (6 : Int32) = nI 6 from rfl, nI_ltI (by omega) (by omega)]; omega)]
theorem op_law (σ : Hp) (hv : Inv σ) (a0 : Int32) (a1 : Int32) : ∃ (r : Int32) (σ1 σ2 : Hp), f_X11_law a0 a1 σ = some (r, σ1) ∧ f_X12_law a0 a1 σ1 = some (r, σ2) ∧ Inv σ2 := by
  refine op_mx hv (fun A hA => ?_)
  obtain ⟨hO, hX, hM, -⟩ := id hA
  have hn6 := hO.1
  have h1 : (a0 < 0 ∨ ¬ a0 ≤ 6) → opG (f_X11_law a0 a1) (f_X12_law a0 a1) σ A := by
    intro h
    refine op_no (k := 0) (by omega) (v := -1) ?_ (fun τ hτ => ?_)
    · unfold f_X11_law f_X11_law_b10
      rw [x_r1, b2_some]
      by_cases c1 : a0 < 0
      · rw [if_pos c1]
      · rw [if_neg c1, if_neg (h.resolve_left c1)]
    · unfold f_X12_law f_X12_law_b10
      rw [m_r1, b2_some]
      by_cases c1 : a0 < 0
      · rw [if_pos c1]
      · rw [if_neg c1, if_neg (h.resolve_left c1)]
  by_cases k1 : a0 < 0
  · exact Or.inl (h1 (Or.inl k1))
  · by_cases k2 : a0 ≤ 6
    · obtain ⟨kd, hkd, rfl⟩ := nI_cs a0 k1
      have hk6 : kd ≤ 6 := by rw [show (6 : Int32) = nI 6 from rfl, nI_leI (by omega) (by omega)] at k2; exact k2
      have h6 : (a1 < 0 ∨ ¬ a1 ≤ 9) → opG (f_X11_law (nI kd) a1) (f_X12_law (nI kd) a1) σ A := by
        intro h
        refine op_no (k := 5) (by omega) (v := -6) ?_ (fun τ hτ => ?_)
        · unfold f_X11_law f_X11_law_b26
          rw [if_neg k1, if_pos k2, x_r6, b2_some]
          by_cases c1 : a1 < 0
          · rw [if_pos c1]
          · rw [if_neg c1, if_neg (h.resolve_left c1)]
        · unfold f_X12_law f_X12_law_b26
          rw [if_neg k1, if_pos k2, m_r6, b2_some]
          by_cases c1 : a1 < 0
          · rw [if_pos c1]
          · rw [if_neg c1, if_neg (h.resolve_left c1)]
      by_cases c1 : a1 < 0
      · exact Or.inl (h6 (Or.inl c1))
      · by_cases c2 : a1 ≤ 9
        · obtain ⟨a, ha, rfl⟩ := nI_cs a1 c1
          have ha9 : a ≤ 9 := by rw [show (9 : Int32) = nI 9 from rfl, nI_leI (by omega) (by omega)] at c2; exact c2
          by_cases c : aN A = 6
          · refine Or.inl (op_no (k := 6) (by omega) (v := -7) ?_ (fun τ hτ => ?_))
            · unfold f_X11_law
              rw [if_neg k1, if_pos k2, if_neg c1, if_pos c2, x_lawsFull hO hX, b2_some, if_pos c, if_neg (by decide), x_r7, b2_some]
            · unfold f_X12_law
              rw [if_neg k1, if_pos k2, if_neg c1, if_pos c2, hτ.2.2.1.1, c, if_pos (show nI 6 = 6 from rfl), m_r7, b2_some]
          · obtain ⟨τ, g1, g2, g3⟩ := x_addLaw (kd := kd) (a := a) (k := 1) (by omega) hO (by omega) hk6 hA.2.2.2.2.2.1.1 hX
            refine Or.inr ⟨nI (aN A), τ, addA A kd a, okA_add hO (by omega) hk6 ha9, Nat.le_succ _, ?_, g2, g3, fun hM1 => ?_⟩
            · unfold f_X11_law
              rw [if_neg k1, if_pos k2, if_neg c1, if_pos c2, x_lawsFull hO hX, b2_some, if_neg c, if_pos rfl, g1, b2_some]
            · obtain ⟨υ, q1, q2, q3⟩ := m_adds (kd := kd) (a := a) hO (by omega) hM1
              refine ⟨υ, ?_, q2, q3⟩
              unfold f_X12_law
              rw [if_neg k1, if_pos k2, if_neg c1, if_pos c2, hM1.1, if_neg (by rw [show (6 : Int32) = nI 6 from rfl, nI_eq (by omega) (by omega)]; exact c), q1, b2_some]
        · exact Or.inl (h6 (Or.inr c2))
    · exact Or.inl (h1 (Or.inr k2))
theorem und5 {kd : Nat} (h : kd ≤ 6) : undB kd 5 = true ↔ kd = 5 := by
  rcases kd_cs h with rfl | rfl | rfl | rfl | rfl | rfl | rfl <;> decide
theorem op_value (σ : Hp) (hv : Inv σ) (a0 : Int32) (a1 : Int32) (a2 : Int32) : ∃ (r : Int32) (σ1 σ2 : Hp), f_X11_value a0 a1 a2 σ = some (r, σ1) ∧ f_X12_value a0 a1 a2 σ1 = some (r, σ2) ∧ Inv σ2 := by
  refine op_mx hv (fun A hA => ?_)
  obtain ⟨hO, hX, hM, -⟩ := id hA
  have hn6 := hO.1
  rcases law_cs2 hO a0 with ⟨l, hl, rfl⟩ | ⟨l1, l2⟩
  · obtain ⟨j, e1, hlX⟩ := law_X (by omega) hO hX hl
    have hlw := hlX.1
    have hkd := hO.2.2.2.2.1 l
    have xu := x_isUnder (a := 5) hkd hlw hlX.2.1
    have h6 : (¬ aK A l = 5 ∨ a1 < 0 ∨ 10 ≤ a1 ∨ a2 < 0 ∨ ¬ a2 ≤ 999) → opG (f_X11_value (nI l) a1 a2) (f_X12_value (nI l) a1 a2) σ A := by
      intro h
      refine op_no (k := 5) (by omega) (v := -6) ?_ (fun τ hτ => ?_)
      · have hb : ∀ q : Int32, (¬ aK A l = 5 ∨ q = 0 ∨ a2 < 0 ∨ ¬ a2 ≤ 999) → f_X11_value_b36 (nI l) a1 a2 j q σ = some (-6, sI σ 30 5 (hI σ 30 5 + 1)) := by
          intro q hq
          unfold f_X11_value_b36 f_X11_value_b63
          rw [ck_pos hlw, xu, b2_some, x_r6, b2_some]
          by_cases c0 : aK A l = 5
          · rw [if_pos ((und5 hkd).mpr c0), if_neg (show ¬ (1 : Int32) = 0 by decide)]
            by_cases c1 : q = 0
            · rw [if_pos c1]
            · rw [if_neg c1]
              by_cases c3 : a2 < 0
              · rw [if_pos c3]
              · rw [if_neg c3, if_neg (((hq.resolve_left (fun c => c c0)).resolve_left c1).resolve_left c3)]
          · rw [if_neg (fun c => c0 ((und5 hkd).mp c)), if_pos rfl]
        unfold f_X11_value f_X11_value_b35
        rw [e1, b2_some, cs_some]
        by_cases c1 : a1 < 0
        · rw [if_pos c1]; exact hb 0 (Or.inr (Or.inl rfl))
        · rw [if_neg c1]
          by_cases c2 : 10 ≤ a1
          · rw [if_pos c2]; exact hb 0 (Or.inr (Or.inl rfl))
          · rw [if_neg c2]
            refine hb 1 ?_
            rcases h with h | h | h | h | h
            · exact Or.inl h
            · exact absurd h c1
            · exact absurd h c2
            · exact Or.inr (Or.inr (Or.inl h))
            · exact Or.inr (Or.inr (Or.inr h))
      · unfold f_X12_value f_X12_value_b45
        rw [m_isLaw hτ.1 hτ.2.2.1 hl, b2_some, if_neg (by decide), ck_pos (inb_nI (by omega) (by omega)), nI_clamp (by omega), (hτ.2.2.1.2.2.2.2.1 l hl).1, m_r6, b2_some]
        by_cases c0 : aK A l = 5
        · rw [if_pos (by rw [c0]; rfl)]
          by_cases c1 : a1 < 0
          · rw [if_pos c1]
          · rw [if_neg c1]
            by_cases c2 : 10 ≤ a1
            · rw [if_pos (by rw [Int32.lt_iff_toInt_lt, show (9 : Int32).toInt = 9 from rfl]; rw [Int32.le_iff_toInt_le, show (10 : Int32).toInt = 10 from rfl] at c2; omega)]
            · rw [if_neg (fun c => c2 (by rw [Int32.lt_iff_toInt_lt, show (9 : Int32).toInt = 9 from rfl] at c; rw [Int32.le_iff_toInt_le, show (10 : Int32).toInt = 10 from rfl]; omega))]
              by_cases c3 : a2 < 0
              · rw [if_pos c3]
              · rw [if_neg c3, if_neg ((((h.resolve_left (fun c => c c0)).resolve_left c1).resolve_left c2).resolve_left c3)]
        · rw [if_neg (by rw [show (5 : Int32) = nI 5 from rfl, nI_eq (by omega) (by omega)]; exact c0)]
    by_cases c0 : aK A l = 5
    · rcases int_cs a1 with c1 | ⟨f, hf, rfl⟩
      · exact Or.inl (h6 (Or.inr (Or.inl c1)))
      · by_cases c2 : 10 ≤ nI f
        · exact Or.inl (h6 (Or.inr (Or.inr (Or.inl c2))))
        · rcases int_cs a2 with c3 | ⟨v, hv2, rfl⟩
          · exact Or.inl (h6 (Or.inr (Or.inr (Or.inr (Or.inl c3)))))
          · by_cases c4 : nI v ≤ 999
            · have hf10 : f < 10 := by rw [show (10 : Int32) = nI 10 from rfl, nI_leI (by omega) (by omega)] at c2; omega
              have hv9 : v ≤ 999 := by rw [show (999 : Int32) = nI 999 from rfl, nI_leI (by omega) (by omega)] at c4; exact c4
              obtain ⟨g1, g2, g3⟩ := x_setW (l := l) (f := f) (v := v) (k := 1) (by omega) (by omega) hf10 hX
              refine Or.inr ⟨nI (aW A l f), _, setW A l f v, okA_W hO hl hv9, Nat.le_refl _, ?_, g2, g3, fun hM1 => ?_⟩
              · unfold f_X11_value f_X11_value_b36
                rw [e1, b2_some, cs_some, if_neg (nI_0le hf), if_neg c2, ck_pos hlw, xu, b2_some, if_pos ((und5 hkd).mpr c0), if_neg (by decide), if_neg (by decide), if_neg (nI_0le hv2), if_pos c4, x_valueOf (by omega) hf10, b2_some, g1, b2_some, hlX.2.2.2.2.2.1 f hf10]
              · obtain ⟨q1, q2⟩ := m_setW (l := l) (f := f) (v := v) (by omega) hf10 hM1
                refine ⟨_, ?_, q1, q2⟩
                unfold f_X12_value
                rw [m_isLaw hO hM1 hl, b2_some, if_neg (by decide), ck_pos (inb_nI (by omega) (by omega)), nI_clamp (by omega), (hM1.2.2.2.2.1 l hl).1, if_pos (by rw [c0]; rfl), if_neg (nI_0le hf), if_neg (by rw [show (9 : Int32) = nI 9 from rfl, nI_ltI (by omega) (by omega)]; omega), if_neg (nI_0le hv2), if_pos c4, show (10 : Int32) = nI 10 from rfl, nI_mul, nI_add, ck_pos (inb_nI (by omega) (by omega)), nI_clamp (by omega), hM1.2.2.2.2.2.1 l f hl hf10]
            · exact Or.inl (h6 (Or.inr (Or.inr (Or.inr (Or.inr c4)))))
    · exact Or.inl (h6 (Or.inl c0))
  · refine Or.inl (op_no (k := 0) (by omega) (v := -1) ?_ (fun τ hτ => ?_))
    · unfold f_X11_value
      rw [l1 σ 1 (by omega) hX, b2_some, cs_none, x_r1, b2_some]
    · unfold f_X12_value
      rw [l2 τ hτ.2.2.1, b2_some, if_pos rfl, m_r1, b2_some]
