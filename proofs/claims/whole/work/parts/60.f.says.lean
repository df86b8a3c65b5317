/-! rows: lawOf, says -/
theorem kd_cs {kd : Nat} (h : kd ≤ 6) : kd = 0 ∨ kd = 1 ∨ kd = 2 ∨ kd = 3 ∨ kd = 4 ∨ kd = 5 ∨ kd = 6 := by omega
theorem x_kindNumber {σ : Hp} {j kd : Nat} (hk : kd ≤ 6) (hc : hC σ j = clK kd) : v_kindNumber j σ = some (nI kd, σ) := by
  unfold v_kindNumber
  rw [hc]
  rcases kd_cs hk with rfl | rfl | rfl | rfl | rfl | rfl | rfl <;> rfl
def undB (kd : Nat) (a : Int32) : Bool := decide (a = 0) || decide (a = nI kd) || (decide (kd = 3) && decide (a = 1)) || ((decide (kd = 5) || decide (kd = 6)) && decide (a = 2))
theorem x_isUnder {σ : Hp} {j kd : Nat} {a : Int32} (hk : kd ≤ 6) (hL : isLaw σ j = true) (hc : hC σ j = clK kd) : v_isUnder j a σ = some (if undB kd a = true then 1 else 0, σ) := by
  unfold v_isUnder
  rw [hc]
  have e2 : f_X2_isUnder j a σ = some (if a = 0 then 1 else 0, σ) := by
    unfold f_X2_isUnder
    by_cases c : a = 0
    · rw [if_pos c, if_pos c]
    · rw [if_neg c, if_neg c]
  have gen : ∀ (p q : Prop) [Decidable p] [Decidable q] (r : Int32), r = (if q then 1 else 0) → (if p then some ((1 : Int32), σ) else ck (isLaw σ j = true) (b2 (some (r, σ)) (fun r_2 s_3 => if r_2 = 0 then some ((0 : Int32), s_3) else some ((1 : Int32), s_3)))) = some (if p ∨ q then 1 else 0, σ) := by
    intro p q _ _ r hr
    by_cases c : p
    · rw [if_pos c, if_pos (Or.inl c)]
    · rw [if_neg c, ck_pos hL, b2_some, hr]
      by_cases c2 : q
      · rw [if_pos c2, if_neg (by decide), if_pos (Or.inr c2)]
      · rw [if_neg c2, if_pos rfl, if_neg (fun h => h.elim c c2)]
  have e6 : f_X6_isUnder j a σ = some (if a = 2 ∨ a = 0 then 1 else 0, σ) := by
    unfold f_X6_isUnder f_X6_isUnder_b13
    rw [e2]
    exact gen _ _ _ rfl
  have e8 : f_X8_isUnder j a σ = some (if a = 1 ∨ a = 0 then 1 else 0, σ) := by
    unfold f_X8_isUnder f_X8_isUnder_b13
    rw [e2]
    exact gen _ _ _ rfl
  have e3 : f_X3_isUnder j a σ = some (if a = 3 ∨ (a = 1 ∨ a = 0) then 1 else 0, σ) := by
    unfold f_X3_isUnder f_X3_isUnder_b13
    rw [e8]
    exact gen _ _ _ rfl
  have e9 : f_X9_isUnder j a σ = some (if a = 4 ∨ a = 0 then 1 else 0, σ) := by
    unfold f_X9_isUnder f_X9_isUnder_b13
    rw [e2]
    exact gen _ _ _ rfl
  have e10 : f_X10_isUnder j a σ = some (if a = 5 ∨ (a = 2 ∨ a = 0) then 1 else 0, σ) := by
    unfold f_X10_isUnder f_X10_isUnder_b13
    rw [e6]
    exact gen _ _ _ rfl
  have e0 : f_X0_isUnder j a σ = some (if a = 6 ∨ (a = 2 ∨ a = 0) then 1 else 0, σ) := by
    unfold f_X0_isUnder f_X0_isUnder_b14
    rw [e6]
    exact gen _ _ _ rfl
  have fin : ∀ (p : Prop) [Decidable p], (p ↔ undB kd a = true) → (some (if p then (1 : Int32) else 0, σ) : Option (Int32 × Hp)) = some (if undB kd a = true then 1 else 0, σ) := by
    intro p _ h
    by_cases c : p
    · rw [if_pos c, if_pos (h.mp c)]
    · rw [if_neg c, if_neg (fun c2 => c (h.mpr c2))]
  rcases kd_cs hk with rfl | rfl | rfl | rfl | rfl | rfl | rfl
  · show f_X2_isUnder j a σ = _
    rw [e2]
    exact fin _ (by unfold undB; simp [show nI 0 = 0 from rfl])
  · show f_X8_isUnder j a σ = _
    rw [e8]
    exact fin _ (by unfold undB; simp [show nI 1 = 1 from rfl, or_comm])
  · show f_X6_isUnder j a σ = _
    rw [e6]
    exact fin _ (by unfold undB; simp [show nI 2 = 2 from rfl, or_comm])
  · show f_X3_isUnder j a σ = _
    rw [e3]
    refine fin _ ?_
    unfold undB
    simp only [show nI 3 = 3 from rfl, Bool.or_eq_true, Bool.and_eq_true, decide_eq_true_iff]
    constructor
    · rintro (h | h | h)
      · exact Or.inl (Or.inl (Or.inr h))
      · exact Or.inl (Or.inr ⟨trivial, h⟩)
      · exact Or.inl (Or.inl (Or.inl h))
    · rintro (((h | h) | ⟨-, h⟩) | ⟨h | h, -⟩)
      · exact Or.inr (Or.inr h)
      · exact Or.inl h
      · exact Or.inr (Or.inl h)
      · omega
      · omega
  · show f_X9_isUnder j a σ = _
    rw [e9]
    exact fin _ (by unfold undB; simp [show nI 4 = 4 from rfl, or_comm])
  · show f_X10_isUnder j a σ = _
    rw [e10]
    refine fin _ ?_
    unfold undB
    simp only [show nI 5 = 5 from rfl, Bool.or_eq_true, Bool.and_eq_true, decide_eq_true_iff]
    constructor
    · rintro (h | h | h)
      · exact Or.inl (Or.inl (Or.inr h))
      · exact Or.inr ⟨Or.inl trivial, h⟩
      · exact Or.inl (Or.inl (Or.inl h))
    · rintro (((h | h) | ⟨h, -⟩) | ⟨-, h⟩)
      · exact Or.inr (Or.inr h)
      · exact Or.inl h
      · omega
      · exact Or.inr (Or.inl h)
  · show f_X0_isUnder j a σ = _
    rw [e0]
    refine fin _ ?_
    unfold undB
    simp only [show nI 6 = 6 from rfl, Bool.or_eq_true, Bool.and_eq_true, decide_eq_true_iff]
    constructor
    · rintro (h | h | h)
      · exact Or.inl (Or.inl (Or.inr h))
      · exact Or.inr ⟨Or.inr trivial, h⟩
      · exact Or.inl (Or.inl (Or.inl h))
    · rintro (((h | h) | ⟨h, -⟩) | ⟨-, h⟩)
      · exact Or.inr (Or.inr h)
      · exact Or.inl h
      · omega
      · exact Or.inr (Or.inl h)
theorem op_lawOf (σ : Hp) (hv : Inv σ) (a0 : Int32) (a1 : Int32) : ∃ (r : Int32) (σ1 σ2 : Hp), f_X11_lawOf a0 a1 σ = some (r, σ1) ∧ f_X12_lawOf a0 a1 σ1 = some (r, σ2) ∧ Inv σ2 := by
  refine op_go hv (fun A hA => ?_)
  obtain ⟨hO, hX, hM, -⟩ := id hA
  have hN6 := hO.1
  rcases law_cs2 hO a0 with ⟨i, hi, rfl⟩ | ⟨l1, l2⟩
  · obtain ⟨j, e1, hlX⟩ := law_X (by omega) hO hX hi
    have hlw := hlX.1
    have h5 : (a1 < 0 ∨ (¬ a1 < 0 ∧ ¬ a1 = 0 ∧ ¬ a1 = 1 ∧ a1 < 10) ∨ ¬ a1 < 20) → opG (f_X11_lawOf (nI i) a1) (f_X12_lawOf (nI i) a1) σ A := by
      intro h
      have n0 : ¬ a1 = 0 := by
        rintro rfl
        rcases h with h | ⟨_, h, _⟩ | h
        · exact absurd h (by decide)
        · exact h rfl
        · exact absurd h (by decide)
      have n1 : ¬ a1 = 1 := by
        rintro rfl
        rcases h with h | ⟨_, _, h, _⟩ | h
        · exact absurd h (by decide)
        · exact h rfl
        · exact absurd h (by decide)
      have hh : a1 < 10 ∨ ¬ a1 < 20 := by
        rcases h with h | ⟨_, _, _, h⟩ | h
        · exact Or.inl (Int32.lt_trans h (by decide))
        · exact Or.inl h
        · exact Or.inr h
      refine op_no (k := 4) (by omega) (v := -5) ?_ (fun τ hτ => ?_)
      · unfold f_X11_lawOf f_X11_lawOf_b51
        rw [e1, b2_some, cs_some, if_neg n0, if_neg n1, x_r5, b2_some]
        by_cases c : a1 < 10
        · rw [if_pos c]
        · rw [if_neg c, if_neg (hh.resolve_left c)]
      · unfold f_X12_lawOf f_X12_lawOf_b42 f_X12_lawOf_b51
        rw [m_isLaw hτ.1 hτ.2.2.1 hi, b2_some, if_neg (by decide), m_r5, b2_some]
        have inner : (if a1 < 0 then some ((-5 : Int32), sI τ 45 5 (hI τ 45 5 + 1)) else if a1 ≤ 1 then (if a1 = 0 then ck (inb (nI i) 6 = true) (some (hI τ 46 (nI i).toNatClampNeg, τ)) else ck (inb (nI i) 6 = true) (some (hI τ 47 (nI i).toNatClampNeg, τ))) else some (-5, sI τ 45 5 (hI τ 45 5 + 1))) = some (-5, sI τ 45 (4 + 1) (hI τ 45 (4 + 1) + 1)) := by
          by_cases c : a1 < 0
          · rw [if_pos c]
          · obtain ⟨w, hw, rfl⟩ := nI_cs a1 c
            rw [if_neg c, if_neg (fun c2 => by
              rw [show (1 : Int32) = nI 1 from rfl, nI_leI (by omega) (by omega)] at c2
              have : w = 0 ∨ w = 1 := by omega
              rcases this with rfl | rfl
              · exact n0 rfl
              · exact n1 rfl)]
        by_cases c : a1 < 10
        · rw [if_pos c]; exact inner
        · rw [if_neg c]
          have c2 : ¬ a1 < 20 := hh.resolve_left c
          rw [if_pos (by rw [Int32.lt_iff_toInt_lt, show (19 : Int32).toInt = 19 from rfl]; rw [Int32.lt_iff_toInt_lt, show (20 : Int32).toInt = 20 from rfl] at c2; omega)]
          exact inner
    rcases int_cs a1 with c | ⟨w, hw, rfl⟩
    · exact h5 (Or.inl c)
    · by_cases w0 : w = 0
      · subst w0
        refine op_an (Fs_refl σ) (v := nI (aK A i)) ?_ (fun τ hτ => ⟨τ, ?_, Fs_refl τ⟩)
        · unfold f_X11_lawOf
          rw [e1, b2_some, cs_some, if_pos (show nI 0 = 0 from rfl), ck_pos hlw, x_kindNumber hlX.2.2.2.2.2.2.1 hlX.2.1, b2_some]
        · unfold f_X12_lawOf f_X12_lawOf_b42
          rw [m_isLaw hτ.1 hτ.2.2.1 hi, b2_some, if_neg (by decide), if_pos (by decide), if_neg (by decide), if_pos (by decide), if_pos (show nI 0 = 0 from rfl), ck_pos (inb_nI (by omega) (by omega)), nI_clamp (by omega), (hτ.2.2.1.2.2.2.2.1 i hi).1]
      · by_cases w1 : w = 1
        · subst w1
          refine op_an (Fs_refl σ) (v := nI (aA A i)) ?_ (fun τ hτ => ⟨τ, ?_, Fs_refl τ⟩)
          · unfold f_X11_lawOf
            rw [e1, b2_some, cs_some, if_neg (by decide), if_pos (show nI 1 = 1 from rfl), ck_pos hlw, hlX.2.2.2.1]
          · unfold f_X12_lawOf f_X12_lawOf_b42
            rw [m_isLaw hτ.1 hτ.2.2.1 hi, b2_some, if_neg (by decide), if_pos (by decide), if_neg (by decide), if_pos (by decide), if_neg (by decide), ck_pos (inb_nI (by omega) (by omega)), nI_clamp (by omega), (hτ.2.2.1.2.2.2.2.1 i hi).2]
        · have n0 : ¬ nI w = 0 := by rw [show (0 : Int32) = nI 0 from rfl, nI_eq (by omega) (by omega)]; exact w0
          have n1 : ¬ nI w = 1 := by rw [show (1 : Int32) = nI 1 from rfl, nI_eq (by omega) (by omega)]; exact w1
          by_cases c10 : nI w < 10
          · exact h5 (Or.inr (Or.inl ⟨nI_0le hw, n0, n1, c10⟩))
          · by_cases c20 : nI w < 20
            · have hw10 : 10 ≤ w := by rw [show (10 : Int32) = nI 10 from rfl, nI_ltI (by omega) (by omega)] at c10; omega
              have hw20 : w < 20 := by rw [show (20 : Int32) = nI 20 from rfl, nI_ltI (by omega) (by omega)] at c20; exact c20
              refine op_an (Fs_refl σ) (v := nI (aW A i (w - 10))) ?_ (fun τ hτ => ⟨τ, ?_, Fs_refl τ⟩)
              · unfold f_X11_lawOf
                rw [e1, b2_some, cs_some, if_neg n0, if_neg n1, if_neg c10, if_pos c20, show (10 : Int32) = nI 10 from rfl, nI_sub2 (by omega) (by omega), x_valueOf (by omega) (by omega), b2_some, hlX.2.2.2.2.2.1 (w - 10) (by omega)]
              · unfold f_X12_lawOf
                rw [m_isLaw hτ.1 hτ.2.2.1 hi, b2_some, if_neg (by decide), if_neg c10, if_neg (by rw [show (19 : Int32) = nI 19 from rfl, nI_ltI (by omega) (by omega)]; omega), show (10 : Int32) = nI 10 from rfl, nI_mul, nI_add, nI_sub2 (by omega) (by omega), ck_pos (inb_nI (by omega) (by omega)), nI_clamp (by omega), show 10 * i + w - 10 = 10 * i + (w - 10) by omega, hτ.2.2.1.2.2.2.2.2.1 i (w - 10) hi (by omega)]
            · exact h5 (Or.inr (Or.inr c20))
  · refine op_no (k := 4) (by omega) (v := -5) ?_ (fun τ hτ => ?_)
    · unfold f_X11_lawOf
      rw [l1 σ 1 (by omega) hX, b2_some, cs_none, x_r5, b2_some]
    · unfold f_X12_lawOf
      rw [l2 τ hτ.2.2.1, b2_some, if_pos rfl, m_r5, b2_some]
def dsG (w : Nat → Nat) (i : Nat) (s : Nat) : Nat ⊕ Unit := if w (i + 1) ≤ w s then .inl s else .inl (i + 1)
def dsS (w : Nat → Nat) (b : Nat) : Int32 := lpO (fun n : Nat => nI n) (fun _ : Unit => (0 : Int32)) (lpE (dsG w) (b - 1) 0 0)
theorem x_dearest {σ : Hp} {k pl b : Nat} {w : Nat → Nat} (hB : hI σ k 0 = nI b) (h2 : 2 ≤ b) (h10 : b ≤ 10) (hp : pl < 6) (hw : ∀ f, f < 10 → hI σ (k + 6) (10 * pl + f) = nI (w f)) (hw2 : ∀ f, f < 10 → w f ≤ 999) : f_X7_dearestFigure k (nI pl) σ = some (dsS w b, σ) := by
  have key : ∃ bb, iter (f_X7_dearestFigure_s4 k (nI pl)) fuel (0, 1, σ) = some bb ∧ bb = (dsS w b, σ) := by
    unfold dsS
    refine iter_lp (R := fun i s a => a = (nI s, nI (i + 1), σ) ∧ s ≤ i) (Q := fun u bb => bb = (u, σ)) (n := b - 1) (o1 := fun n : Nat => nI n) (o2 := fun _ : Unit => (0 : Int32)) (fun i s aa hi hR => ?_) (fun s aa hR => ?_) (b - 1) 0 fuel 0 _ (by omega) (by unfold fuel; omega) ⟨rfl, Nat.le_refl 0⟩
    · obtain ⟨rfl, hs⟩ := hR
      have w1 := hw2 (i + 1) (by omega)
      have w2 := hw2 s (by omega)
      have hst : f_X7_dearestFigure_s4 k (nI pl) (nI s, nI (i + 1), σ) = if w (i + 1) ≤ w s then some (.inl (nI s, nI (i + 1 + 1), σ)) else some (.inl (nI (i + 1), nI (i + 1 + 1), σ)) := by
        unfold f_X7_dearestFigure_s4 f_X7_dearestFigure_t4 f_X7_dearestFigure_b29
        simp only
        rw [hB, if_neg (by rw [nI_leI (by omega) (by omega)]; omega), x_valueOf hp (by omega), b2_some, x_valueOf hp (by omega), b2_some, hw _ (by omega), hw _ (by omega), nI_1]
        by_cases c : w (i + 1) ≤ w s
        · rw [if_pos c, if_pos ((nI_leI (by omega) (by omega)).mpr c)]
        · rw [if_neg c, if_neg (fun c2 => c ((nI_leI (by omega) (by omega)).mp c2))]
      rw [hst]
      unfold dsG
      by_cases c : w (i + 1) ≤ w s
      · rw [if_pos c, if_pos c]; exact ⟨_, rfl, rfl, by omega⟩
      · rw [if_neg c, if_neg c]; exact ⟨_, rfl, rfl, by omega⟩
    · obtain ⟨rfl, hs⟩ := hR
      refine ⟨_, ?_, rfl⟩
      unfold f_X7_dearestFigure_s4 f_X7_dearestFigure_t4
      simp only
      rw [hB, if_pos (by rw [nI_leI (by omega) (by omega)]; omega)]
      rfl
  obtain ⟨bb, e1, e2⟩ := key
  unfold f_X7_dearestFigure
  rw [e1, e2]
theorem m_greatest {σ : Hp} {l b : Nat} {w : Nat → Nat} (hB : hI σ 40 2 = nI b) (h2 : 2 ≤ b) (h10 : b ≤ 10) (hp : l < 6) (hw : ∀ f, f < 10 → hI σ 48 (10 * l + f) = nI (w f)) (hw2 : ∀ f, f < 10 → w f ≤ 999) : f_X12_greatest (nI l) σ = some (dsS w b, σ) := by
  have key : ∃ bb, iter (f_X12_greatest_s4 (nI l)) fuel (0, 1, σ) = some bb ∧ bb = (dsS w b, σ) := by
    unfold dsS
    refine iter_lp (R := fun i s a => a = (nI s, nI (i + 1), σ) ∧ s ≤ i) (Q := fun u bb => bb = (u, σ)) (n := b - 1) (o1 := fun n : Nat => nI n) (o2 := fun _ : Unit => (0 : Int32)) (fun i s aa hi hR => ?_) (fun s aa hR => ?_) (b - 1) 0 fuel 0 _ (by omega) (by unfold fuel; omega) ⟨rfl, Nat.le_refl 0⟩
    · obtain ⟨rfl, hs⟩ := hR
      have w1 := hw2 (i + 1) (by omega)
      have w2 := hw2 s (by omega)
      have hst : f_X12_greatest_s4 (nI l) (nI s, nI (i + 1), σ) = if w (i + 1) ≤ w s then some (.inl (nI s, nI (i + 1 + 1), σ)) else some (.inl (nI (i + 1), nI (i + 1 + 1), σ)) := by
        unfold f_X12_greatest_s4 f_X12_greatest_t4 f_X12_greatest_b39
        simp only
        rw [hB, if_neg (by rw [nI_leI (by omega) (by omega)]; omega), show (10 : Int32) = nI 10 from rfl, nI_mul, nI_add, nI_add, ck_pos (inb_nI (by omega) (by omega)), ck_pos (inb_nI (by omega) (by omega)), nI_clamp (by omega), nI_clamp (by omega), hw _ (by omega), hw _ (by omega), nI_1]
        by_cases c : w (i + 1) ≤ w s
        · rw [if_pos c, if_pos ((nI_leI (by omega) (by omega)).mpr c)]
        · rw [if_neg c, if_neg (fun c2 => c ((nI_leI (by omega) (by omega)).mp c2))]
      rw [hst]
      unfold dsG
      by_cases c : w (i + 1) ≤ w s
      · rw [if_pos c, if_pos c]; exact ⟨_, rfl, rfl, by omega⟩
      · rw [if_neg c, if_neg c]; exact ⟨_, rfl, rfl, by omega⟩
    · obtain ⟨rfl, hs⟩ := hR
      refine ⟨_, ?_, rfl⟩
      unfold f_X12_greatest_s4 f_X12_greatest_t4
      simp only
      rw [hB, if_pos (by rw [nI_leI (by omega) (by omega)]; omega)]
      rfl
  obtain ⟨bb, e1, e2⟩ := key
  unfold f_X12_greatest
  rw [e1, e2]
/-- what a law says of a sort -/
def syV (f : Nat → Option Nat) (w : Nat → Nat) (a b : Nat) (k : Int32) : Int32 := if k = 0 then nI a else if k = 1 then (oL (f 100)).toInt32 else if k = 2 then (oL (f 99)).toInt32 else if k = 3 then (oL (f 495)).toInt32 else if k = 4 then (oL (f 77)).toInt32 else if k = 5 then dsS w b else (oL (f 12)).toInt32
theorem x_saying {σ : Hp} {j kd a pl b k : Nat} {w : Nat → Nat} (h : lawX σ j 1 kd a pl b w) (hk : k ≤ 6) : f_X11_saying j (nI k) σ = some (syV (nxO kd a b w) w a b (nI k), σ) := by
  obtain ⟨hL, hCl, hP, hA, hB, hw, hkd, ha, hp, h2, h10, hw9⟩ := id h
  unfold f_X11_saying syV
  rw [show (100 : Int64) = lN 100 from rfl, show (99 : Int64) = lN 99 from rfl, show (495 : Int64) = lN 495 from rfl, show (77 : Int64) = lN 77 from rfl, show (12 : Int64) = lN 12 from rfl, x_on2 h (by omega), x_on2 h (by omega), x_on2 h (by omega), x_on2 h (by omega), x_on2 h (by omega), ck_pos hL, ck_pos hL, ck_pos hL, ck_pos hL, ck_pos hL, ck_pos hL, ck_pos hL, hP, x_dearest hB h2 h10 hp hw hw9, hA]
  simp only [b2_some]
  have : k = 0 ∨ k = 1 ∨ k = 2 ∨ k = 3 ∨ k = 4 ∨ k = 5 ∨ k = 6 := by omega
  rcases this with rfl | rfl | rfl | rfl | rfl | rfl | rfl <;> rfl
theorem m_saying {σ : Hp} {l kd a b k : Nat} {w : Nat → Nat} (h : lawM σ l kd a b w) (hk : k ≤ 6) : ∃ τ, f_X12_says_b130 (nI k) (nI l) σ = some (syV (nxO kd a b w) w a b (nI k), τ) ∧ Fs σ τ := by
  obtain ⟨hK, hA, hB, hw, hkd, ha, hl, h2, h10, hw9⟩ := id h
  have nx : ∀ n, n ≤ 999999999999999 → ∃ τ, b2 (f_X12_nextOf (nI l) (lN n) σ) (fun r_20 s_21 => some (r_20.toInt32, s_21)) = some ((oL (nxO kd a b w n)).toInt32, τ) ∧ Fs σ τ := by
    intro n hn
    obtain ⟨υ, g1, g2⟩ := m_next3 (Fs_refl σ) h hn
    exact ⟨υ, by rw [g1, b2_some], g2⟩
  have : k = 0 ∨ k = 1 ∨ k = 2 ∨ k = 3 ∨ k = 4 ∨ k = 5 ∨ k = 6 := by omega
  rcases this with rfl | rfl | rfl | rfl | rfl | rfl | rfl
  · refine ⟨σ, ?_, Fs_refl σ⟩
    show ck (inb (nI l) 6 = true) (some (hI σ 47 (nI l).toNatClampNeg, σ)) = _
    rw [ck_pos (inb_nI (by omega) (by omega)), nI_clamp (by omega), hA]
    rfl
  · exact nx 100 (by omega)
  · exact nx 99 (by omega)
  · exact nx 495 (by omega)
  · exact nx 77 (by omega)
  · refine ⟨σ, ?_, Fs_refl σ⟩
    show b2 (f_X12_greatest (nI l) σ) (fun r_36 s_37 => some (r_36, s_37)) = _
    rw [m_greatest hB h2 h10 hl hw hw9, b2_some]
    rfl
  · exact nx 12 (by omega)
theorem op_says (σ : Hp) (hv : Inv σ) (a0 : Int32) (a1 : Int32) : ∃ (r : Int32) (σ1 σ2 : Hp), f_X11_says a0 a1 σ = some (r, σ1) ∧ f_X12_says a0 a1 σ1 = some (r, σ2) ∧ Inv σ2 := by
  refine op_go hv (fun A hA => ?_)
  obtain ⟨hO, hX, hM, hI1, hS, -⟩ := id hA
  have hN6 := hO.1
  rcases sh_cs a0 with ⟨s, hs, rfl, s1, s2⟩ | ⟨s1, s2⟩
  · have h1 : (a1 < 0 ∨ ¬ a1 ≤ 6) → opG (f_X11_says (nI s) a1) (f_X12_says (nI s) a1) σ A := by
      intro h
      refine op_no (k := 0) (by omega) (v := -1) ?_ (fun τ hτ => ?_)
      · unfold f_X11_says f_X11_says_b20
        rw [s1, b2_some, cs_some, ck_pos (ky14 hs), x_r1, b2_some]
        by_cases c : a1 < 0
        · rw [if_pos c]
        · rw [if_neg c, if_neg (h.resolve_left c)]
      · unfold f_X12_says f_X12_says_b18
        rw [s2, b2_some, if_neg (by decide), m_r1, b2_some]
        by_cases c : a1 < 0
        · rw [if_pos c]
        · rw [if_neg c, if_neg (h.resolve_left c)]
    rcases int_cs a1 with c | ⟨k, hk, rfl⟩
    · exact h1 (Or.inl c)
    · by_cases c : nI k ≤ 6
      · have hk6 : k ≤ 6 := by rw [show (6 : Int32) = nI 6 from rfl, nI_leI (by omega) (by omega)] at c; exact c
        have x0 : f_X11_says (nI s) (nI k) σ = if hI σ (14 + s) 1 = -1 then b2 (f_X7_lawAt 1 (hI σ (14 + s) 3) σ) (fun r_12 s_13 => cs r_12 (b2 (f_X11_refuse (-3 : Int32) s_13) (fun r_16 s_17 => some (r_16, s_17))) (fun y_15 => ck (isLaw s_13 y_15 = true) (b2 (v_isUnder y_15 (nI k) s_13) (fun r_20 s_21 => if r_20 = 0 then b2 (f_X11_refuse (-2 : Int32) s_21) (fun r_27 s_28 => some (r_27, s_28)) else b2 (f_X11_saying y_15 (nI k) s_21) (fun r_24 s_25 => some (r_24, s_25)))))) else some (-2, sI σ 30 1 (hI σ 30 1 + 1)) := by
          unfold f_X11_says
          rw [s1, b2_some, cs_some, ck_pos (ky14 hs), if_neg (nI_0le hk), if_pos c, x_r2]
          rfl
        rcases hS s hs with ⟨h1, h2, h3, h4⟩ | ⟨t, len, h1, h2, h3, h4, h5, h6, h7, h8, h9⟩ | ⟨l, hl, h1, h2, h3, h4, h5⟩
        · refine ⟨-3, some 2, (fun k e => by cases e; omega), ⟨(-3, sI σ 30 2 (hI σ 30 2 + 1)), ?_, anX_s (Fs_refl σ)⟩, fun τ hf hτ => ⟨(-3, sI τ 45 3 (hI τ 45 3 + 1)), ?_, anM_s (k := 2) (Fs_refl τ)⟩⟩
          · rw [x0, h2, if_pos rfl, h4]
            have : f_X7_lawAt 1 (-1) σ = some (none, σ) := by unfold f_X7_lawAt; rw [if_pos (by decide)]
            rw [this, b2_some, cs_none, x_r3, b2_some]
          · unfold f_X12_says
            rw [s2, b2_some, if_neg (by decide), if_neg (nI_0le hk), if_pos c, ck_pos (inb_nI (by omega) (by omega)), nI_clamp (by omega), hf.2.2.2.1 50 rfl (by decide), h1, if_neg (by decide), if_pos rfl, m_r3, b2_some]
        · refine ⟨-2, some 1, (fun k e => by cases e; omega), ⟨(-2, sI σ 30 1 (hI σ 30 1 + 1)), ?_, anX_s (Fs_refl σ)⟩, fun τ hf hτ => ⟨(-2, sI τ 45 2 (hI τ 45 2 + 1)), ?_, anM_s (k := 1) (Fs_refl τ)⟩⟩
          · rw [x0, h6, if_neg (by have := oI_m1 (q := t) (by omega); exact this)]
          · unfold f_X12_says
            rw [s2, b2_some, if_neg (by decide), if_neg (nI_0le hk), if_pos c, ck_pos (inb_nI (by omega) (by omega)), nI_clamp (by omega), hf.2.2.2.1 50 rfl (by decide), h3, if_pos rfl, m_r2, b2_some]
        · obtain ⟨j, e1, hlX⟩ := law_X (by omega) hO hX hl
          have hlw := hlX.1
          have xu := x_isUnder (a := nI k) hlX.2.2.2.2.2.2.1 hlw hlX.2.1
          have hkd := hO.2.2.2.2.1 l
          have m0 : ∀ τ, Fr σ τ → InA τ A → f_X12_says (nI s) (nI k) τ = if undB (aK A l) (nI k) = true then f_X12_says_b130 (nI k) (nI l) τ else some (-2, sI τ 45 2 (hI τ 45 2 + 1)) := by
            intro τ hf hτ
            unfold f_X12_says
            rw [s2, b2_some, if_neg (by decide), if_neg (nI_0le hk), if_pos c, ck_pos (inb_nI (by omega) (by omega)), nI_clamp (by omega), hf.2.2.2.1 50 rfl (by decide), h1, if_neg (by decide), if_neg (by decide), hf.2.2.2.1 53 rfl (by decide), h2, ck_pos (inb_nI (by omega) (by omega)), nI_clamp (by omega), (hτ.2.2.1.2.2.2.2.1 l hl).1]
            unfold f_X12_says_b83 f_X12_says_b101 f_X12_says_b105 f_X12_says_b106
            rw [m_r2, b2_some]
            have g1 : aK A l = 0 ∨ aK A l = 1 ∨ aK A l = 2 ∨ aK A l = 3 ∨ aK A l = 4 ∨ aK A l = 5 ∨ aK A l = 6 := by omega
            have g2 : k = 0 ∨ k = 1 ∨ k = 2 ∨ k = 3 ∨ k = 4 ∨ k = 5 ∨ k = 6 := by omega
            generalize f_X12_says_b130 (nI k) (nI l) τ = Y
            generalize (some (-2, sI τ 45 2 (hI τ 45 2 + 1)) : Option (Int32 × Hp)) = Z
            generalize aK A l = kd at g1
            rcases g1 with rfl | rfl | rfl | rfl | rfl | rfl | rfl <;> rcases g2 with rfl | rfl | rfl | rfl | rfl | rfl | rfl <;> rfl
          by_cases cu : undB (aK A l) (nI k) = true
          · refine ⟨syV (nxA A l) (aW A l) (aA A l) (aB A) (nI k), none, (fun k e => by cases e), ⟨(_, σ), ?_, anX_n (Fs_refl σ)⟩, fun τ hf hτ => ?_⟩
            · rw [x0, h3, if_pos rfl, h5, e1, b2_some, cs_some, ck_pos hlw, xu, b2_some, if_pos cu, if_neg (by decide), x_saying hlX hk6, b2_some]
            · obtain ⟨υ, q1, q2⟩ := m_saying (k := k) (law_M hτ.1 hτ.2.2.1 hl) hk6
              exact ⟨(_, υ), by rw [m0 τ hf hτ, if_pos cu, q1], anM_n q2⟩
          · refine ⟨-2, some 1, (fun k e => by cases e; omega), ⟨(-2, sI σ 30 1 (hI σ 30 1 + 1)), ?_, anX_s (Fs_refl σ)⟩, fun τ hf hτ => ⟨(-2, sI τ 45 2 (hI τ 45 2 + 1)), ?_, anM_s (k := 1) (Fs_refl τ)⟩⟩
            · rw [x0, h3, if_pos rfl, h5, e1, b2_some, cs_some, ck_pos hlw, xu, b2_some, if_neg cu, if_pos rfl, x_r2, b2_some]
            · rw [m0 τ hf hτ, if_neg cu]
      · exact h1 (Or.inr c)
  · refine op_no (k := 0) (by omega) (v := -1) ?_ (fun τ hτ => ?_)
    · unfold f_X11_says f_X11_says_b20
      rw [s1, b2_some, cs_none, x_r1, b2_some]
    · unfold f_X12_says f_X12_says_b18
      rw [s2, b2_some, if_pos rfl, m_r1, b2_some]
