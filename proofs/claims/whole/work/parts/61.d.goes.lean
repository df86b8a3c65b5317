/-! rows: on, lessons -/
def goA (A : AbS) (l : Nat) : Option AbS := if aM A = 20 then none else (nxA A l (aL A (aM A - 1))).map (putA A)
def smL (A B : AbS) : Prop := aN B = aN A ∧ aB B = aB A ∧ aK B = aK A ∧ aA B = aA A ∧ aW B = aW A
theorem smL_refl (A : AbS) : smL A A := ⟨rfl, rfl, rfl, rfl, rfl⟩
theorem smL_trans {A B C : AbS} (h1 : smL A B) (h2 : smL B C) : smL A C := ⟨h2.1.trans h1.1, h2.2.1.trans h1.2.1, h2.2.2.1.trans h1.2.2.1, h2.2.2.2.1.trans h1.2.2.2.1, h2.2.2.2.2.trans h1.2.2.2.2⟩
theorem lawX_st {σ τ : Hp} {j k l : Nat} {A B : AbS} (hk : 1 ≤ k ∧ k ≤ 3) (hs : smL A B) (h : lawX σ j k (aK A l) (aA A l) l (aB A) (aW A l)) (hf : FkX k σ τ) (hX : StX τ k B) : lawX τ j k (aK B l) (aA B l) l (aB B) (aW B l) := by
  obtain ⟨h1, h2, h3, h4, h5, h6, h7⟩ := h
  obtain ⟨s1, s2, s3, s4, s5⟩ := hs
  have hj := hf.2.1 j (isLaw_lt h1)
  refine ⟨isLaw_X hf h1, by rw [hj.1, s3]; exact h2, by rw [hj.2]; exact h3, by rw [hj.2, s4]; exact h4, hX.1, fun f hf2 => hX.2.2.2.2.2.1 l f h7.2.2.1 hf2, ?_⟩
  rw [s2, s3, s4, s5]
  exact h7
theorem goA_ok {A B : AbS} {l : Nat} (h : okA A) (hg : goA A l = some B) : okA B ∧ smL A B ∧ aM B = aM A + 1 := by
  unfold goA at hg
  by_cases c : aM A = 20
  · rw [if_pos c] at hg; cases hg
  · rw [if_neg c] at hg
    cases hn : nxA A l (aL A (aM A - 1)) with
    | none => rw [hn] at hg; cases hg
    | some v =>
      rw [hn] at hg
      cases hg
      have h4 := h.2.2.2.1
      exact ⟨okA_put h (by omega) (okO_nx v hn), ⟨rfl, rfl, rfl, rfl, rfl⟩, rfl⟩
theorem x_last {σ : Hp} {k : Nat} {A : AbS} (hO : okA A) (hm : 0 < aM A) (h : StX σ k A) : f_X7_lastNumber k σ = some (lN (aL A (aM A - 1)), σ) := by
  have h4 := hO.2.2.2.1
  unfold f_X7_lastNumber
  rw [h.2.2.2.1, show (1 : Int32) = nI 1 from rfl, nI_sub2 (by omega) (by omega), if_neg (nI_0le (by omega)), if_neg (by rw [show (20 : Int32) = nI 20 from rfl, nI_leI (by omega) (by omega)]; omega), ck_pos (inb_nI (by omega) (by omega)), nI_clamp (by omega), h.2.2.2.2.2.2 _ (by omega)]
theorem x_goBy {σ : Hp} {j k l : Nat} {A : AbS} (hk : 1 ≤ k ∧ k ≤ 3) (hO : okA A) (hm : 0 < aM A) (hX : StX σ k A) (hl : lawX σ j k (aK A l) (aA A l) l (aB A) (aW A l)) : ∃ τ, f_X7_goBy k j σ = some (if (goA A l).isSome = true then 1 else 0, τ) ∧ FkX k σ τ ∧ StX τ k ((goA A l).getD A) := by
  have hlw := hl.1
  have h9 := hO.2.2.2.2.2.2.2.2 (aM A - 1)
  have h4 := hO.2.2.2.1
  unfold f_X7_goBy goA
  rw [x_last hO hm hX, b2_some, if_neg (lc_m1 h9), x_slateFull hO hX, b2_some]
  by_cases c : aM A = 20
  · rw [if_pos c, if_neg (by decide), if_pos c]
    exact ⟨σ, rfl, FkX_refl k σ, hX⟩
  · rw [if_neg c, if_pos rfl, ck_pos hlw, x_on2 hl h9, b2_some, if_neg c]
    cases hn : nxA A l (aL A (aM A - 1)) with
    | none =>
      rw [show nxO (aK A l) (aA A l) (aB A) (aW A l) (aL A (aM A - 1)) = none from hn, oL_n, if_pos lc_m1m]
      exact ⟨σ, rfl, FkX_refl k σ, hX⟩
    | some v =>
      have hv : v ≤ 999999999999999 := okO_nx v hn
      obtain ⟨τ, g1, g2, g3⟩ := x_put (v := v) hk hX (show aM A < 20 by omega)
      rw [show nxO (aK A l) (aA A l) (aB A) (aW A l) (aL A (aM A - 1)) = some v from hn, oL_s, if_neg (lc_m1 hv), g1, b2_some]
      exact ⟨τ, rfl, g2, g3⟩
theorem FwM_67 {σ τ : Hp} (h : FwM σ τ) (F : Nat → Int32) : FwM σ (rowI τ 67 F) := FwM_I h (by omega) F
theorem StM_67 {σ : Hp} {A : AbS} {F : Nat → Int32} (h : StM σ A) : StM (rowI σ 67 F) A := h
def onG (l : Nat) (i : Nat) (A : AbS) : AbS ⊕ (AbS × Int32) := match goA A l with
  | some B => .inl B
  | none => .inr (A, nI i)
def onS (l n : Nat) (A : AbS) : AbS × Int32 := lpO (fun B : AbS => (B, nI n)) (fun z : AbS × Int32 => z) (lpE (onG l) n 0 A)
theorem x_onL {σ : Hp} {j l n : Nat} {A : AbS} (hO : okA A) (hm : 0 < aM A) (hX : StX σ 1 A) (hl : lawX σ j 1 (aK A l) (aA A l) l (aB A) (aW A l)) (hn : n ≤ 20) : ∃ bb, iter (f_X11_on_s50 (nI n) j) fuel (0, σ) = some bb ∧ (bb.1 = (onS l n A).2 ∧ FkX 1 σ bb.2 ∧ StX bb.2 1 (onS l n A).1 ∧ okA (onS l n A).1 ∧ smL A (onS l n A).1) := by
  unfold onS
  refine iter_lp (R := fun i (B : AbS) aa => ∃ τ, aa = (nI i, τ) ∧ FkX 1 σ τ ∧ StX τ 1 B ∧ okA B ∧ 0 < aM B ∧ smL A B) (Q := fun (u : AbS × Int32) (bb : Int32 × Hp) => bb.1 = u.2 ∧ FkX 1 σ bb.2 ∧ StX bb.2 1 u.1 ∧ okA u.1 ∧ smL A u.1) (n := n) (o1 := fun B : AbS => (B, nI n)) (o2 := fun z : AbS × Int32 => z) (fun i B aa hi hR => ?_) (fun B aa hR => ?_) n 0 fuel A _ (by omega) (by unfold fuel; omega) ⟨σ, rfl, FkX_refl 1 σ, hX, hO, hm, smL_refl A⟩
  · obtain ⟨τ, rfl, r1, r2, r3, r4, r5⟩ := hR
    obtain ⟨υ, g1, g2, g3⟩ := x_goBy (k := 1) (by omega) r3 r4 r2 (lawX_st (by omega) r5 hl r1 r2)
    unfold f_X11_on_s50 f_X11_on_t50 onG
    simp only
    rw [if_neg (by rw [nI_leI (by omega) (by omega)]; omega), g1, b2_some]
    cases hg : goA B l with
    | none =>
      rw [hg] at g3
      exact ⟨(nI i, υ), rfl, rfl, FkX_trans r1 g2, g3, r3, r5⟩
    | some C =>
      rw [hg] at g3
      obtain ⟨k1, k2, k3⟩ := goA_ok r3 hg
      refine ⟨(nI (i + 1), υ), ?_, υ, rfl, FkX_trans r1 g2, g3, k1, by omega, smL_trans r5 k2⟩
      show (some (Sum.inl (nI i + 1, υ)) : Option ((Int32 × Hp) ⊕ (Int32 × Hp))) = _
      rw [nI_1]
  · obtain ⟨τ, rfl, r1, r2, r3, r4, r5⟩ := hR
    refine ⟨(nI n, τ), ?_, rfl, r1, r2, r3, r5⟩
    unfold f_X11_on_s50 f_X11_on_t50
    simp only
    rw [if_pos (by rw [nI_leI (by omega) (by omega)]; omega)]
    rfl
theorem m_onL {σ : Hp} {l n : Nat} {A : AbS} (hO : okA A) (hm : 0 < aM A) (hM : StM σ A) (hl : l < aN A) (hn : n ≤ 20) : ∃ bb, iter (f_X12_on_s41 (nI l) (nI n)) fuel (0, σ) = some bb ∧ (bb.1 = (onS l n A).2 ∧ FwM σ bb.2 ∧ StM bb.2 (onS l n A).1) := by
  unfold onS
  refine iter_lp (R := fun i (B : AbS) aa => ∃ τ, aa = (nI i, τ) ∧ FwM σ τ ∧ StM τ B ∧ okA B ∧ 0 < aM B ∧ smL A B) (Q := fun (u : AbS × Int32) (bb : Int32 × Hp) => bb.1 = u.2 ∧ FwM σ bb.2 ∧ StM bb.2 u.1) (n := n) (o1 := fun B : AbS => (B, nI n)) (o2 := fun z : AbS × Int32 => z) (fun i B aa hi hR => ?_) (fun B aa hR => ?_) n 0 fuel A _ (by omega) (by unfold fuel; omega) ⟨σ, rfl, FwM_refl σ, hM, hO, hm, smL_refl A⟩
  · obtain ⟨τ, rfl, r1, r2, r3, r4, r5⟩ := hR
    have h4 := r3.2.2.2.1
    have h9 := r3.2.2.2.2.2.2.2.2 (aM B - 1)
    have hlB : l < aN B := by rw [r5.1]; exact hl
    unfold f_X12_on_s41 f_X12_on_t41 onG goA
    simp only
    rw [if_neg (by rw [nI_leI (by omega) (by omega)]; omega), r2.2.1]
    by_cases c : aM B = 20
    · rw [if_pos (by rw [show (20 : Int32) = nI 20 from rfl, nI_leI (by omega) (by omega)]; omega), if_pos c]
      exact ⟨(nI i, τ), rfl, rfl, r1, r2⟩
    · obtain ⟨F, e1⟩ := m_next2 (law_M r3 r2 hlB) h9
      rw [if_neg (by rw [show (20 : Int32) = nI 20 from rfl, nI_leI (by omega) (by omega)]; omega), if_neg c, show (1 : Int32) = nI 1 from rfl, nI_sub2 (by omega) (by omega), ck_pos (inb_nI (by omega) (by omega)), nI_clamp (by omega), r2.2.2.2.2.2.2 _ (by omega), e1, b2_some]
      cases hg : nxA B l (aL B (aM B - 1)) with
      | none =>
        rw [show nxO (aK B l) (aA B l) (aB B) (aW B l) (aL B (aM B - 1)) = none from hg, oL_n, if_pos lc_m1m]
        exact ⟨(nI i, rowI τ 67 F), rfl, rfl, FwM_67 r1 F, StM_67 r2⟩
      | some v =>
        have hv : v ≤ 999999999999999 := okO_nx v hg
        obtain ⟨υ, g1, g2, g3⟩ := m_writes (v := v) (StM_67 (F := F) r2) (show aM B < 20 by omega)
        rw [show nxO (aK B l) (aA B l) (aB B) (aW B l) (aL B (aM B - 1)) = some v from hg, oL_s, if_neg (lc_m1 hv), g1, b2_some, nI_add]
        exact ⟨(nI (i + 1), υ), rfl, υ, rfl, FwM_trans (FwM_67 r1 F) g2, g3, okA_put r3 (by omega) hv, Nat.succ_pos _, smL_trans r5 ⟨rfl, rfl, rfl, rfl, rfl⟩⟩
  · obtain ⟨τ, rfl, r1, r2, r3, r4, r5⟩ := hR
    refine ⟨(nI n, τ), ?_, rfl, r1, r2⟩
    unfold f_X12_on_s41 f_X12_on_t41
    simp only
    rw [if_pos (by rw [nI_leI (by omega) (by omega)]; omega)]
    rfl
theorem op_on (σ : Hp) (hv : Inv σ) (a0 : Int32) (a1 : Int32) : ∃ (r : Int32) (σ1 σ2 : Hp), f_X11_on a0 a1 σ = some (r, σ1) ∧ f_X12_on a0 a1 σ1 = some (r, σ2) ∧ Inv σ2 := by
  refine op_mx hv (fun A hA => ?_)
  obtain ⟨hO, hX, hM, -⟩ := id hA
  have h4 := hO.2.2.2.1
  rcases law_cs2 hO a0 with ⟨l, hl, rfl⟩ | ⟨l1, l2⟩
  · obtain ⟨j, e1, hlX⟩ := law_X (by omega) hO hX hl
    have h6 : (a1 < 1 ∨ 20 < a1 ∨ aM A = 0) → opG (f_X11_on (nI l) a1) (f_X12_on (nI l) a1) σ A := by
      intro h
      refine op_no (k := 5) (by omega) (v := -6) ?_ (fun τ hτ => ?_)
      · unfold f_X11_on f_X11_on_b40
        rw [e1, b2_some, cs_some, x_r6, b2_some]
        by_cases c1 : a1 < 1
        · rw [if_pos c1]
        · by_cases c2 : 20 < a1
          · rw [if_neg c1, if_pos c2]
          · rw [if_neg c1, if_neg c2, hX.2.2.2.1, (h.resolve_left c1).resolve_left c2, if_pos (show nI 0 = 0 from rfl)]
      · unfold f_X12_on f_X12_on_b32
        rw [m_isLaw hτ.1 hτ.2.2.1 hl, b2_some, if_neg (by decide), m_r6, b2_some]
        by_cases c1 : a1 < 1
        · rw [if_pos c1]
        · by_cases c2 : 20 < a1
          · rw [if_neg c1, if_pos c2]
          · rw [if_neg c1, if_neg c2, hτ.2.2.1.2.1, (h.resolve_left c1).resolve_left c2, if_pos (show nI 0 = 0 from rfl)]
    by_cases c1 : a1 < 1
    · exact Or.inl (h6 (Or.inl c1))
    · by_cases c2 : 20 < a1
      · exact Or.inl (h6 (Or.inr (Or.inl c2)))
      · by_cases c3 : aM A = 0
        · exact Or.inl (h6 (Or.inr (Or.inr c3)))
        · obtain ⟨n, hn, rfl⟩ := nI_cs a1 (fun h => c1 (Int32.lt_trans h (by decide)))
          have hn20 : n ≤ 20 := by rw [show (20 : Int32) = nI 20 from rfl, nI_ltI (by omega) (by omega)] at c2; omega
          obtain ⟨bb, g1, g2, g3, g4, g5, g6⟩ := x_onL hO (by omega) hX hlX hn20
          refine Or.inr ⟨(onS l n A).2, bb.2, (onS l n A).1, g5, by rw [g6.1]; exact Nat.le_refl _, ?_, g3, g4, fun hM1 => ?_⟩
          · unfold f_X11_on
            rw [e1, b2_some, cs_some, if_neg c1, if_neg c2, hX.2.2.2.1, if_neg (by rw [show (0 : Int32) = nI 0 from rfl, nI_eq (by omega) (by omega)]; exact c3)]
            refine Eq.trans g1 ?_
            rw [← g2]
          · obtain ⟨b3, k1, k2, k3, k4⟩ := m_onL hO (by omega) hM1 hl hn20
            refine ⟨b3.2, ?_, k3, k4⟩
            unfold f_X12_on
            rw [m_isLaw hO hM1 hl, b2_some, if_neg (by decide), if_neg c1, if_neg c2, hM1.2.1, if_neg (by rw [show (0 : Int32) = nI 0 from rfl, nI_eq (by omega) (by omega)]; exact c3)]
            refine Eq.trans k1 ?_
            rw [← k2]
  · refine Or.inl (op_no (k := 0) (by omega) (v := -1) ?_ (fun τ hτ => ?_))
    · unfold f_X11_on
      rw [l1 σ 1 (by omega) hX, b2_some, cs_none, x_r1, b2_some]
    · unfold f_X12_on
      rw [l2 τ hτ.2.2.1, b2_some, if_pos rfl, m_r1, b2_some]
