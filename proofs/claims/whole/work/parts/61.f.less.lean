theorem aS_setS (A : AbS) (s : Int32) : aS (setS A s) = s := rfl
theorem aS_putA (A : AbS) (v : Nat) : aS (putA A v) = aS A := rfl
theorem x_wkL {σ : Hp} {j l : Nat} {A : AbS} (hl : lawX σ j 1 (aK A l) (aA A l) l (aB A) (aW A l)) : ∀ (k i fu : Nat) (B : AbS) (τ : Hp), i + k = 20 → aM B + k = 21 → k < fu → FkX 1 σ τ → StX τ 1 B → okA B → smL A B → 0 < aM B → ∃ υ, iter (f_X11_holdLesson_s56 j) fu (nI i, τ) = some (if (wkA l k B).2 = true then 1 else 0, υ) ∧ FkX 1 σ υ ∧ StX υ 1 (wkA l k B).1 ∧ okA (wkA l k B).1 ∧ smL A (wkA l k B).1
  | k, i, 0, B, τ, _, _, hf, _, _, _, _, _ => by omega
  | 0, i, fu + 1, B, τ, hi, hm, hf, r1, r2, r3, r5, r4 => by
    have := r3.2.2.2.1
    omega
  | k + 1, i, fu + 1, B, τ, hi, hm, hf, r1, r2, r3, r5, r4 => by
    have h9 := r3.2.2.2.2.2.2.2.2 (aM B - 1)
    have h20 : ¬ (20 : Int32) ≤ nI i := by rw [show (20 : Int32) = nI 20 from rfl, nI_leI (by omega) (by omega)]; omega
    unfold wkA
    by_cases c : rvN (aB B) (aL B (aM B - 1)) = aL B (aM B - 1)
    · rw [if_pos c]
      refine ⟨τ, iter_inr ?_, r1, r2, r3, r5⟩
      unfold f_X11_holdLesson_s56 f_X11_holdLesson_t56
      simp only
      rw [if_neg h20, x_last r3 r4 r2, b2_some, x_isAlike r3.2.1 r3.2.2.1 h9 r2.1, b2_some, if_pos c, if_neg (by decide)]
      rfl
    · rw [if_neg c]
      obtain ⟨υ, g1, g2, g3⟩ := x_goBy (k := 1) (by omega) r3 r4 r2 (lawX_st (by omega) r5 hl r1 r2)
      cases hg : goA B l with
      | none =>
        rw [hg] at g1 g3
        refine ⟨υ, iter_inr ?_, FkX_trans r1 g2, g3, r3, r5⟩
        unfold f_X11_holdLesson_s56 f_X11_holdLesson_t56
        simp only
        rw [if_neg h20, x_last r3 r4 r2, b2_some, x_isAlike r3.2.1 r3.2.2.1 h9 r2.1, b2_some, if_neg c, if_pos rfl, g1, b2_some]
        rfl
      | some C =>
        rw [hg] at g1 g3
        obtain ⟨k1, k2, k3⟩ := goA_ok r3 hg
        obtain ⟨ω, q1, q2, q3⟩ := x_wkL hl k (i + 1) fu C υ (by omega) (by omega) (by omega) (FkX_trans r1 g2) g3 k1 (smL_trans r5 k2) (by omega)
        refine ⟨ω, (iter_inl ?_).trans q1, q2, q3⟩
        unfold f_X11_holdLesson_s56 f_X11_holdLesson_t56
        simp only
        rw [if_neg h20, x_last r3 r4 r2, b2_some, x_isAlike r3.2.1 r3.2.2.1 h9 r2.1, b2_some, if_neg c, if_pos rfl, g1, b2_some]
        show (some (Sum.inl (nI i + 1, υ)) : Option ((Int32 × Hp) ⊕ (Int32 × Hp))) = _
        rw [nI_1]
theorem x_lesson {σ : Hp} {A : AbS} (hO : okA A) (hn : 0 < aN A) (hX : StX σ 1 A) : ∃ υ, f_X11_holdLesson σ = some (if (lsR A).2 = true then 1 else 0, υ) ∧ FkX 1 σ υ ∧ StX υ 1 (lsR A).1 ∧ okA (lsR A).1 ∧ smL A (lsR A).1 := by
  have hN6 := hO.1
  obtain ⟨a1, a2⟩ := x_setM (m := 0) (k := 1) (by omega) (Nat.zero_le _) hX
  have d1 := x_draw (n := 1000) (by omega) (by omega) a2
  obtain ⟨b1, b2'⟩ := x_setS (s := sdN (aS A)) (k := 1) (by omega) a2
  have hd : drV (aS A) 1000 < 1000 := drV_lt (by omega)
  obtain ⟨τ3, c1, c2, c3⟩ := x_put (v := drV (aS A) 1000) (k := 1) (by omega) b2' (show (0 : Nat) < 20 by omega)
  have hS3 : aS (putA (setS (setM A 0) (sdN (aS A))) (drV (aS A) 1000)) = sdN (aS A) := (aS_putA _ _).trans (aS_setS _ _)
  have d2 := x_draw (n := aN A) hn (by omega) c3
  rw [hS3] at d2
  obtain ⟨e1, e2⟩ := x_setS (s := sdN (sdN (aS A))) (k := 1) (by omega) c3
  have hl : drV (sdN (aS A)) (aN A) < aN A := drV_lt hn
  obtain ⟨o1, o2, o3⟩ := lsA_ok hO
  have e2' : StX (sI τ3 1 1 (sdN (sdN (aS A)))) 1 (lsA A) := by unfold lsA; exact e2
  obtain ⟨j, k1, k2⟩ := law_X (i := drV (sdN (aS A)) (aN A)) (by omega) o1 e2' (by rw [o2.1]; exact hl)
  obtain ⟨υ, q1, q2, q3, q4, q5⟩ := x_wkL k2 20 0 fuel (lsA A) _ (by omega) (by rw [o3]) (by unfold fuel; omega) (FkX_refl 1 _) e2' o1 (smL_refl _) (by rw [o3]; omega)
  refine ⟨υ, ?_, FkX_trans a1 (FkX_trans b1 (FkX_trans c2 (FkX_trans e1 q2))), q3, q4, smL_trans o2 q5⟩
  unfold f_X11_holdLesson
  have d1' : f_X7_draw 1 1000 (sI σ 1 3 0) = some (nI (drV (aS A) 1000), sI (sI σ 1 3 0) 1 1 (sdN (aS A))) := d1
  have c1' : f_X7_put 1 (lN (drV (aS A) 1000)) (sI (sI σ 1 3 0) 1 1 (sdN (aS A))) = some ((), τ3) := c1
  have d2' : f_X7_draw 1 (nI (aN A)) τ3 = some (nI (drV (sdN (aS A)) (aN A)), sI τ3 1 1 (sdN (sdN (aS A)))) := d2
  rw [d1', b2_some, nI_l (by omega), c1', b2_some, c3.2.2.1]
  show b2 (f_X7_draw 1 (nI (aN A)) τ3) _ = _
  rw [d2', b2_some, k1, b2_some, cs_some]
  exact q1
theorem m_wkL {σ : Hp} {l : Nat} {x1 x2 x3 : Int32} {A : AbS} (hl : l < aN A) : ∀ (k fu : Nat) (B : AbS) (τ : Hp), aM B + k = 21 → 2 * k + 2 < fu → FwM σ τ → StM τ B → okA B → smL A B → 0 < aM B → ∃ υ, iter (f_X12_lessons_s72 x1 x2 x3 (nI l)) fu (1, τ) = f_X12_lessons_b160 x1 x2 x3 (if (wkA l k B).2 = true then 1 else 0) υ ∧ FwM σ υ ∧ StM υ (wkA l k B).1
  | k, 0, B, τ, _, hf, _, _, _, _, _ => by omega
  | 0, fu + 1, B, τ, hm, hf, r1, r2, r3, r5, r4 => by
    have := r3.2.2.2.1
    omega
  | k + 1, fu + 1, B, τ, hm, hf, r1, r2, r3, r5, r4 => by
    have h4 := r3.2.2.2.1
    have h9 := r3.2.2.2.2.2.2.2.2 (aM B - 1)
    have hlB : l < aN B := by rw [r5.1]; exact hl
    have h0 : f_X12_lessons_s72 x1 x2 x3 (nI l) (1, τ) = if rvN (aB B) (aL B (aM B - 1)) = aL B (aM B - 1) then ex (f_X12_lessons_b160 x1 x2 x3 1 τ) else if aM B = 20 then f_X12_lessons_b127 x1 x2 x3 (nI l) (-1) τ else b2 (f_X12_nextOf (nI l) (lN (aL B (aM B - 1))) τ) (fun r_26 s_27 => f_X12_lessons_b127 x1 x2 x3 (nI l) r_26 s_27) := by
      unfold f_X12_lessons_s72 f_X12_lessons_t72
      simp only
      rw [if_neg (show ¬ (1 : Int32) = 0 by decide), r2.2.1, show nI (aM B) - 1 = nI (aM B - 1) from nI_sub2 (m := aM B) (n := 1) (by omega) (by omega), ck_pos (inb_nI (by omega) (by omega)), nI_clamp (by omega), r2.2.2.2.2.2.2 _ (by omega), m_isAlike r3.2.1 r3.2.2.1 h9 r2.2.2.1, b2_some]
      by_cases c : rvN (aB B) (aL B (aM B - 1)) = aL B (aM B - 1)
      · rw [if_pos c, if_pos c, if_neg (by decide)]
      · rw [if_neg c, if_neg c, if_pos rfl, r2.2.1]
        by_cases c2 : aM B = 20
        · rw [if_pos c2, if_pos (by rw [c2]; rfl)]
        · rw [if_neg c2, if_neg (by rw [show (20 : Int32) = nI 20 from rfl, nI_eq (by omega) (by omega)]; exact c2), show nI (aM B) - 1 = nI (aM B - 1) from nI_sub2 (m := aM B) (n := 1) (by omega) (by omega), ck_pos (inb_nI (by omega) (by omega)), nI_clamp (by omega), r2.2.2.2.2.2.2 _ (by omega)]
    have hend : ∀ υ, FwM σ υ → StM υ B → f_X12_lessons_b127 x1 x2 x3 (nI l) (-1) υ = some (.inl (0, υ)) := by
      intro υ _ _
      unfold f_X12_lessons_b127 f_X12_lessons_b143 f_X12_lessons_b157
      rw [if_pos lc_m1m, if_pos rfl]
    have hfin : ∀ υ, iter (f_X12_lessons_s72 x1 x2 x3 (nI l)) fu (0, υ) = f_X12_lessons_b160 x1 x2 x3 0 υ := by
      intro υ
      cases fu with
      | zero => omega
      | succ fu =>
        refine iter_ex ?_
        unfold f_X12_lessons_s72 f_X12_lessons_t72
        simp only [if_true]
    unfold wkA
    by_cases c : rvN (aB B) (aL B (aM B - 1)) = aL B (aM B - 1)
    · rw [if_pos c]
      refine ⟨τ, iter_ex ?_, r1, r2⟩
      rw [h0, if_pos c]
      rfl
    · rw [if_neg c]
      unfold goA
      by_cases c2 : aM B = 20
      · rw [if_pos c2]
        refine ⟨τ, (iter_inl (a' := (0, τ)) ?_).trans (hfin τ), r1, r2⟩
        rw [h0, if_neg c, if_pos c2, hend τ r1 r2]
      · rw [if_neg c2]
        obtain ⟨F, e1⟩ := m_next2 (law_M r3 r2 hlB) h9
        have e1' : f_X12_nextOf (nI l) (lN (aL B (aM B - 1))) τ = some (oL (nxA B l (aL B (aM B - 1))), rowI τ 67 F) := e1
        cases hg : nxA B l (aL B (aM B - 1)) with
        | none =>
          rw [hg] at e1'
          refine ⟨rowI τ 67 F, (iter_inl (a' := (0, rowI τ 67 F)) ?_).trans (hfin _), FwM_67 r1 F, StM_67 r2⟩
          rw [h0, if_neg c, if_neg c2, e1', b2_some, oL_n, hend _ (FwM_67 r1 F) (StM_67 r2)]
        | some v =>
          rw [hg] at e1'
          have hv : v ≤ 999999999999999 := okO_nx v hg
          obtain ⟨υ, g1, g2, g3⟩ := m_writes (v := v) (StM_67 (F := F) r2) (show aM B < 20 by omega)
          have hmB : aM (putA B v) = aM B + 1 := rfl
          obtain ⟨ω, q1, q2⟩ := m_wkL (x1 := x1) (x2 := x2) (x3 := x3) hl k fu (putA B v) υ (by omega) (by omega) (FwM_trans (FwM_67 r1 F) g2) g3 (okA_put r3 (by omega) hv) (smL_trans r5 (smL_P _ _)) (by omega)
          refine ⟨ω, (iter_inl (a' := (1, υ)) ?_).trans q1, q2⟩
          rw [h0, if_neg c, if_neg c2, e1', b2_some, oL_s]
          unfold f_X12_lessons_b127 f_X12_lessons_b143 f_X12_lessons_b157
          rw [if_neg (lc_m1 hv), if_neg (by decide), g1, b2_some]
def leG (f : AbS → AbS × Bool) (i : Nat) (z : AbS × Int32) : (AbS × Int32) ⊕ Unit := .inl ((f z.1).1, if (f z.1).2 = true then z.2 + 1 else z.2)
def leS (f : AbS → AbS × Bool) (n : Nat) (A : AbS) : AbS × Int32 := lpO (fun z : AbS × Int32 => z) (fun _ : Unit => (A, (0 : Int32))) (lpE (leG f) n 0 (A, 0))
theorem x_leL {f : AbS → AbS × Bool} {σ : Hp} {n : Nat} {A : AbS} (hf : ∀ τ B, okA B → 0 < aN B → StX τ 1 B → ∃ υ, f_X11_holdLesson τ = some (if (f B).2 = true then 1 else 0, υ) ∧ FkX 1 τ υ ∧ StX υ 1 (f B).1 ∧ okA (f B).1 ∧ smL B (f B).1) (hO : okA A) (hn0 : 0 < aN A) (hX : StX σ 1 A) (hn : n ≤ 9) : ∃ bb, iter (f_X11_lessons_s39 (nI n)) fuel (0, 0, σ) = some bb ∧ (bb.1 = (leS f n A).2 ∧ FkX 1 σ bb.2 ∧ StX bb.2 1 (leS f n A).1 ∧ okA (leS f n A).1 ∧ smL A (leS f n A).1) := by
  unfold leS
  refine iter_lp (R := fun i (z : AbS × Int32) aa => ∃ τ, aa = (z.2, nI i, τ) ∧ FkX 1 σ τ ∧ StX τ 1 z.1 ∧ okA z.1 ∧ smL A z.1) (Q := fun (u : AbS × Int32) (bb : Int32 × Hp) => bb.1 = u.2 ∧ FkX 1 σ bb.2 ∧ StX bb.2 1 u.1 ∧ okA u.1 ∧ smL A u.1) (n := n) (o1 := fun z : AbS × Int32 => z) (o2 := fun _ : Unit => (A, (0 : Int32))) (fun i B aa hi hR => ?_) (fun B aa hR => ?_) n 0 fuel (A, 0) _ (by omega) (by unfold fuel; omega) ⟨σ, rfl, FkX_refl 1 σ, hX, hO, smL_refl A⟩
  · obtain ⟨τ, rfl, r1, r2, r3, r5⟩ := hR
    obtain ⟨υ, g1, g2, g3, g4, g5⟩ := hf τ B.1 r3 (by rw [r5.1]; exact hn0) r2
    refine ⟨(if (f B.1).2 = true then B.2 + 1 else B.2, nI (i + 1), υ), ?_, υ, rfl, FkX_trans r1 g2, g3, g4, smL_trans r5 g5⟩
    unfold f_X11_lessons_s39 f_X11_lessons_t39 f_X11_lessons_b54
    simp only
    rw [if_neg (by rw [nI_leI (by omega) (by omega)]; omega), g1, b2_some, nI_1]
    by_cases c : (f B.1).2 = true
    · rw [if_pos c, if_pos c, if_neg (by decide)]
    · rw [if_neg c, if_neg c, if_pos rfl]
  · obtain ⟨τ, rfl, r1, r2, r3, r5⟩ := hR
    refine ⟨(B.2, τ), ?_, rfl, r1, r2, r3, r5⟩
    unfold f_X11_lessons_s39 f_X11_lessons_t39
    simp only
    rw [if_pos (by rw [nI_leI (by omega) (by omega)]; omega)]
    rfl
theorem wk_ok (l : Nat) : ∀ (k : Nat) (B : AbS), okA B → okA (wkA l k B).1 ∧ smL B (wkA l k B).1
  | 0, B, h => ⟨h, smL_refl B⟩
  | k + 1, B, h => by
    unfold wkA
    by_cases c : rvN (aB B) (aL B (aM B - 1)) = aL B (aM B - 1)
    · rw [if_pos c]; exact ⟨h, smL_refl B⟩
    · rw [if_neg c]
      cases hg : goA B l with
      | none => exact ⟨h, smL_refl B⟩
      | some C =>
        obtain ⟨k1, k2, k3⟩ := goA_ok h hg
        exact ⟨(wk_ok l k C k1).1, smL_trans k2 (wk_ok l k C k1).2⟩
def mLes (x1 x2 x3 : Int32) (σ1 : Hp) : Option ((Int32 × Int32 × Hp) ⊕ (Int32 × Hp)) := b2 (f_X12_draw (1000 : Int32) (sI σ1 40 1 (0 : Int32))) (fun r_8 s_9 => b2 (f_X12_writes r_8.toInt64 s_9) (fun r_11 s_12 => b2 (f_X12_draw (hI s_12 40 0) s_12) (fun r_14 s_15 => iter (f_X12_lessons_s72 x1 x2 x3 r_14) fuel ((1 : Int32), s_15))))
theorem m_lesson {x1 x2 x3 : Int32} {τ : Hp} {B : AbS} (r3 : okA B) (hnB : 0 < aN B) (r2 : StM τ B) : ∃ υ, mLes x1 x2 x3 τ = f_X12_lessons_b160 x1 x2 x3 (if (lsR B).2 = true then 1 else 0) υ ∧ FwM τ υ ∧ StM υ (lsR B).1 := by
  have hN6 := r3.1
  obtain ⟨a1, a2⟩ := m_setM (m := 0) (Nat.zero_le _) r2
  have d1 := m_draw (n := 1000) (by omega) (by omega) a2
  obtain ⟨b1, b2'⟩ := m_setS (s := sdN (aS B)) a2
  have hd : drV (aS B) 1000 < 1000 := drV_lt (by omega)
  obtain ⟨τ3, c1, c2, c3⟩ := m_writes (v := drV (aS B) 1000) b2' (show (0 : Nat) < 20 by omega)
  have hS3 : aS (putA (setS (setM B 0) (sdN (aS B))) (drV (aS B) 1000)) = sdN (aS B) := (aS_putA _ _).trans (aS_setS _ _)
  have d2 := m_draw (n := aN B) hnB (by omega) c3
  rw [hS3] at d2
  obtain ⟨e1, e2⟩ := m_setS (s := sdN (sdN (aS B))) c3
  have hl : drV (sdN (aS B)) (aN B) < aN B := drV_lt hnB
  obtain ⟨o1, o2, o3⟩ := lsA_ok r3
  have e2' : StM (sI τ3 40 3 (sdN (sdN (aS B)))) (lsA B) := by unfold lsA; exact e2
  obtain ⟨υ, q1, q2, q3⟩ := m_wkL (x1 := x1) (x2 := x2) (x3 := x3) (A := lsA B) (l := drV (sdN (aS B)) (aN B)) (by rw [o2.1]; exact hl) 20 fuel (lsA B) _ (by rw [o3]) (by unfold fuel; omega) (FwM_refl _) e2' o1 (smL_refl _) (by rw [o3]; omega)
  refine ⟨υ, ?_, FwM_trans a1 (FwM_trans b1 (FwM_trans c2 (FwM_trans e1 q2))), q3⟩
  unfold mLes
  have d1' : f_X12_draw 1000 (sI τ 40 1 0) = some (nI (drV (aS B) 1000), sI (sI τ 40 1 0) 40 3 (sdN (aS B))) := d1
  have c1' : f_X12_writes (lN (drV (aS B) 1000)) (sI (sI τ 40 1 0) 40 3 (sdN (aS B))) = some (nI 1, τ3) := c1
  have d2' : f_X12_draw (nI (aN B)) τ3 = some (nI (drV (sdN (aS B)) (aN B)), sI τ3 40 3 (sdN (sdN (aS B)))) := d2
  have h40 : hI τ3 40 0 = nI (aN B) := c3.1
  rw [d1', b2_some, nI_l (by omega), c1', b2_some, h40, d2', b2_some, q1]
  unfold lsR
  rfl
theorem lsR_ok {B : AbS} (h : okA B) : okA (lsR B).1 ∧ smL B (lsR B).1 := by
  obtain ⟨o1, o2, o3⟩ := lsA_ok h
  have := wk_ok (drV (sdN (aS B)) (aN B)) 20 (lsA B) o1
  unfold lsR
  exact ⟨this.1, smL_trans o2 this.2⟩
theorem m_leL {f : AbS → AbS × Bool} {σ : Hp} {n : Nat} {A : AbS} (hf : ∀ x1 x2 x3 τ B, okA B → 0 < aN B → StM τ B → ∃ υ, mLes x1 x2 x3 τ = f_X12_lessons_b160 x1 x2 x3 (if (f B).2 = true then 1 else 0) υ ∧ FwM τ υ ∧ StM υ (f B).1) (hfo : ∀ B, okA B → okA (f B).1 ∧ smL B (f B).1) (hO : okA A) (hn0 : 0 < aN A) (hM : StM σ A) (hn : n ≤ 9) : ∃ bb, iter (f_X12_lessons_s36 (nI n)) fuel (0, 0, σ) = some bb ∧ (bb.1 = (leS f n A).2 ∧ FwM σ bb.2 ∧ StM bb.2 (leS f n A).1) := by
  unfold leS
  refine iter_lp (R := fun i (z : AbS × Int32) aa => ∃ τ, aa = (z.2, nI i, τ) ∧ FwM σ τ ∧ StM τ z.1 ∧ okA z.1 ∧ smL A z.1) (Q := fun (u : AbS × Int32) (bb : Int32 × Hp) => bb.1 = u.2 ∧ FwM σ bb.2 ∧ StM bb.2 u.1) (n := n) (o1 := fun z : AbS × Int32 => z) (o2 := fun _ : Unit => (A, (0 : Int32))) (fun i B aa hi hR => ?_) (fun B aa hR => ?_) n 0 fuel (A, 0) _ (by omega) (by unfold fuel; omega) ⟨σ, rfl, FwM_refl σ, hM, hO, smL_refl A⟩
  · obtain ⟨τ, rfl, r1, r2, r3, r5⟩ := hR
    obtain ⟨υ, g1, g2, g3⟩ := hf (nI n) B.2 (nI i) τ B.1 r3 (by rw [r5.1]; exact hn0) r2
    refine ⟨(if (f B.1).2 = true then B.2 + 1 else B.2, nI (i + 1), υ), ?_, υ, rfl, FwM_trans r1 g2, g3, (hfo _ r3).1, smL_trans r5 (hfo _ r3).2⟩
    have hs : f_X12_lessons_s36 (nI n) (B.2, nI i, τ) = mLes (nI n) B.2 (nI i) τ := by
      unfold f_X12_lessons_s36 f_X12_lessons_t36
      simp only
      rw [if_neg (by rw [nI_leI (by omega) (by omega)]; omega)]
      rfl
    rw [hs, g1]
    unfold f_X12_lessons_b160 f_X12_lessons_b168
    rw [nI_1]
    by_cases c : (f B.1).2 = true
    · rw [if_pos c, if_pos c, if_neg (by decide)]
    · rw [if_neg c, if_neg c, if_pos rfl]
  · obtain ⟨τ, rfl, r1, r2, r3, r5⟩ := hR
    refine ⟨(B.2, τ), ?_, rfl, r1, r2⟩
    unfold f_X12_lessons_s36 f_X12_lessons_t36
    simp only
    rw [if_pos (by rw [nI_leI (by omega) (by omega)]; omega)]
    rfl
/-- a row over lessons, whatever one lesson is -/
theorem op_lesF (f : AbS → AbS × Bool) (hfx : ∀ τ B, okA B → 0 < aN B → StX τ 1 B → ∃ υ, f_X11_holdLesson τ = some (if (f B).2 = true then 1 else 0, υ) ∧ FkX 1 τ υ ∧ StX υ 1 (f B).1 ∧ okA (f B).1 ∧ smL B (f B).1) (hfm : ∀ x1 x2 x3 τ B, okA B → 0 < aN B → StM τ B → ∃ υ, mLes x1 x2 x3 τ = f_X12_lessons_b160 x1 x2 x3 (if (f B).2 = true then 1 else 0) υ ∧ FwM τ υ ∧ StM υ (f B).1) (hfo : ∀ B, okA B → okA (f B).1 ∧ smL B (f B).1) (σ : Hp) (hv : Inv σ) (a0 : Int32) : ∃ (r : Int32) (σ1 σ2 : Hp), f_X11_lessons a0 σ = some (r, σ1) ∧ f_X12_lessons a0 σ1 = some (r, σ2) ∧ Inv σ2 := by
  refine op_mx hv (fun A hA => ?_)
  obtain ⟨hO, hX, hM, -⟩ := id hA
  have hN6 := hO.1
  by_cases c0 : aN A = 0
  · refine Or.inl (op_no (k := 4) (by omega) (v := -5) ?_ (fun τ hτ => ?_))
    · unfold f_X11_lessons
      rw [hX.2.2.1, c0, if_pos (show nI 0 = 0 from rfl), x_r5, b2_some]
    · unfold f_X12_lessons
      rw [hτ.2.2.1.1, c0, if_pos (show nI 0 = 0 from rfl), m_r5, b2_some]
  · have n0 : ¬ nI (aN A) = 0 := by rw [show (0 : Int32) = nI 0 from rfl, nI_eq (by omega) (by omega)]; exact c0
    have h6 : (a0 < 1 ∨ ¬ a0 ≤ 9) → opG (f_X11_lessons a0) (f_X12_lessons a0) σ A := by
      intro h
      refine op_no (k := 5) (by omega) (v := -6) ?_ (fun τ hτ => ?_)
      · unfold f_X11_lessons f_X11_lessons_b28
        rw [hX.2.2.1, if_neg n0, x_r6, b2_some]
        by_cases c1 : a0 < 1
        · rw [if_pos c1]
        · rw [if_neg c1, if_neg (h.resolve_left c1)]
      · unfold f_X12_lessons f_X12_lessons_b25
        rw [hτ.2.2.1.1, if_neg n0, m_r6, b2_some]
        by_cases c1 : a0 < 1
        · rw [if_pos c1]
        · rw [if_neg c1, if_neg (h.resolve_left c1)]
    by_cases c1 : a0 < 1
    · exact Or.inl (h6 (Or.inl c1))
    · by_cases c2 : a0 ≤ 9
      · obtain ⟨n, hn, rfl⟩ := nI_cs a0 (fun h => c1 (Int32.lt_trans h (by decide)))
        have hn9 : n ≤ 9 := by rw [show (9 : Int32) = nI 9 from rfl, nI_leI (by omega) (by omega)] at c2; exact c2
        obtain ⟨bb, g1, g2, g3, g4, g5, g6⟩ := x_leL (f := f) hfx hO (by omega) hX hn9
        refine Or.inr ⟨(leS f n A).2, bb.2, (leS f n A).1, g5, by rw [g6.1]; exact Nat.le_refl _, ?_, g3, g4, fun hM1 => ?_⟩
        · unfold f_X11_lessons
          rw [hX.2.2.1, if_neg n0, if_neg c1, if_pos c2]
          refine Eq.trans g1 ?_
          rw [← g2]
        · obtain ⟨b3, k1, k2, k3, k4⟩ := m_leL (f := f) hfm hfo hO (by omega) hM1 hn9
          refine ⟨b3.2, ?_, k3, k4⟩
          unfold f_X12_lessons
          rw [hM1.1, if_neg n0, if_neg c1, if_pos c2]
          refine Eq.trans k1 ?_
          rw [← k2]
      · exact Or.inl (h6 (Or.inr c2))
theorem op_lessons (σ : Hp) (hv : Inv σ) (a0 : Int32) : ∃ (r : Int32) (σ1 σ2 : Hp), f_X11_lessons a0 σ = some (r, σ1) ∧ f_X12_lessons a0 σ1 = some (r, σ2) ∧ Inv σ2 :=
  op_lesF lsR (fun τ B h1 h2 h3 => x_lesson h1 h2 h3) (fun x1 x2 x3 τ B h1 h2 h3 => m_lesson h1 h2 h3) (fun B h => lsR_ok h) σ hv a0
