/-! rows: rounds, meeting, what comes of what -/
theorem op_round (σ : Hp) (hv : Inv σ) (a0 : Int32) (a1 : Int64) (a2 : Int32) : ∃ (r : Int64) (σ1 σ2 : Hp), f_X11_round a0 a1 a2 σ = some (r, σ1) ∧ f_X12_round a0 a1 a2 σ1 = some (r, σ2) ∧ Inv σ2 := by
  refine op_go hv (fun A hA => ?_)
  obtain ⟨hO, hX, hM, -⟩ := id hA
  rcases law_cs2 hO a0 with ⟨i, hi, rfl⟩ | ⟨l1, l2⟩
  · obtain ⟨j, e1, hlX⟩ := law_X (by omega) hO hX hi
    have h5 : (a2 < 0 ∨ ¬ a2 ≤ 2) → opG (f_X11_round (nI i) a1 a2) (f_X12_round (nI i) a1 a2) σ A := by
      intro h
      refine op_no (k := 4) (by omega) (v := (-5 : Int32).toInt64) ?_ (fun τ hτ => ?_)
      · unfold f_X11_round f_X11_round_b37
        rw [e1, b2_some, cs_some]
        by_cases c : a2 < 0
        · rw [if_pos c, x_r5, b2_some]
        · have c2 := h.resolve_left c
          rw [if_neg c, if_neg (fun c3 => c2 (by obtain ⟨w, hw, rfl⟩ := nI_cs a2 c; rw [show (2 : Int32) = nI 2 from rfl, nI_leI (by omega) (by omega)]; rw [show (3 : Int32) = nI 3 from rfl, nI_ltI (by omega) (by omega)] at c3; omega)), x_r5, b2_some]
      · unfold f_X12_round f_X12_round_b26
        rw [m_isLaw hτ.1 hτ.2.2.1 hi, b2_some, if_neg (by decide)]
        by_cases c : a2 < 0
        · rw [if_pos c, m_r5, b2_some]
        · rw [if_neg c, if_neg (h.resolve_left c), m_r5, b2_some]
    rcases int_cs a2 with c | ⟨w, hw, rfl⟩
    · exact h5 (Or.inl c)
    · by_cases c : nI w ≤ 2
      · have hw2 : w ≤ 2 := by rw [show (2 : Int32) = nI 2 from rfl, nI_leI (by omega) (by omega)] at c; exact c
        have c3 : nI w < 3 := by rw [show (3 : Int32) = nI 3 from rfl, nI_ltI (by omega) (by omega)]; omega
        rcases num_cs a1 with ⟨n, hn, rfl, n1, n2⟩ | ⟨n1, n2⟩
        · obtain ⟨L, hL⟩ := rd_ex (nxO (aK A i) (aA A i) (aB A) (aW A i))
          obtain ⟨R, S, g1, g2⟩ := x_findRound hlX hL hn
          have hfX : Fs σ (rowJ (rowJ σ 33 R) 34 S) := Fs_J (Fs_J (Fs_refl σ) rfl R) rfl S
          cases hLn : L n with
          | none =>
            rw [hLn] at g1
            refine op_vc (c := some 4) (v := (-5 : Int32).toInt64) (fun k e => by cases e; omega) ⟨(_, sI (rowJ (rowJ σ 33 R) 34 S) 30 4 (hI (rowJ (rowJ σ 33 R) 34 S) 30 4 + 1)), ?_, anX_s hfX⟩ (fun τ hτ => ?_)
            · unfold f_X11_round
              rw [e1, b2_some, cs_some, if_neg (nI_0le hw), if_pos c3, n1, b2_some, if_neg (by decide), g1, b2_some]
              show (if (0 : Int32) = 0 then _ else _) = _
              rw [if_pos rfl, x_r5, b2_some]
            · obtain ⟨F, G, R2, k1, k2, k3⟩ := m_roundOf (law_M hτ.1 hτ.2.2.1 hi) hL hn
              rw [hLn] at k1
              have fs : Fs τ (rowJ (rowI (rowI τ 67 F) 40 G) 69 R2) := Fs_J (Fs_40 (Fs_67 (Fs_refl τ) F) (fun q hq => by
                rw [hI_rowI_n _ _ (by decide)]
                exact k2 q (fun e => by subst e; cases hq) (fun e => by subst e; cases hq))) rfl R2
              refine ⟨(_, _), ?_, anM_s fs⟩
              · unfold f_X12_round
                rw [m_isLaw hτ.1 hτ.2.2.1 hi, b2_some, if_neg (by decide), if_neg (nI_0le hw), if_pos c, n2, b2_some, if_neg (by decide), k1, b2_some]
                show (if lg_cmp (-1) (-1) = 0 then _ else _) = _
                rw [if_pos lc_m1m, m_r5, b2_some]
          | some z =>
            obtain ⟨p, q⟩ := z
            obtain ⟨s1, s2, s3⟩ := g2 p q hLn
            rw [hLn] at g1
            have hrd := (hL n p q).mp hLn
            have hpq : p + q ≤ 1000 := hrd.2.1
            have hmn := mnR_le (r := fun k => goN (nxO (aK A i) (aA A i) (aB A) (aW A i)) k (some n)) (okO_go (fun m e => by cases e; exact hn)) (p := p) (q - 1)
            have hS : S w = if w = 0 then lN p else if w = 1 then lN q else lN (mnR (fun k => goN (nxO (aK A i) (aA A i) (aB A) (aW A i)) k (some n)) p (q - 1)) := by
              by_cases w0 : w = 0
              · rw [if_pos w0, w0, s1]
              · by_cases w1 : w = 1
                · rw [if_neg w0, if_pos w1, w1, s2]
                · rw [if_neg w0, if_neg w1, show w = 2 by omega, s3]
            refine op_an hfX (v := S w) ?_ (fun τ hτ => ?_)
            · unfold f_X11_round
              rw [e1, b2_some, cs_some, if_neg (nI_0le hw), if_pos c3, n1, b2_some, if_neg (by decide), g1, b2_some]
              show (if (1 : Int32) = 0 then _ else _) = _
              rw [if_neg (by decide), ck_pos (inb_nI (by omega) (by omega)), nI_clamp (by omega), hJ_rowJ_k]
            · obtain ⟨F, G, R2, k1, k2, k3⟩ := m_roundOf (law_M hτ.1 hτ.2.2.1 hi) hL hn
              rw [hLn] at k1
              obtain ⟨t1, t2⟩ := k3 p q hLn
              refine ⟨rowJ (rowI (rowI τ 67 F) 40 G) 69 R2, ?_, Fs_J (Fs_40 (Fs_67 (Fs_refl τ) F) (fun q hq => ?_)) rfl R2⟩
              · unfold f_X12_round
                rw [m_isLaw hτ.1 hτ.2.2.1 hi, b2_some, if_neg (by decide), if_neg (nI_0le hw), if_pos c, n2, b2_some, if_neg (by decide), k1, b2_some]
                show (if lg_cmp (lN _) (-1) = 0 then _ else if nI w = 0 then some ((hI (rowJ (rowI (rowI τ 67 F) 40 G) 69 R2) 40 31).toInt64, _) else if nI w = 1 then some ((hI (rowJ (rowI (rowI τ 67 F) 40 G) 69 R2) 40 32).toInt64, _) else _) = _
                rw [if_neg (lc_m1 hmn), hI_rowJ, hI_rowI_k, t1, t2, nI_l (by omega), nI_l (by omega), hS]
                by_cases w0 : w = 0
                · rw [if_pos w0, if_pos (by rw [w0]; rfl)]
                · rw [if_neg w0, if_neg (by rw [show (0 : Int32) = nI 0 from rfl, nI_eq (by omega) (by omega)]; exact w0)]
                  by_cases w1 : w = 1
                  · rw [if_pos w1, if_pos (by rw [w1]; rfl)]
                  · rw [if_neg w1, if_neg (by rw [show (1 : Int32) = nI 1 from rfl, nI_eq (by omega) (by omega)]; exact w1)]
              · rw [hI_rowI_n _ _ (by decide)]
                exact k2 q (fun e => by subst e; cases hq) (fun e => by subst e; cases hq)
        · refine op_no (k := 5) (by omega) (v := (-6 : Int32).toInt64) ?_ (fun τ hτ => ?_)
          · unfold f_X11_round
            rw [e1, b2_some, cs_some, if_neg (nI_0le hw), if_pos c3, n1, b2_some, if_pos rfl, x_r6, b2_some]
          · unfold f_X12_round
            rw [m_isLaw hτ.1 hτ.2.2.1 hi, b2_some, if_neg (by decide), if_neg (nI_0le hw), if_pos c, n2, b2_some, if_pos rfl, m_r6, b2_some]
      · exact h5 (Or.inr c)
  · refine op_no (k := 0) (by omega) (v := (-1 : Int32).toInt64) ?_ (fun τ hτ => ?_)
    · unfold f_X11_round
      rw [l1 σ 1 (by omega) hX, b2_some, cs_none, x_r1, b2_some]
    · unfold f_X12_round
      rw [l2 τ hτ.2.2.1, b2_some, if_pos rfl, m_r1, b2_some]
theorem op_meet (σ : Hp) (hv : Inv σ) (a0 : Int32) (a1 : Int64) (a2 : Int64) : ∃ (r : Int64) (σ1 σ2 : Hp), f_X11_meet a0 a1 a2 σ = some (r, σ1) ∧ f_X12_meet a0 a1 a2 σ1 = some (r, σ2) ∧ Inv σ2 := by
  refine op_ln (v1 := (-1 : Int32).toInt64) (v6 := (-6 : Int32).toInt64) (a0 := a0) (a1 := a1) hv (fun e => ?_) (fun τ e => ?_) (fun j e n => ?_) (fun τ e n => ?_) (fun A i j n hA hi hn ei en e1 n1 hlX n2 => ?_)
  · unfold f_X11_meet; rw [e, b2_some, cs_none, x_r1, b2_some]
  · unfold f_X12_meet; rw [e, b2_some, if_pos rfl, m_r1, b2_some]
  · unfold f_X11_meet f_X11_meet_b37; rw [e, b2_some, cs_some, n, b2_some, if_pos rfl, x_r6, b2_some]
  · unfold f_X12_meet f_X12_meet_b32; rw [e, b2_some, if_neg (by decide), n, b2_some, if_pos rfl, m_r6, b2_some]
  · subst ei en
    rcases num_cs a2 with ⟨y, hy, rfl, y1, y2⟩ | ⟨y1, y2⟩
    · obtain ⟨c, R, k1, k2⟩ := x_krL hy 201 0 fuel σ hlX (by omega) (by unfold fuel; omega) (fun q hq => by omega)
      have ex1 : f_X11_meet (nI i) (lN n) (lN y) σ = iter (f_X11_meet_s64 j (nI c)) fuel (oL (some n), nI 0, rowJ σ 33 R) := by
        unfold f_X11_meet f_X11_keepRun
        rw [e1, b2_some, cs_some, n1, b2_some, if_neg (by decide), y1, b2_some, if_neg (by decide)]
        have k1' : iter (f_X11_keepRun_s6 j 201) fuel (0, lN y, σ) = some (nI c, rowJ σ 33 R) := k1
        rw [k1', b2_some]
        rfl
      have ex2 := x_mtL (σ := rowJ σ 33 R) hy (lawX_rowJ hlX) (by rw [hJ_rowJ_k]; exact k2) 201 0 fuel (some n) (by omega) (by unfold fuel; omega) (fun m e => by cases e; exact hn)
      have em : ∀ τ, InA τ A → ∃ υ, Fs τ υ ∧ f_X12_meet (nI i) (lN n) (lN y) τ = match mtF (nxO (aK A i) (aA A i) (aB A) (aW A i)) y 201 (some n) with | some v => some (lN v, υ) | none => f_X12_meet_b158 υ := by
        intro τ hτ
        obtain ⟨c2, F, R2, q1, q2⟩ := m_krL (x2 := lN n) hy 201 0 fuel τ (law_M hτ.1 hτ.2.2.1 hi) (by omega) (by unfold fuel; omega) (fun q hq => by omega)
        obtain ⟨F2, q3⟩ := m_mtL hy 201 0 fuel (some n) (rowJ (rowI τ 67 F) 70 R2) (lawM_rowJ (lawM_row (law_M hτ.1 hτ.2.2.1 hi))) (by rw [hJ_rowJ_k]; exact q2) (by omega) (by unfold fuel; omega) (fun m e => by cases e; exact hn)
        refine ⟨rowI (rowJ (rowI τ 67 F) 70 R2) 67 F2, Fs_67 (Fs_J (Fs_67 (Fs_refl τ) F) rfl R2) F2, ?_⟩
        unfold f_X12_meet
        rw [m_isLaw hτ.1 hτ.2.2.1 hi, b2_some, if_neg (by decide), n2, b2_some, if_neg (by decide), y2, b2_some, if_neg (by decide)]
        refine Eq.trans q1 ?_
        unfold f_X12_meet_b88
        exact q3
      have hfX : Fs σ (rowJ σ 33 R) := Fs_J (Fs_refl σ) rfl R
      cases hm : mtF (nxO (aK A i) (aA A i) (aB A) (aW A i)) y 201 (some n) with
      | none =>
        rw [hm] at ex2
        refine op_vc (c := some 4) (v := (-5 : Int32).toInt64) (fun k e => by cases e; omega) ⟨(_, sI (rowJ σ 33 R) 30 4 (hI (rowJ σ 33 R) 30 4 + 1)), ?_, anX_s hfX⟩ (fun τ hτ => ?_)
        · rw [ex1, ex2]
          unfold f_X11_meet_b117
          rw [x_r5, b2_some]
        · obtain ⟨υ, q1, q2⟩ := em τ hτ
          rw [hm] at q2
          refine ⟨(_, _), ?_, anM_s q1⟩
          rw [q2]
          unfold f_X12_meet_b158
          rw [m_r5, b2_some]
      | some v =>
        rw [hm] at ex2
        refine op_an hfX (v := lN v) (by rw [ex1, ex2]) (fun τ hτ => ?_)
        obtain ⟨υ, q1, q2⟩ := em τ hτ
        rw [hm] at q2
        exact ⟨υ, q2, q1⟩
    · refine op_no (k := 5) (by omega) (v := (-6 : Int32).toInt64) ?_ (fun τ hτ => ?_)
      · unfold f_X11_meet f_X11_meet_b37
        rw [e1, b2_some, cs_some, n1, b2_some, if_neg (by decide), y1, b2_some, if_pos rfl, x_r6, b2_some]
      · unfold f_X12_meet f_X12_meet_b32
        rw [m_isLaw hτ.1 hτ.2.2.1 hi, b2_some, if_neg (by decide), n2, b2_some, if_neg (by decide), y2, b2_some, if_pos rfl, m_r6, b2_some]
theorem bgS_k {f : Nat → Option Nat} {g y : Nat} {i : Int32} : ∀ k, (bgS f g y i).2 = some k → k < 7 := by
  intro k h
  unfold bgS at h
  generalize lpE (bgG f g y i) 10000 0 0 = z at h
  cases z with
  | inl s =>
    have h' : (bgO i s).2 = some k := h
    unfold bgO at h'
    by_cases c : i = -1
    · rw [if_pos c] at h'; cases h'
    · rw [if_neg c] at h'; cases h'; omega
  | inr x => cases h
theorem op_source (σ : Hp) (hv : Inv σ) (a0 : Int32) (a1 : Int64) (a2 : Int32) : ∃ (r : Int32) (σ1 σ2 : Hp), f_X11_source a0 a1 a2 σ = some (r, σ1) ∧ f_X12_source a0 a1 a2 σ1 = some (r, σ2) ∧ Inv σ2 := by
  refine op_go hv (fun A hA => ?_)
  obtain ⟨hO, hX, hM, -⟩ := id hA
  rcases law_cs2 hO a0 with ⟨i, hi, rfl⟩ | ⟨l1, l2⟩
  · obtain ⟨j, e1, hlX⟩ := law_X (by omega) hO hX hi
    by_cases c : (-1 : Int32) ≤ a2
    · rcases num_cs a1 with ⟨n, hn, rfl, n1, n2⟩ | ⟨n1, n2⟩
      · obtain ⟨bb, g1, g2⟩ := x_beginner (g := 1) (i0 := a2) hlX (by omega) hn
        refine op_vc (c := (bgS (nxO (aK A i) (aA A i) (aB A) (aW A i)) 1 n a2).2) (v := (bgS (nxO (aK A i) (aA A i) (aB A) (aW A i)) 1 n a2).1) bgS_k ⟨bb, ?_, g2⟩ (fun τ hτ => ?_)
        · unfold f_X11_source
          have g1' : f_X11_beginner j (lN n) 1 a2 σ = some bb := g1
          rw [e1, b2_some, cs_some, if_pos c, n1, b2_some, if_neg (by decide), g1']
          rfl
        · obtain ⟨bb2, k1, k2⟩ := m_source (i0 := a2) (law_M hτ.1 hτ.2.2.1 hi) hn
          refine ⟨bb2, ?_, k2⟩
          unfold f_X12_source
          rw [m_isLaw hτ.1 hτ.2.2.1 hi, b2_some, if_neg (by decide), if_pos c, n2, b2_some, if_neg (by decide)]
          exact k1
      · refine op_no (k := 5) (by omega) (v := -6) ?_ (fun τ hτ => ?_)
        · unfold f_X11_source
          rw [e1, b2_some, cs_some, if_pos c, n1, b2_some, if_pos rfl, x_r6, b2_some]
        · unfold f_X12_source
          rw [m_isLaw hτ.1 hτ.2.2.1 hi, b2_some, if_neg (by decide), if_pos c, n2, b2_some, if_pos rfl, m_r6, b2_some]
    · refine op_no (k := 4) (by omega) (v := -5) ?_ (fun τ hτ => ?_)
      · unfold f_X11_source
        rw [e1, b2_some, cs_some, if_neg c, x_r5, b2_some]
      · unfold f_X12_source
        rw [m_isLaw hτ.1 hτ.2.2.1 hi, b2_some, if_neg (by decide), if_neg c, m_r5, b2_some]
  · refine op_no (k := 0) (by omega) (v := -1) ?_ (fun τ hτ => ?_)
    · unfold f_X11_source
      rw [l1 σ 1 (by omega) hX, b2_some, cs_none, x_r1, b2_some]
    · unfold f_X12_source
      rw [l2 τ hτ.2.2.1, b2_some, if_pos rfl, m_r1, b2_some]
theorem op_began (σ : Hp) (hv : Inv σ) (a0 : Int32) (a1 : Int64) (a2 : Int32) (a3 : Int32) : ∃ (r : Int32) (σ1 σ2 : Hp), f_X11_began a0 a1 a2 a3 σ = some (r, σ1) ∧ f_X12_began a0 a1 a2 a3 σ1 = some (r, σ2) ∧ Inv σ2 := by
  refine op_go hv (fun A hA => ?_)
  obtain ⟨hO, hX, hM, -⟩ := id hA
  rcases law_cs2 hO a0 with ⟨i, hi, rfl⟩ | ⟨l1, l2⟩
  · obtain ⟨j, e1, hlX⟩ := law_X (by omega) hO hX hi
    by_cases c : (-1 : Int32) ≤ a3
    · rcases num_cs a1 with ⟨n, hn, rfl, n1, n2⟩ | ⟨n1, n2⟩
      · by_cases c1 : a2 < 1
        · refine op_no (k := 5) (by omega) (v := -6) ?_ (fun τ hτ => ?_)
          · unfold f_X11_began f_X11_began_b54
            rw [e1, b2_some, cs_some, if_pos c, n1, b2_some, if_neg (by decide), if_pos c1, x_r6, b2_some]
          · unfold f_X12_began f_X12_began_b48
            rw [m_isLaw hτ.1 hτ.2.2.1 hi, b2_some, if_neg (by decide), if_pos c, n2, b2_some, if_neg (by decide), if_pos c1, m_r6, b2_some]
        · by_cases c2 : a2 ≤ 20
          · obtain ⟨g, hg, rfl⟩ := nI_cs a2 (fun h => c1 (Int32.lt_trans h (by decide)))
            have hg2 : g ≤ 20 := by rw [show (20 : Int32) = nI 20 from rfl, nI_leI (by omega) (by omega)] at c2; exact c2
            obtain ⟨bb, g1, g2⟩ := x_beginner (g := g) (i0 := a3) hlX (by omega) hn
            refine op_vc (c := (bgS (nxO (aK A i) (aA A i) (aB A) (aW A i)) g n a3).2) (v := (bgS (nxO (aK A i) (aA A i) (aB A) (aW A i)) g n a3).1) bgS_k ⟨bb, ?_, g2⟩ (fun τ hτ => ?_)
            · unfold f_X11_began
              rw [e1, b2_some, cs_some, if_pos c, n1, b2_some, if_neg (by decide), if_neg c1, if_pos c2, g1]
              rfl
            · obtain ⟨bb2, k1, k2⟩ := m_began (g := g) (i0 := a3) (law_M hτ.1 hτ.2.2.1 hi) (by omega) hn
              refine ⟨bb2, ?_, k2⟩
              unfold f_X12_began
              rw [m_isLaw hτ.1 hτ.2.2.1 hi, b2_some, if_neg (by decide), if_pos c, n2, b2_some, if_neg (by decide), if_neg c1, if_pos c2]
              exact k1
          · refine op_no (k := 5) (by omega) (v := -6) ?_ (fun τ hτ => ?_)
            · unfold f_X11_began f_X11_began_b54
              rw [e1, b2_some, cs_some, if_pos c, n1, b2_some, if_neg (by decide), if_neg c1, if_neg c2, x_r6, b2_some]
            · unfold f_X12_began f_X12_began_b48
              rw [m_isLaw hτ.1 hτ.2.2.1 hi, b2_some, if_neg (by decide), if_pos c, n2, b2_some, if_neg (by decide), if_neg c1, if_neg c2, m_r6, b2_some]
      · refine op_no (k := 5) (by omega) (v := -6) ?_ (fun τ hτ => ?_)
        · unfold f_X11_began f_X11_began_b54
          rw [e1, b2_some, cs_some, if_pos c, n1, b2_some, if_pos rfl, x_r6, b2_some]
        · unfold f_X12_began f_X12_began_b48
          rw [m_isLaw hτ.1 hτ.2.2.1 hi, b2_some, if_neg (by decide), if_pos c, n2, b2_some, if_pos rfl, m_r6, b2_some]
    · refine op_no (k := 4) (by omega) (v := -5) ?_ (fun τ hτ => ?_)
      · unfold f_X11_began
        rw [e1, b2_some, cs_some, if_neg c, x_r5, b2_some]
      · unfold f_X12_began
        rw [m_isLaw hτ.1 hτ.2.2.1 hi, b2_some, if_neg (by decide), if_neg c, m_r5, b2_some]
  · refine op_no (k := 0) (by omega) (v := -1) ?_ (fun τ hτ => ?_)
    · unfold f_X11_began
      rw [l1 σ 1 (by omega) hX, b2_some, cs_none, x_r1, b2_some]
    · unfold f_X12_began
      rw [l2 τ hτ.2.2.1, b2_some, if_pos rfl, m_r1, b2_some]
