theorem okO_go {kd a b : Nat} {w : Nat → Nat} {o : Option Nat} (h : okO o) : ∀ k, okO (goN (nxO kd a b w) k o)
  | 0 => h
  | k + 1 => by rw [goN_s]; exact okO_b
theorem x_goeL {σ : Hp} {j kd a pl b x0 : Nat} {w : Nat → Nat} (h : lawX σ j 1 kd a pl b w) (hx : x0 ≤ 999999999999999) : ∀ (k i fu : Nat) (mq : Int64) (ma : Nat), i + k = 201 → ma ≤ 400 → k < fu → (∀ q, q < i → ∀ v, goN (nxO kd a b w) q (some x0) = some v → ¬ rvN b v = v) → (mq = -1 ∨ ∃ m v, m < i ∧ goN (nxO kd a b w) m (some x0) = some v ∧ mq = lN v) → iter (f_X11_countGoes_s14 j) fu (oL (goN (nxO kd a b w) i (some x0)), mq, nI ma, nI i, σ) = some (oI (gs (nxO kd a b w) b k i (goN (nxO kd a b w) i (some x0))), σ)
  | 0, i, 0, mq, ma, _, _, hf, _, _ => by omega
  | k + 1, i, 0, mq, ma, _, _, hf, _, _ => by omega
  | 0, i, fu + 1, mq, ma, hi, hma, hf, hal, hmk => by
    refine iter_inr ?_
    unfold f_X11_countGoes_s14 f_X11_countGoes_t14
    simp only
    rw [if_pos (by rw [show (200 : Int32) = nI 200 from rfl, nI_ltI (by omega) (by omega)]; omega)]
    rfl
  | k + 1, i, fu + 1, mq, ma, hi, hma, hf, hal, hmk => by
    have h200 : ¬ (200 : Int32) < nI i := by rw [show (200 : Int32) = nI 200 from rfl, nI_ltI (by omega) (by omega)]; omega
    have hok := okO_go (kd := kd) (a := a) (b := b) (w := w) (o := some x0) (fun m e => by cases e; exact hx)
    obtain ⟨hL, hCl, hP, hA, hB, hw, hk, ha, hp, h2, h10, hw9⟩ := id h
    cases ho : goN (nxO kd a b w) i (some x0) with
    | none =>
      refine iter_inr ?_
      unfold f_X11_countGoes_s14 f_X11_countGoes_t14
      simp only
      rw [if_neg h200, oL_n, if_pos lc_m1m]
      rfl
    | some n =>
      have hn := hok i n ho
      by_cases hn2 : rvN b n = n
      · refine iter_inr ?_
        unfold f_X11_countGoes_s14 f_X11_countGoes_t14
        simp only
        rw [if_neg h200, oL_s, if_neg (lc_m1 hn), x_isAlike h2 h10 hn hB, b2_some, if_pos hn2, if_neg (by decide)]
        show ex (some (nI i, σ)) = some (.inr (oI (if rvN b n = n then some i else _), σ))
        rw [if_pos hn2]
        rfl
      · have hal2 : ∀ q, q < i + 1 → ∀ v, goN (nxO kd a b w) q (some x0) = some v → ¬ rvN b v = v := by
          intro q hq v hv
          by_cases hqi : q = i
          · subst hqi; rw [ho] at hv; cases hv; exact hn2
          · exact hal q (by omega) v hv
        have e : gs (nxO kd a b w) b (k + 1) i (some n) = gs (nxO kd a b w) b k (i + 1) (goN (nxO kd a b w) (i + 1) (some x0)) := by
          show (if rvN b n = n then some i else gs (nxO kd a b w) b k (i + 1) (nxO kd a b w n)) = _
          rw [if_neg hn2, goN_s, ho]
          rfl
        by_cases hm : lg_cmp (lN n) mq = 0
        · have hc : ∃ m v, m < i ∧ goN (nxO kd a b w) m (some x0) = some v ∧ mq = lN v := by
            rcases hmk with hmk | hmk
            · rw [hmk] at hm; exact absurd hm (lc_m1 hn)
            · exact hmk
          obtain ⟨m, v, h1, h3, h4⟩ := hc
          have hv := hok m v h3
          rw [h4, lc_EQ (by omega) (by omega)] at hm
          have hg : gs (nxO kd a b w) b (k + 1) i (goN (nxO kd a b w) i (some x0)) = none := gs_cyc (b := b) h1 (ho.trans (by rw [hm, h3])) hal (k + 1) 0
          rw [ho] at hg
          rw [hg]
          refine iter_inr ?_
          unfold f_X11_countGoes_s14 f_X11_countGoes_t14
          simp only
          rw [if_neg h200, oL_s, if_neg (lc_m1 hn), x_isAlike h2 h10 hn hB, b2_some, if_neg hn2, if_pos rfl, if_pos (by rw [h4, hm]; exact lc_eq)]
          rfl
        · have hgo : goN (nxO kd a b w) (i + 1) (some x0) = nxO kd a b w n := by rw [goN_s, ho]; rfl
          rw [e]
          by_cases hma2 : i = ma
          · refine (iter_inl (a' := (oL (goN (nxO kd a b w) (i + 1) (some x0)), lN n, nI (2 * i), nI (i + 1), σ)) ?_).trans (x_goeL h hx k (i + 1) fu (lN n) (2 * i) (by omega) (by omega) (by omega) hal2 (Or.inr ⟨i, n, by omega, ho, rfl⟩))
            unfold f_X11_countGoes_s14 f_X11_countGoes_t14 f_X11_countGoes_b70
            simp only
            rw [if_neg h200, oL_s, if_neg (lc_m1 hn), x_isAlike h2 h10 hn hB, b2_some, if_neg hn2, if_pos rfl, if_neg hm, if_pos (by rw [hma2]), ck_pos hL, x_onward h hn, b2_some, oL_nx, hgo, nI_1, show (2 : Int32) = nI 2 from rfl, nI_mul]
          · refine (iter_inl (a' := (oL (goN (nxO kd a b w) (i + 1) (some x0)), mq, nI ma, nI (i + 1), σ)) ?_).trans (x_goeL h hx k (i + 1) fu mq ma (by omega) hma (by omega) hal2 (hmk.imp id (fun ⟨m, v, h1, h3, h4⟩ => ⟨m, v, by omega, h3, h4⟩)))
            unfold f_X11_countGoes_s14 f_X11_countGoes_t14 f_X11_countGoes_b70
            simp only
            rw [if_neg h200, oL_s, if_neg (lc_m1 hn), x_isAlike h2 h10 hn hB, b2_some, if_neg hn2, if_pos rfl, if_neg hm, if_neg (by rw [nI_eq (by omega) (by omega)]; exact hma2), ck_pos hL, x_onward h hn, b2_some, oL_nx, hgo, nI_1]
theorem x_countGoes {σ : Hp} {j kd a pl b x0 : Nat} {w : Nat → Nat} (h : lawX σ j 1 kd a pl b w) (hx : x0 ≤ 999999999999999) : f_X11_countGoes j (lN x0) σ = some (oI (gs (nxO kd a b w) b 201 0 (some x0)), σ) :=
  x_goeL h hx 201 0 fuel (-1) 1 (by omega) (by omega) (by unfold fuel; omega) (fun q hq => by omega) (Or.inl rfl)
