/-! the reference finds a round -/
theorem m_rdM {σ : Hp} {r : Nat → Option Nat} {p j : Nat} (hr : ∀ i, okO (r i)) (hj : j ≤ 1000) (ha : ∀ i, i ≤ j → ¬ r i = none) (hR : ∀ i, i ≤ j → hJ σ 69 i = oL (r i)) : ∀ (k i fu : Nat), p + (i + 1) + k = j → k < fu → iter (f_X12_roundOf_s116 (nI j)) fu (lN (mnR r p i), nI (p + (i + 1)), σ) = some (lN (mnR r p (j - p - 1)), σ)
  | k, i, 0, _, hf => by omega
  | 0, i, fu + 1, hi, hf => by
    refine iter_inr ?_
    unfold f_X12_roundOf_s116 f_X12_roundOf_t116
    simp only
    rw [if_pos (by rw [nI_leI (by omega) (by omega)]; omega), show j - p - 1 = i by omega]
    rfl
  | k + 1, i, fu + 1, hi, hf => by
    refine (iter_inl (a' := (lN (mnR r p (i + 1)), nI (p + (i + 1 + 1)), σ)) ?_).trans (m_rdM hr hj ha hR k (i + 1) fu (by omega) (by omega))
    have h1 := mnR_le hr (p := p) i
    have h2 := okO_D (hr (p + (i + 1)))
    unfold f_X12_roundOf_s116 f_X12_roundOf_t116
    simp only
    rw [if_neg (by rw [nI_leI (by omega) (by omega)]; omega), ck_pos (inb_nI (by omega) (by omega)), nI_clamp (by omega), hR _ (by omega), oL_D (ha _ (by omega))]
    unfold f_X12_roundOf_b148
    rw [nI_1, Nat.add_assoc p (i + 1) 1]
    by_cases hc : mnR r p i ≤ (r (p + (i + 1))).getD 0
    · rw [if_pos ((lc_GE (by omega) (by omega)).mpr hc)]
      have e : mnR r p (i + 1) = mnR r p i := by
        show (if _ then _ else _) = _
        rw [if_neg (by omega)]
      rw [e]
    · rw [if_neg (fun c => hc ((lc_GE (by omega) (by omega)).mp c))]
      have e : mnR r p (i + 1) = (r (p + (i + 1))).getD 0 := by
        show (if _ then _ else _) = _
        rw [if_pos (by omega)]
      rw [e]
theorem m_rdM0 {σ : Hp} {r : Nat → Option Nat} {p j : Nat} (hr : ∀ i, okO (r i)) (hj : j ≤ 1000) (ha : ∀ i, i ≤ j → ¬ r i = none) (hR : ∀ i, i ≤ j → hJ σ 69 i = oL (r i)) (hp : p < j) : iter (f_X12_roundOf_s116 (nI j)) fuel (oL (r p), nI p, σ) = some (lN (mnR r p (j - p - 1)), σ) := by
  show iter _ (19999 + 1) _ = _
  refine (iter_inl (a' := (lN (mnR r p 0), nI (p + (0 + 1)), σ)) ?_).trans (m_rdM hr hj ha hR (j - p - 1) 0 19999 (by omega) (by omega))
  have h2 := okO_D (hr p)
  unfold f_X12_roundOf_s116 f_X12_roundOf_t116
  simp only
  rw [if_neg (by rw [nI_leI (by omega) (by omega)]; omega), ck_pos (inb_nI (by omega) (by omega)), nI_clamp (by omega), hR _ (by omega), oL_D (ha _ (by omega)), if_pos (by rw [lc_GE (by omega) (by omega)]; omega)]
  unfold f_X12_roundOf_b148
  rw [nI_1]
  rfl
theorem m_rdS {σ : Hp} {l : Int32} {r : Nat → Option Nat} {j : Nat} (hr : ∀ i, okO (r i)) (hj : j ≤ 1000) (ha : ∀ i, i ≤ j → ¬ r i = none) (hR : ∀ i, i ≤ j → hJ σ 69 i = oL (r i)) : ∀ (k i fu : Nat), i + k = j → k < fu → (∀ q, q < i → ¬ r q = r j) → (∃ p, p < j ∧ r p = r j ∧ iter (f_X12_roundOf_s60 l (nI j)) fu (nI i, σ) = some (.inr (lN (mnR r p (j - p - 1)), sI (sI σ 40 31 (nI p)) 40 32 (nI (j - p))))) ∨ ((∀ q, q < j → ¬ r q = r j) ∧ iter (f_X12_roundOf_s60 l (nI j)) fu (nI i, σ) = some (.inl (nI (j + 1), σ)))
  | k, i, 0, _, hf, _ => by omega
  | 0, i, fu + 1, hi, hf, hq => by
    refine Or.inr ⟨fun q h => hq q (by omega), iter_inr ?_⟩
    unfold f_X12_roundOf_s60 f_X12_roundOf_t60
    simp only
    rw [if_pos (by rw [nI_leI (by omega) (by omega)]; omega), nI_1]
    rfl
  | k + 1, i, fu + 1, hi, hf, hq => by
    by_cases hc : r i = r j
    · refine Or.inl ⟨i, by omega, hc, iter_inr ?_⟩
      have g := m_rdM0 (σ := sI (sI σ 40 31 (nI i)) 40 32 (nI (j - i))) hr hj ha hR (show i < j by omega)
      unfold f_X12_roundOf_s60 f_X12_roundOf_t60
      simp only
      rw [if_neg (by rw [nI_leI (by omega) (by omega)]; omega), ck_pos (inb_nI (by omega) (by omega)), ck_pos (inb_nI (by omega) (by omega)), nI_clamp (by omega), nI_clamp (by omega), hR _ (by omega), hR _ (by omega), if_pos ((lc_oL (hr _) (hr _)).mpr hc), nI_sub2 (by omega) (by omega), show hJ (sI (sI σ 40 31 (nI i)) 40 32 (nI (j - i))) 69 i = oL (r i) from hR i (by omega), g]
      rfl
    · have hs : iter (f_X12_roundOf_s60 l (nI j)) (fu + 1) (nI i, σ) = iter (f_X12_roundOf_s60 l (nI j)) fu (nI (i + 1), σ) := by
        refine iter_inl ?_
        unfold f_X12_roundOf_s60 f_X12_roundOf_t60
        simp only
        rw [if_neg (by rw [nI_leI (by omega) (by omega)]; omega), ck_pos (inb_nI (by omega) (by omega)), ck_pos (inb_nI (by omega) (by omega)), nI_clamp (by omega), nI_clamp (by omega), hR _ (by omega), hR _ (by omega), if_neg (fun c => hc ((lc_oL (hr _) (hr _)).mp c)), nI_1]
      rw [hs]
      exact m_rdS hr hj ha hR k (i + 1) fu (by omega) (by omega) (fun q h => by
        by_cases e : q = i
        · subst e; exact hc
        · exact hq q (by omega))
theorem m_rdA {l kd a b x0 : Nat} {w : Nat → Nat} {L : Nat → Option (Nat × Nat)} (hL : rdL (nxO kd a b w) L) (hx : x0 ≤ 999999999999999) : ∀ (k j fu : Nat) (σ : Hp), lawM σ l kd a b w → j + k = 1001 → 0 < j → k < fu → ¬ goN (nxO kd a b w) (j - 1) (some x0) = none → (∀ q, q < j → hJ σ 69 q = oL (goN (nxO kd a b w) q (some x0))) → (∀ p q, p < q → q < j → ¬ goN (nxO kd a b w) p (some x0) = goN (nxO kd a b w) q (some x0)) → ∃ (F G : Nat → Int32) (R : Nat → Int64), iter (f_X12_roundOf_s10 (nI l)) fu (nI j, σ) = some (match L x0 with | some (p, q) => lN (mnR (fun k => goN (nxO kd a b w) k (some x0)) p (q - 1)) | none => -1, rowJ (rowI (rowI σ 67 F) 40 G) 69 R) ∧ (∀ i, ¬ i = 31 → ¬ i = 32 → G i = hI σ 40 i) ∧ ∀ p q, L x0 = some (p, q) → G 31 = nI p ∧ G 32 = nI q
  | k, j, 0, σ, _, _, _, hf, _, _, _ => by omega
  | 0, j, fu + 1, σ, h, hj, hj0, hf, hal, hR, hin => by
    have e := rdL_n hL (x := x0) (rd_no3 (fun p q h1 h2 => hin p q h1 (by omega)))
    refine ⟨hI σ 67, hI σ 40, hJ σ 69, iter_inr ?_, fun i _ _ => rfl, fun p q e2 => by rw [e] at e2; cases e2⟩
    have hj2 : j = 1001 := by omega
    subst hj2
    unfold f_X12_roundOf_s10 f_X12_roundOf_t10
    simp only
    rw [if_pos (by decide), e, rowI_self, rowI_self, rowJ_self]
    rfl
  | k + 1, j, fu + 1, σ, h, hj, hj0, hf, hal, hR, hin => by
    have hr : ∀ i, okO (goN (nxO kd a b w) i (some x0)) := okO_go (fun m e => by cases e; exact hx)
    have h1000 : ¬ (1000 : Int32) < nI j := by rw [show (1000 : Int32) = nI 1000 from rfl, nI_ltI (by omega) (by omega)]; omega
    have e1 : nI j - 1 = nI (j - 1) := nI_sub2 (m := j) (n := 1) (by omega) (by omega)
    have hgo : goN (nxO kd a b w) j (some x0) = nxO kd a b w ((goN (nxO kd a b w) (j - 1) (some x0)).getD 0) := by
      conv => lhs; rw [show j = j - 1 + 1 by omega]
      rw [goN_s]
      cases hg : goN (nxO kd a b w) (j - 1) (some x0) with
      | none => exact absurd hg hal
      | some v => rfl
    have hv := okO_D (hr (j - 1))
    obtain ⟨F, g1⟩ := m_nextOf h hv
    rw [oL_nx, ← hgo, ← oL_D hal, ← hR (j - 1) (by omega)] at g1
    have hR2 : ∀ q, q < j + 1 → hJ (sJ (rowI σ 67 F) 69 j (oL (goN (nxO kd a b w) j (some x0)))) 69 q = oL (goN (nxO kd a b w) q (some x0)) := by
      intro q hq
      unfold sJ
      rw [hJ_rowJ_k]
      by_cases e : q = j
      · subst e; exact up_eq _ _ _
      · rw [up_ne _ _ e]; exact hR q (by omega)
    by_cases hn : goN (nxO kd a b w) j (some x0) = none
    · have e := rdL_n hL (x := x0) (rd_no1 hn)
      refine ⟨F, hI σ 40, va_up (hJ σ 69) j (-1), iter_inr ?_, fun i _ _ => rfl, fun p2 q2 e2 => by rw [e] at e2; cases e2⟩
      unfold f_X12_roundOf_s10 f_X12_roundOf_t10
      simp only
      rw [if_neg h1000, e1, ck_pos (inb_nI (by omega) (by omega)), nI_clamp (by omega), g1, b2_some, ck_pos (inb_nI (by omega) (by omega)), nI_clamp (by omega), hR2 j (by omega), hn, oL_n, if_pos lc_m1m, e]
      have e3 : rowI (rowI σ 67 F) 40 (hI σ 40) = rowI σ 67 F := by
        have := rowI_self (rowI σ 67 F) 40
        rw [hI_rowI_n _ _ (by decide)] at this
        exact this
      rw [e3]
      rfl
    · have hnn : ¬ lg_cmp (oL (goN (nxO kd a b w) j (some x0))) (-1) = 0 := fun c => hn ((lc_oL (u := none) (hr j) (fun _ h => by cases h)).mp c)
      have ha : ∀ i, i ≤ j → ¬ goN (nxO kd a b w) i (some x0) = none := fun i hi c => hn (gr_dead c hi)
      have hstep : ∀ y, iter (f_X12_roundOf_s60 (nI l) (nI j)) fuel (nI 0, sJ (rowI σ 67 F) 69 j (oL (goN (nxO kd a b w) j (some x0)))) = some y → f_X12_roundOf_s10 (nI l) (nI j, σ) = some y := by
        intro y hy
        unfold f_X12_roundOf_s10 f_X12_roundOf_t10
        simp only
        rw [if_neg h1000, e1, ck_pos (inb_nI (by omega) (by omega)), nI_clamp (by omega), g1, b2_some, ck_pos (inb_nI (by omega) (by omega)), nI_clamp (by omega), hR2 j (by omega), if_neg hnn]
        exact hy
      rcases m_rdS (l := nI l) (σ := sJ (rowI σ 67 F) 69 j (oL (goN (nxO kd a b w) j (some x0)))) (r := fun k => goN (nxO kd a b w) k (some x0)) hr (show j ≤ 1000 by omega) ha (fun i hi => hR2 i (by omega)) j 0 fuel (by omega) (by unfold fuel; omega) (fun q hq => by omega) with ⟨p, s1, s2, s3⟩ | ⟨s1, s2⟩
      · have hrd : rdO (fun k => goN (nxO kd a b w) k (some x0)) p (j - p) := by
          refine ⟨by omega, by omega, ?_, ?_, fun i i2 h1 h2 => hin i i2 h1 (by omega)⟩
          · show goN _ (p + (j - p)) _ = _
            rw [show p + (j - p) = j by omega]; exact s2.symm
          · show ¬ goN _ (p + (j - p)) _ = _
            rw [show p + (j - p) = j by omega]; exact hn
        have e := (hL x0 p (j - p)).mpr hrd
        refine ⟨F, va_up (va_up (hI σ 40) 31 (nI p)) 32 (nI (j - p)), va_up (hJ σ 69) j (oL (goN (nxO kd a b w) j (some x0))), iter_inr ((hstep _ s3).trans ?_), fun i n1 n2 => by rw [up_ne _ _ n2, up_ne _ _ n1], fun p2 q2 e2 => ?_⟩
        · rw [e]
          unfold sI sJ
          rw [rowI_rowI]
          rfl
        · rw [e] at e2
          cases e2
          exact ⟨by rw [up_ne _ _ (by decide), up_eq], up_eq _ _ _⟩
      · obtain ⟨F2, G2, R2, t1, t2, t3⟩ := m_rdA hL hx k (j + 1) fu (sJ (rowI σ 67 F) 69 j (oL (goN (nxO kd a b w) j (some x0)))) (lawM_rowJ (lawM_row h)) (by omega) (by omega) (by omega) hn hR2 (fun p q h1 h2 => by
          by_cases e : q = j
          · subst e; exact s1 p h1
          · exact hin p q h1 (by omega))
        refine ⟨F2, G2, R2, (iter_inl (hstep _ s2)).trans (t1.trans ?_), fun i n1 n2 => ?_, t3⟩
        · unfold sJ
          rw [rowIJ, rowIJ, rowJ_rowJ, rowI_rowI]
        · rw [t2 i n1 n2]
          rfl
theorem m_roundOf {σ : Hp} {l kd a b x0 : Nat} {w : Nat → Nat} {L : Nat → Option (Nat × Nat)} (h : lawM σ l kd a b w) (hL : rdL (nxO kd a b w) L) (hx : x0 ≤ 999999999999999) : ∃ (F G : Nat → Int32) (R : Nat → Int64), f_X12_roundOf (nI l) (lN x0) σ = some (match L x0 with | some (p, q) => lN (mnR (fun k => goN (nxO kd a b w) k (some x0)) p (q - 1)) | none => -1, rowJ (rowI (rowI σ 67 F) 40 G) 69 R) ∧ (∀ i, ¬ i = 31 → ¬ i = 32 → G i = hI σ 40 i) ∧ ∀ p q, L x0 = some (p, q) → G 31 = nI p ∧ G 32 = nI q := by
  obtain ⟨F, G, R, g1, g2, g3⟩ := m_rdA (l := l) hL hx 1000 1 fuel (sJ σ 69 0 (lN x0)) (lawM_rowJ h) (by omega) (by omega) (by unfold fuel; omega) (fun c => by cases c) (fun q hq => by
    have e : q = 0 := by omega
    subst e
    unfold sJ
    rw [hJ_rowJ_k, up_eq]
    rfl) (fun p q h1 h2 => by omega)
  refine ⟨F, G, R, ?_, g2, g3⟩
  unfold f_X12_roundOf
  rw [ck_pos (by decide)]
  refine Eq.trans g1 ?_
  unfold sJ
  rw [rowIJ, rowIJ, rowJ_rowJ]
