/-! the class finds a round -/
theorem x_krM {σ : Hp} {r : Nat → Option Nat} {p L last : Nat} (hr : ∀ i, okO (r i)) (hl : last ≤ 1000) (ha : ∀ i, i ≤ last → ¬ r i = none) (hR : ∀ i, i ≤ last → hJ σ 33 i = oL (r i)) (hpl : p + L ≤ last) : ∀ (k i fu : Nat), i + 1 + k = L → k < fu → iter (f_X11_keepRound_s67 (nI L) (nI p)) fu (lN (mnR r p i), nI (p + (i + 1)), σ) = some (1, sJ (sJ (sJ σ 34 0 (lN p)) 34 1 (lN L)) 34 2 (lN (mnR r p (L - 1))))
  | k, i, 0, _, hf => by omega
  | 0, i, fu + 1, hi, hf => by
    refine iter_inr ?_
    unfold f_X11_keepRound_s67 f_X11_keepRound_t67
    simp only
    rw [nI_add, if_pos (by rw [nI_leI (by omega) (by omega)]; omega), nI_l (by omega), nI_l (by omega), show L - 1 = i by omega]
    rfl
  | k + 1, i, fu + 1, hi, hf => by
    refine (iter_inl (a' := (lN (mnR r p (i + 1)), nI (p + (i + 1 + 1)), σ)) ?_).trans (x_krM hr hl ha hR hpl k (i + 1) fu (by omega) (by omega))
    have h1 := mnR_le hr (p := p) i
    have h2 := okO_D (hr (p + (i + 1)))
    unfold f_X11_keepRound_s67 f_X11_keepRound_t67
    simp only
    rw [nI_add, if_neg (by rw [nI_leI (by omega) (by omega)]; omega), ck_pos (inb_nI (by omega) (by omega)), nI_clamp (by omega), hR _ (by omega), oL_D (ha _ (by omega)), nI_1, Nat.add_assoc p (i + 1) 1]
    by_cases hc : (r (p + (i + 1))).getD 0 < mnR r p i
    · rw [if_pos ((pk_lLT (by omega) (by omega)).mpr hc)]
      have e : mnR r p (i + 1) = (r (p + (i + 1))).getD 0 := by
        show (if _ then _ else _) = _
        rw [if_pos hc]
      rw [e]
    · rw [if_neg (fun c => hc ((pk_lLT (by omega) (by omega)).mp c))]
      have e : mnR r p (i + 1) = mnR r p i := by
        show (if _ then _ else _) = _
        rw [if_neg hc]
      rw [e]
theorem x_krB {σ : Hp} {r : Nat → Option Nat} {p L last : Nat} (hr : ∀ i, okO (r i)) (hl : last ≤ 1000) (ha : ∀ i, i ≤ last → ¬ r i = none) (hR : ∀ i, i ≤ last → hJ σ 33 i = oL (r i)) (hpl : p + L ≤ last) (h0 : 0 < L) : f_X11_keepRound_b54 (nI L) (nI p) σ = some (1, sJ (sJ (sJ σ 34 0 (lN p)) 34 1 (lN L)) 34 2 (lN (mnR r p (L - 1)))) := by
  unfold f_X11_keepRound_b54
  rw [ck_pos (inb_nI (by omega) (by omega)), nI_clamp (by omega), hR _ (by omega), oL_D (ha _ (by omega)), nI_1]
  exact x_krM hr hl ha hR hpl (L - 1) 0 fuel (by omega) (by unfold fuel; omega)
theorem x_krP {σ : Hp} {r : Nat → Option Nat} {L last : Nat} (hr : ∀ i, okO (r i)) (hl : last ≤ 1000) (hR : ∀ i, i ≤ last → hJ σ 33 i = oL (r i)) (h0 : L ≤ last) (he : r (last - L + L) = r (last - L)) : ∀ (k i fu : Nat), i + k = last - L → k < fu → (∀ q, q < i → ¬ r (q + L) = r q) → ∃ p, p ≤ last - L ∧ r (p + L) = r p ∧ (∀ q, q < p → ¬ r (q + L) = r q) ∧ iter (f_X11_keepRound_s23 (nI last) (nI L)) fu (nI i, σ) = f_X11_keepRound_b54 (nI L) (nI p) σ
  | k, i, 0, _, hf, _ => by omega
  | 0, i, fu + 1, hi, hf, hq => by
    refine ⟨i, by omega, by rw [show i = last - L by omega]; exact he, hq, iter_ex ?_⟩
    unfold f_X11_keepRound_s23 f_X11_keepRound_t23
    simp only
    rw [nI_sub2 (by omega) (by omega), if_pos (by rw [nI_leI (by omega) (by omega)]; omega)]
  | k + 1, i, fu + 1, hi, hf, hq => by
    by_cases hc : r (i + L) = r i
    · refine ⟨i, by omega, hc, hq, iter_ex ?_⟩
      unfold f_X11_keepRound_s23 f_X11_keepRound_t23
      simp only
      rw [nI_sub2 (by omega) (by omega), if_neg (by rw [nI_leI (by omega) (by omega)]; omega), ck_pos (inb_nI (by omega) (by omega)), nI_add, ck_pos (inb_nI (by omega) (by omega)), nI_clamp (by omega), nI_clamp (by omega), hR _ (by omega), hR _ (by omega), if_pos ((lc_oL (hr _) (hr _)).mpr hc.symm)]
    · obtain ⟨p, g1, g2, g3, g4⟩ := x_krP (σ := σ) hr hl hR h0 he k (i + 1) fu (by omega) (by omega) (fun q hq2 => by
        by_cases e : q = i
        · subst e; exact hc
        · exact hq q (by omega))
      refine ⟨p, g1, g2, g3, (iter_inl (a' := (nI (i + 1), σ)) ?_).trans g4⟩
      unfold f_X11_keepRound_s23 f_X11_keepRound_t23
      simp only
      rw [nI_sub2 (by omega) (by omega), if_neg (by rw [nI_leI (by omega) (by omega)]; omega), ck_pos (inb_nI (by omega) (by omega)), nI_add, ck_pos (inb_nI (by omega) (by omega)), nI_clamp (by omega), nI_clamp (by omega), hR _ (by omega), hR _ (by omega), if_neg (fun c => hc ((lc_oL (hr _) (hr _)).mp c).symm), nI_1]
theorem x_keepRound {σ : Hp} {f : Nat → Option Nat} {o : Option Nat} {L last : Nat} (hr : ∀ i, okO (goN f i o)) (hl : last ≤ 1000) (ha : ¬ goN f last o = none) (hR : ∀ i, i ≤ last → hJ σ 33 i = oL (goN f i o)) (h0 : 0 < L) (h1 : L ≤ last) (he : goN f last o = goN f (last - L) o) (hm : ∀ d, 0 < d → d < L → ¬ goN f (last - L + d) o = goN f (last - L) o) : ∃ (S : Nat → Int64) (p : Nat), rdO (fun k => goN f k o) p L ∧ f_X11_keepRound (nI last) (nI L) σ = some (1, rowJ σ 34 S) ∧ S 0 = lN p ∧ S 1 = lN L ∧ S 2 = lN (mnR (fun k => goN f k o) p (L - 1)) := by
  have e0 : last - L + L = last := by omega
  have ha2 : ∀ i, i ≤ last → ¬ goN f i o = none := fun i hi c => ha (gr_dead c hi)
  obtain ⟨p, g1, g2, g3, g4⟩ := x_krP (σ := σ) (r := fun k => goN f k o) (L := L) hr hl hR h1 (by show goN f _ o = _; rw [e0]; exact he) (last - L) 0 fuel (by omega) (by unfold fuel; omega) (fun q hq => by omega)
  have g5 := x_krB (σ := σ) (r := fun k => goN f k o) (p := p) hr hl ha2 hR (show p + L ≤ last by omega) h0
  rw [g5] at g4
  have k1 : ¬ nI L < 1 := by
    rw [show (1 : Int32) = nI 1 from rfl, nI_ltI (by omega) (by omega)]
    omega
  have k2 : ¬ nI last < nI L := by
    rw [nI_ltI (by omega) (by omega)]
    omega
  have k3 : nI last < 1001 := by
    rw [show (1001 : Int32) = nI 1001 from rfl, nI_ltI (by omega) (by omega)]
    omega
  have k4 : f_X11_keepRound (nI last) (nI L) σ = iter (f_X11_keepRound_s23 (nI last) (nI L)) fuel (nI 0, σ) := by
    unfold f_X11_keepRound
    rw [if_neg k1, if_neg k2, if_pos k3]
    rfl
  refine ⟨va_up (va_up (va_up (hJ σ 34) 0 (lN p)) 1 (lN L)) 2 (lN (mnR (fun k => goN f k o) p (L - 1))), p, ⟨h0, by omega, g2, ha2 _ (by omega), ?_⟩, k4.trans (g4.trans ?_), ?_, ?_, ?_⟩
  · exact per_inj (fun i j t h => gr_sh h t) (a := last - L) (by show goN f _ o = _; rw [e0]; exact he) hm g2 g1 g3
  · unfold sJ
    rw [rowJ_rowJ, rowJ_rowJ]
    rfl
  · rw [up_ne _ _ (by decide), up_ne _ _ (by decide), up_eq]
  · rw [up_ne _ _ (by decide), up_eq]
  · rw [up_eq]
theorem x_frB {σ : Hp} {f : Nat → Option Nat} {o : Option Nat} (hr : ∀ i, okO (goN f i o)) (ha : ¬ goN f 1000 o = none) (hR : ∀ i, i ≤ 1000 → hJ σ 33 i = oL (goN f i o)) : ∀ (k fu : Nat), k ≤ 1000 → k < fu → (∀ q, k ≤ q → q < 1000 → ¬ goN f q o = goN f 1000 o) → (∃ (S : Nat → Int64) (p q : Nat), rdO (fun k => goN f k o) p q ∧ iter (f_X11_findRound_s123 (nI 1000)) fu (nI k - 1, σ) = some (1, rowJ σ 34 S) ∧ S 0 = lN p ∧ S 1 = lN q ∧ S 2 = lN (mnR (fun k => goN f k o) p (q - 1))) ∨ ((∀ q, q < 1000 → ¬ goN f q o = goN f 1000 o) ∧ iter (f_X11_findRound_s123 (nI 1000)) fu (nI k - 1, σ) = some (0, σ))
  | k, 0, _, hf, _ => by omega
  | 0, fu + 1, hk, hf, hq => by
    refine Or.inr ⟨fun q hq2 => hq q (by omega) hq2, iter_inr ?_⟩
    unfold f_X11_findRound_s123 f_X11_findRound_t123
    simp only
    rw [if_pos (by decide)]
    rfl
  | k + 1, fu + 1, hk, hf, hq => by
    have e1 : nI (k + 1) - 1 = nI k := nI_sub2 (m := k + 1) (n := 1) (by omega) (by omega)
    rw [e1]
    have h0 : ¬ nI k < 0 := by rw [show (0 : Int32) = nI 0 from rfl, nI_ltI (by omega) (by omega)]; omega
    by_cases hc : goN f k o = goN f 1000 o
    · obtain ⟨S, p, g1, g2, g3, g4, g5⟩ := x_keepRound (σ := σ) (L := 1000 - k) hr (Nat.le_refl 1000) ha hR (by omega) (by omega) (by rw [show 1000 - (1000 - k) = k by omega]; exact hc.symm) (fun d h1 h2 => by rw [show 1000 - (1000 - k) = k by omega, hc]; exact hq (k + d) (by omega) (by omega))
      refine Or.inl ⟨S, p, 1000 - k, g1, iter_inr ?_, g3, g4, g5⟩
      unfold f_X11_findRound_s123 f_X11_findRound_t123
      simp only
      rw [if_neg h0, ck_pos (inb_nI (by omega) (by omega)), ck_pos (inb_nI (by omega) (by omega)), nI_clamp (by omega), nI_clamp (by omega), hR _ (by omega), hR _ (by omega), if_pos ((lc_oL (hr _) (hr _)).mpr hc), nI_sub2 (by omega) (by omega), g2, b2_some, ck_pos (by decide)]
      rfl
    · have := x_frB (σ := σ) hr ha hR k fu (by omega) (by omega) (fun q h1 h2 => by
        by_cases e : q = k
        · subst e; exact hc
        · exact hq q (by omega) h2)
      have hs : iter (f_X11_findRound_s123 (nI 1000)) (fu + 1) (nI k, σ) = iter (f_X11_findRound_s123 (nI 1000)) fu (nI k - 1, σ) := by
        refine iter_inl ?_
        unfold f_X11_findRound_s123 f_X11_findRound_t123
        simp only
        rw [if_neg h0, ck_pos (inb_nI (by omega) (by omega)), ck_pos (inb_nI (by omega) (by omega)), nI_clamp (by omega), nI_clamp (by omega), hR _ (by omega), hR _ (by omega), if_neg (fun c => hc ((lc_oL (hr _) (hr _)).mp c)), Int32.sub_eq_add_neg]
      rw [hs]
      exact this
theorem lawX_rowJ {σ : Hp} {k j st kd a pl b : Nat} {w : Nat → Nat} {F : Nat → Int64} (h : lawX σ j st kd a pl b w) : lawX (rowJ σ k F) j st kd a pl b w := h
theorem x_frA {j kd a pl b x0 : Nat} {w : Nat → Nat} {L : Nat → Option (Nat × Nat)} (hL : rdL (nxO kd a b w) L) (hx : x0 ≤ 999999999999999) : ∀ (k i m fu : Nat) (σ : Hp), lawX σ j 1 kd a pl b w → i + k = 1001 → m < i → k < fu → ¬ goN (nxO kd a b w) (i - 1) (some x0) = none → (∀ q, q < i → hJ σ 33 q = oL (goN (nxO kd a b w) q (some x0))) → (∀ q, m < q → q < i → ¬ goN (nxO kd a b w) q (some x0) = goN (nxO kd a b w) m (some x0)) → ∃ R S : Nat → Int64, iter (f_X11_findRound_s13 j) fu (nI m, nI i, σ) = some (if (L x0).isSome = true then 1 else 0, rowJ (rowJ σ 33 R) 34 S) ∧ ∀ p q, L x0 = some (p, q) → S 0 = lN p ∧ S 1 = lN q ∧ S 2 = lN (mnR (fun k => goN (nxO kd a b w) k (some x0)) p (q - 1))
  | k, i, m, 0, σ, _, _, _, hf, _, _, _ => by omega
  | 0, i, m, fu + 1, σ, h, hi, hm, hf, hal, hR, hmk => by
    have hr : ∀ i, okO (goN (nxO kd a b w) i (some x0)) := okO_go (fun m e => by cases e; exact hx)
    have hi2 : i = 1001 := by omega
    subst hi2
    have hs : f_X11_findRound_s13 j (nI m, nI 1001, σ) = ex (iter (f_X11_findRound_s123 (nI 1000)) fuel (nI 1000 - 1, σ)) := by
      unfold f_X11_findRound_s13 f_X11_findRound_t13
      simp only
      rw [if_pos (by decide)]
      rfl
    rcases x_frB (σ := σ) hr hal (fun q hq => hR q (by omega)) 1000 fuel (by omega) (by unfold fuel; omega) (fun q h1 h2 => by omega) with ⟨S, p, q, g1, g2, g3, g4, g5⟩ | ⟨g1, g2⟩
    · have e := (hL x0 p q).mpr g1
      refine ⟨hJ σ 33, S, (iter_ex hs).trans ?_, fun p2 q2 e2 => ?_⟩
      · rw [g2, e, rowJ_self]
        rfl
      · rw [e] at e2
        cases e2
        exact ⟨g3, g4, g5⟩
    · have e := rdL_n hL (x := x0) (rd_no2 g1)
      refine ⟨hJ σ 33, hJ σ 34, (iter_ex hs).trans ?_, fun p2 q2 e2 => ?_⟩
      · rw [g2, e, rowJ_self, rowJ_self]
        rfl
      · rw [e] at e2
        cases e2
  | k + 1, i, m, fu + 1, σ, h, hi, hm, hf, hal, hR, hmk => by
    have hr : ∀ i, okO (goN (nxO kd a b w) i (some x0)) := okO_go (fun m e => by cases e; exact hx)
    have hlw := h.1
    have h1001 : ¬ (1001 : Int32) ≤ nI i := by rw [show (1001 : Int32) = nI 1001 from rfl, nI_leI (by omega) (by omega)]; omega
    have e1 : nI i - 1 = nI (i - 1) := nI_sub2 (m := i) (n := 1) (by omega) (by omega)
    have hgo : goN (nxO kd a b w) i (some x0) = nxO kd a b w ((goN (nxO kd a b w) (i - 1) (some x0)).getD 0) := by
      conv => lhs; rw [show i = i - 1 + 1 by omega]
      rw [goN_s]
      cases hg : goN (nxO kd a b w) (i - 1) (some x0) with
      | none => exact absurd hg hal
      | some v => rfl
    have hv := okO_D (hr (i - 1))
    have hon : v_onward j (hJ σ 33 (i - 1)) 1 σ = some (oL (goN (nxO kd a b w) i (some x0)), σ) := by
      rw [hR (i - 1) (by omega), oL_D hal, x_onward h hv, oL_nx, hgo]
    by_cases hn : goN (nxO kd a b w) i (some x0) = none
    · have e := rdL_n hL (x := x0) (rd_no1 hn)
      refine ⟨hJ σ 33, hJ σ 34, iter_inr ?_, fun p2 q2 e2 => ?_⟩
      · unfold f_X11_findRound_s13 f_X11_findRound_t13
        simp only
        rw [if_neg h1001, e1, ck_pos (inb_nI (by omega) (by omega)), ck_pos hlw, nI_clamp (by omega), hon, b2_some, hn, oL_n, if_pos lc_m1m, e, rowJ_self, rowJ_self]
        rfl
      · rw [e] at e2
        cases e2
    · have hnn : ¬ lg_cmp (oL (goN (nxO kd a b w) i (some x0))) (-1) = 0 := fun c => hn ((lc_oL (u := none) (hr i) (fun _ h => by cases h)).mp c)
      have hR2 : ∀ q, q < i + 1 → hJ (sJ σ 33 i (oL (goN (nxO kd a b w) i (some x0)))) 33 q = oL (goN (nxO kd a b w) q (some x0)) := by
        intro q hq
        unfold sJ
        rw [hJ_rowJ_k]
        by_cases e : q = i
        · subst e; exact up_eq _ _ _
        · rw [up_ne _ _ e]; exact hR q (by omega)
      by_cases hc : goN (nxO kd a b w) i (some x0) = goN (nxO kd a b w) m (some x0)
      · obtain ⟨S, p, g1, g2, g3, g4, g5⟩ := x_keepRound (σ := sJ σ 33 i (oL (goN (nxO kd a b w) i (some x0)))) (f := nxO kd a b w) (o := some x0) (L := i - m) (last := i) hr (by omega) hn (fun q hq => hR2 q (by omega)) (by omega) (by omega) (by rw [show i - (i - m) = m by omega]; exact hc) (fun d h1 h2 => by rw [show i - (i - m) = m by omega]; exact hmk (m + d) (by omega) (by omega))
        have e := (hL x0 p (i - m)).mpr g1
        refine ⟨va_up (hJ σ 33) i (oL (goN (nxO kd a b w) i (some x0))), S, iter_inr ?_, fun p2 q2 e2 => ?_⟩
        · unfold f_X11_findRound_s13 f_X11_findRound_t13
          simp only
          rw [if_neg h1001, e1, ck_pos (inb_nI (by omega) (by omega)), ck_pos hlw, nI_clamp (by omega), hon, b2_some, if_neg hnn, ck_pos (inb_nI (by omega) (by omega)), ck_pos (inb_nI (by omega) (by omega)), nI_clamp (by omega), nI_clamp (by omega), hR2 m (by omega), if_pos ((lc_oL (hr _) (hr _)).mpr hc), nI_sub2 (by omega) (by omega), g2, b2_some, ck_pos (by decide), e]
          rfl
        · rw [e] at e2
          cases e2
          exact ⟨g3, g4, g5⟩
      · by_cases hm2 : i = 2 * m + 1
        · obtain ⟨R, S, g1, g2⟩ := x_frA hL hx k (i + 1) i fu (sJ σ 33 i (oL (goN (nxO kd a b w) i (some x0)))) (lawX_rowJ h) (by omega) (by omega) (by omega) hn hR2 (fun q h1 h2 => by omega)
          refine ⟨R, S, (iter_inl (a' := (nI i, nI (i + 1), sJ σ 33 i (oL (goN (nxO kd a b w) i (some x0))))) ?_).trans (g1.trans ?_), g2⟩
          · unfold f_X11_findRound_s13 f_X11_findRound_t13 f_X11_findRound_b102
            simp only
            rw [if_neg h1001, e1, ck_pos (inb_nI (by omega) (by omega)), ck_pos hlw, nI_clamp (by omega), hon, b2_some, if_neg hnn, ck_pos (inb_nI (by omega) (by omega)), ck_pos (inb_nI (by omega) (by omega)), nI_clamp (by omega), nI_clamp (by omega), hR2 m (by omega), if_neg (fun c => hc ((lc_oL (hr _) (hr _)).mp c)), if_pos (by rw [show (2 : Int32) = nI 2 from rfl, nI_mul, nI_1, ← hm2]), nI_1]
          · unfold sJ
            rw [rowJ_rowJ]
        · obtain ⟨R, S, g1, g2⟩ := x_frA hL hx k (i + 1) m fu (sJ σ 33 i (oL (goN (nxO kd a b w) i (some x0)))) (lawX_rowJ h) (by omega) (by omega) (by omega) hn hR2 (fun q h1 h2 => by
            by_cases e : q = i
            · subst e; exact hc
            · exact hmk q h1 (by omega))
          refine ⟨R, S, (iter_inl (a' := (nI m, nI (i + 1), sJ σ 33 i (oL (goN (nxO kd a b w) i (some x0))))) ?_).trans (g1.trans ?_), g2⟩
          · unfold f_X11_findRound_s13 f_X11_findRound_t13 f_X11_findRound_b102
            simp only
            rw [if_neg h1001, e1, ck_pos (inb_nI (by omega) (by omega)), ck_pos hlw, nI_clamp (by omega), hon, b2_some, if_neg hnn, ck_pos (inb_nI (by omega) (by omega)), ck_pos (inb_nI (by omega) (by omega)), nI_clamp (by omega), nI_clamp (by omega), hR2 m (by omega), if_neg (fun c => hc ((lc_oL (hr _) (hr _)).mp c)), if_neg (by rw [show (2 : Int32) = nI 2 from rfl, nI_mul, nI_1, nI_eq (by omega) (by omega)]; exact hm2), nI_1]
          · unfold sJ
            rw [rowJ_rowJ]
theorem x_findRound {σ : Hp} {j kd a pl b x0 : Nat} {w : Nat → Nat} {L : Nat → Option (Nat × Nat)} (h : lawX σ j 1 kd a pl b w) (hL : rdL (nxO kd a b w) L) (hx : x0 ≤ 999999999999999) : ∃ R S : Nat → Int64, f_X11_findRound j (lN x0) σ = some (if (L x0).isSome = true then 1 else 0, rowJ (rowJ σ 33 R) 34 S) ∧ ∀ p q, L x0 = some (p, q) → S 0 = lN p ∧ S 1 = lN q ∧ S 2 = lN (mnR (fun k => goN (nxO kd a b w) k (some x0)) p (q - 1)) := by
  obtain ⟨R, S, g1, g2⟩ := x_frA hL hx 1000 1 0 fuel (sJ σ 33 0 (lN x0)) (lawX_rowJ h) (by omega) (by omega) (by unfold fuel; omega) (fun c => by cases c) (fun q hq => by
    have e : q = 0 := by omega
    subst e
    unfold sJ
    rw [hJ_rowJ_k, up_eq]
    rfl) (fun q h1 h2 => by omega)
  refine ⟨R, S, ?_, g2⟩
  unfold f_X11_findRound
  rw [ck_pos (by decide)]
  refine Eq.trans g1 ?_
  unfold sJ
  rw [rowJ_rowJ]
