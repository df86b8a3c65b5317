/-! texts: the class's reader, whole -/
theorem x_itValue {L : Nat → Int32} {s len p : Nat} {σ : Hp} {A : AbS} (hO : okA A) (hp : p ≤ len) (h : CX L s len σ) (ha : hI σ 31 2 = nI p) (hX : StX σ 2 A) (h5 : hI σ 31 5 = -1) : resX (f_X4_readValue σ) σ (bdS (wdS L (wdL 2) p) (fun q => bdS (arS L (fun v => decide (v < aN A ∧ aK A v = 5)) q) (fun z => bdS (arS L (fun v => decide (v ≤ 9)) z.1) (fun y => bdS (arS L (fun v => decide (v ≤ 999)) y.1) (fun x => .inr (x.1, setW A z.2 y.2 x.2)))))) := by
  have hle := h.2.1
  have hN6 := hO.1
  have g1 := x_word (i := 2) (by omega) (by omega) h ha hX h5
  cases hw : wdS L (wdL 2) p with
  | inl q =>
    rw [hw] at g1
    obtain ⟨τ, e1, e2⟩ := g1
    exact ⟨τ, by unfold f_X4_readValue; rw [e1, b2_some, if_pos rfl], e2⟩
  | inr q =>
    rw [hw] at g1
    obtain ⟨τ, e1, e2, e3, e4, e5⟩ := g1
    have hq := wdS_le h.2.2.2.2.2 hp hw
    have hCτ := CX_f e2 h
    have g2 := x_num (P := fun v => decide (v < aN A)) (lo := 0) (hi := nI (aN A) - 1) (fun v hv => by rw [decide_eq_true_iff]; exact (nI_m1 hN6 v hv).symm) hq hCτ e3 e4 e5
    show resX _ _ (bdS (arS L (fun v => decide (v < aN A ∧ aK A v = 5)) q) (fun z => bdS (arS L (fun v => decide (v ≤ 9)) z.1) (fun y => bdS (arS L (fun v => decide (v ≤ 999)) y.1) (fun x => .inr (x.1, setW A z.2 y.2 x.2)))))
    have hst : ∀ r, f_X4_readNumber 0 (nI (aN A) - 1) τ = r → f_X4_readValue σ = b2 r (fun r_5 s_6 => if r_5 = 0 then some ((0 : Int32), s_6) else b2 (f_X7_lawAt 2 (hI s_6 31 3) s_6) (fun r_9 s_10 => cs r_9 (f_X4_readValue_b54 s_10) (fun y_12 => ck (isLaw s_10 y_12 = true) (b2 (v_isUnder y_12 (5 : Int32) s_10) (fun r_18 s_19 => if r_18 = 0 then f_X4_readValue_b54 s_19 else b2 (f_X4_readNumber (0 : Int32) (9 : Int32) s_19) (fun r_22 s_23 => if r_22 = 0 then some ((0 : Int32), s_23) else b2 (f_X4_readNumber (0 : Int32) (999 : Int32) s_23) (fun r_26 s_27 => if r_26 = 0 then some ((0 : Int32), s_27) else b2 (f_X7_tellValue 2 (hI s_6 31 3) (hI s_23 31 3) (hI s_27 31 3) s_27) (fun r_30 s_31 => some ((1 : Int32), s_31)))))))) ) := by
      intro r hr
      unfold f_X4_readValue
      rw [e1, b2_some, if_neg (by decide), e4.2.2.1, hr]
    unfold arS at g2 ⊢
    by_cases c32 : L q = 32
    · rw [if_pos c32] at g2 ⊢
      by_cases c1 : (dgT L 6 (q + 1) 0).1 = q + 1
      · rw [if_pos (Or.inl c1)] at g2
        rw [if_pos (Or.inl c1)]
        obtain ⟨υ, k1, k2⟩ := g2
        exact ⟨υ, by rw [hst _ k1, b2_some, if_pos rfl], flX_t e2 k2⟩
      · by_cases c2 : (dgT L 6 (q + 1) 0).2 < aN A
        · rw [if_neg (fun c => c.elim c1 (fun c => by rw [decide_eq_false_iff_not] at c; exact c c2))] at g2
          obtain ⟨υ, k1, ⟨k2, k3, k4, k5⟩, k6, k7, k8, k9, k10⟩ := g2
          obtain ⟨j, w1, w2⟩ := law_X (k := 2) (by omega) hO k4 c2
          have hlw := w2.1
          have hkd := hO.2.2.2.2.1 (dgT L 6 (q + 1) 0).2
          have xu := x_isUnder (a := 5) hkd hlw w2.2.1
          by_cases c5 : aK A (dgT L 6 (q + 1) 0).2 = 5
          · rw [if_neg (fun c => c.elim c1 (fun c => by rw [decide_eq_false_iff_not] at c; exact c ⟨c2, c5⟩))]
            have hCυ := CX_f k2 hCτ
            have g3 := x_num (P := fun v => decide (v ≤ 9)) (lo := 0) (hi := 9) (fun v hv => by
              rw [decide_eq_true_iff, show (0 : Int32) = nI 0 from rfl, nI_ltI (by omega) (by omega), show (9 : Int32) = nI 9 from rfl, nI_leI (by omega) (by omega)]; omega) k8 hCυ k3 k4 k5
            show resX _ _ (bdS (arS L (fun v => decide (v ≤ 9)) (dgT L 6 (q + 1) 0).1) (fun y => bdS (arS L (fun v => decide (v ≤ 999)) y.1) (fun x => .inr (x.1, setW A (dgT L 6 (q + 1) 0).2 y.2 x.2))))
            cases hy : arS L (fun v => decide (v ≤ 9)) (dgT L 6 (q + 1) 0).1 with
            | inl q2 =>
              rw [hy] at g3
              obtain ⟨ω, m1, m2⟩ := g3
              exact ⟨ω, by rw [hst _ k1, b2_some, if_neg (by decide), k6, w1, b2_some, cs_some, ck_pos hlw, xu, b2_some, if_pos ((und5 hkd).mpr c5), if_neg (by decide), m1, b2_some, if_pos rfl], flX_t e2 (flX_t k2 m2)⟩
            | inr y =>
              rw [hy] at g3
              obtain ⟨ω, m1, ⟨m2, m3, m4, m5⟩, m6, m7, m8, m9, m10⟩ := g3
              have m10' : y.2 ≤ 9 := of_decide_eq_true m10
              have g4 := x_num (P := fun v => decide (v ≤ 999)) (lo := 0) (hi := 999) (fun v hv => by
                rw [decide_eq_true_iff, show (0 : Int32) = nI 0 from rfl, nI_ltI (by omega) (by omega), show (999 : Int32) = nI 999 from rfl, nI_leI (by omega) (by omega)]; omega) m8 (CX_f m2 hCυ) m3 m4 m5
              show resX _ _ (bdS (arS L (fun v => decide (v ≤ 999)) y.1) (fun x => .inr (x.1, setW A (dgT L 6 (q + 1) 0).2 y.2 x.2)))
              cases hx : arS L (fun v => decide (v ≤ 999)) y.1 with
              | inl q2 =>
                rw [hx] at g4
                obtain ⟨ρ, n1, n2⟩ := g4
                exact ⟨ρ, by rw [hst _ k1, b2_some, if_neg (by decide), k6, w1, b2_some, cs_some, ck_pos hlw, xu, b2_some, if_pos ((und5 hkd).mpr c5), if_neg (by decide), m1, b2_some, if_neg (by decide), n1, b2_some, if_pos rfl], flX_t e2 (flX_t k2 (flX_t m2 n2))⟩
              | inr x =>
                rw [hx] at g4
                obtain ⟨ρ, n1, ⟨n2, n3, n4, n5⟩, n6, n7, n8, n9, n10⟩ := g4
                obtain ⟨b1, b2', b3⟩ := x_setW (l := (dgT L 6 (q + 1) 0).2) (f := y.2) (v := x.2) (k := 2) (by omega) (by omega) (by omega) n4
                refine ⟨sI ρ 8 (10 * (dgT L 6 (q + 1) 0).2 + y.2) (nI x.2), ?_, FrX_trans e2 (FrX_trans k2 (FrX_trans m2 (FrX_trans n2 ⟨b2', rfl⟩))), ?_, b3, ?_⟩
                · rw [hst _ k1, b2_some, if_neg (by decide), k6, w1, b2_some, cs_some, ck_pos hlw, xu, b2_some, if_pos ((und5 hkd).mpr c5), if_neg (by decide), m1, b2_some, if_neg (by decide), m6, n1, b2_some, if_neg (by decide), n6, b1, b2_some]
                · unfold sI; rw [hI_rowI_n _ _ (by decide)]; exact n3
                · unfold sI; rw [hI_rowI_n _ _ (by decide)]; exact n5
          · rw [if_pos (Or.inr (by rw [decide_eq_false_iff_not]; exact fun c => c5 c.2))]
            refine ⟨sI υ 31 5 (nI (q + 1)), ?_, FrX_31 (FrX_trans e2 k2) _ _, sI_31k _ _ _⟩
            rw [hst _ k1, b2_some, if_neg (by decide), k6, w1, b2_some, cs_some, ck_pos hlw, xu, b2_some, if_neg (fun c => c5 ((und5 hkd).mp c)), if_pos rfl]
            unfold f_X4_readValue_b54 f_X4_failAt
            rw [b2_some, ck_pos (by decide), k7]
        · rw [if_pos (Or.inr (by rw [decide_eq_false_iff_not]; exact c2))] at g2
          rw [if_pos (Or.inr (by rw [decide_eq_false_iff_not]; exact fun c => c2 c.1))]
          obtain ⟨υ, k1, k2⟩ := g2
          exact ⟨υ, by rw [hst _ k1, b2_some, if_pos rfl], flX_t e2 k2⟩
    · rw [if_neg c32] at g2 ⊢
      obtain ⟨υ, k1, k2⟩ := g2
      exact ⟨υ, by rw [hst _ k1, b2_some, if_pos rfl], flX_t e2 k2⟩
theorem resX_ck {f : Option (Int32 × Hp)} {σ : Hp} {r : Nat ⊕ (Nat × AbS)} (h : resX f σ r) : resX (b2 f (fun r_8 s_9 => ck (isB r_8 = true) (some (r_8, s_9)))) σ r := by
  cases r with
  | inl q =>
    obtain ⟨τ, h1, h2⟩ := h
    exact ⟨τ, by rw [h1, b2_some, ck_pos (by decide)], h2⟩
  | inr z =>
    obtain ⟨τ, h1, h2⟩ := h
    exact ⟨τ, by rw [h1, b2_some, ck_pos (by decide)], h2⟩
theorem x_item {L : Nat → Int32} {s len p : Nat} {σ : Hp} {A : AbS} (hO : okA A) (hok : okH σ) (hp : p ≤ len) (h : CX L s len σ) (ha : hI σ 31 2 = nI p) (hX : StX σ 2 A) (h5 : hI σ 31 5 = -1) : resX (f_X4_readItem σ) σ (itS L A p) := by
  have hle := h.2.1
  unfold f_X4_readItem itS
  rw [h.2.2.1]
  show resX (ck (ky (14 + s) = 6) _) _ _
  rw [ck_pos (ky14 h.1), ha, x_letter h (by omega), b2_some]
  by_cases c1 : L p = 98
  · rw [if_pos c1, if_pos c1]; exact resX_ck (x_itBase hp h ha hX h5)
  · rw [if_neg c1, if_neg c1]
    by_cases c2 : L p = 103
    · rw [if_pos c2, if_pos c2]; exact resX_ck (x_itGo hO hp h ha hX h5)
    · rw [if_neg c2, if_neg c2]
      by_cases c3 : L p = 108
      · rw [if_pos c3, if_pos c3]; exact resX_ck (x_itLaw hO hok hp h ha hX h5)
      · rw [if_neg c3, if_neg c3]
        by_cases c4 : L p = 118
        · rw [if_pos c4, if_pos c4]; exact resX_ck (x_itValue hO hp h ha hX h5)
        · rw [if_neg c4, if_neg c4]
          by_cases c5 : L p = 119
          · rw [if_pos c5, if_pos c5]; exact resX_ck (x_itWrite hO hp h ha hX h5)
          · rw [if_neg c5, if_neg c5]
            refine resX_ck ⟨sI σ 31 5 (nI p), ?_, FrX_31 (FrX_refl σ) _ _, sI_31k _ _ _⟩
            unfold f_X4_failAt
            rw [ha]
/-- an item goes on, and keeps the state in order -/
theorem itS_r {L : Nat → Int32} {len : Nat} {A : AbS} {p : Nat} {z : Nat × AbS} (hL : ∀ p, len ≤ p → L p = 0) (hp : p ≤ len) (hO : okA A) (h : itS L A p = .inr z) : p < z.1 ∧ z.1 ≤ len ∧ okA z.2 ∧ aN A ≤ aN z.2 := by
  have aL : ∀ {P : Nat → Bool} {q : Nat} {y : Nat × Nat}, q ≤ len → arS L P q = .inr y → q < y.1 ∧ y.1 ≤ len ∧ P y.2 = true ∧ y.2 < 1000000 := by
    intro P q y hq hy
    obtain ⟨a1, a2, a3⟩ := arS_r hy
    have hq2 : q < len := by
      refine Classical.byContradiction (fun c => ?_)
      unfold arS at hy
      rw [hL q (by omega), if_neg (by decide)] at hy
      cases hy
    obtain ⟨d1, d2, d3⟩ := dgT_le hL 6 (q + 1) 0 (by omega) (by omega) (by omega)
    rw [← a3] at d2 d3
    exact ⟨a1, d2, a2, d3⟩
  have wL : ∀ {i q : Nat}, wdS L (wdL i) p = .inr q → p ≤ q ∧ q ≤ len := by
    intro i q hw
    have := wdS_r hw
    exact ⟨by omega, wdS_le hL hp hw⟩
  unfold itS at h
  by_cases c1 : L p = 98
  · rw [if_pos c1] at h
    cases hw : wdS L (wdL 0) p with
    | inl q => rw [hw] at h; cases h
    | inr q =>
      rw [hw] at h
      obtain ⟨w1, w2⟩ := wL hw
      cases hz : arS L (fun v => decide (2 ≤ v ∧ v ≤ 10)) q with
      | inl q2 => unfold bdS at h; simp only [hz] at h; cases h
      | inr y =>
        unfold bdS at h; simp only [hz] at h; cases h
        obtain ⟨a1, a2, a3, a4⟩ := aL w2 hz
        have a3' := of_decide_eq_true a3
        exact ⟨by show p < y.1; omega, a2, okA_B hO a3'.1 a3'.2, Nat.le_refl _⟩
  · rw [if_neg c1] at h
    by_cases c2 : L p = 103
    · rw [if_pos c2] at h
      cases hw : wdS L (wdL 4) p with
      | inl q => rw [hw] at h; cases h
      | inr q =>
        rw [hw] at h
        obtain ⟨w1, w2⟩ := wL hw
        unfold bdS at h
        simp only at h
        by_cases c0 : aM A = 0 ∨ aM A = 20
        · rw [if_pos c0] at h; cases h
        · rw [if_neg c0] at h
          cases hz : arS L (fun v => decide (v < aN A)) q with
          | inl q2 => simp only [hz] at h; cases h
          | inr y =>
            simp only [hz] at h
            obtain ⟨a1, a2, a3, a4⟩ := aL w2 hz
            cases hg : goA A y.2 with
            | none => simp only [hg] at h; cases h
            | some B =>
              simp only [hg] at h; cases h
              obtain ⟨k1, k2, k3⟩ := goA_ok hO hg
              exact ⟨by show p < y.1; omega, a2, k1, by rw [k2.1]; exact Nat.le_refl _⟩
    · rw [if_neg c2] at h
      by_cases c3 : L p = 108
      · rw [if_pos c3] at h
        cases hw : wdS L (wdL 1) p with
        | inl q => rw [hw] at h; cases h
        | inr q =>
          rw [hw] at h
          obtain ⟨w1, w2⟩ := wL hw
          unfold bdS at h
          simp only at h
          by_cases c0 : aN A = 6
          · rw [if_pos c0] at h; cases h
          · rw [if_neg c0] at h
            have hn6 := hO.1
            cases hz : arS L (fun v => decide (v ≤ 6)) q with
            | inl q2 => simp only [hz] at h; cases h
            | inr y =>
              simp only [hz] at h
              obtain ⟨a1, a2, a3, a4⟩ := aL w2 hz
              cases hx : arS L (fun v => decide (v ≤ 9)) y.1 with
              | inl q2 => simp only [hx] at h; cases h
              | inr x =>
                simp only [hx] at h; cases h
                obtain ⟨b1, b2', b3, b4⟩ := aL a2 hx
                exact ⟨by show p < x.1; omega, b2', okA_add hO (by omega) (of_decide_eq_true a3) (of_decide_eq_true b3), Nat.le_succ _⟩
      · rw [if_neg c3] at h
        by_cases c4 : L p = 118
        · rw [if_pos c4] at h
          cases hw : wdS L (wdL 2) p with
          | inl q => rw [hw] at h; cases h
          | inr q =>
            rw [hw] at h
            obtain ⟨w1, w2⟩ := wL hw
            unfold bdS at h
            simp only at h
            cases hz : arS L (fun v => decide (v < aN A ∧ aK A v = 5)) q with
            | inl q2 => simp only [hz] at h; cases h
            | inr y =>
              simp only [hz] at h
              obtain ⟨a1, a2, a3, a4⟩ := aL w2 hz
              cases hx : arS L (fun v => decide (v ≤ 9)) y.1 with
              | inl q2 => simp only [hx] at h; cases h
              | inr x =>
                simp only [hx] at h
                obtain ⟨b1, b2', b3, b4⟩ := aL a2 hx
                cases hu : arS L (fun v => decide (v ≤ 999)) x.1 with
                | inl q2 => simp only [hu] at h; cases h
                | inr u =>
                  simp only [hu] at h; cases h
                  obtain ⟨d1, d2, d3, d4⟩ := aL b2' hu
                  exact ⟨by show p < u.1; omega, d2, okA_W hO (of_decide_eq_true a3).1 (of_decide_eq_true d3), Nat.le_refl _⟩
        · rw [if_neg c4] at h
          by_cases c5 : L p = 119
          · rw [if_pos c5] at h
            cases hw : wdS L (wdL 3) p with
            | inl q => rw [hw] at h; cases h
            | inr q =>
              rw [hw] at h
              obtain ⟨w1, w2⟩ := wL hw
              unfold bdS at h
              simp only at h
              have hm4 := hO.2.2.2.1
              by_cases c0 : aM A = 20
              · rw [if_pos c0] at h; cases h
              · rw [if_neg c0] at h
                cases hz : arS L (fun _ => true) q with
                | inl q2 => simp only [hz] at h; cases h
                | inr y =>
                  simp only [hz] at h; cases h
                  obtain ⟨a1, a2, a3, a4⟩ := aL w2 hz
                  exact ⟨by show p < y.1; omega, a2, okA_put hO (by omega) (by omega), Nat.le_refl _⟩
          · rw [if_neg c5] at h; cases h
/-- the place of a fault is in the text or just behind it -/
theorem arS_q {L : Nat → Int32} {P : Nat → Bool} {q y : Nat} (h : arS L P q = .inl y) : y ≤ q + 1 := by
  unfold arS at h
  by_cases c : L q = 32
  · rw [if_pos c] at h
    by_cases c2 : (dgT L 6 (q + 1) 0).1 = q + 1 ∨ P (dgT L 6 (q + 1) 0).2 = false
    · rw [if_pos c2] at h; cases h; omega
    · rw [if_neg c2] at h; cases h
  · rw [if_neg c] at h; cases h; omega
theorem arS_z {L : Nat → Int32} {len : Nat} (hL : ∀ p, len ≤ p → L p = 0) {P : Nat → Bool} {q : Nat} {y : Nat × Nat} (hq : q ≤ len) (hy : arS L P q = .inr y) : y.1 ≤ len := by
  obtain ⟨a1, a2, a3⟩ := arS_r hy
  have hq2 : q < len := by
    refine Classical.byContradiction (fun c => ?_)
    unfold arS at hy
    rw [hL q (by omega), if_neg (by decide)] at hy
    cases hy
  obtain ⟨d1, d2, d3⟩ := dgT_le hL 6 (q + 1) 0 (by omega) (by omega) (by omega)
  rw [← a3] at d2
  exact d2
theorem bdS_l {α β : Type} {x : Nat ⊕ α} {f : α → Nat ⊕ β} {q n : Nat} (h : bdS x f = .inl q) (h1 : ∀ y, x = .inl y → y ≤ n) (h2 : ∀ a, x = .inr a → f a = .inl q → q ≤ n) : q ≤ n := by
  cases x with
  | inl y => cases h; exact h1 _ rfl
  | inr a => exact h2 a rfl h
theorem itS_q {L : Nat → Int32} {len : Nat} {A : AbS} {p q : Nat} (hL : ∀ p, len ≤ p → L p = 0) (hle : len ≤ 160) (hp : p ≤ len) (h : itS L A p = .inl q) : q < 2 ^ 20 := by
  have hw : ∀ i y, wdS L (wdL i) p = .inl y → y ≤ 200 := by
    intro i y hy
    have := mwF_le hL (wdL i) p (wdL_ne i) hp
    unfold wdS at hy
    by_cases c : mwF L (wdL i) p = (wdL i).length
    · rw [if_pos c] at hy; cases hy
    · rw [if_neg c] at hy; cases hy; omega
  have key : q ≤ 200 := by
    unfold itS at h
    by_cases c1 : L p = 98
    · rw [if_pos c1] at h
      refine bdS_l h (hw 0) (fun a ha h => ?_)
      have l1 := wdS_le hL hp ha
      refine bdS_l h (fun y hy => by have := arS_q hy; omega) (fun z hz h => by cases h)
    · rw [if_neg c1] at h
      by_cases c2 : L p = 103
      · rw [if_pos c2] at h
        refine bdS_l h (hw 4) (fun a ha h => ?_)
        have l1 := wdS_le hL hp ha
        by_cases c0 : aM A = 0 ∨ aM A = 20
        · rw [if_pos c0] at h; cases h; omega
        · rw [if_neg c0] at h
          refine bdS_l h (fun y hy => by have := arS_q hy; omega) (fun z hz h => ?_)
          cases hg : goA A z.2 with
          | none => rw [hg] at h; cases h; omega
          | some B => rw [hg] at h; cases h
      · rw [if_neg c2] at h
        by_cases c3 : L p = 108
        · rw [if_pos c3] at h
          refine bdS_l h (hw 1) (fun a ha h => ?_)
          have l1 := wdS_le hL hp ha
          by_cases c0 : aN A = 6
          · rw [if_pos c0] at h; cases h; omega
          · rw [if_neg c0] at h
            refine bdS_l h (fun y hy => by have := arS_q hy; omega) (fun z hz h => ?_)
            have l2 := arS_z hL l1 hz
            exact bdS_l h (fun y hy => by have := arS_q hy; omega) (fun z hz h => by cases h)
        · rw [if_neg c3] at h
          by_cases c4 : L p = 118
          · rw [if_pos c4] at h
            refine bdS_l h (hw 2) (fun a ha h => ?_)
            have l1 := wdS_le hL hp ha
            refine bdS_l h (fun y hy => by have := arS_q hy; omega) (fun z hz h => ?_)
            have l2 := arS_z hL l1 hz
            refine bdS_l h (fun y hy => by have := arS_q hy; omega) (fun y hy h => ?_)
            have l3 := arS_z hL l2 hy
            exact bdS_l h (fun y hy => by have := arS_q hy; omega) (fun z hz h => by cases h)
          · rw [if_neg c4] at h
            by_cases c5 : L p = 119
            · rw [if_pos c5] at h
              refine bdS_l h (hw 3) (fun a ha h => ?_)
              have l1 := wdS_le hL hp ha
              by_cases c0 : aM A = 20
              · rw [if_pos c0] at h; cases h; omega
              · rw [if_neg c0] at h
                exact bdS_l h (fun y hy => by have := arS_q hy; omega) (fun z hz h => by cases h)
            · rw [if_neg c5] at h; cases h; omega
  omega
/-- a text: how many items, and the state behind it; or the place of the fault -/
def txS (L : Nat → Int32) (len : Nat) : Nat → AbS → Nat → Nat → Nat ⊕ (Nat × AbS)
  | 0, _, p, _ => .inl p
  | k + 1, A, p, n => match itS L A p with
    | .inl q => .inl q
    | .inr z => if len ≤ z.1 then .inr (n + 1, z.2) else if L z.1 = 59 then txS L len k z.2 (z.1 + 1) (n + 1) else .inl z.1
theorem x_read {L : Nat → Int32} {s len : Nat} {σ0 : Hp} : ∀ (k n fu p : Nat) (σ : Hp) (A : AbS), len < p + k → n ≤ p → k < fu → p ≤ len → FrX σ0 σ → okA A → okH σ → CX L s len σ → hI σ 31 2 = nI p → StX σ 2 A → hI σ 31 5 = -1 → match txS L len k A p n with | .inr z => ∃ τ, iter f_X4_read_s25 fu (nI n, σ) = some (nI z.1, τ) ∧ FrX σ0 τ ∧ StX τ 2 z.2 ∧ okA z.2 ∧ aN A ≤ aN z.2 ∧ hI τ 31 5 = -1 | .inl q => ∃ r τ, iter f_X4_read_s25 fu (nI n, σ) = some (r, τ) ∧ flX σ0 τ q ∧ q < 2 ^ 20
  | k, n, 0, p, σ, A, _, _, hf, _, _, _, _, _, _, _, _ => by omega
  | 0, n, fu + 1, p, σ, A, hk, hn, hf, hp, hfr, hO, hok, h, ha, hX, h5 => by omega
  | k + 1, n, fu + 1, p, σ, A, hk, hn, hf, hp, hfr, hO, hok, h, ha, hX, h5 => by
    have hle := h.2.1
    have h160 : ¬ (160 : Int32) < nI n := by rw [show (160 : Int32) = nI 160 from rfl, nI_ltI (by omega) (by omega)]; omega
    have g1 := x_item hO hok hp h ha hX h5
    unfold txS
    cases hi : itS L A p with
    | inl q =>
      rw [hi] at g1
      obtain ⟨τ, e1, e2⟩ := g1
      have hq : q < 2 ^ 20 := itS_q h.2.2.2.2.2 hle hp hi
      refine ⟨nI n, τ, iter_inr ?_, flX_t hfr e2, hq⟩
      unfold f_X4_read_s25 f_X4_read_t25
      simp only
      rw [if_neg h160, e1, b2_some, if_pos rfl]
      rfl
    | inr z =>
      rw [hi] at g1
      obtain ⟨τ, e1, e2, e3, e4, e5⟩ := g1
      obtain ⟨z1, z2, z3, z4⟩ := itS_r h.2.2.2.2.2 hp hO hi
      have hC := CX_f e2 h
      have hst : f_X4_read_s25 (nI n, σ) = if len ≤ z.1 then ex (some (nI (n + 1), τ)) else b2 (f_X4_readSign (59 : Int32) τ) (fun r_10 s_11 => if r_10 = 0 then ex (some ((nI (n + 1)), s_11)) else some (.inl ((nI (n + 1)), s_11))) := by
        unfold f_X4_read_s25 f_X4_read_t25
        simp only
        rw [if_neg h160, e1, b2_some, if_neg (by decide), hC.2.2.1]
        show ck (ky (14 + s) = 6) _ = _
        rw [ck_pos (ky14 h.1), hC.2.2.2.1, e3, nI_1]
        by_cases c : len ≤ z.1
        · rw [if_pos c, if_pos (by rw [nI_leI (by omega) (by omega)]; exact c)]
        · rw [if_neg c, if_neg (by rw [nI_leI (by omega) (by omega)]; exact c)]
      show match (if len ≤ z.1 then .inr (n + 1, z.2) else if L z.1 = 59 then txS L len k z.2 (z.1 + 1) (n + 1) else .inl z.1) with | .inr z => _ | .inl q => _
      by_cases c : len ≤ z.1
      · rw [if_pos c]
        refine ⟨τ, iter_inr ?_, FrX_trans hfr e2, e4, z3, z4, e5⟩
        rw [hst, if_pos c]
        rfl
      · rw [if_neg c]
        have hsg := x_sign (c := 59) hC (show z.1 < 2 ^ 20 by omega) e3
        by_cases c2 : L z.1 = 59
        · rw [if_pos c2] at hsg ⊢
          have hf2 : FrX σ0 (sI τ 31 2 (nI (z.1 + 1))) := FrX_31 (FrX_trans hfr e2) _ _
          have ih := x_read (L := L) (s := s) (len := len) (σ0 := σ0) k (n + 1) fu (z.1 + 1) (sI τ 31 2 (nI (z.1 + 1))) z.2 (by omega) (by omega) (by omega) (by omega) hf2 z3 ((FrX_31 e2 2 _).1.2.2.2.2.2 hok) (CX_f (FrX_31 (FrX_refl τ) _ _) hC) (sI_31k _ _ _) (StX_31 e4) (by rw [sI_31 _ _ _ _ (by decide)]; exact e5)
          have hs2 : iter f_X4_read_s25 (fu + 1) (nI n, σ) = iter f_X4_read_s25 fu (nI (n + 1), sI τ 31 2 (nI (z.1 + 1))) := by
            refine iter_inl ?_
            rw [hst, if_neg c, hsg, b2_some, if_neg (by decide)]
          rw [hs2]
          cases ht : txS L len k z.2 (z.1 + 1) (n + 1) with
          | inl q => rw [ht] at ih; exact ih
          | inr y =>
            rw [ht] at ih
            obtain ⟨υ, i1, i2, i3, i4, i5, i6⟩ := ih
            exact ⟨υ, i1, i2, i3, i4, Nat.le_trans z4 i5, i6⟩
        · rw [if_neg c2] at hsg ⊢
          refine ⟨nI (n + 1), sI τ 31 5 (nI z.1), iter_inr ?_, ⟨FrX_31 (FrX_trans hfr e2) _ _, sI_31k _ _ _⟩, by omega⟩
          rw [hst, if_neg c, hsg, b2_some, if_pos rfl]
          rfl
