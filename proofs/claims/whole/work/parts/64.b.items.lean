/-! texts: the class's items -/
theorem mwF_le {L : Nat → Int32} {len : Nat} (hL : ∀ p, len ≤ p → L p = 0) : ∀ (w : List Int32) (p : Nat), (∀ c, c ∈ w → ¬ c = 0) → p ≤ len → p + mwF L w p ≤ len
  | [], p, _, hp => hp
  | c :: w, p, h, hp => by
    unfold mwF
    by_cases e : L p = c
    · rw [if_pos e]
      have hpl : p < len := by
        refine Classical.byContradiction (fun c2 => ?_)
        rw [hL p (by omega)] at e
        exact h c List.mem_cons_self e.symm
      have := mwF_le hL w (p + 1) (fun d hd => h d (List.mem_cons_of_mem _ hd)) (by omega)
      omega
    · rw [if_neg e]; exact hp
theorem wdL_ne (i : Nat) : ∀ c, c ∈ wdL i → ¬ c = 0 := by
  unfold wdL
  split <;> decide
theorem wdS_r {L : Nat → Int32} {w : List Int32} {p q : Nat} (h : wdS L w p = .inr q) : q = p + w.length ∧ mwF L w p = w.length := by
  unfold wdS at h
  by_cases c : mwF L w p = w.length
  · rw [if_pos c] at h; cases h; exact ⟨rfl, c⟩
  · rw [if_neg c] at h; cases h
theorem wdS_le {L : Nat → Int32} {len p q i : Nat} (hL : ∀ p, len ≤ p → L p = 0) (hp : p ≤ len) (h : wdS L (wdL i) p = .inr q) : q ≤ len := by
  obtain ⟨h1, h2⟩ := wdS_r h
  have := mwF_le hL (wdL i) p (wdL_ne i) hp
  omega
theorem dgT_ge {L : Nat → Int32} : ∀ (k p v : Nat), p ≤ (dgT L k p v).1
  | 0, p, v => Nat.le_refl _
  | k + 1, p, v => by
    unfold dgT
    by_cases c : digB (L p) = true
    · rw [if_pos c]
      have := dgT_ge (L := L) k (p + 1) (10 * v + ((L p).toNatClampNeg - 48))
      omega
    · rw [if_neg c]; exact Nat.le_refl _
theorem arS_r {L : Nat → Int32} {P : Nat → Bool} {q : Nat} {z : Nat × Nat} (h : arS L P q = .inr z) : q < z.1 ∧ P z.2 = true ∧ z = dgT L 6 (q + 1) 0 := by
  unfold arS at h
  have hg := dgT_ge (L := L) 6 (q + 1) 0
  by_cases c : L q = 32
  · rw [if_pos c] at h
    by_cases c2 : (dgT L 6 (q + 1) 0).1 = q + 1 ∨ P (dgT L 6 (q + 1) 0).2 = false
    · rw [if_pos c2] at h; cases h
    · rw [if_neg c2] at h
      cases h
      refine ⟨by omega, ?_, rfl⟩
      cases hb : P (dgT L 6 (q + 1) 0).2 with
      | true => rfl
      | false => exact absurd (Or.inr hb) c2
  · rw [if_neg c] at h; cases h
def resX (f : Option (Int32 × Hp)) (σ : Hp) (r : Nat ⊕ (Nat × AbS)) : Prop := match r with
  | .inr z => ∃ τ, f = some (1, τ) ∧ okX σ τ z.1 z.2
  | .inl q => ∃ τ, f = some (0, τ) ∧ flX σ τ q
theorem flX_t {σ τ υ : Hp} {q : Nat} (h : FrX σ τ) (h2 : flX τ υ q) : flX σ υ q := ⟨FrX_trans h h2.1, h2.2⟩
theorem okX_t {σ τ υ : Hp} {q : Nat} {A : AbS} (h : FrX σ τ) (h2 : okX τ υ q A) : okX σ υ q A := ⟨FrX_trans h h2.1, h2.2⟩
theorem x_itBase {L : Nat → Int32} {s len p : Nat} {σ : Hp} {A : AbS} (hp : p ≤ len) (h : CX L s len σ) (ha : hI σ 31 2 = nI p) (hX : StX σ 2 A) (h5 : hI σ 31 5 = -1) : resX (f_X4_readBase σ) σ (bdS (wdS L (wdL 0) p) (fun q => bdS (arS L (fun v => decide (2 ≤ v ∧ v ≤ 10)) q) (fun z => .inr (z.1, setB A z.2)))) := by
  have hle := h.2.1
  have g1 := x_word (i := 0) (by omega) (by omega) h ha hX h5
  unfold f_X4_readBase
  cases hw : wdS L (wdL 0) p with
  | inl q =>
    rw [hw] at g1
    obtain ⟨τ, e1, e2⟩ := g1
    exact ⟨τ, by rw [e1, b2_some, if_pos rfl], e2⟩
  | inr q =>
    rw [hw] at g1
    obtain ⟨τ, e1, e2, e3, e4, e5⟩ := g1
    have g2 := x_num (P := fun v => decide (2 ≤ v ∧ v ≤ 10)) (lo := 2) (hi := 10) (fun v hv => by
      rw [decide_eq_true_iff, show (2 : Int32) = nI 2 from rfl, nI_ltI (by omega) (by omega), show (10 : Int32) = nI 10 from rfl, nI_leI (by omega) (by omega)]; omega) (wdS_le h.2.2.2.2.2 hp hw) (CX_f e2 h) e3 e4 e5
    show resX _ _ (bdS (arS L (fun v => decide (2 ≤ v ∧ v ≤ 10)) q) (fun z => .inr (z.1, setB A z.2)))
    cases hz : arS L (fun v => decide (2 ≤ v ∧ v ≤ 10)) q with
    | inl q2 =>
      rw [hz] at g2
      obtain ⟨υ, k1, k2⟩ := g2
      exact ⟨υ, by rw [e1, b2_some, if_neg (by decide), k1, b2_some, if_pos rfl], flX_t e2 k2⟩
    | inr z =>
      rw [hz] at g2
      obtain ⟨υ, k1, ⟨k2, k3, k4, k5⟩, k6, k7, k8, k9, k10⟩ := g2
      obtain ⟨b1, b2'⟩ := x_setB (b := z.2) (k := 2) (by omega) k4
      refine ⟨sI υ 2 0 (nI z.2), by rw [e1, b2_some, if_neg (by decide), k1, b2_some, if_neg (by decide), k6], FrX_trans e2 (FrX_trans k2 ⟨b1, rfl⟩), ?_, b2', ?_⟩
      · unfold sI; rw [hI_rowI_n _ _ (by decide)]; exact k3
      · unfold sI; rw [hI_rowI_n _ _ (by decide)]; exact k5
theorem x_itWrite {L : Nat → Int32} {s len p : Nat} {σ : Hp} {A : AbS} (hO : okA A) (hp : p ≤ len) (h : CX L s len σ) (ha : hI σ 31 2 = nI p) (hX : StX σ 2 A) (h5 : hI σ 31 5 = -1) : resX (f_X4_readWrite σ) σ (bdS (wdS L (wdL 3) p) (fun q => if aM A = 20 then .inl p else bdS (arS L (fun _ => true) q) (fun z => .inr (z.1, putA A z.2)))) := by
  have hle := h.2.1
  have h4 := hO.2.2.2.1
  have g1 := x_word (i := 3) (by omega) (by omega) h ha hX h5
  unfold f_X4_readWrite
  cases hw : wdS L (wdL 3) p with
  | inl q =>
    rw [hw] at g1
    obtain ⟨τ, e1, e2⟩ := g1
    exact ⟨τ, by rw [e1, b2_some, if_pos rfl], e2⟩
  | inr q =>
    rw [hw] at g1
    obtain ⟨τ, e1, e2, e3, e4, e5⟩ := g1
    show resX _ _ (if aM A = 20 then .inl p else bdS (arS L (fun _ => true) q) (fun z => .inr (z.1, putA A z.2)))
    by_cases cf : aM A = 20
    · rw [if_pos cf]
      refine ⟨sI τ 31 5 (nI p), ?_, FrX_31 e2 _ _, sI_31k _ _ _⟩
      unfold f_X4_failAt
      rw [e1, b2_some, if_neg (by decide), x_slateFull hO e4, b2_some, if_pos cf, if_neg (by decide), b2_some, ck_pos (by decide), ha]
    · rw [if_neg cf]
      have g2 := x_num (P := fun _ => true) (lo := 0) (hi := 999999) (fun v hv => by
        rw [show (0 : Int32) = nI 0 from rfl, nI_ltI (by omega) (by omega), show (999999 : Int32) = nI 999999 from rfl, nI_leI (by omega) (by omega)]
        exact ⟨fun _ => ⟨by omega, by omega⟩, fun _ => rfl⟩) (wdS_le h.2.2.2.2.2 hp hw) (CX_f e2 h) e3 e4 e5
      cases hz : arS L (fun _ => true) q with
      | inl q2 =>
        rw [hz] at g2
        obtain ⟨υ, k1, k2⟩ := g2
        exact ⟨υ, by rw [e1, b2_some, if_neg (by decide), x_slateFull hO e4, b2_some, if_neg cf, if_pos rfl, k1, b2_some, if_pos rfl], flX_t e2 k2⟩
      | inr z =>
        rw [hz] at g2
        obtain ⟨υ, k1, ⟨k2, k3, k4, k5⟩, k6, k7, k8, k9, k10⟩ := g2
        obtain ⟨ω, b1, b2', b3⟩ := x_put (v := z.2) (k := 2) (by omega) k4 (show aM A < 20 by omega)
        have br : hR ω 31 = hR υ 31 ∧ hI ω 31 = hI υ 31 := by
          unfold f_X7_put at b1
          rw [k4.2.2.2.1, if_neg (nI_0le (by omega)), if_neg (by rw [show (20 : Int32) = nI 20 from rfl, nI_leI (by omega) (by omega)]; omega), ck_pos (inb_nI (by omega) (by omega))] at b1
          cases b1
          exact ⟨rfl, by unfold sI; rw [hI_rowI_n _ _ (by decide)]; rfl⟩
        refine ⟨ω, by rw [e1, b2_some, if_neg (by decide), x_slateFull hO e4, b2_some, if_neg cf, if_pos rfl, k1, b2_some, if_neg (by decide), k6, nI_l (by omega), b1, b2_some], FrX_trans e2 (FrX_trans k2 ⟨b2', br.1⟩), by rw [br.2]; exact k3, b3, by rw [br.2]; exact k5⟩
theorem x_itLaw {L : Nat → Int32} {s len p : Nat} {σ : Hp} {A : AbS} (hO : okA A) (hok : okH σ) (hp : p ≤ len) (h : CX L s len σ) (ha : hI σ 31 2 = nI p) (hX : StX σ 2 A) (h5 : hI σ 31 5 = -1) : resX (f_X4_readLaw σ) σ (bdS (wdS L (wdL 1) p) (fun q => if aN A = 6 then .inl p else bdS (arS L (fun v => decide (v ≤ 6)) q) (fun z => bdS (arS L (fun v => decide (v ≤ 9)) z.1) (fun y => .inr (y.1, addA A z.2 y.2))))) := by
  have hle := h.2.1
  have h4 := hO.1
  have g1 := x_word (i := 1) (by omega) (by omega) h ha hX h5
  unfold f_X4_readLaw
  cases hw : wdS L (wdL 1) p with
  | inl q =>
    rw [hw] at g1
    obtain ⟨τ, e1, e2⟩ := g1
    exact ⟨τ, by rw [e1, b2_some, if_pos rfl], e2⟩
  | inr q =>
    rw [hw] at g1
    obtain ⟨τ, e1, e2, e3, e4, e5⟩ := g1
    show resX _ _ (if aN A = 6 then .inl p else bdS (arS L (fun v => decide (v ≤ 6)) q) (fun z => bdS (arS L (fun v => decide (v ≤ 9)) z.1) (fun y => .inr (y.1, addA A z.2 y.2))))
    by_cases cf : aN A = 6
    · rw [if_pos cf]
      refine ⟨sI τ 31 5 (nI p), ?_, FrX_31 e2 _ _, sI_31k _ _ _⟩
      unfold f_X4_failAt
      rw [e1, b2_some, if_neg (by decide), x_lawsFull hO e4, b2_some, if_pos cf, if_neg (by decide), b2_some, ck_pos (by decide), ha]
    · rw [if_neg cf]
      have g2 := x_num (P := fun v => decide (v ≤ 6)) (lo := 0) (hi := 6) (fun v hv => by
        rw [decide_eq_true_iff, show (0 : Int32) = nI 0 from rfl, nI_ltI (by omega) (by omega), show (6 : Int32) = nI 6 from rfl, nI_leI (by omega) (by omega)]; omega) (wdS_le h.2.2.2.2.2 hp hw) (CX_f e2 h) e3 e4 e5
      cases hz : arS L (fun v => decide (v ≤ 6)) q with
      | inl q2 =>
        rw [hz] at g2
        obtain ⟨υ, k1, k2⟩ := g2
        exact ⟨υ, by rw [e1, b2_some, if_neg (by decide), x_lawsFull hO e4, b2_some, if_neg cf, if_pos rfl, k1, b2_some, if_pos rfl], flX_t e2 k2⟩
      | inr z =>
        rw [hz] at g2
        obtain ⟨υ, k1, ⟨k2, k3, k4, k5⟩, k6, k7, k8, k9, k10⟩ := g2
        have k10' : z.2 ≤ 6 := of_decide_eq_true k10
        have g3 := x_num (P := fun v => decide (v ≤ 9)) (lo := 0) (hi := 9) (fun v hv => by
          rw [decide_eq_true_iff, show (0 : Int32) = nI 0 from rfl, nI_ltI (by omega) (by omega), show (9 : Int32) = nI 9 from rfl, nI_leI (by omega) (by omega)]; omega) k8 (CX_f k2 (CX_f e2 h)) k3 k4 k5
        show resX _ _ (bdS (arS L (fun v => decide (v ≤ 9)) z.1) (fun y => .inr (y.1, addA A z.2 y.2)))
        cases hy : arS L (fun v => decide (v ≤ 9)) z.1 with
        | inl q2 =>
          rw [hy] at g3
          obtain ⟨ω, m1, m2⟩ := g3
          exact ⟨ω, by rw [e1, b2_some, if_neg (by decide), x_lawsFull hO e4, b2_some, if_neg cf, if_pos rfl, k1, b2_some, if_neg (by decide), m1, b2_some, if_pos rfl], flX_t e2 (flX_t k2 m2)⟩
        | inr y =>
          rw [hy] at g3
          obtain ⟨ω, m1, ⟨m2, m3, m4, m5⟩, m6, m7, m8, m9, m10⟩ := g3
          have hokω : okH ω := m2.1.2.2.2.2.2 (k2.1.2.2.2.2.2 (e2.1.2.2.2.2.2 hok))
          obtain ⟨ρ, b1, b2', b3⟩ := x_addLaw (k := 2) (kd := z.2) (a := y.2) (by omega) hO (by omega) k10' hokω.1 m4
          have br : hR ρ 31 = hR ω 31 ∧ hI ρ 31 = hI ω 31 := by
            obtain ⟨ν, n1, n2⟩ := x_newLaw (n := aN A) (a := y.2) k10' hokω.1
            unfold f_X7_addLaw at b1
            rw [m4.2.2.1, if_neg (nI_0le (by omega)), if_pos (by rw [show (6 : Int32) = nI 6 from rfl, nI_ltI (by omega) (by omega)]; omega), n1, b2_some] at b1
            obtain ⟨_, b1⟩ := ck_eq b1
            obtain ⟨_, b1⟩ := ck_eq b1
            cases b1
            refine ⟨?_, ?_⟩
            · show hR (rowR ν 5 _) 31 = _
              rw [hR_rowR_n _ _ (by decide), n2]
              rfl
            · unfold sI
              rw [hI_rowI_n _ _ (by decide)]
              show hI ν 31 = _
              rw [n2]
              unfold sI
              rw [hI_rowI_n _ _ (by omega), hI_rowI_n _ _ (by omega), hI_addN _ _ (by omega)]
          refine ⟨ρ, by rw [e1, b2_some, if_neg (by decide), x_lawsFull hO e4, b2_some, if_neg cf, if_pos rfl, k1, b2_some, if_neg (by decide), m1, b2_some, if_neg (by decide), k6, m6, b1, b2_some], FrX_trans e2 (FrX_trans k2 (FrX_trans m2 ⟨b2', br.1⟩)), by rw [br.2]; exact m3, b3, by rw [br.2]; exact m5⟩
theorem nI_m1 {n : Nat} (hn : n ≤ 6) (v : Nat) (hv : v < 1000000) : (¬ nI v < 0 ∧ nI v ≤ nI n - 1) ↔ v < n := by
  rw [show (0 : Int32) = nI 0 from rfl, nI_ltI (by omega) (by omega)]
  by_cases c : n = 0
  · subst c
    have : ¬ nI v ≤ nI 0 - 1 := by
      rw [Int32.le_iff_toInt_le, nI_toInt (by omega), show (nI 0 - 1 : Int32).toInt = -1 from rfl]
      omega
    exact ⟨fun h => absurd h.2 this, fun h => by omega⟩
  · rw [show (1 : Int32) = nI 1 from rfl, nI_sub2 (by omega) (by omega), nI_leI (by omega) (by omega)]
    omega
theorem x_itGo {L : Nat → Int32} {s len p : Nat} {σ : Hp} {A : AbS} (hO : okA A) (hp : p ≤ len) (h : CX L s len σ) (ha : hI σ 31 2 = nI p) (hX : StX σ 2 A) (h5 : hI σ 31 5 = -1) : resX (f_X4_readGo σ) σ (bdS (wdS L (wdL 4) p) (fun q => if aM A = 0 ∨ aM A = 20 then .inl p else bdS (arS L (fun v => decide (v < aN A)) q) (fun z => match goA A z.2 with | some B => .inr (z.1, B) | none => .inl p))) := by
  have hle := h.2.1
  have hN6 := hO.1
  have h4 := hO.2.2.2.1
  have g1 := x_word (i := 4) (by omega) (by omega) h ha hX h5
  cases hw : wdS L (wdL 4) p with
  | inl q =>
    rw [hw] at g1
    obtain ⟨τ, e1, e2⟩ := g1
    exact ⟨τ, by unfold f_X4_readGo; rw [e1, b2_some, if_pos rfl], e2⟩
  | inr q =>
    rw [hw] at g1
    obtain ⟨τ, e1, e2, e3, e4, e5⟩ := g1
    show resX _ _ (if aM A = 0 ∨ aM A = 20 then .inl p else bdS (arS L (fun v => decide (v < aN A)) q) (fun z => match goA A z.2 with | some B => .inr (z.1, B) | none => .inl p))
    have hfl : ∀ τ', FrX σ τ' → ∃ υ, b2 (f_X4_failAt (hI σ 31 2) τ') (fun r_6 s_7 => ck (isB r_6 = true) (some (r_6, s_7))) = some (0, υ) ∧ flX σ υ p := by
      intro τ' hf
      refine ⟨sI τ' 31 5 (nI p), ?_, FrX_31 hf _ _, sI_31k _ _ _⟩
      unfold f_X4_failAt
      rw [b2_some, ck_pos (by decide), ha]
    by_cases c0 : aM A = 0
    · rw [if_pos (Or.inl c0)]
      obtain ⟨υ, u1, u2⟩ := hfl τ e2
      exact ⟨υ, by unfold f_X4_readGo f_X4_readGo_b36; rw [e1, b2_some, if_neg (by decide), e4.2.2.2.1, c0, if_pos (show nI 0 = 0 from rfl), u1], u2⟩
    · have n0 : ¬ nI (aM A) = 0 := by rw [show (0 : Int32) = nI 0 from rfl, nI_eq (by omega) (by omega)]; exact c0
      by_cases cf : aM A = 20
      · rw [if_pos (Or.inr cf)]
        obtain ⟨υ, u1, u2⟩ := hfl τ e2
        exact ⟨υ, by unfold f_X4_readGo f_X4_readGo_b36; rw [e1, b2_some, if_neg (by decide), e4.2.2.2.1, if_neg n0, x_slateFull hO e4, b2_some, if_pos cf, if_neg (by decide), u1], u2⟩
      · rw [if_neg (fun c => c.elim c0 cf)]
        have g2 := x_num (P := fun v => decide (v < aN A)) (lo := 0) (hi := nI (aN A) - 1) (fun v hv => by rw [decide_eq_true_iff]; exact (nI_m1 hN6 v hv).symm) (wdS_le h.2.2.2.2.2 hp hw) (CX_f e2 h) e3 e4 e5
        have hst : ∀ r, f_X4_readNumber 0 (nI (aN A) - 1) τ = r → f_X4_readGo σ = b2 r (fun r_14 s_15 => if r_14 = 0 then some ((0 : Int32), s_15) else b2 (f_X7_lawAt 2 (hI s_15 31 3) s_15) (fun r_18 s_19 => cs r_18 (f_X4_readGo_b98 (hI σ 31 2) (-1 : Int64) s_19) (fun y_21 => b2 (f_X7_lastNumber 2 s_19) (fun r_30 s_31 => ck (isLaw s_31 y_21 = true) (b2 (v_onward y_21 r_30 2 s_31) (fun r_34 s_35 => f_X4_readGo_b98 (hI σ 31 2) r_34 s_35)))))) := by
          intro r hr
          unfold f_X4_readGo
          rw [e1, b2_some, if_neg (by decide), e4.2.2.2.1, if_neg n0, x_slateFull hO e4, b2_some, if_neg cf, if_pos rfl, e4.2.2.1, hr]
        cases hz : arS L (fun v => decide (v < aN A)) q with
        | inl q2 =>
          rw [hz] at g2
          obtain ⟨υ, k1, k2⟩ := g2
          exact ⟨υ, by rw [hst _ k1, b2_some, if_pos rfl], flX_t e2 k2⟩
        | inr z =>
          rw [hz] at g2
          obtain ⟨υ, k1, ⟨k2, k3, k4, k5⟩, k6, k7, k8, k9, k10⟩ := g2
          have k10' : z.2 < aN A := of_decide_eq_true k10
          obtain ⟨j, w1, w2⟩ := law_X (k := 2) (by omega) hO k4 k10'
          have hlw := w2.1
          have h9 := hO.2.2.2.2.2.2.2.2 (aM A - 1)
          have hst2 : ∀ r, r = nxA A z.2 (aL A (aM A - 1)) → f_X4_readGo σ = f_X4_readGo_b98 (nI p) (oL r) υ := by
            intro r hr
            rw [hst _ k1, b2_some, if_neg (by decide), k6, w1, b2_some, cs_some, x_last hO (by omega) k4, b2_some, ck_pos hlw, x_on2 w2 h9, b2_some, ha, hr]
          show resX _ _ (match goA A z.2 with | some B => .inr (z.1, B) | none => .inl p)
          unfold goA
          rw [if_neg cf]
          cases hn : nxA A z.2 (aL A (aM A - 1)) with
          | none =>
            obtain ⟨ω, u1, u2⟩ := hfl υ (FrX_trans e2 k2)
            rw [ha] at u1
            exact ⟨ω, by rw [hst2 _ hn.symm]; unfold f_X4_readGo_b98; rw [oL_n, if_pos lc_m1m, u1], u2⟩
          | some v =>
            have hv : v ≤ 999999999999999 := okO_nx v hn
            obtain ⟨ω, b1, b2', b3⟩ := x_put (v := v) (k := 2) (by omega) k4 (show aM A < 20 by omega)
            have br : hR ω 31 = hR υ 31 ∧ hI ω 31 = hI υ 31 := by
              have b1' := b1
              unfold f_X7_put at b1'
              rw [k4.2.2.2.1, if_neg (nI_0le (by omega)), if_neg (by rw [show (20 : Int32) = nI 20 from rfl, nI_leI (by omega) (by omega)]; omega), ck_pos (inb_nI (by omega) (by omega))] at b1'
              cases b1'
              exact ⟨rfl, by unfold sI; rw [hI_rowI_n _ _ (by decide)]; rfl⟩
            exact ⟨ω, by rw [hst2 _ hn.symm]; unfold f_X4_readGo_b98; rw [oL_s, if_neg (lc_m1 hv), b1, b2_some], FrX_trans e2 (FrX_trans k2 ⟨b2', br.1⟩), by rw [br.2]; exact k3, b3, by rw [br.2]; exact k5⟩
