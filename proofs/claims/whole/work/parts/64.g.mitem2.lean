/-! texts: the reference's item, whole -/
theorem wd_pos : ∀ w, 0 < (wdL w).length := by
  intro w
  unfold wdL
  split <;> decide
def nOfW (w : Nat) : Int32 := if w = 1 then 2 else if w = 2 then 3 else 1
theorem m_b71 {L : Nat → Int32} {s len p w0 : Nat} {σ : Hp} {k : Nat → Nat ⊕ (Nat × AbS)} (hw : w0 < 5) (h1 : L p = fsL w0) (hp : p ≤ len) (h : CM L s len σ) (ha : hI σ 40 19 = nI p) (hk1 : ∀ q, mwF L (wdL w0) p = (wdL w0).length → ¬ L q = 32 → k q = .inl q) (hk2 : ∀ q, mwF L (wdL w0) p = (wdL w0).length → q < len → L q = 32 → resM (f_X12_item_b102 (nI p) (nI w0) (nOfW w0) (sI σ 40 19 (nI (q + 1)))) σ (k q)) : resM (f_X12_item_b71 (nI p) σ) σ (bdS (wdS L (wdL w0) p) k) := by
  have g := m_word hp h ha
  rw [wo_hit hw h1] at g
  have e := mwF_app (L := L) (wdL w0) p 32
  have el : (wlS w0).length = (wdL w0).length + 1 := wlS_len w0
  have ew : mwF L (wlS w0) p = mwF L (wdL w0 ++ [32]) p := rfl
  have hl := @wdL_len w0
  have hml := mwF_len L (wdL w0) p
  rw [ew, e, el] at g
  unfold wdS f_X12_item_b71
  by_cases c : mwF L (wdL w0) p = (wdL w0).length
  · rw [if_pos c] at g ⊢
    by_cases c2 : L (p + (wdL w0).length) = 32
    · rw [if_pos c2, if_pos rfl] at g
      have hq : p + (wdL w0).length < len := M_lt h (by rw [c2]; decide)
      have g2 := hk2 _ c hq c2
      rw [g]
      show resM (b2 (some (nI w0, sI σ 40 19 (nI (p + (wlS w0).length)))) _) σ (k (p + (wdL w0).length))
      rw [b2_some, el]
      have : w0 = 0 ∨ w0 = 1 ∨ w0 = 2 ∨ w0 = 3 ∨ w0 = 4 := by omega
      rcases this with rfl | rfl | rfl | rfl | rfl
      · rw [if_neg (by decide), if_neg (by decide), if_neg (by decide)]; exact g2
      · rw [if_neg (by decide), if_pos (by decide)]; exact g2
      · rw [if_neg (by decide), if_neg (by decide), if_pos (by decide)]; exact g2
      · rw [if_neg (by decide), if_neg (by decide), if_neg (by decide)]; exact g2
      · rw [if_neg (by decide), if_neg (by decide), if_neg (by decide)]; exact g2
    · rw [if_neg c2, if_neg (by omega)] at g
      rw [g]
      show resM (b2 (some (-1, sI σ 40 22 (nI (p + (wdL w0).length)))) _) σ (k (p + (wdL w0).length))
      rw [b2_some, if_pos rfl, hk1 _ c c2]
      exact ⟨_, rfl, FrM_40 (FrM_refl σ) (by omega) _, by unfold sI; rw [hI_rowI_k, up_eq]⟩
  · rw [if_neg c] at g ⊢
    rw [if_neg (by omega)] at g
    rw [g]
    show resM (b2 (some (-1, sI σ 40 22 (nI (p + mwF L (wdL w0) p)))) _) σ (.inl (p + mwF L (wdL w0) p))
    rw [b2_some, if_pos rfl]
    exact ⟨_, rfl, FrM_40 (FrM_refl σ) (by omega) _, by unfold sI; rw [hI_rowI_k, up_eq]⟩
def preM (L : Nat → Int32) (A : AbS) (p : Nat) : Prop := (mwF L (wdL 1) p = (wdL 1).length ∧ aN A = 6) ∨ ((mwF L (wdL 3) p = (wdL 3).length ∨ mwF L (wdL 4) p = (wdL 4).length) ∧ aM A = 20) ∨ (mwF L (wdL 4) p = (wdL 4).length ∧ aM A = 0)
theorem m_itemU {L : Nat → Int32} {s len p : Nat} {σ : Hp} {A : AbS} (hO : okA A) (hp : p ≤ len) (h : CM L s len σ) (ha : hI σ 40 19 = nI p) (hM : StM σ A) : (preM L A p → f_X12_item σ = some (0, sI σ 40 22 (nI p))) ∧ (¬ preM L A p → f_X12_item σ = f_X12_item_b71 (nI p) σ) := by
  have i1 : f_X12_isWordAt 1 σ = _ := m_isWordAt (w := 1) (by omega) hp h ha
  have i3 : f_X12_isWordAt 3 σ = _ := m_isWordAt (w := 3) (by omega) hp h ha
  have i4 : f_X12_isWordAt 4 σ = _ := m_isWordAt (w := 4) (by omega) hp h ha
  have hn := hO.1
  have hm := hO.2.2.2.1
  have n6 : (nI (aN A) = 6) ↔ aN A = 6 := by rw [show (6 : Int32) = nI 6 from rfl]; exact nI_eq (by omega) (by omega)
  have n20 : (nI (aM A) = 20) ↔ aM A = 20 := by rw [show (20 : Int32) = nI 20 from rfl]; exact nI_eq (by omega) (by omega)
  have n0 : (nI (aM A) = 0) ↔ aM A = 0 := by rw [show (0 : Int32) = nI 0 from rfl]; exact nI_eq (by omega) (by omega)
  have b62 : f_X12_item_b62 σ = some (0, sI σ 40 22 (nI p)) := by
    unfold f_X12_item_b62 f_X12_wrong
    rw [ha, b2_some, ck_pos (by decide)]
  have b47 : f_X12_item_b47 (nI p) σ = if mwF L (wdL 4) p = (wdL 4).length ∧ aM A = 0 then some (0, sI σ 40 22 (nI p)) else f_X12_item_b71 (nI p) σ := by
    unfold f_X12_item_b47
    rw [i4, b2_some, hM.2.1, b62]
    by_cases c4 : mwF L (wdL 4) p = (wdL 4).length
    · rw [if_pos c4, if_neg (by decide)]
      by_cases c0 : aM A = 0
      · rw [if_pos (n0.mpr c0), if_pos ⟨c4, c0⟩]
      · rw [if_neg (fun c => c0 (n0.mp c)), if_neg (fun c => c0 c.2)]
    · rw [if_neg c4, if_pos rfl, if_neg (fun c => c4 c.1)]
  have b38 : f_X12_item_b38 (nI p) σ = if aM A = 20 then some (0, sI σ 40 22 (nI p)) else f_X12_item_b47 (nI p) σ := by
    unfold f_X12_item_b38
    rw [hM.2.1, b62]
    by_cases c : aM A = 20
    · rw [if_pos (n20.mpr c), if_pos c]
    · rw [if_neg (fun d => c (n20.mp d)), if_neg c]
  have b22 : f_X12_item_b22 (nI p) σ = if mwF L (wdL 3) p = (wdL 3).length ∨ mwF L (wdL 4) p = (wdL 4).length then f_X12_item_b38 (nI p) σ else f_X12_item_b47 (nI p) σ := by
    unfold f_X12_item_b22
    rw [i3, b2_some]
    by_cases c3 : mwF L (wdL 3) p = (wdL 3).length
    · rw [if_pos c3, if_neg (by decide), if_pos (Or.inl c3)]
    · rw [if_neg c3, if_pos rfl, i4, b2_some]
      by_cases c4 : mwF L (wdL 4) p = (wdL 4).length
      · rw [if_pos c4, if_neg (by decide), if_pos (Or.inr c4)]
      · rw [if_neg c4, if_pos rfl, if_neg (fun c => c.elim c3 c4)]
  have it : f_X12_item σ = if mwF L (wdL 1) p = (wdL 1).length ∧ aN A = 6 then some (0, sI σ 40 22 (nI p)) else f_X12_item_b22 (nI p) σ := by
    unfold f_X12_item
    rw [i1, b2_some, hM.1, b62, ha]
    by_cases c1 : mwF L (wdL 1) p = (wdL 1).length
    · rw [if_pos c1, if_neg (by decide)]
      by_cases c0 : aN A = 6
      · rw [if_pos (n6.mpr c0), if_pos ⟨c1, c0⟩]
      · rw [if_neg (fun c => c0 (n6.mp c)), if_neg (fun c => c0 c.2)]
    · rw [if_neg c1, if_pos rfl, if_neg (fun c => c1 c.1)]
  unfold preM
  rw [it, b22, b38, b47]
  by_cases c1 : mwF L (wdL 1) p = (wdL 1).length ∧ aN A = 6
  · rw [if_pos c1]
    exact ⟨fun _ => rfl, fun c => absurd (Or.inl c1) c⟩
  · rw [if_neg c1]
    by_cases c4 : mwF L (wdL 4) p = (wdL 4).length ∧ aM A = 0
    · rw [if_pos c4]
      refine ⟨fun _ => ?_, fun c => absurd (Or.inr (Or.inr c4)) c⟩
      rw [if_pos (Or.inr c4.1), if_neg (by omega)]
    · rw [if_neg c4]
      by_cases c3 : mwF L (wdL 3) p = (wdL 3).length ∨ mwF L (wdL 4) p = (wdL 4).length
      · rw [if_pos c3]
        by_cases c2 : aM A = 20
        · rw [if_pos c2]
          exact ⟨fun _ => rfl, fun c => absurd (Or.inr (Or.inl ⟨c3, c2⟩)) c⟩
        · rw [if_neg c2]
          exact ⟨fun c => (c.elim (fun c => absurd c c1) (fun c => c.elim (fun c => absurd c.2 c2) (fun c => absurd c c4))), fun _ => rfl⟩
      · rw [if_neg c3]
        exact ⟨fun c => (c.elim (fun c => absurd c c1) (fun c => c.elim (fun c => absurd c.1 c3) (fun c => absurd c c4))), fun _ => rfl⟩
theorem m_notW {L : Nat → Int32} {p w w0 : Nat} (hw : w < 5) (h0 : w0 < 5) (hne : ¬ w = w0) (h : L p = fsL w0) : ¬ mwF L (wdL w) p = (wdL w).length := by
  rw [(mwF_0 (L := L) (w := w) (p := p) (fun c => fs_ne w hw w0 h0 hne (c.symm.trans h))).1]
  have := wd_pos w
  omega
theorem m_arg0 {L : Nat → Int32} {s len q w : Nat} {x1 x3 : Int32} {σ : Hp} {A : AbS} {P : Nat → Bool} (hx : ¬ x3 ≤ 0) (hq : q < len) (h32 : L q = 32) (hso : ∀ τ v, StM τ A → hI τ 40 21 = nI v → v < 1000000 → f_X12_isSo (nI w) (nI 0) τ = some (if P v = true then 1 else 0, τ)) (h : CM L s len σ) (hM : StM σ A) : agR (f_X12_item_s106 x1 (nI w) x3 (0, sI σ 40 19 (nI (q + 1)))) (sI σ 40 19 (nI (q + 1))) len 0 A P (arS L P q) := by
  rw [m_step0 hx]
  exact m_arg (w := w) (n := 1) (x1 := x1) (x3 := x3) (P := P) hq h32 (by omega) hso (CM_f (FrM_40 (FrM_refl σ) (by omega) _) h) (by unfold sI; rw [hI_rowI_k, up_eq]) (StM_40 (σ := σ) (G := va_up (hI σ 40) 19 (nI (q + 1))) (fun r hr => up_ne _ _ (by omega)) hM)
theorem fuel3 : fuel = 19996 + 1 + 1 + 1 + 1 := rfl
theorem m_item {L : Nat → Int32} {s len p : Nat} {σ : Hp} {A : AbS} (hO : okA A) (hp : p ≤ len) (h : CM L s len σ) (ha : hI σ 40 19 = nI p) (hM : StM σ A) : resM (f_X12_item σ) σ (itS L A p) := by
  obtain ⟨u1, u2⟩ := m_itemU hO hp h ha hM
  have hn := hO.1
  have hm := hO.2.2.2.1
  have hpre : preM L A p → ∃ τ, f_X12_item σ = some (0, τ) ∧ FrM σ τ ∧ hI τ 40 22 = nI p := fun c => ⟨_, u1 c, FrM_40 (FrM_refl σ) (by omega) _, by unfold sI; rw [hI_rowI_k, up_eq]⟩
  have f0 : ∀ q, FrM σ (sI σ 40 19 (nI (q + 1))) := fun q => FrM_40 (FrM_refl σ) (by omega) _
  have kN : ∀ (P : Nat → Bool) (k : Nat × Nat → Nat ⊕ (Nat × AbS)) q, ¬ L q = 32 → bdS (arS L P q) k = .inl q := fun P k q c => by unfold arS; rw [if_neg c]; rfl
  have npN : ∀ w0, w0 < 5 → L p = fsL w0 → ¬ 1 = w0 → ¬ 3 = w0 → ¬ 4 = w0 → ¬ preM L A p := fun w0 hw hf a b d c => by
    rcases c with c | c | c
    · exact m_notW (by omega) hw a hf c.1
    · exact c.1.elim (m_notW (by omega) hw b hf) (m_notW (by omega) hw d hf)
    · exact m_notW (by omega) hw d hf c.1
  unfold itS
  by_cases c0 : L p = 98
  · rw [if_pos c0]
    have h0 : L p = fsL 0 := c0
    rw [u2 (npN 0 (by omega) h0 (by decide) (by decide) (by decide))]
    refine m_b71 (w0 := 0) (by omega) c0 hp h ha (fun q _ c => kN _ _ q c) (fun q _ hq c => ?_)
    unfold f_X12_item_b102
    rw [fuel3]
    refine m_bd (f0 q) (m_arg0 (w := 0) (x1 := nI p) (x3 := 1) (by decide) hq c m_so0 h hM) (fun z τ f1 s1 p1 r1 l1 v1 P1 => ?_)
    exact m_fin0 f1 s1 p1 (by rw [r1, up_eq])
  · rw [if_neg c0]
    by_cases c4 : L p = 103
    · rw [if_pos c4]
      have h4 : L p = fsL 4 := c4
      by_cases cp : mwF L (wdL 4) p = (wdL 4).length ∧ (aM A = 0 ∨ aM A = 20)
      · unfold wdS
        rw [if_pos cp.1]
        show resM _ σ (if aM A = 0 ∨ aM A = 20 then Sum.inl p else _)
        rw [if_pos cp.2]
        exact hpre (cp.2.elim (fun c => Or.inr (Or.inr ⟨cp.1, c⟩)) (fun c => Or.inr (Or.inl ⟨Or.inr cp.1, c⟩)))
      · have np : ¬ preM L A p := fun c => by
          rcases c with c | c | c
          · exact m_notW (by omega) (by omega) (by decide) h4 c.1
          · exact c.1.elim (m_notW (by omega) (by omega) (by decide) h4) (fun d => cp ⟨d, Or.inr c.2⟩)
          · exact cp ⟨c.1, Or.inl c.2⟩
        rw [u2 np]
        refine m_b71 (w0 := 4) (by omega) h4 hp h ha (fun q cw c => by rw [if_neg (fun d => cp ⟨cw, d⟩)]; exact kN _ _ q c) (fun q cw hq c => ?_)
        rw [if_neg (fun d => cp ⟨cw, d⟩)]
        have cm : ¬ (aM A = 0 ∨ aM A = 20) := fun d => cp ⟨cw, d⟩
        unfold f_X12_item_b102
        rw [fuel3]
        refine m_bd (f0 q) (m_arg0 (w := 4) (x1 := nI p) (x3 := 1) (by decide) hq c (m_so4 hO) h hM) (fun z τ f1 s1 p1 r1 l1 v1 P1 => ?_)
        exact m_fin4 hO (by omega) (by omega) (of_decide_eq_true P1) f1 s1 p1 (by rw [r1, up_eq])
    · rw [if_neg c4]
      by_cases c1 : L p = 108
      · rw [if_pos c1]
        have h1 : L p = fsL 1 := c1
        by_cases cp : mwF L (wdL 1) p = (wdL 1).length ∧ aN A = 6
        · unfold wdS
          rw [if_pos cp.1]
          show resM _ σ (if aN A = 6 then Sum.inl p else _)
          rw [if_pos cp.2]
          exact hpre (Or.inl cp)
        · have np : ¬ preM L A p := fun c => by
            rcases c with c | c | c
            · exact cp c
            · exact c.1.elim (m_notW (by omega) (by omega) (by decide) h1) (m_notW (by omega) (by omega) (by decide) h1)
            · exact m_notW (by omega) (by omega) (by decide) h1 c.1
          rw [u2 np]
          refine m_b71 (w0 := 1) (by omega) h1 hp h ha (fun q cw c => by rw [if_neg (fun d => cp ⟨cw, d⟩)]; exact kN _ _ q c) (fun q cw hq c => ?_)
          have cn : ¬ aN A = 6 := fun d => cp ⟨cw, d⟩
          rw [if_neg cn]
          unfold f_X12_item_b102
          rw [fuel3]
          refine m_bd (f0 q) (m_arg0 (w := 1) (x1 := nI p) (x3 := 2) (by decide) hq c m_so10 h hM) (fun z τ f1 s1 p1 r1 l1 v1 P1 => ?_)
          refine m_bd f1 (m_argN (w := 1) (n := 2) (x1 := nI p) l1 (by omega) (by omega) (by omega) m_so11 (CM_f f1 h) p1 s1) (fun y υ f2 s2 p2 r2 l2 v2 P2 => ?_)
          exact m_fin1 hO (by omega) f2 s2 p2 (by rw [r2, up_ne _ _ (by decide), r1, up_eq]) (by rw [r2, up_eq])
      · rw [if_neg c1]
        by_cases c2 : L p = 118
        · rw [if_pos c2]
          have h2 : L p = fsL 2 := c2
          rw [u2 (npN 2 (by omega) h2 (by decide) (by decide) (by decide))]
          refine m_b71 (w0 := 2) (by omega) h2 hp h ha (fun q _ c => kN _ _ q c) (fun q _ hq c => ?_)
          unfold f_X12_item_b102
          rw [fuel3]
          refine m_bd (f0 q) (m_arg0 (w := 2) (x1 := nI p) (x3 := 3) (by decide) hq c (m_so20 hO) h hM) (fun z τ f1 s1 p1 r1 l1 v1 P1 => ?_)
          refine m_bd f1 (m_argN (w := 2) (n := 3) (x1 := nI p) l1 (by omega) (by omega) (by omega) m_so21 (CM_f f1 h) p1 s1) (fun y υ f2 s2 p2 r2 l2 v2 P2 => ?_)
          refine m_bd f2 (m_argN (w := 2) (n := 3) (x1 := nI p) l2 (by omega) (by omega) (by omega) m_so22 (CM_f f2 h) p2 s2) (fun x ω f3 s3 p3 r3 l3 v3 P3 => ?_)
          have hl := (of_decide_eq_true P1).1
          exact m_fin2 (by omega) (of_decide_eq_true P2) f3 s3 p3 (by rw [r3, up_ne _ _ (by decide), r2, up_ne _ _ (by decide), r1, up_eq]) (by rw [r3, up_ne _ _ (by decide), r2, up_eq]) (by rw [r3, up_eq])
        · rw [if_neg c2]
          by_cases c3 : L p = 119
          · rw [if_pos c3]
            have h3 : L p = fsL 3 := c3
            by_cases cp : mwF L (wdL 3) p = (wdL 3).length ∧ aM A = 20
            · unfold wdS
              rw [if_pos cp.1]
              show resM _ σ (if aM A = 20 then Sum.inl p else _)
              rw [if_pos cp.2]
              exact hpre (Or.inr (Or.inl ⟨Or.inl cp.1, cp.2⟩))
            · have np : ¬ preM L A p := fun c => by
                rcases c with c | c | c
                · exact m_notW (by omega) (by omega) (by decide) h3 c.1
                · exact c.1.elim (fun d => cp ⟨d, c.2⟩) (m_notW (by omega) (by omega) (by decide) h3)
                · exact m_notW (by omega) (by omega) (by decide) h3 c.1
              rw [u2 np]
              refine m_b71 (w0 := 3) (by omega) h3 hp h ha (fun q cw c => by rw [if_neg (fun d => cp ⟨cw, d⟩)]; exact kN _ _ q c) (fun q cw hq c => ?_)
              have cm : ¬ aM A = 20 := fun d => cp ⟨cw, d⟩
              rw [if_neg cm]
              unfold f_X12_item_b102
              rw [fuel3]
              refine m_bd (f0 q) (m_arg0 (w := 3) (x1 := nI p) (x3 := 1) (by decide) hq c m_so3 h hM) (fun z τ f1 s1 p1 r1 l1 v1 P1 => ?_)
              exact m_fin3 (by omega) v1 f1 s1 p1 (by rw [r1, up_eq])
          · rw [if_neg c3]
            have hnone : ∀ w, w < 5 → ¬ L p = fsL w := by
              intro w hw
              have : w = 0 ∨ w = 1 ∨ w = 2 ∨ w = 3 ∨ w = 4 := by omega
              rcases this with rfl | rfl | rfl | rfl | rfl
              · exact c0
              · exact c1
              · exact c2
              · exact c3
              · exact c4
            have nw : ∀ w, w < 5 → ¬ mwF L (wdL w) p = (wdL w).length := fun w hw => by
              rw [(mwF_0 (hnone w hw)).1]
              have := wd_pos w
              omega
            have np : ¬ preM L A p := fun c => by
              rcases c with c | c | c
              · exact nw 1 (by omega) c.1
              · exact c.1.elim (nw 3 (by omega)) (nw 4 (by omega))
              · exact nw 4 (by omega) c.1
            have g := m_word hp h ha
            rw [wo_no hnone] at g
            rw [u2 np]
            unfold f_X12_item_b71
            rw [g]
            show resM (b2 (some (-1, sI σ 40 22 (nI p))) _) σ (.inl p)
            rw [b2_some, if_pos rfl]
            exact ⟨_, rfl, FrM_40 (FrM_refl σ) (by omega) _, by unfold sI; rw [hI_rowI_k, up_eq]⟩
