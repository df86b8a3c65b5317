/-! row: text -/
def ClT (σ σ1 : Hp) : Prop := hN σ ≤ hN σ1 ∧ (∀ j, j < hN σ → hC σ1 j = hC σ j ∧ hI σ1 (100 + j) = hI σ (100 + j)) ∧ (∀ i, i < 100 → ¬ i = 0 → ¬ i = 1 → ¬ i = 2 → ¬ i = 7 → ¬ i = 8 → ¬ i = 30 → ¬ i = 31 → hI σ1 i = hI σ i) ∧ hI σ1 0 3 = hI σ 0 3 ∧ (∀ i, ¬ i = 10 → ¬ i = 11 → hJ σ1 i = hJ σ i) ∧ hR σ1 6 = hR σ 6 ∧ okH σ1
def ReT (σ1 σ2 : Hp) : Prop := hR σ2 = hR σ1 ∧ hC σ2 = hC σ1 ∧ hN σ2 = hN σ1 ∧ (∀ i, ¬ i = 40 → ¬ i = 46 → ¬ i = 47 → ¬ i = 48 → ¬ i = 57 → ¬ i = 67 → ¬ i = 63 → ¬ i = 45 → hI σ2 i = hI σ1 i) ∧ (hI σ2 40 36 = hI σ1 40 36 ∧ hI σ2 40 37 = hI σ1 40 37) ∧ ∀ i, ¬ i = 49 → ¬ i = 65 → hJ σ2 i = hJ σ1 i
theorem StX_c {σ : Hp} {i k : Nat} {F : Nat → Int32} {A : AbS} (hi : i < 100) (h1 : ¬ i = k) (h2 : ¬ i = k + 6) (h : StX σ k A) : StX (rowI σ i F) k A := by
  obtain ⟨a1, a2, a3, a4, a5, a6, a7⟩ := h
  have ek : hI (rowI σ i F) k = hI σ k := hI_rowI_n _ _ (Ne.symm h1)
  have ek6 : hI (rowI σ i F) (k + 6) = hI σ (k + 6) := hI_rowI_n _ _ (Ne.symm h2)
  refine ⟨by rw [ek]; exact a1, by rw [ek]; exact a2, by rw [ek]; exact a3, by rw [ek]; exact a4, fun l hl => ?_, by rw [ek6]; exact a6, a7⟩
  obtain ⟨j, g1, g2, g3, g4, g5⟩ := a5 l hl
  exact ⟨j, g1, g2, g3, by rw [hI_rowI_n _ _ (by omega)]; exact g4, by rw [hI_rowI_n _ _ (by omega)]; exact g5⟩
theorem FkX_31 {τ : Hp} {v : Option Nat} : FkX 2 τ (sR τ 31 1 v) := by
  refine ⟨Nat.le_refl _, fun _ _ => ⟨rfl, rfl⟩, fun _ _ _ _ _ => rfl, fun _ _ => rfl, fun i a b => by unfold sR; rw [hR_rowR_n _ _ b], fun ho => ⟨?_, ho.2⟩⟩
  have ho1 := ho.1
  rw [okRefs_iff] at ho1 ⊢
  intro p i j hp hi hj
  show j < hN τ
  unfold sR at hj
  rw [hR_rowR_n _ _ (by omega)] at hj
  exact ho1 p i j hp hi hj
theorem x_text {σ : Hp} {s t len k : Nat} {A : AbS} {L : Nat → Int32} (hs : s < 8) (hA : InA σ A) (hr : rwR σ s t len) (hL1 : ∀ p, p < len → (hJ σ (22 + s) p).toInt32 = L p) (hL2 : ∀ p, len ≤ p → L p = 0) (s1 : ∀ τ, f_X11_shelfAt (nI s) τ = some (some (14 + s), τ)) (hk : k = 161) : match txS L len k A 0 0 with | .inr z => ∃ σ1, f_X11_text (nI s) σ = some (nI z.1, σ1) ∧ ClT σ σ1 ∧ StX σ1 1 z.2 ∧ okA z.2 ∧ aN A ≤ aN z.2 ∧ hI σ1 0 7 = -1 ∧ hI σ1 30 = hI σ 30 | .inl q => ∃ σ1, f_X11_text (nI s) σ = some (-6, σ1) ∧ ClT σ σ1 ∧ StX σ1 1 A ∧ hI σ1 0 7 = nI q ∧ hI σ1 30 = va_up (hI σ 30) 5 (hI σ 30 5 + 1) := by
  obtain ⟨hO, hX, hM, hI1, hS, hok, -⟩ := id hA
  obtain ⟨ht3, hl160, r50, r51, r52, r1, r2, r3, r4⟩ := id hr
  obtain ⟨τ1, g1, g2, g3⟩ := x_takeOver (k0 := 2) (k1 := 1) (by omega) (by omega) (by decide) hO hok hX
  have er : f_X5_refusalOfRow (14 + s) σ = some (0, σ) := by
    unfold f_X5_refusalOfRow
    rw [r3, if_pos rfl, r1, if_neg (by have := oI_m1 (q := t) (by omega); exact this)]
  obtain ⟨τ2, ht2⟩ : ∃ τ2, τ2 = sI (sI (sR τ1 31 1 (some (14 + s))) 31 2 (0 : Int32)) 31 5 (-1 : Int32) := ⟨_, rfl⟩
  have f12 : FkX 2 τ1 τ2 := by
    rw [ht2]
    exact FkX_I (by omega) (FkX_I (by omega) FkX_31 (Or.inr (Or.inr rfl)) _) (Or.inr (Or.inr rfl)) _
  have f02 : FkX 2 σ τ2 := FkX_trans g2 f12
  have hX2 : StX τ2 2 A := by
    rw [ht2]
    exact StX_31 (StX_31 (show StX (sR τ1 31 1 (some (14 + s))) 2 A from by
      obtain ⟨a1, a2, a3, a4, a5, a6, a7⟩ := g3
      refine ⟨a1, a2, a3, a4, fun l hl => ?_, a6, a7⟩
      obtain ⟨j, p1, p2, p3, p4, p5⟩ := a5 l hl
      exact ⟨j, by unfold sR; rw [hR_rowR_n _ _ (by decide)]; exact p1, p2, p3, p4, p5⟩))
  have hC : CX L s len τ2 := by
    refine ⟨hs, hl160, ?_, ?_, fun p hp => ?_, hL2⟩
    · rw [ht2]; unfold sI sR; rw [hR_rowI, hR_rowI, hR_rowR_k, up_eq]
    · rw [f02.2.2.1 (14 + s) (by omega) (by omega) (by omega) (by omega)]; exact r2
    · rw [f02.2.2.2.1 (22 + s) (by omega)]; exact hL1 p hp
  have g := x_read (L := L) (s := s) (len := len) (σ0 := τ2) k 0 fuel 0 τ2 A (by omega) (by omega) (by unfold fuel; omega) (by omega) (FrX_refl τ2) hO (f02.2.2.2.2.2 hok) hC (by rw [ht2, sI_31 _ _ _ _ (by decide), sI_31k]; rfl) hX2 (by rw [ht2, sI_31k])
  have hx : ∀ (r : Int32) (τ3 : Hp), iter f_X4_read_s25 fuel (nI 0, τ2) = some (r, τ3) → f_X11_text (nI s) σ = if hI (sI τ3 0 7 (hI τ3 31 5)) 0 7 = (-1 : Int32) then b2 (f_X7_takeOver 1 2 (sI τ3 0 7 (hI τ3 31 5))) (fun r_20 s_21 => some (r, s_21)) else b2 (f_X11_refuse (-6 : Int32) (sI τ3 0 7 (hI τ3 31 5))) (fun r_23 s_24 => some (r_23, s_24)) := by
    intro r τ3 h
    unfold f_X11_text f_X4_read
    rw [s1, b2_some, cs_some, ck_pos (ky14 hs), er, b2_some, if_pos rfl, g1, b2_some, ← ht2]
    have h' : iter f_X4_read_s25 fuel ((0 : Int32), τ2) = some (r, τ3) := h
    rw [h', b2_some]
  cases ht : txS L len k A 0 0 with
  | inr z =>
    rw [ht] at g
    obtain ⟨τ3, e1, e2, e3, e4, e5, e6⟩ := g
    have f03 : FkX 2 σ τ3 := FkX_trans f02 e2.1
    have hX3 : StX (sI τ3 0 7 (hI τ3 31 5)) 2 z.2 := StX_c (by omega) (by decide) (by decide) e3
    have hok3 : okH (sI τ3 0 7 (hI τ3 31 5)) := f03.2.2.2.2.2 hok
    obtain ⟨τ4, q1, q2, q3⟩ := x_takeOver (k0 := 1) (k1 := 2) (by omega) (by omega) (by decide) e4 hok3 hX3
    have ez : ∀ i, i < 100 → ¬ i = 0 → ¬ i = 1 → ¬ i = 2 → ¬ i = 7 → ¬ i = 8 → ¬ i = 31 → hI τ4 i = hI σ i := fun i a b c d e f h => by
      rw [q2.2.2.1 i a c e h]
      unfold sI
      rw [hI_rowI_n _ _ b]
      exact f03.2.2.1 i a d f h
    have e0 : hI τ4 0 = va_up (hI τ3 0) 7 (hI τ3 31 5) := by
      rw [q2.2.2.1 0 (by omega) (by omega) (by omega) (by omega)]
      unfold sI
      rw [hI_rowI_k]
    refine ⟨τ4, ?_, ⟨Nat.le_trans f03.1 q2.1, fun j hj => ?_, fun i a b c d e f _ h => ez i a b c d e f h, ?_, fun i a b => ?_, ?_, q2.2.2.2.2.2 hok3⟩, q3, e4, e5, ?_, ez 30 (by omega) (by omega) (by omega) (by omega) (by omega) (by omega) (by omega)⟩
    · rw [hx _ _ e1, e6, if_pos (by unfold sI; rw [hI_rowI_k, up_eq]), ← e6, q1, b2_some]
    · have a1 := f03.2.1 j hj
      have a2 := q2.2.1 j (Nat.lt_of_lt_of_le hj f03.1)
      refine ⟨a2.1.trans a1.1, a2.2.trans ?_⟩
      unfold sI
      rw [hI_rowI_n _ _ (by omega)]
      exact a1.2
    · rw [e0, up_ne _ _ (by decide), f03.2.2.1 0 (by omega) (by omega) (by omega) (by omega)]
    · rw [q2.2.2.2.1 i a]
      exact f03.2.2.2.1 i b
    · rw [q2.2.2.2.2.1 6 (by omega) (by omega)]
      exact f03.2.2.2.2.1 6 (by omega) (by omega)
    · rw [e0, up_eq, e6]
  | inl q =>
    rw [ht] at g
    obtain ⟨r, τ3, e1, ⟨e2, e3⟩, e4⟩ := g
    have f03 : FkX 2 σ τ3 := FkX_trans f02 e2.1
    have hne : ¬ nI q = -1 := by have := oI_m1 (q := q) (by omega); exact this
    have e30 : hI (sI τ3 0 7 (nI q)) 30 = hI σ 30 := by
      unfold sI
      rw [hI_rowI_n _ _ (by decide), f03.2.2.1 30 (by omega) (by omega) (by omega) (by omega)]
    refine ⟨sI (sI τ3 0 7 (nI q)) 30 5 (hI σ 30 5 + 1), ?_, ⟨f03.1, fun j hj => ?_, fun i a b c d e f g h => ?_, ?_, fun i a b => f03.2.2.2.1 i b, f03.2.2.2.2.1 6 (by omega) (by omega), f03.2.2.2.2.2 hok⟩, ?_, ?_, ?_⟩
    · rw [hx _ _ e1, e3, if_neg (by unfold sI; rw [hI_rowI_k, up_eq]; exact hne), x_r6, b2_some, e30]
    · have a1 := f03.2.1 j hj
      refine ⟨a1.1, ?_⟩
      unfold sI
      rw [hI_rowI_n _ _ (by omega), hI_rowI_n _ _ (by omega)]
      exact a1.2
    · unfold sI
      rw [hI_rowI_n _ _ g, hI_rowI_n _ _ b]
      exact f03.2.2.1 i a d f h
    · unfold sI
      rw [hI_rowI_n _ _ (by decide), hI_rowI_k, up_ne _ _ (by decide), f03.2.2.1 0 (by omega) (by omega) (by omega) (by omega)]
    · exact StX_c (by omega) (by decide) (by decide) (StX_c (by omega) (by decide) (by decide) (StX_X (k := 2) (m := 1) (by omega) (by omega) (by decide) f03 hX))
    · unfold sI
      rw [hI_rowI_n _ _ (by decide), hI_rowI_k, up_eq]
    · show hI (rowI _ 30 _) 30 = _
      rw [hI_rowI_k, e30]
theorem m_text {σ1 : Hp} {s len k : Nat} {A : AbS} {L : Nat → Int32} (hs : s < 8) (hO : okA A) (hM : StM σ1 A) (hl : len ≤ 160) (r50 : hI σ1 50 s = 1) (r52 : hI σ1 52 s = nI len) (hL1 : ∀ p, p < len → (hJ σ1 54 (160 * s + p)).toInt32 = L p) (hL2 : ∀ p, len ≤ p → L p = 0) (hW : ∀ i, hI σ1 56 i = wordsF i) (s2 : ∀ τ, f_X12_isShelf (nI s) τ = some (1, τ)) (hk : k = 161) : match txS L len k A 0 0 with | .inr z => ∃ σ2, f_X12_text (nI s) σ1 = some (nI z.1, σ2) ∧ ReT σ1 σ2 ∧ StM σ2 z.2 ∧ hI σ2 40 4 = -1 ∧ hI σ2 45 = hI σ1 45 | .inl q => ∃ σ2, f_X12_text (nI s) σ1 = some (-6, σ2) ∧ ReT σ1 σ2 ∧ StM σ2 A ∧ hI σ2 40 4 = nI q ∧ hI σ2 45 = va_up (hI σ1 45) 6 (hI σ1 45 6 + 1) := by
  obtain ⟨T, J, a1, a2⟩ := m_save (k := 63) (kj := 65) (Or.inl ⟨rfl, rfl⟩) hO hM
  obtain ⟨υ1, hu1⟩ : ∃ υ1, υ1 = rowI (rowJ σ1 65 J) 63 T := ⟨_, rfl⟩
  rw [← hu1] at a1 a2
  have i1 : ∀ i, ¬ i = 63 → hI υ1 i = hI σ1 i := fun i h => by rw [hu1, hI_rowI_n _ _ h, hI_rowJ]
  have j1 : ∀ i, ¬ i = 65 → hJ υ1 i = hJ σ1 i := fun i h => by rw [hu1, hJ_rowI, hJ_rowJ_n _ _ h]
  have hM1 : StM υ1 A := by
    unfold StM at *
    rw [i1 40 (by omega), i1 46 (by omega), i1 47 (by omega), i1 48 (by omega), j1 49 (by omega)]
    exact hM
  obtain ⟨υ2, hu2⟩ : ∃ υ2, υ2 = sI (sI (sI (sI υ1 40 18 (nI (160 * s))) 40 19 0) 40 20 (nI len)) 40 4 (-1) := ⟨_, rfl⟩
  have i2 : ∀ i, ¬ i = 40 → hI υ2 i = hI υ1 i := fun i h => by rw [hu2]; unfold sI; rw [hI_rowI_n _ _ h, hI_rowI_n _ _ h, hI_rowI_n _ _ h, hI_rowI_n _ _ h]
  have q2 : ∀ q, ¬ q = 18 → ¬ q = 19 → ¬ q = 20 → ¬ q = 4 → hI υ2 40 q = hI σ1 40 q := fun q b c d e => by
    rw [hu2]; unfold sI; rw [hI_rowI_k, up_ne _ _ e, hI_rowI_k, up_ne _ _ d, hI_rowI_k, up_ne _ _ c, hI_rowI_k, up_ne _ _ b, i1 40 (by omega)]
  have hM2 : StM υ2 A := by
    rw [hu2]
    have z : ∀ (τ : Hp) (i : Nat) (v : Int32), 4 ≤ i → StM τ A → StM (sI τ 40 i v) A := fun τ i v hi h => StM_40 (σ := τ) (G := va_up (hI τ 40) i v) (fun r hr => up_ne _ _ (by omega)) h
    exact z _ _ _ (by omega) (z _ _ _ (by omega) (z _ _ _ (by omega) (z _ _ _ (by omega) hM1)))
  have hC : CM L s len υ2 := by
    refine ⟨hs, hl, ?_, ?_, fun p hp => ?_, hL2, fun i => ?_⟩
    · rw [hu2]; unfold sI; rw [hI_rowI_k, up_ne _ _ (by decide), hI_rowI_k, up_ne _ _ (by decide), hI_rowI_k, up_ne _ _ (by decide), hI_rowI_k, up_eq]
    · rw [hu2]; unfold sI; rw [hI_rowI_k, up_ne _ _ (by decide), hI_rowI_k, up_eq]
    · have : hJ υ2 54 = hJ σ1 54 := by rw [hu2]; exact j1 54 (by omega)
      rw [this]; exact hL1 p hp
    · rw [i2 56 (by omega), i1 56 (by omega)]; exact hW i
  have h19 : hI υ2 40 19 = nI 0 := by rw [hu2]; unfold sI; rw [hI_rowI_k, up_ne _ _ (by decide), hI_rowI_k, up_ne _ _ (by decide), hI_rowI_k, up_eq]; rfl
  have h4 : hI υ2 40 4 = -1 := by rw [hu2]; unfold sI; rw [hI_rowI_k, up_eq]
  have hw : f_X12_wanted (nI s) σ1 = some (0, σ1) := by
    unfold f_X12_wanted
    rw [s2, b2_some, if_neg (by decide), ck_pos (inb_nI (by omega) (by omega)), nI_clamp (by omega), r50, if_neg (by decide), if_neg (by decide)]
  obtain ⟨ω, r, e1, e2⟩ := m_textL (L := L) (s := s) (len := len) (σ0 := υ2) k 0 fuel 0 υ2 A (by omega) (by omega) (by unfold fuel; omega) (by omega) (FrM_refl υ2) hO hC h19 hM2
  have hx : f_X12_text (nI s) σ1 = iter f_X12_text_s66 fuel (nI (0 + 1), r, ω) := by
    unfold f_X12_text
    rw [hw, b2_some, if_pos rfl, a1, b2_some, ck_pos (inb_nI (by omega) (by omega)), nI_clamp (by omega), show (160 : Int32) = nI 160 from rfl, nI_mul]
    have e52 : hI (sI (sI υ1 40 18 (nI (160 * s))) 40 19 0) 52 s = nI len := by unfold sI; rw [hI_rowI_n _ _ (by decide), hI_rowI_n _ _ (by decide), i1 52 (by omega)]; exact r52
    rw [e52, ← hu2, e1, b2_some]
    rfl
  have fin : ∀ τ, FwM υ2 τ → ReT σ1 τ := fun τ h => by
    obtain ⟨f1, f2, f3, f4, f5, f6⟩ := h
    refine ⟨by rw [f1, hu2, hu1]; rfl, by rw [f2, hu2, hu1]; rfl, by rw [f3, hu2, hu1]; rfl, fun i a b c d e f g h => by rw [f4 i a b c d e f, i2 i a, i1 i g], ⟨by rw [f5 36 (by omega) rfl, q2 36 (by omega) (by omega) (by omega) (by omega)], by rw [f5 37 (by omega) rfl, q2 37 (by omega) (by omega) (by omega) (by omega)]⟩, fun i a b => by rw [f6 i a, hu2]; exact j1 i b⟩
  cases ht : txS L len k A 0 0 with
  | inr z =>
    rw [ht] at e2
    obtain ⟨τ, p1, p2, p3⟩ := e2
    refine ⟨τ, by rw [hx, p1], fin τ p2.1, p3, ?_, ?_⟩
    · rw [p2.1.2.2.2.2.1 4 (by omega) rfl]; exact h4
    · rw [p2.1.2.2.2.1 45 (by omega) (by omega) (by omega) (by omega) (by omega) (by omega), i2 45 (by omega), i1 45 (by omega)]
  | inl q =>
    rw [ht] at e2
    obtain ⟨x, τ, p1, p2, p3⟩ := e2
    have hK : StK τ 63 65 A := by
      unfold StK at *
      rw [p2.1.2.2.2.1 63 (by omega) (by omega) (by omega) (by omega) (by omega) (by omega), i2 63 (by omega), p2.1.2.2.2.2.2 65 (by omega), show hJ υ2 65 = hJ υ1 65 from by rw [hu2]; rfl]
      exact a2
    obtain ⟨ξ, k1, k2, k3, k4⟩ := m_back2 (k := 63) (kj := 65) (Or.inl ⟨rfl, rfl⟩) hO hK
    have hf : FwM υ2 ξ := FwM_trans p2.1 k2
    obtain ⟨n1, n2, n3, n4, n5, n6⟩ := fin ξ hf
    have e45 : hI ξ 45 = hI σ1 45 := by rw [hf.2.2.2.1 45 (by omega) (by omega) (by omega) (by omega) (by omega) (by omega), i2 45 (by omega), i1 45 (by omega)]
    refine ⟨sI (sI ξ 40 4 (nI q)) 45 6 (hI σ1 45 6 + 1), ?_, ⟨n1, n2, n3, fun i a b c d e f g h => ?_, ⟨?_, ?_⟩, n6⟩, ?_, ?_, ?_⟩
    · rw [hx, p1]
      unfold f_X12_text_b137
      rw [if_pos rfl, k1, b2_some, k4 22 (by omega), p3, m_r6, b2_some]
      have : hI (sI ξ 40 4 (nI q)) 45 = hI σ1 45 := by unfold sI; rw [hI_rowI_n _ _ (by decide)]; exact e45
      rw [this]
    · unfold sI
      rw [hI_rowI_n _ _ h, hI_rowI_n _ _ a]
      exact n4 i a b c d e f g h
    · unfold sI
      rw [hI_rowI_n _ _ (by decide), hI_rowI_k, up_ne _ _ (by decide)]
      exact n5.1
    · unfold sI
      rw [hI_rowI_n _ _ (by decide), hI_rowI_k, up_ne _ _ (by decide)]
      exact n5.2
    · have : StM (sI ξ 40 4 (nI q)) A := StM_40 (σ := ξ) (G := va_up (hI ξ 40) 4 (nI q)) (fun r hr => up_ne _ _ (by omega)) k3
      exact this
    · unfold sI
      rw [hI_rowI_n _ _ (by decide), hI_rowI_k, up_eq]
    · show hI (rowI _ 45 _) 45 = _
      have : hI (sI ξ 40 4 (nI q)) 45 = hI σ1 45 := by unfold sI; rw [hI_rowI_n _ _ (by decide)]; exact e45
      rw [hI_rowI_k, this]
