/-! rows: image, restore -/
theorem m_allB {k kj : Nat} (hkp : kpC k kj) : ∀ (m i fu : Nat) (σ : Hp), i + m = 20 → m < fu → ∃ (G : Nat → Int32) (J : Nat → Int64), iter (f_X12_all_s50 k kj 1 (nI 72)) fu (nI i, σ) = some ((), rowI (rowJ σ 49 J) 40 G) ∧ (∀ q, q < i → J q = hJ σ 49 q) ∧ (∀ q, i ≤ q → q < 20 → J q = hJ σ kj q) ∧ (∀ q, 4 ≤ q → G q = hI σ 40 q) ∧ G 0 = hI σ k 72 ∧ G 1 = hI σ k 73 ∧ G 2 = hI σ k 74 ∧ G 3 = hI σ k 75
  | m, i, 0, σ, _, hf => by omega
  | 0, i, fu + 1, σ, hi, hf => by
    obtain ⟨l1, l2, l3, l4, l5, l6, l7, l8⟩ := kpC_ln hkp
    refine ⟨va_up (va_up (va_up (va_up (hI σ 40) 0 (hI σ k 72)) 1 (hI σ k 73)) 2 (hI σ k 74)) 3 (hI σ k 75), hJ σ 49, iter_inr ?_, fun _ _ => rfl, fun q h1 h2 => by omega, fun q hq => ?_, ?_, ?_, ?_, up_eq _ _ _⟩
    · have e : ∀ (τ : Hp) (i : Nat) (v : Int32), hI (sI τ 40 i v) k = hI τ k := fun τ i v => by unfold sI; rw [hI_rowI_n _ _ l7]
      unfold f_X12_all_s50 f_X12_all_t50
      simp only
      rw [if_pos (by rw [show (20 : Int32) = nI 20 from rfl, nI_leI (by omega) (by omega)]; omega), if_neg (by decide), show nI 72 + 1 = nI 73 from rfl, show nI 72 + 2 = nI 74 from rfl, show nI 72 + 3 = nI 75 from rfl, l1, ck_pos (inb_nI (by omega) (by omega)), ck_pos (inb_nI (by omega) (by omega)), ck_pos (inb_nI (by omega) (by omega)), ck_pos (inb_nI (by omega) (by omega)), nI_clamp (by omega), nI_clamp (by omega), nI_clamp (by omega), nI_clamp (by omega)]
      simp only [e]
      rw [rowJ_self]
      unfold sI
      rw [hI_rowI_k, rowI_rowI, hI_rowI_k, rowI_rowI, hI_rowI_k, rowI_rowI]
      rfl
    · rw [up_ne _ _ (by omega), up_ne _ _ (by omega), up_ne _ _ (by omega), up_ne _ _ (by omega)]
    · rw [up_ne _ _ (by decide), up_ne _ _ (by decide), up_ne _ _ (by decide), up_eq]
    · rw [up_ne _ _ (by decide), up_ne _ _ (by decide), up_eq]
    · rw [up_ne _ _ (by decide), up_eq]
  | m + 1, i, fu + 1, σ, hi, hf => by
    obtain ⟨l1, l2, l3, l4, l5, l6, l7, l8⟩ := kpC_ln hkp
    obtain ⟨T, J, g1, g2, g3, g4⟩ := m_allB hkp m (i + 1) fu (sJ σ 49 i (hJ σ kj i)) (by omega) (by omega)
    refine ⟨T, J, (iter_inl (a' := (nI (i + 1), sJ σ 49 i (hJ σ kj i))) ?_).trans (g1.trans ?_), fun q hq => ?_, fun q h1 h2 => ?_, g4⟩
    · unfold f_X12_all_s50 f_X12_all_t50 f_X12_all_b86
      simp only
      rw [if_neg (by rw [show (20 : Int32) = nI 20 from rfl, nI_leI (by omega) (by omega)]; omega), if_neg (by decide), l2, ck_pos (inb_nI (by omega) (by omega)), ck_pos (inb_nI (by omega) (by omega)), nI_clamp (by omega), nI_1]
    · unfold sJ; rw [rowJ_rowJ]
    · rw [g2 q (by omega)]; unfold sJ; rw [hJ_rowJ_k, up_ne _ _ (by omega)]
    · by_cases e : q = i
      · subst e; rw [g2 _ (by omega)]; unfold sJ; rw [hJ_rowJ_k, up_eq]
      · rw [g3 q (by omega) h2]; unfold sJ; rw [hJ_rowJ_n _ _ l8]
theorem m_back2 {k kj : Nat} {σ : Hp} {A : AbS} (hkp : kpC k kj) (hO : okA A) (hK : StK σ k kj A) : ∃ τ, f_X12_all k kj 1 σ = some ((), τ) ∧ FwM σ τ ∧ StM τ A ∧ ∀ i, 4 ≤ i → hI τ 40 i = hI σ 40 i := by
  have hO1 := hO.1
  have hO4 := hO.2.2.2.1
  obtain ⟨l1, l2, l3, l4, l5, l6, l7, l8⟩ := kpC_ln hkp
  obtain ⟨x1, x2, x3, x4, x5, x6, x7⟩ := hK
  obtain ⟨T1, a1, a2, a3⟩ := m_carB (k1 := 46) (k3 := k) (n := 6) (f := 0) (Ne.symm l4) (by decide) (by rw [l1]; omega) (by decide) (by rw [l1]; decide) 6 0 fuel σ (by omega) (by unfold fuel; omega)
  obtain ⟨T2, b1, b2', b3⟩ := m_carB (k1 := 47) (k3 := k) (n := 6) (f := 6) (Ne.symm l5) (by decide) (by rw [l1]; omega) (by decide) (by rw [l1]; decide) 6 0 fuel (rowI σ 46 T1) (by omega) (by unfold fuel; omega)
  obtain ⟨T3, c1, c2, c3⟩ := m_carB (k1 := 48) (k3 := k) (n := 60) (f := 12) (Ne.symm l6) (by decide) (by rw [l1]; omega) (by decide) (by rw [l1]; decide) 60 0 fuel (rowI (rowI σ 46 T1) 47 T2) (by omega) (by unfold fuel; omega)
  obtain ⟨G, J, d1, d2, d3, d4, d5, d6, d7, d8⟩ := m_allB hkp 20 0 fuel (rowI (rowI (rowI σ 46 T1) 47 T2) 48 T3) (by omega) (by unfold fuel; omega)
  have ek : hI (rowI (rowI (rowI σ 46 T1) 47 T2) 48 T3) k = hI σ k := by rw [hI_rowI_n _ _ l6, hI_rowI_n _ _ l5, hI_rowI_n _ _ l4]
  have ek2 : hI (rowI (rowI σ 46 T1) 47 T2) k = hI σ k := by rw [hI_rowI_n _ _ l5, hI_rowI_n _ _ l4]
  have ek1 : hI (rowI σ 46 T1) k = hI σ k := by rw [hI_rowI_n _ _ l4]
  rw [ek] at d5 d6 d7 d8
  rw [ek2] at c3
  rw [ek1] at b3
  have e40 : hI (rowI (rowI (rowI σ 46 T1) 47 T2) 48 T3) 40 = hI σ 40 := by rw [hI_rowI_n _ _ (by decide), hI_rowI_n _ _ (by decide), hI_rowI_n _ _ (by decide)]
  rw [e40] at d4
  refine ⟨rowI (rowJ (rowI (rowI (rowI σ 46 T1) 47 T2) 48 T3) 49 J) 40 G, ?_, ?_, ⟨?_, ?_, ?_, ?_, fun i hi => ?_, fun i f hi hf => ?_, fun i hi => ?_⟩, fun i hi => ?_⟩
  · unfold f_X12_all f_X12_carries
    have a1' : iter (f_X12_carries_s3 46 6 k 0 1) fuel (0, σ) = some (nI 6, rowI σ 46 T1) := a1
    have b1' : iter (f_X12_carries_s3 47 6 k (nI 6) 1) fuel (0, rowI σ 46 T1) = some (nI 12, rowI (rowI σ 46 T1) 47 T2) := b1
    have c1' : iter (f_X12_carries_s3 48 60 k (nI 12) 1) fuel (0, rowI (rowI σ 46 T1) 47 T2) = some (nI 72, rowI (rowI (rowI σ 46 T1) 47 T2) 48 T3) := c1
    rw [a1', b2_some, b1', b2_some, c1', b2_some]
    exact d1
  · have f3 : FwM σ (rowJ (rowI (rowI (rowI σ 46 T1) 47 T2) 48 T3) 49 J) := FwM_J (FwM_I (FwM_I (FwM_I (FwM_refl σ) (by omega) _) (by omega) _) (by omega) _) _
    refine FwM_trans f3 ⟨rfl, rfl, rfl, fun i a b c d e f => ?_, fun i a b => ?_, fun _ _ => rfl⟩
    · rw [hI_rowI_n _ _ a]
    · rw [hI_rowI_k, d4 i a, hI_rowJ, e40]
  · rw [hI_rowI_k, d5]; exact x1
  · rw [hI_rowI_k, d6]; exact x2
  · rw [hI_rowI_k, d7]; exact x3
  · rw [hI_rowI_k, d8]; exact x4
  · rw [hI_rowI_n _ _ (by decide), hI_rowI_n _ _ (by decide), hI_rowJ, hI_rowI_n _ _ (by decide), hI_rowI_n _ _ (by decide), hI_rowI_k, hI_rowI_n _ _ (by decide), hI_rowI_k, a3 i (by omega) (by omega), b3 i (by omega) (by omega), Nat.zero_add]
    exact x5 i hi
  · rw [hI_rowI_n _ _ (by decide), hI_rowJ, hI_rowI_k, c3 _ (by omega) (by omega)]
    exact x6 i f hi hf
  · rw [hJ_rowI, hJ_rowJ_k, d3 i (by omega) (by omega)]
    exact x7 i hi
  · rw [hI_rowI_k, d4 i hi]
theorem m_back {k kj : Nat} {σ : Hp} {A : AbS} (hkp : kpC k kj) (hO : okA A) (hK : StK σ k kj A) : ∃ τ, f_X12_all k kj 1 σ = some ((), τ) ∧ FwM σ τ ∧ StM τ A := by
  obtain ⟨τ, h1, h2, h3, -⟩ := m_back2 hkp hO hK
  exact ⟨τ, h1, h2, h3⟩
theorem op_image (σ : Hp) (hv : Inv σ) : ∃ (r : Int32) (σ1 σ2 : Hp), f_X11_image σ = some (r, σ1) ∧ f_X12_image σ1 = some (r, σ2) ∧ Inv σ2 := by
  obtain ⟨A, hA, hr⟩ := hv
  obtain ⟨hO, hX, hM, hI1, hS, hok, hft, hT, hW⟩ := id hA
  obtain ⟨τ, g1, g2, g3⟩ := x_takeOver (k0 := 3) (k1 := 1) (by omega) (by omega) (by decide) hO hok hX
  have f := g2
  obtain ⟨f1, f2, f4, f6, f7, f8⟩ := f
  have hM2 : StM (sI (sI τ 0 3 1) 40 37 1) A := by
    have := StM_X (by omega) g2 hM
    exact this
  obtain ⟨T, J, q1, q2⟩ := m_save (k := 64) (kj := 66) (Or.inr ⟨rfl, rfl⟩) hO hM2
  have eI : ∀ i, i < 100 → ¬ i = 3 → ¬ i = 9 → ¬ i = 31 → ¬ i = 0 → ¬ i = 40 → ¬ i = 64 → hI (rowI (rowJ (sI (sI τ 0 3 1) 40 37 1) 66 J) 64 T) i = hI σ i := by
    intro i a b c d e g h
    rw [hI_rowI_n _ _ h, hI_rowJ]
    unfold sI
    rw [hI_rowI_n _ _ g, hI_rowI_n _ _ e]
    exact f4 i a b c d
  have e40 : ∀ i, ¬ i = 37 → hI (rowI (rowJ (sI (sI τ 0 3 1) 40 37 1) 66 J) 64 T) 40 i = hI σ 40 i := by
    intro i hi
    rw [hI_rowI_n _ _ (by decide), hI_rowJ]
    unfold sI
    rw [hI_rowI_k, up_ne _ _ hi, hI_rowI_n _ _ (by decide), f4 40 (by omega) (by omega) (by omega) (by omega)]
  have e0 : ∀ i, ¬ i = 3 → hI (rowI (rowJ (sI (sI τ 0 3 1) 40 37 1) 66 J) 64 T) 0 i = hI σ 0 i := by
    intro i hi
    rw [hI_rowI_n _ _ (by decide), hI_rowJ]
    unfold sI
    rw [hI_rowI_n _ _ (by decide), hI_rowI_k, up_ne _ _ hi, f4 0 (by omega) (by omega) (by omega) (by omega)]
  have eJ : ∀ i, ¬ i = 12 → ¬ i = 66 → hJ (rowI (rowJ (sI (sI τ 0 3 1) 40 37 1) 66 J) 64 T) i = hJ σ i := by
    intro i a b
    rw [hJ_rowI, hJ_rowJ_n _ _ b]
    exact f6 i a
  have sx : ∀ k, (k = 1 ∨ k = 3) → StX τ k A → StX (rowI (rowJ (sI (sI τ 0 3 1) 40 37 1) 66 J) 64 T) k A := by
    intro k hk ⟨h1, h2, h3, h4, h5, h6, h7⟩
    have z : ∀ i, ¬ i = 0 → ¬ i = 40 → ¬ i = 64 → hI (rowI (rowJ (sI (sI τ 0 3 1) 40 37 1) 66 J) 64 T) i = hI τ i := by
      intro i a b c
      rw [hI_rowI_n _ _ c, hI_rowJ]
      unfold sI
      rw [hI_rowI_n _ _ b, hI_rowI_n _ _ a]
    have zk := z k (by omega) (by omega) (by omega)
    have zk6 := z (k + 6) (by omega) (by omega) (by omega)
    refine ⟨by rw [zk]; exact h1, by rw [zk]; exact h2, by rw [zk]; exact h3, by rw [zk]; exact h4, fun i hi => ?_, by rw [zk6]; exact h6, fun i hi => ?_⟩
    · obtain ⟨j, g1, g2, g3, g4, g5⟩ := h5 i hi
      have zj := z (100 + j) (by omega) (by omega) (by omega)
      exact ⟨j, g1, g2, g3, by rw [zj]; exact g4, by rw [zj]; exact g5⟩
    · rw [hJ_rowI, hJ_rowJ_n _ _ (by omega)]; exact h7 i hi
  have hX1 : StX τ 1 A := StX_X (by omega) (by omega) (by decide) g2 hX
  refine ⟨nI (aN A), sI τ 0 3 1, rowI (rowJ (sI (sI τ 0 3 1) 40 37 1) 66 J) 64 T, ?_, ?_, A, ⟨hO, sx 1 (Or.inl rfl) hX1, ?_, Or.inr ⟨?_, ?_, A, hO, sx 3 (Or.inr rfl) g3, q2⟩, fun s hs => ?_, ?_, ?_, ?_, ?_⟩, ?_⟩
  · unfold f_X11_image
    rw [g1, b2_some]
    have : hI (sI τ 0 3 1) 1 2 = nI (aN A) := hX1.2.2.1
    rw [this]
  · unfold f_X12_image
    rw [q1, b2_some]
    have : hI (rowI (rowJ (sI (sI τ 0 3 1) 40 37 1) 66 J) 64 T) 40 0 = nI (aN A) := by
      rw [e40 0 (by decide)]; exact hM.1
    rw [this]
  · unfold StM at *
    rw [e40 0 (by decide), e40 1 (by decide), e40 2 (by decide), e40 3 (by decide), eI 46 (by decide) (by decide) (by decide) (by decide) (by decide) (by decide) (by decide), eI 47 (by decide) (by decide) (by decide) (by decide) (by decide) (by decide) (by decide), eI 48 (by decide) (by decide) (by decide) (by decide) (by decide) (by decide) (by decide), eJ 49 (by decide) (by decide)]
    exact hM
  · rw [hI_rowI_n _ _ (by decide), hI_rowJ]; unfold sI; rw [hI_rowI_n _ _ (by decide), hI_rowI_k, up_eq]
  · rw [hI_rowI_n _ _ (by decide), hI_rowJ]; unfold sI; rw [hI_rowI_k, up_eq]
  · exact ShR_eq (Nat.le_refl _) (eI 50 (by decide) (by decide) (by decide) (by decide) (by decide) (by decide) (by decide)) (eI 51 (by decide) (by decide) (by decide) (by decide) (by decide) (by decide) (by decide)) (eI 52 (by decide) (by decide) (by decide) (by decide) (by decide) (by decide) (by decide)) (eI 53 (by decide) (by decide) (by decide) (by decide) (by decide) (by decide) (by decide)) (eI (14 + s) (by omega) (by omega) (by omega) (by omega) (by omega) (by omega) (by omega)) (eJ _ (by omega) (by omega)) (eJ 54 (by decide) (by decide)) (hS s hs)
  · exact f8 hok
  · rw [e0 7 (by decide), e40 4 (by decide)]; exact hft
  · unfold TrR at *
    rw [eI 32 (by decide) (by decide) (by decide) (by decide) (by decide) (by decide) (by decide), e40 36 (by decide), eI 75 (by decide) (by decide) (by decide) (by decide) (by decide) (by decide) (by decide)]
    exact hT
  · rw [eI 56 (by decide) (by decide) (by decide) (by decide) (by decide) (by decide) (by decide)]; exact hW
  · unfold RfR at *
    rw [eI 30 (by decide) (by decide) (by decide) (by decide) (by decide) (by decide) (by decide), eI 45 (by decide) (by decide) (by decide) (by decide) (by decide) (by decide) (by decide)]
    exact hr
/-- shelves of the class, once the laws in use are fewer -/
def rsX (σ : Hp) (n : Nat) (s : Nat) : Nat → Int32 := if hI σ (14 + s) 3 < nI n then hI σ (14 + s) else va_up (va_up (va_up (hI σ (14 + s)) 1 (-1)) 2 0) 3 (-1)
theorem x_rsL {n : Nat} (hn : n ≤ 6) : ∀ (k i fu : Nat) (σ : Hp), i + k = 8 → k < fu → hI σ 1 2 = nI n → ∃ τ, iter f_X11_restore_s27 fu (nI i, σ) = some (nI n, τ) ∧ hR τ = hR σ ∧ hC τ = hC σ ∧ hN τ = hN σ ∧ hJ τ = hJ σ ∧ (∀ q, ¬ (14 + i ≤ q ∧ q ≤ 21) → hI τ q = hI σ q) ∧ ∀ s, i ≤ s → s < 8 → hI τ (14 + s) = rsX σ n s
  | k, i, 0, σ, _, hf, _ => by omega
  | 0, i, fu + 1, σ, hi, hf, h2 => by
    refine ⟨σ, iter_inr ?_, rfl, rfl, rfl, rfl, fun _ _ => rfl, fun s h1 h2 => by omega⟩
    unfold f_X11_restore_s27 f_X11_restore_t27
    simp only
    rw [if_pos (by rw [show (8 : Int32) = nI 8 from rfl, nI_leI (by omega) (by omega)]; omega), h2]
    rfl
  | k + 1, i, fu + 1, σ, hi, hf, h2 => by
    have hst : f_X11_restore_s27 (nI i, σ) = some (.inl (nI (i + 1), rowI σ (14 + i) (rsX σ n i))) := by
      unfold f_X11_restore_s27 f_X11_restore_t27 f_X11_restore_b66 f_X5_holdLaw rsX
      simp only
      rw [if_neg (by rw [show (8 : Int32) = nI 8 from rfl, nI_leI (by omega) (by omega)]; omega), ck_pos (inb_nI (by omega) (by omega)), nI_clamp (by omega), ck_pos (ky14 (by omega)), h2, nI_1]
      by_cases c : hI σ (14 + i) 3 < nI n
      · rw [if_pos c, if_pos c, rowI_self]
      · rw [if_neg c, if_neg c, b2_some]
        unfold sI
        rw [rowI_rowI, hI_rowI_k, rowI_rowI, hI_rowI_k]
    obtain ⟨τ, g1, g2, g3, g4, g5, g6, g7⟩ := x_rsL hn k (i + 1) fu (rowI σ (14 + i) (rsX σ n i)) (by omega) (by omega) (by rw [hI_rowI_n _ _ (by omega)]; exact h2)
    refine ⟨τ, (iter_inl hst).trans g1, g2, g3, g4, g5, fun q hq => ?_, fun s h1 h3 => ?_⟩
    · rw [g6 q (by omega), hI_rowI_n _ _ (by omega)]
    · by_cases e : s = i
      · subst e; rw [g6 _ (by omega), hI_rowI_k]
      · rw [g7 s (by omega) h3]
        unfold rsX
        rw [hI_rowI_n _ _ (by omega)]
def rsM (σ : Hp) (n : Nat) (s : Nat) : Int32 := if hI σ 50 s = 2 then (if hI σ 53 s < nI n then hI σ 50 s else 0) else hI σ 50 s
theorem m_rsL {n : Nat} (hn : n ≤ 6) : ∀ (k i fu : Nat) (σ : Hp), i + k = 8 → k < fu → hI σ 40 0 = nI n → ∃ R, iter f_X12_restore_s29 fu (nI i, σ) = some (nI n, rowI σ 50 R) ∧ (∀ s, ¬ (i ≤ s ∧ s < 8) → R s = hI σ 50 s) ∧ ∀ s, i ≤ s → s < 8 → R s = rsM σ n s
  | k, i, 0, σ, _, hf, _ => by omega
  | 0, i, fu + 1, σ, hi, hf, h2 => by
    refine ⟨hI σ 50, iter_inr ?_, fun _ _ => rfl, fun s h1 h2 => by omega⟩
    unfold f_X12_restore_s29 f_X12_restore_t29
    simp only
    rw [if_pos (by rw [show (8 : Int32) = nI 8 from rfl, nI_leI (by omega) (by omega)]; omega), h2, rowI_self]
    rfl
  | k + 1, i, fu + 1, σ, hi, hf, h2 => by
    have hst : f_X12_restore_s29 (nI i, σ) = some (.inl (nI (i + 1), sI σ 50 i (rsM σ n i))) := by
      have e0 : sI σ 50 i (hI σ 50 i) = σ := by unfold sI; rw [va_self, rowI_self]
      unfold f_X12_restore_s29 f_X12_restore_t29 f_X12_restore_b65 rsM
      simp only
      rw [if_neg (by rw [show (8 : Int32) = nI 8 from rfl, nI_leI (by omega) (by omega)]; omega), ck_pos (inb_nI (by omega) (by omega)), nI_clamp (by omega), h2, nI_1]
      by_cases c : hI σ 50 i = 2
      · rw [if_pos c, if_pos c]
        by_cases c2 : hI σ 53 i < nI n
        · rw [if_pos c2, if_pos c2, e0]
        · rw [if_neg c2, if_neg c2]
      · rw [if_neg c, if_neg c, e0]
    obtain ⟨R, g1, g6, g7⟩ := m_rsL hn k (i + 1) fu (sI σ 50 i (rsM σ n i)) (by omega) (by omega) (by unfold sI; rw [hI_rowI_n _ _ (by decide)]; exact h2)
    refine ⟨R, (iter_inl hst).trans (g1.trans ?_), fun q hq => ?_, fun s h1 h3 => ?_⟩
    · unfold sI; rw [rowI_rowI]
    · rw [g6 q (by omega)]; unfold sI; rw [hI_rowI_k, up_ne _ _ (by omega)]
    · by_cases e : s = i
      · subst e; rw [g6 _ (by omega)]; unfold sI; rw [hI_rowI_k, up_eq]
      · rw [g7 s (by omega) h3]
        unfold rsM sI
        rw [hI_rowI_k, up_ne _ _ e, hI_rowI_n _ _ (by decide)]
theorem op_restore (σ : Hp) (hv : Inv σ) : ∃ (r : Int32) (σ1 σ2 : Hp), f_X11_restore σ = some (r, σ1) ∧ f_X12_restore σ1 = some (r, σ2) ∧ Inv σ2 := by
  obtain ⟨A, hA, hr⟩ := id hv
  obtain ⟨hO, hX, hM, hI1, hS, hok, hft, hT, hW⟩ := id hA
  rcases hI1 with ⟨i1, i2⟩ | ⟨i1, i2, B, hB, hX3, hK⟩
  · refine op_mx hv (fun A2 hA2 => Or.inl ⟨-6, some 5, (fun k e => by cases e; omega), ⟨(-6, sI σ 30 5 (hI σ 30 5 + 1)), ?_, anX_s (Fs_refl σ)⟩, fun τ hf hτ => ⟨(-6, sI τ 45 6 (hI τ 45 6 + 1)), ?_, anM_s (k := 5) (Fs_refl τ)⟩⟩)
    · unfold f_X11_restore
      rw [i1, if_pos rfl, x_r6, b2_some]
    · unfold f_X12_restore
      rw [hf.2.2.2.2.1 37 rfl, i2, if_pos rfl, m_r6, b2_some]
  · have hB1 := hB.1
    obtain ⟨τ, g1, g2, g3⟩ := x_takeOver (k0 := 1) (k1 := 3) (by omega) (by omega) (by decide) hB hok hX3
    obtain ⟨f1, f2, f4, f6, f7, f8⟩ := id g2
    obtain ⟨υ, k1, k2, k3, k4, k5, k6, k7⟩ := x_rsL hB1 8 0 fuel τ (by omega) (by unfold fuel; omega) g3.2.2.1
    have hK2 : StK υ 64 66 B := by
      unfold StK at *
      rw [k6 64 (by omega), f4 64 (by omega) (by omega) (by omega) (by omega), k5, f6 66 (by omega)]
      exact hK
    obtain ⟨ω, q1, q2, q3⟩ := m_back (Or.inr ⟨rfl, rfl⟩) hB hK2
    obtain ⟨w1, w2, w3, w4, w5, w6⟩ := id q2
    obtain ⟨R, r1, r2, r3⟩ := m_rsL hB1 8 0 fuel ω (by omega) (by unfold fuel; omega) q3.1
    have eI : ∀ i, ¬ (14 ≤ i ∧ i ≤ 21) → ¬ i = 40 → ¬ i = 46 → ¬ i = 47 → ¬ i = 48 → ¬ i = 57 → ¬ i = 67 → ¬ i = 50 → hI (rowI ω 50 R) i = hI τ i := by
      intro i a b c d e f g h
      rw [hI_rowI_n _ _ h, w4 i b c d e f g, k6 i (by omega)]
    have eI2 : ∀ i, i < 100 → ¬ (14 ≤ i ∧ i ≤ 21) → ¬ i = 1 → ¬ i = 7 → ¬ i = 31 → ¬ i = 40 → ¬ i = 46 → ¬ i = 47 → ¬ i = 48 → ¬ i = 57 → ¬ i = 67 → ¬ i = 50 → hI (rowI ω 50 R) i = hI σ i := by
      intro i a0 a a1 a7 a31 b c d e f g h
      rw [eI i a b c d e f g h, f4 i a0 a1 a7 a31]
    have e40 : ∀ i, 4 ≤ i → scF i = false → hI (rowI ω 50 R) 40 i = hI σ 40 i := by
      intro i a b
      rw [hI_rowI_n _ _ (by decide), w5 i a b, k6 40 (by omega), f4 40 (by omega) (by omega) (by omega) (by omega)]
    have eJ : ∀ i, ¬ i = 49 → ¬ i = 10 → hJ (rowI ω 50 R) i = hJ σ i := by
      intro i a b
      rw [hJ_rowI, w6 i a, k5, f6 i b]
    have hmade : ∀ i, 100 ≤ i → hI (rowI ω 50 R) i = hI τ i := fun i hi => eI i (by omega) (by omega) (by omega) (by omega) (by omega) (by omega) (by omega) (by omega)
    have e50 : hI ω 50 = hI σ 50 := by rw [w4 50 (by decide) (by decide) (by decide) (by decide) (by decide) (by decide), k6 50 (by omega), f4 50 (by omega) (by omega) (by omega) (by omega)]
    have e53 : hI ω 53 = hI σ 53 := by rw [w4 53 (by decide) (by decide) (by decide) (by decide) (by decide) (by decide), k6 53 (by omega), f4 53 (by omega) (by omega) (by omega) (by omega)]
    refine ⟨nI (aN B), υ, rowI ω 50 R, ?_, ?_, Inv_mk hA hB ?_ ?_ (fun s hs => ?_) ?_ ?_ ?_ ?_ (fun j hj => ?_) ?_ (fun k hk => ?_) ?_ ⟨e40 36 (by omega) rfl, e40 37 (by omega) rfl⟩ ⟨eJ 12 (by omega) (by omega), eJ 66 (by omega) (by omega)⟩⟩
    · unfold f_X11_restore
      rw [i1, if_neg (by decide), g1, b2_some]
      exact k1
    · unfold f_X12_restore
      have e37 : hI υ 40 37 = 1 := by rw [k6 40 (by omega), f4 40 (by omega) (by omega) (by omega) (by omega)]; exact i2
      rw [e37, if_neg (by decide), q1, b2_some]
      exact r1
    · obtain ⟨h1, h2, h3, h4, h5, h6, h7⟩ := g3
      have e1 := eI 1 (by omega) (by omega) (by omega) (by omega) (by omega) (by omega) (by omega) (by omega)
      have e7 := eI 7 (by omega) (by omega) (by omega) (by omega) (by omega) (by omega) (by omega) (by omega)
      refine ⟨by rw [e1]; exact h1, by rw [e1]; exact h2, by rw [e1]; exact h3, by rw [e1]; exact h4, fun i hi => ?_, fun i f hi hf => ?_, fun i hi => ?_⟩
      · obtain ⟨j, p1, p2, p3, p4, p5⟩ := h5 i hi
        have ej := hmade (100 + j) (by omega)
        refine ⟨j, by rw [hR_rowI, w1, k2]; exact p1, ?_, by rw [hC_rowI, w2, k3]; exact p3, by rw [ej]; exact p4, by rw [ej]; exact p5⟩
        unfold isLaw at p2 ⊢
        rw [hC_rowI, hN_rowI, w2, w3, k3, k4]
        exact p2
      · show hI _ 7 _ = _; rw [e7]; exact h6 i f hi hf
      · show hJ _ 10 i = _; rw [hJ_rowI, w6 10 (by omega), k5]; exact h7 i hi
    · obtain ⟨h1, h2, h3, h4, h5, h6, h7⟩ := q3
      exact ⟨h1, h2, h3, h4, h5, h6, h7⟩
    · have z51 := eI2 51 (by omega) (by omega) (by omega) (by omega) (by omega) (by omega) (by omega) (by omega) (by omega) (by omega) (by omega) (by omega)
      have z52 := eI2 52 (by omega) (by omega) (by omega) (by omega) (by omega) (by omega) (by omega) (by omega) (by omega) (by omega) (by omega) (by omega)
      have z53 := eI2 53 (by omega) (by omega) (by omega) (by omega) (by omega) (by omega) (by omega) (by omega) (by omega) (by omega) (by omega) (by omega)
      have zs : hI τ (14 + s) = hI σ (14 + s) := f4 _ (by omega) (by omega) (by omega) (by omega)
      have z14 : hI (rowI ω 50 R) (14 + s) = rsX τ (aN B) s := by
        rw [hI_rowI_n _ _ (by omega), w4 _ (by omega) (by omega) (by omega) (by omega) (by omega) (by omega), k7 s (by omega) hs]
      have z50 : hI (rowI ω 50 R) 50 s = rsM ω (aN B) s := by rw [hI_rowI_k, r3 s (by omega) hs]
      unfold rsX at z14
      unfold rsM at z50
      rw [zs] at z14
      rw [e50, e53] at z50
      have zm : (-1 : Int32) < nI (aN B) := by
        rw [Int32.lt_iff_toInt_lt, nI_toInt (by omega), show ((-1 : Int32)).toInt = -1 from rfl]
        omega
      rcases hS s hs with ⟨h1, h2, h3, h4⟩ | ⟨t, len, h1, h2, h3, h4, h5, h6, h7, h8, h9⟩ | ⟨l, hl, h1, h2, h3, h4, h5⟩
      · rw [h4, if_pos zm] at z14
        rw [h1, if_neg (by decide)] at z50
        exact Or.inl ⟨z50, by rw [z14]; exact h2, by rw [z14]; exact h3, by rw [z14]; exact h4⟩
      · rw [h8, if_pos zm] at z14
        rw [h3, if_neg (by decide)] at z50
        refine Or.inr (Or.inl ⟨t, len, h1, h2, z50, by rw [z51]; exact h4, by rw [z52]; exact h5, by rw [z14]; exact h6, by rw [z14]; exact h7, by rw [z14]; exact h8, fun i hi => ?_⟩)
        rw [eJ (22 + s) (by omega) (by omega), eJ 54 (by omega) (by omega)]
        exact h9 i hi
      · have hl6 : l < 6 := by have := hO.1; omega
        by_cases c : l < aN B
        · have c2 : nI l < nI (aN B) := (nI_ltI (by omega) (by omega)).mpr c
          rw [h5, if_pos c2] at z14
          rw [h1, if_pos rfl, h2, if_pos c2] at z50
          exact Or.inr (Or.inr ⟨l, c, z50, by rw [z53]; exact h2, by rw [z14]; exact h3, by rw [z14]; exact h4, by rw [z14]; exact h5⟩)
        · have c2 : ¬ nI l < nI (aN B) := fun c3 => c ((nI_ltI (by omega) (by omega)).mp c3)
          rw [h5, if_neg c2] at z14
          rw [h1, if_pos rfl, h2, if_neg c2] at z50
          refine Or.inl ⟨z50, ?_, ?_, ?_⟩
          · rw [z14, up_ne _ _ (by decide), up_ne _ _ (by decide), up_eq]
          · rw [z14, up_ne _ _ (by decide), up_eq]
          · rw [z14, up_eq]
    · exact okH_eq (by rw [hR_rowI, w1, k2]) (by rw [hC_rowI, w2, k3]) (by rw [hN_rowI, w3, k4]) (f8 hok)
    · rw [eI2 0 (by omega) (by omega) (by omega) (by omega) (by omega) (by omega) (by omega) (by omega) (by omega) (by omega) (by omega) (by omega), e40 4 (by omega) rfl]
      exact hft
    · unfold RfR at *
      rw [eI2 30 (by omega) (by omega) (by omega) (by omega) (by omega) (by omega) (by omega) (by omega) (by omega) (by omega) (by omega) (by omega), eI2 45 (by omega) (by omega) (by omega) (by omega) (by omega) (by omega) (by omega) (by omega) (by omega) (by omega) (by omega) (by omega)]
      exact hr
    · rw [hN_rowI, w3, k4]; exact f1
    · have := f2 j hj
      exact ⟨by rw [hC_rowI, w2, k3]; exact this.1, by rw [hmade _ (by omega)]; exact this.2⟩
    · rw [hR_rowI, w1, k2, f7 6 (by omega) (by omega)]
    · exact eI2 k (by omega) (by omega) (by omega) (by omega) (by omega) (by omega) (by omega) (by omega) (by omega) (by omega) (by omega) (by omega)
    · rw [eI2 0 (by omega) (by omega) (by omega) (by omega) (by omega) (by omega) (by omega) (by omega) (by omega) (by omega) (by omega) (by omega)]
