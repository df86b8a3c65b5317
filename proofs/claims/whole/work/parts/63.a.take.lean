/-! a state taken over; the reference's fields carried -/
theorem x_tkN {k0 k1 : Nat} (hk : ¬ k0 = k1) : ∀ (k i fu : Nat) (σ : Hp), i + k = 20 → k < fu → ∃ N, iter (f_X7_takeOver_s110 k0 k1) fu (nI i, σ) = some ((), rowJ σ (k0 + 9) N) ∧ (∀ q, q < i → N q = hJ σ (k0 + 9) q) ∧ ∀ q, i ≤ q → q < 20 → N q = hJ σ (k1 + 9) q
  | k, i, 0, σ, _, hf => by omega
  | 0, i, fu + 1, σ, hi, hf => by
    refine ⟨hJ σ (k0 + 9), iter_inr ?_, fun _ _ => rfl, fun q h1 h2 => by omega⟩
    unfold f_X7_takeOver_s110 f_X7_takeOver_t110
    simp only
    rw [if_pos (by rw [show (20 : Int32) = nI 20 from rfl, nI_leI (by omega) (by omega)]; omega), rowJ_self]
    rfl
  | k + 1, i, fu + 1, σ, hi, hf => by
    obtain ⟨N, g1, g2, g3⟩ := x_tkN hk k (i + 1) fu (sJ σ (k0 + 9) i (hJ σ (k1 + 9) i)) (by omega) (by omega)
    have h20 : ¬ (20 : Int32) ≤ nI i := by rw [show (20 : Int32) = nI 20 from rfl, nI_leI (by omega) (by omega)]; omega
    refine ⟨N, (iter_inl (a' := (nI (i + 1), sJ σ (k0 + 9) i (hJ σ (k1 + 9) i))) ?_).trans (g1.trans ?_), fun q hq => ?_, fun q h1 h2 => ?_⟩
    · unfold f_X7_takeOver_s110 f_X7_takeOver_t110
      simp only
      rw [if_neg h20, if_neg h20, ck_pos (inb_nI (by omega) (by omega)), nI_clamp (by omega), nI_1]
    · unfold sJ; rw [rowJ_rowJ]
    · rw [g2 q (by omega)]; unfold sJ; rw [hJ_rowJ_k, up_ne _ _ (by omega)]
    · by_cases e : q = i
      · subst e; rw [g2 q (by omega)]; unfold sJ; rw [hJ_rowJ_k, up_eq]
      · rw [g3 q (by omega) h2]; unfold sJ; rw [hJ_rowJ_n _ _ (by omega)]
theorem x_tkV {k0 k1 : Nat} (hk : ¬ k0 = k1) : ∀ (k i fu : Nat) (σ : Hp), i + k = 60 → k < fu → ∃ V, iter (f_X7_takeOver_s72 k0 k1) fu (nI i, σ) = f_X7_takeOver_b108 k0 k1 (rowI σ (k0 + 6) V) ∧ (∀ q, q < i → V q = hI σ (k0 + 6) q) ∧ ∀ q, i ≤ q → q < 60 → V q = hI σ (k1 + 6) q
  | k, i, 0, σ, _, hf => by omega
  | 0, i, fu + 1, σ, hi, hf => by
    refine ⟨hI σ (k0 + 6), iter_ex ?_, fun _ _ => rfl, fun q h1 h2 => by omega⟩
    unfold f_X7_takeOver_s72 f_X7_takeOver_t72
    simp only
    rw [if_pos (by rw [show (60 : Int32) = nI 60 from rfl, nI_leI (by omega) (by omega)]; omega), rowI_self]
  | k + 1, i, fu + 1, σ, hi, hf => by
    obtain ⟨N, g1, g2, g3⟩ := x_tkV hk k (i + 1) fu (sI σ (k0 + 6) i (hI σ (k1 + 6) i)) (by omega) (by omega)
    have h20 : ¬ (60 : Int32) ≤ nI i := by rw [show (60 : Int32) = nI 60 from rfl, nI_leI (by omega) (by omega)]; omega
    refine ⟨N, (iter_inl (a' := (nI (i + 1), sI σ (k0 + 6) i (hI σ (k1 + 6) i))) ?_).trans (g1.trans ?_), fun q hq => ?_, fun q h1 h2 => ?_⟩
    · unfold f_X7_takeOver_s72 f_X7_takeOver_t72
      simp only
      rw [if_neg h20, if_neg h20, ck_pos (inb_nI (by omega) (by omega)), nI_clamp (by omega), nI_1]
    · unfold sI; rw [rowI_rowI]
    · rw [g2 q (by omega)]; unfold sI; rw [hI_rowI_k, up_ne _ _ (by omega)]
    · by_cases e : q = i
      · subst e; rw [g2 q (by omega)]; unfold sI; rw [hI_rowI_k, up_eq]
      · rw [g3 q (by omega) h2]; unfold sI; rw [hI_rowI_n _ _ (by omega)]
theorem hR_rowR_k (σ : Hp) (k : Nat) (f : Nat → Option Nat) : hR (rowR σ k f) k = f := by rw [hR_rowR, if_pos rfl]
theorem hR_rowR_n (σ : Hp) {k j : Nat} (f : Nat → Option Nat) (h : ¬ j = k) : hR (rowR σ k f) j = hR σ j := by rw [hR_rowR, if_neg h]
theorem rowR_rowR (σ : Hp) (k : Nat) (f g : Nat → Option Nat) : rowR (rowR σ k f) k g = rowR σ k g := by
  unfold rowR
  simp only [hI, hJ, hR, hC, hN]
  congr 3
  funext j
  by_cases h : j = k <;> simp [h]
theorem rowR_self (σ : Hp) (k : Nat) : rowR σ k (hR σ k) = σ := by
  obtain ⟨a, b, c, d, e⟩ := σ
  unfold rowR
  simp only [hI, hJ, hR, hC, hN]
  congr 3
  funext j
  by_cases h : j = k <;> simp [h]
theorem x_tkR {k0 k1 : Nat} (hk : ¬ k0 = k1) : ∀ (k i fu : Nat) (σ : Hp), i + k = 6 → k < fu → (∀ q, q < 6 → okLaw σ (hR σ (k1 + 3) q) = true) → ∃ V, iter (f_X7_takeOver_s34 k0 k1) fu (nI i, σ) = f_X7_takeOver_b70 k0 k1 (rowR σ (k0 + 3) V) ∧ (∀ q, q < i → V q = hR σ (k0 + 3) q) ∧ ∀ q, i ≤ q → q < 6 → V q = hR σ (k1 + 3) q
  | k, i, 0, σ, _, hf, _ => by omega
  | 0, i, fu + 1, σ, hi, hf, ho => by
    refine ⟨hR σ (k0 + 3), iter_ex ?_, fun _ _ => rfl, fun q h1 h2 => by omega⟩
    unfold f_X7_takeOver_s34 f_X7_takeOver_t34
    simp only
    rw [if_pos (by rw [show (6 : Int32) = nI 6 from rfl, nI_leI (by omega) (by omega)]; omega), rowR_self]
  | k + 1, i, fu + 1, σ, hi, hf, ho => by
    have e1 : ∀ q, hR (sR σ (k0 + 3) i (hR σ (k1 + 3) i)) (k1 + 3) q = hR σ (k1 + 3) q := fun q => by unfold sR; rw [hR_rowR_n _ _ (by omega)]
    obtain ⟨N, g1, g2, g3⟩ := x_tkR hk k (i + 1) fu (sR σ (k0 + 3) i (hR σ (k1 + 3) i)) (by omega) (by omega) (fun q hq => by rw [e1]; exact ho q hq)
    have h20 : ¬ (6 : Int32) ≤ nI i := by rw [show (6 : Int32) = nI 6 from rfl, nI_leI (by omega) (by omega)]; omega
    refine ⟨N, (iter_inl (a' := (nI (i + 1), sR σ (k0 + 3) i (hR σ (k1 + 3) i))) ?_).trans (g1.trans ?_), fun q hq => ?_, fun q h1 h2 => ?_⟩
    · unfold f_X7_takeOver_s34 f_X7_takeOver_t34
      simp only
      rw [if_neg h20, if_neg h20, ck_pos (inb_nI (by omega) (by omega)), nI_clamp (by omega), ck_pos (ho i (by omega)), nI_1]
    · unfold sR; rw [rowR_rowR]
    · rw [g2 q (by omega)]; unfold sR; rw [hR_rowR_k, up_ne _ _ (by omega)]
    · by_cases e : q = i
      · subst e; rw [g2 q (by omega)]; unfold sR; rw [hR_rowR_k, up_eq]
      · rw [g3 q (by omega) h2, e1]
theorem FkX_R {k : Nat} {σ τ : Hp} (h : FkX k σ τ) {F : Nat → Option Nat} (hF : ∀ q j, q < 6 → F q = some j → j < hN τ) : FkX k σ (rowR τ (k + 3) F) := by
  refine FkX_trans h ⟨Nat.le_refl _, fun j _ => ⟨rfl, rfl⟩, fun i2 a b c d => rfl, fun _ _ => rfl, fun i a b => by rw [hR_rowR_n _ _ a], fun ho => ⟨?_, ho.2⟩⟩
  have ho1 := ho.1
  rw [okRefs_iff] at ho1 ⊢
  intro p i j hp hi hj
  show j < hN τ
  by_cases c : 4 + p = k + 3
  · rw [c, hR_rowR_k] at hj
    exact hF i j hi hj
  · rw [hR_rowR_n _ _ c] at hj
    exact ho1 p i j hp hi hj
theorem x_takeOver {σ : Hp} {k0 k1 : Nat} {A : AbS} (h0 : 1 ≤ k0 ∧ k0 ≤ 3) (h1 : 1 ≤ k1 ∧ k1 ≤ 3) (hk : ¬ k0 = k1) (hO : okA A) (hok : okH σ) (hX : StX σ k1 A) : ∃ τ, f_X7_takeOver k0 k1 σ = some ((), τ) ∧ FkX k0 σ τ ∧ StX τ k0 A := by
  have hO1 := hO.1
  have hO4 := hO.2.2.2.1
  obtain ⟨x1, x2, x3, x4, x5, x6, x7⟩ := hX
  obtain ⟨s0, hs0⟩ : ∃ s, s = sI (sI (sI (sI σ k0 0 (hI σ k1 0)) k0 1 (hI (sI σ k0 0 (hI σ k1 0)) k1 1)) k0 2 (hI (sI (sI σ k0 0 (hI σ k1 0)) k0 1 (hI (sI σ k0 0 (hI σ k1 0)) k1 1)) k1 2)) k0 3 (hI (sI (sI (sI σ k0 0 (hI σ k1 0)) k0 1 (hI (sI σ k0 0 (hI σ k1 0)) k1 1)) k0 2 (hI (sI (sI σ k0 0 (hI σ k1 0)) k0 1 (hI (sI σ k0 0 (hI σ k1 0)) k1 1)) k1 2)) k1 3) := ⟨_, rfl⟩
  have hs1 : s0 = sI (sI (sI (sI σ k0 0 (nI (aB A))) k0 1 (aS A)) k0 2 (nI (aN A))) k0 3 (nI (aM A)) := by
    have e : ∀ (τ : Hp) (i : Nat) (v : Int32), hI (sI τ k0 i v) k1 = hI τ k1 := fun τ i v => by unfold sI; rw [hI_rowI_n _ _ (Ne.symm hk)]
    rw [hs0, e, e, e, e, e, e, x1, x2, x3, x4]
  have f0 : FkX k0 σ s0 := by
    rw [hs1]
    exact FkX_I h0.2 (FkX_I h0.2 (FkX_I h0.2 (FkX_I h0.2 (FkX_refl k0 σ) (Or.inl rfl) _) (Or.inl rfl) _) (Or.inl rfl) _) (Or.inl rfl) _
  have eR : hR s0 = hR σ := by rw [hs1]; rfl
  have eC : hC s0 = hC σ := by rw [hs1]; rfl
  have eN : hN s0 = hN σ := by rw [hs1]; rfl
  have eJ : hJ s0 = hJ σ := by rw [hs1]; rfl
  have ok0 : okH s0 := okH_eq eR eC eN hok
  have okR : ∀ q j, q < 6 → hR s0 (k1 + 3) q = some j → j < hN s0 := by
    intro q j hq hj
    have := ok0.1
    rw [okRefs_iff] at this
    exact this (k1 - 1) q j (by omega) hq (by rw [show 4 + (k1 - 1) = k1 + 3 by omega]; exact hj)
  obtain ⟨V, a1, a2, a3⟩ := x_tkR hk 6 0 fuel s0 (by omega) (by unfold fuel; omega) (fun q hq => by
    cases e : hR s0 (k1 + 3) q with
    | none => rfl
    | some j => exact ok0.2 j (okR q j hq e))
  obtain ⟨W, b1, b2', b3⟩ := x_tkV hk 60 0 fuel (rowR s0 (k0 + 3) V) (by omega) (by unfold fuel; omega)
  obtain ⟨N, c1, c2, c3⟩ := x_tkN hk 20 0 fuel (rowI (rowR s0 (k0 + 3) V) (k0 + 6) W) (by omega) (by unfold fuel; omega)
  have hf : FkX k0 σ (rowJ (rowI (rowR s0 (k0 + 3) V) (k0 + 6) W) (k0 + 9) N) := by
    refine FkX_J (FkX_I h0.2 (FkX_R f0 (fun q j hq hj => ?_)) (Or.inr (Or.inl rfl)) _) _
    rw [a3 q (by omega) hq] at hj
    exact okR q j hq hj
  refine ⟨_, ?_, hf, ?_, ?_, ?_, ?_, fun i hi => ?_, fun i f hi hf2 => ?_, fun i hi => ?_⟩
  · unfold f_X7_takeOver
    rw [← hs0]
    refine a1.trans ?_
    unfold f_X7_takeOver_b70
    refine b1.trans ?_
    unfold f_X7_takeOver_b108
    exact c1
  · rw [hI_rowJ, hI_rowI_n _ _ (by omega), hI_rowR, hs1]; unfold sI; rw [hI_rowI_k, up_ne _ _ (by decide), hI_rowI_k, up_ne _ _ (by decide), hI_rowI_k, up_ne _ _ (by decide), hI_rowI_k, up_eq]
  · rw [hI_rowJ, hI_rowI_n _ _ (by omega), hI_rowR, hs1]; unfold sI; rw [hI_rowI_k, up_ne _ _ (by decide), hI_rowI_k, up_ne _ _ (by decide), hI_rowI_k, up_eq]
  · rw [hI_rowJ, hI_rowI_n _ _ (by omega), hI_rowR, hs1]; unfold sI; rw [hI_rowI_k, up_ne _ _ (by decide), hI_rowI_k, up_eq]
  · rw [hI_rowJ, hI_rowI_n _ _ (by omega), hI_rowR, hs1]; unfold sI; rw [hI_rowI_k, up_eq]
  · obtain ⟨j, g1, g2, g3, g4, g5⟩ := x5 i hi
    have hj := isLaw_lt g2
    have hj2 := hf.2.1 j hj
    refine ⟨j, ?_, isLaw_X hf g2, by rw [hj2.1]; exact g3, by rw [hj2.2]; exact g4, by rw [hj2.2]; exact g5⟩
    rw [hR_rowJ, hR_rowI, hR_rowR_k, a3 i (by omega) (by omega), eR]
    exact g1
  · rw [hI_rowJ, hI_rowI_k, b3 _ (by omega) (by omega), hI_rowR, hs1]
    unfold sI
    rw [hI_rowI_n _ _ (by omega), hI_rowI_n _ _ (by omega), hI_rowI_n _ _ (by omega), hI_rowI_n _ _ (by omega)]
    exact x6 i f hi hf2
  · rw [hJ_rowJ_k, c3 i (by omega) (by omega), hJ_rowI, hJ_rowR, eJ]
    exact x7 i hi
/-! the reference -/
theorem m_carS {k1 k3 n f : Nat} (hk : ¬ k1 = k3) (hn : n ≤ ln k1) (hf2 : f + n ≤ ln k3) (h14 : ln k1 < 2 ^ 14) (h3 : ln k3 < 2 ^ 14) : ∀ (k i fu : Nat) (σ : Hp), i + k = n → k < fu → ∃ T, iter (f_X12_carries_s3 k1 (nI n) k3 (nI f) 0) fu (nI i, σ) = some (nI (f + n), rowI σ k3 T) ∧ (∀ q, ¬ (f + i ≤ q ∧ q < f + n) → T q = hI σ k3 q) ∧ ∀ q, i ≤ q → q < n → T (f + q) = hI σ k1 q
  | k, i, 0, σ, _, hf => by omega
  | 0, i, fu + 1, σ, hi, hf => by
    refine ⟨hI σ k3, iter_inr ?_, fun _ _ => rfl, fun q h1 h2 => by omega⟩
    unfold f_X12_carries_s3 f_X12_carries_t3
    simp only
    rw [if_pos (by rw [nI_leI (by omega) (by omega)]; omega), rowI_self, nI_add]
    rfl
  | k + 1, i, fu + 1, σ, hi, hf => by
    obtain ⟨T, g1, g2, g3⟩ := m_carS hk hn hf2 h14 h3 k (i + 1) fu (sI σ k3 (f + i) (hI σ k1 i)) (by omega) (by omega)
    refine ⟨T, (iter_inl (a' := (nI (i + 1), sI σ k3 (f + i) (hI σ k1 i))) ?_).trans (g1.trans ?_), fun q hq => ?_, fun q h1 h2 => ?_⟩
    · unfold f_X12_carries_s3 f_X12_carries_t3 f_X12_carries_b39
      simp only
      rw [if_neg (by rw [nI_leI (by omega) (by omega)]; omega), nI_add, ck_pos (inb_nI (by omega) (by omega)), ck_pos (inb_nI (by omega) (by omega)), nI_clamp (by omega), nI_clamp (by omega), nI_1]
      rfl
    · unfold sI; rw [rowI_rowI]
    · rw [g2 q (by omega)]; unfold sI; rw [hI_rowI_k, up_ne _ _ (by omega)]
    · by_cases e : q = i
      · subst e; rw [g2 _ (by omega)]; unfold sI; rw [hI_rowI_k, up_eq]
      · rw [g3 q (by omega) h2]; unfold sI; rw [hI_rowI_n _ _ hk]
theorem m_carB {k1 k3 n f : Nat} (hk : ¬ k1 = k3) (hn : n ≤ ln k1) (hf2 : f + n ≤ ln k3) (h14 : ln k1 < 2 ^ 14) (h3 : ln k3 < 2 ^ 14) : ∀ (k i fu : Nat) (σ : Hp), i + k = n → k < fu → ∃ T, iter (f_X12_carries_s3 k1 (nI n) k3 (nI f) 1) fu (nI i, σ) = some (nI (f + n), rowI σ k1 T) ∧ (∀ q, q < i → T q = hI σ k1 q) ∧ ∀ q, i ≤ q → q < n → T q = hI σ k3 (f + q)
  | k, i, 0, σ, _, hf => by omega
  | 0, i, fu + 1, σ, hi, hf => by
    refine ⟨hI σ k1, iter_inr ?_, fun _ _ => rfl, fun q h1 h2 => by omega⟩
    unfold f_X12_carries_s3 f_X12_carries_t3
    simp only
    rw [if_pos (by rw [nI_leI (by omega) (by omega)]; omega), rowI_self, nI_add]
    rfl
  | k + 1, i, fu + 1, σ, hi, hf => by
    obtain ⟨T, g1, g2, g3⟩ := m_carB hk hn hf2 h14 h3 k (i + 1) fu (sI σ k1 i (hI σ k3 (f + i))) (by omega) (by omega)
    refine ⟨T, (iter_inl (a' := (nI (i + 1), sI σ k1 i (hI σ k3 (f + i)))) ?_).trans (g1.trans ?_), fun q hq => ?_, fun q h1 h2 => ?_⟩
    · unfold f_X12_carries_s3 f_X12_carries_t3 f_X12_carries_b39
      simp only
      rw [if_neg (by rw [nI_leI (by omega) (by omega)]; omega), if_neg (by decide), nI_add, ck_pos (inb_nI (by omega) (by omega)), ck_pos (inb_nI (by omega) (by omega)), nI_clamp (by omega), nI_clamp (by omega), nI_1]
    · unfold sI; rw [rowI_rowI]
    · rw [g2 q (by omega)]; unfold sI; rw [hI_rowI_k, up_ne _ _ (by omega)]
    · by_cases e : q = i
      · subst e; rw [g2 _ (by omega)]; unfold sI; rw [hI_rowI_k, up_eq]
      · rw [g3 q (by omega) h2]; unfold sI; rw [hI_rowI_n _ _ (Ne.symm hk)]
/-- where the reference keeps a state: 63 and 65, 64 and 66 -/
def kpC (k kj : Nat) : Prop := (k = 63 ∧ kj = 65) ∨ (k = 64 ∧ kj = 66)
theorem kpC_ln {k kj : Nat} (h : kpC k kj) : ln k = 80 ∧ ln kj = 20 ∧ k < 100 ∧ ¬ k = 46 ∧ ¬ k = 47 ∧ ¬ k = 48 ∧ ¬ k = 40 ∧ ¬ kj = 49 := by
  rcases h with ⟨rfl, rfl⟩ | ⟨rfl, rfl⟩ <;> decide
theorem m_allS {k kj : Nat} (hkp : kpC k kj) : ∀ (m i fu : Nat) (σ : Hp), i + m = 20 → m < fu → ∃ (T : Nat → Int32) (J : Nat → Int64), iter (f_X12_all_s50 k kj 0 (nI 72)) fu (nI i, σ) = some ((), rowI (rowJ σ kj J) k T) ∧ (∀ q, q < i → J q = hJ σ kj q) ∧ (∀ q, i ≤ q → q < 20 → J q = hJ σ 49 q) ∧ (∀ q, q < 72 → T q = hI σ k q) ∧ T 72 = hI σ 40 0 ∧ T 73 = hI σ 40 1 ∧ T 74 = hI σ 40 2 ∧ T 75 = hI σ 40 3
  | m, i, 0, σ, _, hf => by omega
  | 0, i, fu + 1, σ, hi, hf => by
    obtain ⟨l1, l2, l3, l4, l5, l6, l7, l8⟩ := kpC_ln hkp
    refine ⟨va_up (va_up (va_up (va_up (hI σ k) 72 (hI σ 40 0)) 73 (hI σ 40 1)) 74 (hI σ 40 2)) 75 (hI σ 40 3), hJ σ kj, iter_inr ?_, fun _ _ => rfl, fun q h1 h2 => by omega, fun q hq => ?_, ?_, ?_, ?_, up_eq _ _ _⟩
    · have e : ∀ (τ : Hp) (i : Nat) (v : Int32), hI (sI τ k i v) 40 = hI τ 40 := fun τ i v => by unfold sI; rw [hI_rowI_n _ _ (Ne.symm l7)]
      unfold f_X12_all_s50 f_X12_all_t50
      simp only
      rw [if_pos (by rw [show (20 : Int32) = nI 20 from rfl, nI_leI (by omega) (by omega)]; omega), if_pos trivial, show nI 72 + 1 = nI 73 from rfl, show nI 72 + 2 = nI 74 from rfl, show nI 72 + 3 = nI 75 from rfl, l1, ck_pos (inb_nI (by omega) (by omega)), ck_pos (inb_nI (by omega) (by omega)), ck_pos (inb_nI (by omega) (by omega)), ck_pos (inb_nI (by omega) (by omega)), nI_clamp (by omega), nI_clamp (by omega), nI_clamp (by omega), nI_clamp (by omega)]
      simp only [e]
      rw [rowJ_self]
      unfold sI
      rw [hI_rowI_k, rowI_rowI, hI_rowI_k, rowI_rowI, hI_rowI_k, rowI_rowI]
      rfl
    · rw [up_ne _ _ (by omega), up_ne _ _ (by omega), up_ne _ _ (by omega), up_ne _ _ (by omega)]
    · rw [up_ne _ _ (by decide), up_ne _ _ (by decide), up_ne _ _ (by decide), up_eq]
    · rw [up_ne _ _ (by decide), up_ne _ _ (by decide), up_eq]
    · rw [up_ne _ _ (by decide), up_eq]
  | m + 1, i, fu + 1, σ, hi, hf => by
    obtain ⟨l1, l2, l3, l4, l5, l6, l7, l8⟩ := kpC_ln hkp
    obtain ⟨T, J, g1, g2, g3, g4⟩ := m_allS hkp m (i + 1) fu (sJ σ kj i (hJ σ 49 i)) (by omega) (by omega)
    refine ⟨T, J, (iter_inl (a' := (nI (i + 1), sJ σ kj i (hJ σ 49 i))) ?_).trans (g1.trans ?_), fun q hq => ?_, fun q h1 h2 => ?_, g4⟩
    · unfold f_X12_all_s50 f_X12_all_t50 f_X12_all_b86
      simp only
      rw [if_neg (by rw [show (20 : Int32) = nI 20 from rfl, nI_leI (by omega) (by omega)]; omega), if_pos trivial, l2, ck_pos (inb_nI (by omega) (by omega)), ck_pos (inb_nI (by omega) (by omega)), nI_clamp (by omega), nI_1]
    · unfold sJ; rw [rowJ_rowJ]
    · rw [g2 q (by omega)]; unfold sJ; rw [hJ_rowJ_k, up_ne _ _ (by omega)]
    · by_cases e : q = i
      · subst e; rw [g2 _ (by omega)]; unfold sJ; rw [hJ_rowJ_k, up_eq]
      · rw [g3 q (by omega) h2]; unfold sJ; rw [hJ_rowJ_n _ _ (Ne.symm l8)]
theorem m_save {k kj : Nat} {σ : Hp} {A : AbS} (hkp : kpC k kj) (hO : okA A) (hM : StM σ A) : ∃ (T : Nat → Int32) (J : Nat → Int64), f_X12_all k kj 0 σ = some ((), rowI (rowJ σ kj J) k T) ∧ StK (rowI (rowJ σ kj J) k T) k kj A := by
  have hO1 := hO.1
  have hO4 := hO.2.2.2.1
  obtain ⟨l1, l2, l3, l4, l5, l6, l7, l8⟩ := kpC_ln hkp
  obtain ⟨x1, x2, x3, x4, x5, x6, x7⟩ := hM
  obtain ⟨T1, a1, a2, a3⟩ := m_carS (k1 := 46) (k3 := k) (n := 6) (f := 0) (Ne.symm l4) (by decide) (by rw [l1]; omega) (by decide) (by rw [l1]; decide) 6 0 fuel σ (by omega) (by unfold fuel; omega)
  obtain ⟨T2, b1, b2', b3⟩ := m_carS (k1 := 47) (k3 := k) (n := 6) (f := 6) (Ne.symm l5) (by decide) (by rw [l1]; omega) (by decide) (by rw [l1]; decide) 6 0 fuel (rowI σ k T1) (by omega) (by unfold fuel; omega)
  obtain ⟨T3, c1, c2, c3⟩ := m_carS (k1 := 48) (k3 := k) (n := 60) (f := 12) (Ne.symm l6) (by decide) (by rw [l1]; omega) (by decide) (by rw [l1]; decide) 60 0 fuel (rowI (rowI σ k T1) k T2) (by omega) (by unfold fuel; omega)
  rw [rowI_rowI] at b1 c1
  rw [hI_rowI_k] at b2' c2
  rw [rowI_rowI] at c1
  obtain ⟨T, J, d1, d2, d3, d4, d5, d6, d7, d8⟩ := m_allS hkp 20 0 fuel (rowI σ k T3) (by omega) (by unfold fuel; omega)
  have d1' : rowI (rowJ (rowI σ k T3) kj J) k T = rowI (rowJ σ kj J) k T := by
    rw [← rowIJ, rowI_rowI, rowIJ]
  rw [d1'] at d1
  rw [hI_rowI_k] at d4
  rw [hI_rowI_n _ _ (Ne.symm l7)] at d5 d6 d7 d8
  have n47 : hI (rowI σ k T1) 47 = hI σ 47 := hI_rowI_n _ _ (Ne.symm l5)
  have n48 : hI (rowI σ k T2) 48 = hI σ 48 := hI_rowI_n _ _ (Ne.symm l6)
  refine ⟨T, J, ?_, ?_, ?_, ?_, ?_, fun i hi => ?_, fun i f hi hf => ?_, fun i hi => ?_⟩
  · unfold f_X12_all f_X12_carries
    have a1' : iter (f_X12_carries_s3 46 6 k 0 0) fuel (0, σ) = some (nI 6, rowI σ k T1) := a1
    have b1' : iter (f_X12_carries_s3 47 6 k (nI 6) 0) fuel (0, rowI σ k T1) = some (nI 12, rowI σ k T2) := b1
    have c1' : iter (f_X12_carries_s3 48 60 k (nI 12) 0) fuel (0, rowI σ k T2) = some (nI 72, rowI σ k T3) := c1
    rw [a1', b2_some, b1', b2_some, c1', b2_some]
    exact d1
  · rw [hI_rowI_k, d5]; exact x1
  · rw [hI_rowI_k, d6]; exact x2
  · rw [hI_rowI_k, d7]; exact x3
  · rw [hI_rowI_k, d8]; exact x4
  · rw [hI_rowI_k, d4 i (by omega), d4 (6 + i) (by omega), c2 i (by omega), b2' i (by omega), c2 (6 + i) (by omega), b3 i (by omega) (by omega), n47]
    have := a3 i (by omega) (by omega)
    rw [Nat.zero_add] at this
    rw [this]
    exact x5 i hi
  · rw [hI_rowI_k, d4 _ (by omega), c3 (10 * i + f) (by omega) (by omega)]
    rw [rowI_rowI] at *
    rw [n48]
    exact x6 i f hi hf
  · rw [hJ_rowI, hJ_rowJ_k, d3 i (by omega) (by omega), hJ_rowI]
    exact x7 i hi
