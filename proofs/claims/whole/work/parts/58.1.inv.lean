/-! what class and reference have in common -/
abbrev AbS : Type := Nat × Nat × Nat × Int32 × (Nat → Nat) × (Nat → Nat) × (Nat → Nat → Nat) × (Nat → Nat)
def aN (A : AbS) : Nat := A.1
def aB (A : AbS) : Nat := A.2.1
def aM (A : AbS) : Nat := A.2.2.1
def aS (A : AbS) : Int32 := A.2.2.2.1
def aK (A : AbS) : Nat → Nat := A.2.2.2.2.1
def aA (A : AbS) : Nat → Nat := A.2.2.2.2.2.1
def aW (A : AbS) : Nat → Nat → Nat := A.2.2.2.2.2.2.1
def aL (A : AbS) : Nat → Nat := A.2.2.2.2.2.2.2
def okA (A : AbS) : Prop := aN A ≤ 6 ∧ 2 ≤ aB A ∧ aB A ≤ 10 ∧ aM A ≤ 20 ∧ (∀ i, aK A i ≤ 6) ∧ (∀ i, aA A i ≤ 9) ∧ (∀ i f, aW A i f ≤ 999) ∧ (∀ i f, aN A ≤ i → aW A i f = 0) ∧ ∀ i, aL A i ≤ 999999999999999
def StX (σ : Hp) (k : Nat) (A : AbS) : Prop := hI σ k 0 = nI (aB A) ∧ hI σ k 1 = aS A ∧ hI σ k 2 = nI (aN A) ∧ hI σ k 3 = nI (aM A) ∧ (∀ i, i < aN A → ∃ j, hR σ (k + 3) i = some j ∧ isLaw σ j = true ∧ hC σ j = clK (aK A i) ∧ hI σ (100 + j) 0 = nI i ∧ hI σ (100 + j) 1 = nI (aA A i)) ∧ (∀ i f, i < 6 → f < 10 → hI σ (k + 6) (10 * i + f) = nI (aW A i f)) ∧ ∀ i, i < aM A → hJ σ (k + 9) i = lN (aL A i)
def StM (σ : Hp) (A : AbS) : Prop := hI σ 40 0 = nI (aN A) ∧ hI σ 40 1 = nI (aM A) ∧ hI σ 40 2 = nI (aB A) ∧ hI σ 40 3 = aS A ∧ (∀ i, i < aN A → hI σ 46 i = nI (aK A i) ∧ hI σ 47 i = nI (aA A i)) ∧ (∀ i f, i < aN A → f < 10 → hI σ 48 (10 * i + f) = nI (aW A i f)) ∧ ∀ i, i < aM A → hJ σ 49 i = lN (aL A i)
def StK (σ : Hp) (k kj : Nat) (A : AbS) : Prop := hI σ k 72 = nI (aN A) ∧ hI σ k 73 = nI (aM A) ∧ hI σ k 74 = nI (aB A) ∧ hI σ k 75 = aS A ∧ (∀ i, i < aN A → hI σ k i = nI (aK A i) ∧ hI σ k (6 + i) = nI (aA A i)) ∧ (∀ i f, i < aN A → f < 10 → hI σ k (12 + (10 * i + f)) = nI (aW A i f)) ∧ ∀ i, i < aM A → hJ σ kj i = lN (aL A i)
def ShR (σ : Hp) (n s : Nat) : Prop := (hI σ 50 s = 0 ∧ hI σ (14 + s) 1 = -1 ∧ hI σ (14 + s) 2 = 0 ∧ hI σ (14 + s) 3 = -1) ∨ (∃ t len, t ≤ 3 ∧ len ≤ 160 ∧ hI σ 50 s = 1 ∧ hI σ 51 s = nI t ∧ hI σ 52 s = nI len ∧ hI σ (14 + s) 1 = nI t ∧ hI σ (14 + s) 2 = nI len ∧ hI σ (14 + s) 3 = -1 ∧ ∀ i, i < len → hJ σ (22 + s) i = hJ σ 54 (160 * s + i)) ∨ (∃ l, l < n ∧ hI σ 50 s = 2 ∧ hI σ 53 s = nI l ∧ hI σ (14 + s) 1 = -1 ∧ hI σ (14 + s) 2 = 0 ∧ hI σ (14 + s) 3 = nI l)
def ImR (σ : Hp) : Prop := (hI σ 0 3 = 0 ∧ hI σ 40 37 = 0) ∨ (hI σ 0 3 = 1 ∧ hI σ 40 37 = 1 ∧ ∃ B, okA B ∧ StX σ 3 B ∧ StK σ 64 66 B)
def RfR (σ : Hp) : Prop := ∀ i, i < 7 → hI σ 30 i = hI σ 45 (i + 1)
def TrR (σ : Hp) : Prop := ∃ r, r ≤ 20 ∧ hI σ 32 0 = nI r ∧ hI σ 40 36 = nI r ∧ ∀ i, i < r → hI σ 32 (i + 1) = hI σ 75 i
def okH (σ : Hp) : Prop := okRefs σ = true ∧ ∀ j, j < hN σ → isLaw σ j = true
theorem okH_eq {σ τ : Hp} (f1 : hR τ = hR σ) (f2 : hC τ = hC σ) (f3 : hN τ = hN σ) (h : okH σ) : okH τ := by
  obtain ⟨h1, h2⟩ := h
  refine ⟨?_, fun j hj => ?_⟩
  · unfold okRefs at *
    rw [f1, f3]
    exact h1
  · rw [f3] at hj
    have := h2 j hj
    unfold isLaw at *
    rw [f2, f3]
    exact this
def InA (σ : Hp) (A : AbS) : Prop := okA A ∧ StX σ 1 A ∧ StM σ A ∧ ImR σ ∧ (∀ s, s < 8 → ShR σ (aN A) s) ∧ okH σ ∧ hI σ 0 7 = hI σ 40 4 ∧ TrR σ ∧ ∀ i, hI σ 56 i = wordsF i
def Inv (σ : Hp) : Prop := ∃ A, InA σ A ∧ RfR σ
theorem StX_Fr {σ τ : Hp} {k : Nat} {A : AbS} (hf : Fr σ τ) (hk : 1 ≤ k ∧ k ≤ 3) (h : StX σ k A) : StX τ k A := by
  obtain ⟨f1, f2, f3, f4, f5, f6⟩ := hf
  obtain ⟨h1, h2, h3, h4, h5, h6, h7⟩ := h
  have e1 : hI τ k = hI σ k := f4 _ (by unfold scI; simp; omega) (by omega)
  have e2 : hI τ (k + 6) = hI σ (k + 6) := f4 _ (by unfold scI; simp; omega) (by omega)
  have e3 : hJ τ (k + 9) = hJ σ (k + 9) := f6 _ (by unfold scJ; simp; omega)
  refine ⟨by rw [e1]; exact h1, by rw [e1]; exact h2, by rw [e1]; exact h3, by rw [e1]; exact h4, fun i hi => ?_, by rw [e2]; exact h6, by rw [e3]; exact h7⟩
  obtain ⟨j, g1, g2, g3, g4, g5⟩ := h5 i hi
  have e4 : hI τ (100 + j) = hI σ (100 + j) := f4 _ (by unfold scI; simp; omega) (by omega)
  refine ⟨j, by rw [f1]; exact g1, ?_, by rw [f2]; exact g3, by rw [e4]; exact g4, by rw [e4]; exact g5⟩
  unfold isLaw at g2 ⊢
  rw [f2, f3]
  exact g2
theorem StM_Fr {σ τ : Hp} {A : AbS} (hf : Fr σ τ) (h : StM σ A) : StM τ A := by
  obtain ⟨f1, f2, f3, f4, f5, f6⟩ := hf
  unfold StM at *
  rw [f5 0 rfl, f5 1 rfl, f5 2 rfl, f5 3 rfl, f4 46 rfl (by decide), f4 47 rfl (by decide), f4 48 rfl (by decide), f6 49 rfl]
  exact h
theorem InA_Fr {σ τ : Hp} {A : AbS} (hf : Fr σ τ) (h : InA σ A) : InA τ A := by
  obtain ⟨h1, h2, h3, h4, h5, h6, h7, h8, h9⟩ := h
  have hf2 := hf
  obtain ⟨f1, f2, f3, f4, f5, f6⟩ := hf2
  refine ⟨h1, StX_Fr hf (by omega) h2, StM_Fr hf h3, ?_, fun s hs => ?_, ?_, ?_, ?_, ?_⟩
  · unfold ImR at *
    rw [f4 0 rfl (by decide), f5 37 rfl]
    refine h4.imp id (fun ⟨a1, a2, B, b1, b2, b3⟩ => ⟨a1, a2, B, b1, StX_Fr hf (by omega) b2, ?_⟩)
    unfold StK at *
    rw [f4 64 rfl (by decide), f6 66 rfl]
    exact b3
  · have := h5 s hs
    unfold ShR at *
    rw [f4 50 rfl (by decide), f4 51 rfl (by decide), f4 52 rfl (by decide), f4 53 rfl (by decide), f4 (14 + s) (by unfold scI; simp; omega) (by omega), f6 (22 + s) (by unfold scJ; simp; omega), f6 54 rfl]
    exact this
  · exact okH_eq f1 f2 f3 h6
  · rw [f4 0 rfl (by decide), f5 4 rfl]; exact h7
  · unfold TrR at *
    rw [f4 32 rfl (by decide), f5 36 rfl, f4 75 rfl (by decide)]
    exact h8
  · rw [f4 56 rfl (by decide)]; exact h9
theorem law_X {σ : Hp} {k : Nat} {A : AbS} (hk : 1 ≤ k ∧ k ≤ 3) (hA : okA A) (h : StX σ k A) {i : Nat} (hi : i < aN A) : ∃ j, f_X7_lawAt k (nI i) σ = some (some j, σ) ∧ lawX σ j k (aK A i) (aA A i) i (aB A) (aW A i) := by
  obtain ⟨h1, h2, h3, h4, h5, h6, h7⟩ := h
  obtain ⟨a1, a2, a3, a4, a5, a6, a7, a8, a9⟩ := hA
  obtain ⟨j, g1, g2, g3, g4, g5⟩ := h5 i hi
  refine ⟨j, ?_, g2, g3, g4, g5, h1, fun f hf => h6 i f (by omega) hf, a5 i, a6 i, by omega, a2, a3, fun f _ => a7 i f⟩
  unfold f_X7_lawAt
  rw [if_neg (by rw [show (0 : Int32) = nI 0 from rfl, nI_ltI (by omega) (by omega)]; omega), h3, if_neg (by rw [nI_leI (by omega) (by omega)]; omega), if_neg (by rw [show (6 : Int32) = nI 6 from rfl, nI_leI (by omega) (by omega)]; omega), ck_pos (inb_nI (by omega) (by omega)), nI_clamp (by omega), g1]
theorem law_M {σ : Hp} {A : AbS} (hA : okA A) (h : StM σ A) {i : Nat} (hi : i < aN A) : lawM σ i (aK A i) (aA A i) (aB A) (aW A i) := by
  obtain ⟨h1, h2, h3, h4, h5, h6, h7⟩ := h
  obtain ⟨a1, a2, a3, a4, a5, a6, a7, a8, a9⟩ := hA
  exact ⟨(h5 i hi).1, (h5 i hi).2, h3, fun f hf => h6 i f hi hf, a5 i, a6 i, by omega, a2, a3, fun f _ => a7 i f⟩
theorem nI_cs (v : Int32) (h : ¬ v < 0) : ∃ i, i < 2 ^ 31 ∧ v = nI i := by
  have h1 := v.toInt_lt
  have h2 : 0 ≤ v.toInt := by
    rw [Int32.lt_iff_toInt_lt] at h
    have : (0 : Int32).toInt = 0 := rfl
    omega
  refine ⟨v.toInt.toNat, by omega, ?_⟩
  apply Int32.toInt_inj.mp
  rw [nI_toInt (by omega)]
  omega
/-- a place of a law, or of none -/
theorem law_cs {A : AbS} (hA : okA A) (l : Int32) : (∃ i, i < aN A ∧ l = nI i) ∨ ∀ σ k, (1 ≤ k ∧ k ≤ 3) → StX σ k A → f_X7_lawAt k l σ = some (none, σ) := by
  by_cases h0 : l < 0
  · refine Or.inr (fun σ k hk h => ?_)
    unfold f_X7_lawAt
    rw [if_pos h0]
  · obtain ⟨i, hi, rfl⟩ := nI_cs l h0
    by_cases hn : i < aN A
    · exact Or.inl ⟨i, hn, rfl⟩
    · refine Or.inr (fun σ k hk h => ?_)
      have hA1 := hA.1
      unfold f_X7_lawAt
      rw [if_neg h0, h.2.2.1, if_pos (by rw [nI_leI (by omega) (by omega)]; omega)]
theorem m_isLaw {σ : Hp} {A : AbS} (hA : okA A) (h : StM σ A) {i : Nat} (hi : i < aN A) : f_X12_isLaw (nI i) σ = some (1, σ) := by
  have hA1 := hA.1
  unfold f_X12_isLaw
  rw [if_neg (by rw [show (0 : Int32) = nI 0 from rfl, nI_ltI (by omega) (by omega)]; omega), h.1, if_neg (by rw [nI_leI (by omega) (by omega)]; omega)]
theorem law_cs2 {A : AbS} (hA : okA A) (l : Int32) : (∃ i, i < aN A ∧ l = nI i) ∨ ((∀ σ k, (1 ≤ k ∧ k ≤ 3) → StX σ k A → f_X7_lawAt k l σ = some (none, σ)) ∧ ∀ σ, StM σ A → f_X12_isLaw l σ = some (0, σ)) := by
  have hA1 := hA.1
  rcases law_cs hA l with h | h
  · exact Or.inl h
  · by_cases h0 : l < 0
    · refine Or.inr ⟨h, fun σ hs => ?_⟩
      unfold f_X12_isLaw
      rw [if_pos h0]
    · obtain ⟨i, hi, rfl⟩ := nI_cs l h0
      by_cases hn : i < aN A
      · exact Or.inl ⟨i, hn, rfl⟩
      · refine Or.inr ⟨h, fun σ hs => ?_⟩
        unfold f_X12_isLaw
        rw [if_neg h0, hs.1, if_pos (by rw [nI_leI (by omega) (by omega)]; omega)]
theorem lN_cs (v : Int64) (h : 0 ≤ v.toInt) : v = lN v.toInt.toNat ∧ v.toInt.toNat < 2 ^ 63 := by
  have h1 := v.toInt_lt
  refine ⟨?_, by omega⟩
  apply Int64.toInt_inj.mp
  rw [pk_lT (by omega)]
  omega
/-- a number, or none -/
theorem num_cs (v : Int64) : (∃ n, n ≤ 999999999999999 ∧ v = lN n ∧ (∀ σ, f_X11_isNumber v σ = some (1, σ)) ∧ ∀ σ, f_X12_isNumber v σ = some (1, σ)) ∨ ((∀ σ, f_X11_isNumber v σ = some (0, σ)) ∧ ∀ σ, f_X12_isNumber v σ = some (0, σ)) := by
  by_cases h : lg_cmp v 0 < 0
  · refine Or.inr ⟨fun σ => ?_, fun σ => ?_⟩
    · unfold f_X11_isNumber; rw [if_pos h]
    · unfold f_X12_isNumber; rw [if_pos h]
  · have h0 : 0 ≤ v.toInt := by
      refine Classical.byContradiction (fun c => h ?_)
      unfold lg_cmp
      have e0 : (0 : Int64).toInt = 0 := rfl
      rw [if_neg (by intro g; have := Int64.lt_iff_toInt_lt.mp g; omega), if_neg (by intro g; have := congrArg Int64.toInt g; omega)]
      decide
    obtain ⟨e, hl⟩ := lN_cs v h0
    by_cases h2 : 0 < lg_cmp v 999999999999999
    · refine Or.inr ⟨fun σ => ?_, fun σ => ?_⟩
      · unfold f_X11_isNumber; rw [if_neg h, if_pos h2]
      · unfold f_X12_isNumber; rw [if_neg h, if_pos h2]
    · refine Or.inl ⟨_, ?_, e, fun σ => ?_, fun σ => ?_⟩
      · rw [e, show (999999999999999 : Int64) = lN 999999999999999 from rfl, lc_GT hl (by omega)] at h2
        omega
      · unfold f_X11_isNumber; rw [if_neg h, if_neg h2]
      · unfold f_X12_isNumber; rw [if_neg h, if_neg h2]
/-- a row of a call that changes nothing that lasts -/
theorem op_ro {α : Type} {fx fm : Hp → Option (α × Hp)} {σ : Hp} (hv : Inv σ) (h : ∀ A, InA σ A → ∃ v c, (∀ k, c = some k → k < 7) ∧ (∃ b, fx σ = some b ∧ anX σ v c b) ∧ ∀ τ, Fr σ τ → InA τ A → ∃ b, fm τ = some b ∧ anM τ v c b) : ∃ r σ1 σ2, fx σ = some (r, σ1) ∧ fm σ1 = some (r, σ2) ∧ Inv σ2 := by
  obtain ⟨A, hA, hr⟩ := hv
  obtain ⟨v, c, hc, ⟨b1, x1, x2, x3, x4, x5⟩, hm⟩ := h A hA
  obtain ⟨b2, m1, m2, m3, m4, m5⟩ := hm b1.2 x3 (InA_Fr x3 hA)
  refine ⟨v, b1.2, b2.2, by rw [x1, ← x2], by rw [m1, ← m2], A, InA_Fr (Fr_trans x3 m3) hA, fun i hi => ?_⟩
  rw [m4, m5, x4, x5]
  have h0 := hr i hi
  cases c with
  | none => exact h0
  | some k =>
    show va_up (hI σ 30) k (hI σ 30 k + 1) i = va_up (hI σ 45) (k + 1) (hI σ 45 (k + 1) + 1) (i + 1)
    have hk := hc k rfl
    by_cases e : i = k
    · subst e; rw [up_eq, up_eq, h0]
    · rw [up_ne _ _ e, up_ne _ _ (by omega), h0]
theorem m_ref {c : Int32} {k : Nat} (hc : -c = nI (k + 1)) (hk : k < 7) (τ : Hp) : f_X12_no c τ = some (c, sI τ 45 (k + 1) (hI τ 45 (k + 1) + 1)) := by
  unfold f_X12_no
  rw [hc, ck_pos (inb_nI (by omega) (by omega)), nI_clamp (by omega)]
theorem m_refT {c : Int32} {k : Nat} (hc : -c = nI (k + 1)) (hk : k < 7) (τ : Hp) : f_X12_noTen c τ = some (c - 10, sI τ 45 (k + 1) (hI τ 45 (k + 1) + 1)) := by
  unfold f_X12_noTen
  rw [hc, ck_pos (inb_nI (by omega) (by omega)), nI_clamp (by omega)]
