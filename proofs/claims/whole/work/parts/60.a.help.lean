/-! rows: what each needs -/
def opG {α : Type} (fx fm : Hp → Option (α × Hp)) (σ : Hp) (A : AbS) : Prop := ∃ v c, (∀ k, c = some k → k < 7) ∧ (∃ b, fx σ = some b ∧ anX σ v c b) ∧ ∀ τ, Fr σ τ → InA τ A → ∃ b, fm τ = some b ∧ anM τ v c b
theorem op_no {α : Type} {fx fm : Hp → Option (α × Hp)} {σ : Hp} {A : AbS} {v : α} {k : Nat} (hk : k < 7) (hx : fx σ = some (v, sI σ 30 k (hI σ 30 k + 1))) (hm : ∀ τ, InA τ A → fm τ = some (v, sI τ 45 (k + 1) (hI τ 45 (k + 1) + 1))) : opG fx fm σ A :=
  ⟨v, some k, (fun k2 e => by cases e; exact hk), ⟨_, hx, anX_s (Fs_refl σ)⟩, fun τ _ hτ => ⟨_, hm τ hτ, anM_s (Fs_refl τ)⟩⟩
theorem op_an {α : Type} {fx fm : Hp → Option (α × Hp)} {σ τx : Hp} {A : AbS} {v : α} (hf : Fs σ τx) (hx : fx σ = some (v, τx)) (hm : ∀ τ, InA τ A → ∃ υ, fm τ = some (v, υ) ∧ Fs τ υ) : opG fx fm σ A :=
  ⟨v, none, (fun k2 e => by cases e), ⟨_, hx, anX_n hf⟩, fun τ _ hτ => by
    obtain ⟨υ, h1, h2⟩ := hm τ hτ
    exact ⟨_, h1, anM_n h2⟩⟩
theorem op_vc {α : Type} {fx fm : Hp → Option (α × Hp)} {σ : Hp} {A : AbS} {v : α} {c : Option Nat} (hc : ∀ k, c = some k → k < 7) (hx : ∃ b, fx σ = some b ∧ anX σ v c b) (hm : ∀ τ, InA τ A → ∃ b, fm τ = some b ∧ anM τ v c b) : opG fx fm σ A := ⟨v, c, hc, hx, fun τ _ hτ => hm τ hτ⟩
theorem op_go {α : Type} {fx fm : Hp → Option (α × Hp)} {σ : Hp} (hv : Inv σ) (h : ∀ A, InA σ A → opG fx fm σ A) : ∃ r σ1 σ2, fx σ = some (r, σ1) ∧ fm σ1 = some (r, σ2) ∧ Inv σ2 := op_ro hv h
theorem x_r1 (τ : Hp) : f_X11_refuse (-1) τ = some (-1, sI τ 30 0 (hI τ 30 0 + 1)) := x_ref (k := 0) rfl (by omega) τ
theorem x_r2 (τ : Hp) : f_X11_refuse (-2) τ = some (-2, sI τ 30 1 (hI τ 30 1 + 1)) := x_ref (k := 1) rfl (by omega) τ
theorem x_r3 (τ : Hp) : f_X11_refuse (-3) τ = some (-3, sI τ 30 2 (hI τ 30 2 + 1)) := x_ref (k := 2) rfl (by omega) τ
theorem x_r4 (τ : Hp) : f_X11_refuse (-4) τ = some (-4, sI τ 30 3 (hI τ 30 3 + 1)) := x_ref (k := 3) rfl (by omega) τ
theorem x_r5 (τ : Hp) : f_X11_refuse (-5) τ = some (-5, sI τ 30 4 (hI τ 30 4 + 1)) := x_ref (k := 4) rfl (by omega) τ
theorem x_r6 (τ : Hp) : f_X11_refuse (-6) τ = some (-6, sI τ 30 5 (hI τ 30 5 + 1)) := x_ref (k := 5) rfl (by omega) τ
theorem x_r7 (τ : Hp) : f_X11_refuse (-7) τ = some (-7, sI τ 30 6 (hI τ 30 6 + 1)) := x_ref (k := 6) rfl (by omega) τ
theorem m_r1 (τ : Hp) : f_X12_no (-1) τ = some (-1, sI τ 45 1 (hI τ 45 1 + 1)) := m_ref (k := 0) rfl (by omega) τ
theorem m_r2 (τ : Hp) : f_X12_no (-2) τ = some (-2, sI τ 45 2 (hI τ 45 2 + 1)) := m_ref (k := 1) rfl (by omega) τ
theorem m_r3 (τ : Hp) : f_X12_no (-3) τ = some (-3, sI τ 45 3 (hI τ 45 3 + 1)) := m_ref (k := 2) rfl (by omega) τ
theorem m_r4 (τ : Hp) : f_X12_no (-4) τ = some (-4, sI τ 45 4 (hI τ 45 4 + 1)) := m_ref (k := 3) rfl (by omega) τ
theorem m_r5 (τ : Hp) : f_X12_no (-5) τ = some (-5, sI τ 45 5 (hI τ 45 5 + 1)) := m_ref (k := 4) rfl (by omega) τ
theorem m_r6 (τ : Hp) : f_X12_no (-6) τ = some (-6, sI τ 45 6 (hI τ 45 6 + 1)) := m_ref (k := 5) rfl (by omega) τ
theorem m_r7 (τ : Hp) : f_X12_no (-7) τ = some (-7, sI τ 45 7 (hI τ 45 7 + 1)) := m_ref (k := 6) rfl (by omega) τ
theorem m_t1 (τ : Hp) : f_X12_noTen (-1) τ = some (-1 - 10, sI τ 45 1 (hI τ 45 1 + 1)) := m_refT (k := 0) rfl (by omega) τ
theorem m_t6 (τ : Hp) : f_X12_noTen (-6) τ = some (-6 - 10, sI τ 45 6 (hI τ 45 6 + 1)) := m_refT (k := 5) rfl (by omega) τ
/-- an int that is in a range, or is not -/
theorem int_cs (v : Int32) : v < 0 ∨ ∃ i, i < 2 ^ 31 ∧ v = nI i := by
  by_cases h : v < 0
  · exact Or.inl h
  · exact Or.inr (nI_cs v h)
theorem nI_0le {i : Nat} (h : i < 2 ^ 31) : ¬ nI i < 0 := by rw [show (0 : Int32) = nI 0 from rfl, nI_ltI (by omega) (by omega)]; omega
theorem nI_ge0 {i : Nat} (h : i < 2 ^ 31) : (0 : Int32) ≤ nI i := by rw [show (0 : Int32) = nI 0 from rfl, nI_leI (by omega) (by omega)]; omega
