/-! a loop that counts, and what a call may leave changed -/
def lpE {S T : Type} (g : Nat → S → S ⊕ T) : Nat → Nat → S → S ⊕ T
  | 0, _, s => .inl s
  | k + 1, i, s => match g i s with
    | .inl s2 => lpE g k (i + 1) s2
    | .inr t => .inr t
def goR {α β S T : Type} (R : S → α → Prop) (Q : T → β → Prop) (o : Option (α ⊕ β)) (z : S ⊕ T) : Prop := match z with
  | .inl s => ∃ a, o = some (.inl a) ∧ R s a
  | .inr t => ∃ b, o = some (.inr b) ∧ Q t b
def lpO {S T U : Type} (o1 : S → U) (o2 : T → U) : S ⊕ T → U
  | .inl s => o1 s
  | .inr t => o2 t
theorem iter_lp {α β S T U : Type} {step : α → Option (α ⊕ β)} {g : Nat → S → S ⊕ T} {R : Nat → S → α → Prop} {Q : U → β → Prop} {n : Nat} {o1 : S → U} {o2 : T → U} (h1 : ∀ i s a, i < n → R i s a → goR (R (i + 1)) (fun t => Q (o2 t)) (step a) (g i s)) (h2 : ∀ s a, R n s a → ∃ b, step a = some (.inr b) ∧ Q (o1 s) b) : ∀ (k i fu : Nat) (s : S) (a : α), i + k = n → k < fu → R i s a → ∃ b, iter step fu a = some b ∧ Q (lpO o1 o2 (lpE g k i s)) b
  | k, i, 0, s, a, _, hf, _ => by omega
  | 0, i, fu + 1, s, a, hi, hf, hR => by
    have e : i = n := by omega
    subst e
    obtain ⟨b, e1, e2⟩ := h2 s a hR
    exact ⟨b, iter_inr e1, e2⟩
  | k + 1, i, fu + 1, s, a, hi, hf, hR => by
    have hs := h1 i s a (by omega) hR
    unfold lpE
    cases hg : g i s with
    | inl s2 =>
      rw [hg] at hs
      obtain ⟨a2, e1, e2⟩ := hs
      obtain ⟨b, e3, e4⟩ := iter_lp h1 h2 k (i + 1) fu s2 a2 (by omega) (by omega) e2
      exact ⟨b, (iter_inl e1).trans e3, e4⟩
    | inr t =>
      rw [hg] at hs
      obtain ⟨b, e1, e2⟩ := hs
      exact ⟨b, iter_inr e1, e2⟩
def scI (k : Nat) : Bool := k == 30 || k == 45 || k == 57 || k == 63 || k == 67 || k == 73
def scF (i : Nat) : Bool := i == 18 || i == 19 || i == 20 || i == 21 || i == 22 || i == 31 || i == 32
def scJ (k : Nat) : Bool := k == 33 || k == 34 || k == 35 || k == 36 || k == 40 || k == 55 || k == 65 || k == 69 || k == 70 || k == 74
def Fr (σ τ : Hp) : Prop := hR τ = hR σ ∧ hC τ = hC σ ∧ hN τ = hN σ ∧ (∀ k, scI k = false → ¬ k = 40 → hI τ k = hI σ k) ∧ (∀ i, scF i = false → hI τ 40 i = hI σ 40 i) ∧ ∀ k, scJ k = false → hJ τ k = hJ σ k
theorem Fr_refl (σ : Hp) : Fr σ σ := ⟨rfl, rfl, rfl, fun _ _ _ => rfl, fun _ _ => rfl, fun _ _ => rfl⟩
theorem Fr_trans {σ τ υ : Hp} (h1 : Fr σ τ) (h2 : Fr τ υ) : Fr σ υ :=
  ⟨h2.1.trans h1.1, h2.2.1.trans h1.2.1, h2.2.2.1.trans h1.2.2.1, fun k a b => (h2.2.2.2.1 k a b).trans (h1.2.2.2.1 k a b), fun i a => (h2.2.2.2.2.1 i a).trans (h1.2.2.2.2.1 i a), fun k a => (h2.2.2.2.2.2 k a).trans (h1.2.2.2.2.2 k a)⟩
theorem Fr_I {σ τ : Hp} (h : Fr σ τ) {k : Nat} (hk : scI k = true) (F : Nat → Int32) : Fr σ (rowI τ k F) := by
  refine Fr_trans h ⟨rfl, rfl, rfl, fun j a _ => ?_, fun i _ => ?_, fun _ _ => rfl⟩
  · rw [hI_rowI_n]
    intro e; subst e; rw [hk] at a; cases a
  · rw [hI_rowI_n]
    intro e; subst e; cases hk
theorem Fr_40 {σ τ : Hp} (h : Fr σ τ) {G : Nat → Int32} (hG : ∀ i, scF i = false → G i = hI τ 40 i) : Fr σ (rowI τ 40 G) := by
  refine Fr_trans h ⟨rfl, rfl, rfl, fun j _ a => ?_, fun i a => ?_, fun _ _ => rfl⟩
  · rw [hI_rowI_n _ _ a]
  · rw [hI_rowI_k]; exact hG i a
theorem Fr_J {σ τ : Hp} (h : Fr σ τ) {k : Nat} (hk : scJ k = true) (F : Nat → Int64) : Fr σ (rowJ τ k F) := by
  refine Fr_trans h ⟨rfl, rfl, rfl, fun _ _ _ => rfl, fun _ _ => rfl, fun j a => ?_⟩
  rw [hJ_rowJ_n]
  intro e; subst e; rw [hk] at a; cases a
theorem lawX_Fr {σ τ : Hp} {j k kd a pl b : Nat} {w : Nat → Nat} (hf : Fr σ τ) (h : lawX σ j k kd a pl b w) (hk : 1 ≤ k ∧ k ≤ 3) : lawX τ j k kd a pl b w := by
  obtain ⟨f1, f2, f3, f4, f5, f6⟩ := hf
  obtain ⟨h1, h2, h3, h4, h5, h6, h7⟩ := h
  have e1 : hI τ (100 + j) = hI σ (100 + j) := f4 _ (by unfold scI; simp; omega) (by omega)
  have e2 : hI τ k = hI σ k := f4 _ (by unfold scI; simp; omega) (by omega)
  have e3 : hI τ (k + 6) = hI σ (k + 6) := f4 _ (by unfold scI; simp; omega) (by omega)
  refine ⟨?_, by rw [f2]; exact h2, by rw [e1]; exact h3, by rw [e1]; exact h4, by rw [e2]; exact h5, by rw [e3]; exact h6, h7⟩
  unfold isLaw at h1 ⊢
  rw [f2, f3]
  exact h1
theorem lawM_Fr {σ τ : Hp} {l kd a b : Nat} {w : Nat → Nat} (hf : Fr σ τ) (h : lawM σ l kd a b w) : lawM τ l kd a b w := by
  obtain ⟨f1, f2, f3, f4, f5, f6⟩ := hf
  obtain ⟨h1, h2, h3, h4, h7⟩ := h
  exact ⟨by rw [f4 46 (by decide) (by decide)]; exact h1, by rw [f4 47 (by decide) (by decide)]; exact h2, by rw [f5 2 (by decide)]; exact h3, by rw [f4 48 (by decide) (by decide)]; exact h4, h7⟩
theorem m_next2 {σ : Hp} {l kd a b n : Nat} {w : Nat → Nat} (h : lawM σ l kd a b w) (hn : n ≤ 999999999999999) : ∃ F : Nat → Int32, f_X12_nextOf (nI l) (lN n) σ = some (oL (nxO kd a b w n), rowI σ 67 F) := by
  obtain ⟨F, g⟩ := m_nextOf h hn
  exact ⟨F, by rw [g, oL_nx]⟩
theorem x_on2 {σ : Hp} {j k kd a pl b n : Nat} {w : Nat → Nat} (h : lawX σ j k kd a pl b w) (hn : n ≤ 999999999999999) : v_onward j (lN n) k σ = some (oL (nxO kd a b w n), σ) := by
  rw [x_onward h hn, oL_nx]
def Fs (σ τ : Hp) : Prop := Fr σ τ ∧ hI τ 30 = hI σ 30 ∧ hI τ 45 = hI σ 45
theorem Fs_refl (σ : Hp) : Fs σ σ := ⟨Fr_refl σ, rfl, rfl⟩
theorem Fs_trans {σ τ υ : Hp} (h1 : Fs σ τ) (h2 : Fs τ υ) : Fs σ υ := ⟨Fr_trans h1.1 h2.1, h2.2.1.trans h1.2.1, h2.2.2.trans h1.2.2⟩
theorem Fs_I {σ τ : Hp} (h : Fs σ τ) {k : Nat} (hk : scI k = true) (h1 : ¬ k = 30) (h2 : ¬ k = 45) (F : Nat → Int32) : Fs σ (rowI τ k F) :=
  ⟨Fr_I h.1 hk F, by rw [hI_rowI_n _ _ (fun e => h1 e.symm)]; exact h.2.1, by rw [hI_rowI_n _ _ (fun e => h2 e.symm)]; exact h.2.2⟩
theorem Fs_40 {σ τ : Hp} (h : Fs σ τ) {G : Nat → Int32} (hG : ∀ i, scF i = false → G i = hI τ 40 i) : Fs σ (rowI τ 40 G) :=
  ⟨Fr_40 h.1 hG, by rw [hI_rowI_n _ _ (by decide)]; exact h.2.1, by rw [hI_rowI_n _ _ (by decide)]; exact h.2.2⟩
theorem Fs_J {σ τ : Hp} (h : Fs σ τ) {k : Nat} (hk : scJ k = true) (F : Nat → Int64) : Fs σ (rowJ τ k F) := ⟨Fr_J h.1 hk F, h.2.1, h.2.2⟩
theorem Fs_67 {σ τ : Hp} (h : Fs σ τ) (F : Nat → Int32) : Fs σ (rowI τ 67 F) := Fs_I h rfl (by decide) (by decide) F
def anX {α : Type} (σ : Hp) (v : α) (c : Option Nat) (b : α × Hp) : Prop := b.1 = v ∧ Fr σ b.2 ∧ hI b.2 45 = hI σ 45 ∧ hI b.2 30 = (match c with | none => hI σ 30 | some k => va_up (hI σ 30) k (hI σ 30 k + 1))
def anM {α : Type} (σ : Hp) (v : α) (c : Option Nat) (b : α × Hp) : Prop := b.1 = v ∧ Fr σ b.2 ∧ hI b.2 30 = hI σ 30 ∧ hI b.2 45 = (match c with | none => hI σ 45 | some k => va_up (hI σ 45) (k + 1) (hI σ 45 (k + 1) + 1))
theorem anX_n {α : Type} {σ τ : Hp} {v : α} (h : Fs σ τ) : anX σ v none (v, τ) := ⟨rfl, h.1, h.2.2, h.2.1⟩
theorem anM_n {α : Type} {σ τ : Hp} {v : α} (h : Fs σ τ) : anM σ v none (v, τ) := ⟨rfl, h.1, h.2.1, h.2.2⟩
theorem anX_s {α : Type} {σ τ : Hp} {v : α} {k : Nat} (h : Fs σ τ) : anX σ v (some k) (v, sI τ 30 k (hI τ 30 k + 1)) := by
  refine ⟨rfl, Fr_I h.1 rfl _, ?_, ?_⟩
  · unfold sI; rw [hI_rowI_n _ _ (by decide)]; exact h.2.2
  · unfold sI; rw [hI_rowI_k, h.2.1]
theorem anM_s {α : Type} {σ τ : Hp} {v : α} {k : Nat} (h : Fs σ τ) : anM σ v (some k) (v, sI τ 45 (k + 1) (hI τ 45 (k + 1) + 1)) := by
  refine ⟨rfl, Fr_I h.1 rfl _, ?_, ?_⟩
  · unfold sI; rw [hI_rowI_n _ _ (by decide)]; exact h.2.1
  · unfold sI; rw [hI_rowI_k, h.2.2]
theorem x_ref {c : Int32} {k : Nat} (hc : (-c) - 1 = nI k) (hk : k < 7) (τ : Hp) : f_X11_refuse c τ = some (c, sI τ 30 k (hI τ 30 k + 1)) := by
  unfold f_X11_refuse
  rw [hc, if_neg (by rw [show (0 : Int32) = nI 0 from rfl, nI_ltI (by omega) (by omega)]; omega), if_neg (by rw [show (7 : Int32) = nI 7 from rfl, nI_leI (by omega) (by omega)]; omega), ck_pos (inb_nI (by omega) (by omega)), nI_clamp (by omega)]
theorem iter_ex {α β : Type} {step : α → Option (α ⊕ β)} {k : Nat} {a : α} {y : Option β} (h : step a = ex y) : iter step (k + 1) a = y := by
  cases y with
  | none =>
    show (match step a with | none => none | some (.inl a') => iter step k a' | some (.inr b) => some b) = none
    rw [h]
    rfl
  | some b => exact iter_inr h
theorem nI_sub2 {m n : Nat} (h1 : m < 2 ^ 31) (h2 : n ≤ m) : nI m - nI n = nI (m - n) := pk_sub h2
theorem lc_E {x y : Int64} : lg_cmp x y = 0 ↔ x = y := by
  unfold lg_cmp
  by_cases h : x > y
  · rw [if_pos h]
    refine ⟨fun c => absurd c (by decide), fun c => ?_⟩
    subst c
    exact absurd (Int64.lt_iff_toInt_lt.mp h) (by omega)
  · rw [if_neg h]
    by_cases e : x = y
    · rw [if_pos e]; exact ⟨fun _ => e, fun _ => rfl⟩
    · rw [if_neg e]; exact ⟨fun c => absurd c (by decide), fun c => absurd c e⟩
theorem lpE_congr {S T : Type} {g g2 : Nat → S → S ⊕ T} {n : Nat} (h : ∀ i s, i < n → g i s = g2 i s) : ∀ (k i : Nat) (s : S), i + k ≤ n → lpE g k i s = lpE g2 k i s
  | 0, i, s, _ => rfl
  | k + 1, i, s, hk => by
    unfold lpE
    rw [h i s (by omega)]
    cases g2 i s with
    | inl s2 => exact lpE_congr h k (i + 1) s2 (by omega)
    | inr t => rfl
