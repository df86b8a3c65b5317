/-! texts: what is read, and how the class reads it -/
def wdL : Nat → List Int32
  | 0 => [98, 97, 115, 101]
  | 1 => [108, 97, 119]
  | 2 => [118, 97, 108, 117, 101]
  | 3 => [119, 114, 105, 116, 101]
  | _ => [103, 111]
def mwF (L : Nat → Int32) : List Int32 → Nat → Nat
  | [], _ => 0
  | c :: w, p => if L p = c then mwF L w (p + 1) + 1 else 0
def wdS (L : Nat → Int32) (w : List Int32) (p : Nat) : Nat ⊕ Nat := if mwF L w p = w.length then .inr (p + w.length) else .inl (p + mwF L w p)
def bdS {α β : Type} (x : Nat ⊕ α) (f : α → Nat ⊕ β) : Nat ⊕ β := match x with
  | .inl q => .inl q
  | .inr a => f a
def digB (c : Int32) : Bool := !(decide (c < 48)) && !(decide (57 < c))
def dgT (L : Nat → Int32) : Nat → Nat → Nat → Nat × Nat
  | 0, p, v => (p, v)
  | k + 1, p, v => if digB (L p) = true then dgT L k (p + 1) (10 * v + ((L p).toNatClampNeg - 48)) else (p, v)
def arS (L : Nat → Int32) (P : Nat → Bool) (q : Nat) : Nat ⊕ (Nat × Nat) := if L q = 32 then (if (dgT L 6 (q + 1) 0).1 = q + 1 ∨ P (dgT L 6 (q + 1) 0).2 = false then .inl (q + 1) else .inr (dgT L 6 (q + 1) 0)) else .inl q
def itS (L : Nat → Int32) (A : AbS) (p : Nat) : Nat ⊕ (Nat × AbS) :=
  if L p = 98 then bdS (wdS L (wdL 0) p) (fun q => bdS (arS L (fun v => decide (2 ≤ v ∧ v ≤ 10)) q) (fun z => .inr (z.1, setB A z.2)))
  else if L p = 103 then bdS (wdS L (wdL 4) p) (fun q => if aM A = 0 ∨ aM A = 20 then .inl p else bdS (arS L (fun v => decide (v < aN A)) q) (fun z => match goA A z.2 with | some B => .inr (z.1, B) | none => .inl p))
  else if L p = 108 then bdS (wdS L (wdL 1) p) (fun q => if aN A = 6 then .inl p else bdS (arS L (fun v => decide (v ≤ 6)) q) (fun z => bdS (arS L (fun v => decide (v ≤ 9)) z.1) (fun y => .inr (y.1, addA A z.2 y.2))))
  else if L p = 118 then bdS (wdS L (wdL 2) p) (fun q => bdS (arS L (fun v => decide (v < aN A ∧ aK A v = 5)) q) (fun z => bdS (arS L (fun v => decide (v ≤ 9)) z.1) (fun y => bdS (arS L (fun v => decide (v ≤ 999)) y.1) (fun x => .inr (x.1, setW A z.2 y.2 x.2)))))
  else if L p = 119 then bdS (wdS L (wdL 3) p) (fun q => if aM A = 20 then .inl p else bdS (arS L (fun _ => true) q) (fun z => .inr (z.1, putA A z.2)))
  else .inl p
def FrX (σ τ : Hp) : Prop := FkX 2 σ τ ∧ hR τ 31 = hR σ 31
theorem FrX_refl (σ : Hp) : FrX σ σ := ⟨FkX_refl 2 σ, rfl⟩
theorem FrX_trans {σ τ υ : Hp} (h1 : FrX σ τ) (h2 : FrX τ υ) : FrX σ υ := ⟨FkX_trans h1.1 h2.1, h2.2.trans h1.2⟩
theorem FrX_31 {σ τ : Hp} (h : FrX σ τ) (i : Nat) (v : Int32) : FrX σ (sI τ 31 i v) := ⟨FkX_I (by omega) h.1 (Or.inr (Or.inr rfl)) _, h.2⟩
def CX (L : Nat → Int32) (s len : Nat) (σ : Hp) : Prop := s < 8 ∧ len ≤ 160 ∧ hR σ 31 1 = some (14 + s) ∧ hI σ (14 + s) 2 = nI len ∧ (∀ p, p < len → (hJ σ (22 + s) p).toInt32 = L p) ∧ ∀ p, len ≤ p → L p = 0
theorem CX_f {L : Nat → Int32} {s len : Nat} {σ τ : Hp} (hf : FrX σ τ) (h : CX L s len σ) : CX L s len τ := by
  obtain ⟨h1, h2, h3, h4, h5, h6⟩ := h
  exact ⟨h1, h2, by rw [hf.2]; exact h3, by rw [hf.1.2.2.1 (14 + s) (by omega) (by omega) (by omega) (by omega)]; exact h4, by rw [hf.1.2.2.2.1 (22 + s) (by omega)]; exact h5, h6⟩
theorem x_letter {L : Nat → Int32} {s len p : Nat} {σ : Hp} (h : CX L s len σ) (hp : p < 2 ^ 20) : f_X5_letterAt (14 + s) (nI p) σ = some (L p, σ) := by
  obtain ⟨h1, h2, h3, h4, h5, h6⟩ := h
  unfold f_X5_letterAt f_X5_elementAt
  rw [if_neg (nI_0le (by omega)), h4]
  by_cases c : p < len
  · rw [if_neg (by rw [nI_leI (by omega) (by omega)]; omega), if_neg (by rw [show (160 : Int32) = nI 160 from rfl, nI_leI (by omega) (by omega)]; omega), ck_pos (inb_nI (by omega) (by omega)), nI_clamp (by omega), b2_some, show 14 + s + 8 = 22 + s by omega, h5 p c]
  · rw [if_pos (by rw [nI_leI (by omega) (by omega)]; omega), b2_some, h6 p (by omega)]
    rfl
theorem L_lt {L : Nat → Int32} {s len p : Nat} {σ : Hp} (h : CX L s len σ) (hp : ¬ L p = 0) : p < len := by
  refine Classical.byContradiction (fun c => hp (h.2.2.2.2.2 p (by omega)))
theorem x_sign {L : Nat → Int32} {s len p : Nat} {c : Int32} {σ : Hp} (h : CX L s len σ) (hp : p < 2 ^ 20) (ha : hI σ 31 2 = nI p) : f_X4_readSign c σ = if L p = c then some (1, sI σ 31 2 (nI (p + 1))) else some (0, sI σ 31 5 (nI p)) := by
  unfold f_X4_readSign f_X4_failAt
  rw [h.2.2.1]
  show ck (ky (14 + s) = 6) _ = _
  rw [ck_pos (ky14 h.1), ha, x_letter h hp, b2_some, ha, nI_1]
  by_cases c1 : L p = c
  · rw [if_pos c1, if_pos c1]
  · rw [if_neg c1, if_neg c1, b2_some, ck_pos (by decide)]
/-- the class went on: to a place, a state; or stands at a fault -/
def okX (σ τ : Hp) (p : Nat) (A : AbS) : Prop := FrX σ τ ∧ hI τ 31 2 = nI p ∧ StX τ 2 A ∧ hI τ 31 5 = -1
def flX (σ τ : Hp) (q : Nat) : Prop := FrX σ τ ∧ hI τ 31 5 = nI q
theorem sI_31 (σ : Hp) (i j : Nat) (v : Int32) (h : ¬ j = i) : hI (sI σ 31 i v) 31 j = hI σ 31 j := by unfold sI; rw [hI_rowI_k, up_ne _ _ h]
theorem sI_31k (σ : Hp) (i : Nat) (v : Int32) : hI (sI σ 31 i v) 31 i = v := by unfold sI; rw [hI_rowI_k, up_eq]
theorem StX_31 {σ : Hp} {i : Nat} {v : Int32} {A : AbS} (h : StX σ 2 A) : StX (sI σ 31 i v) 2 A := by
  obtain ⟨h1, h2, h3, h4, h5, h6, h7⟩ := h
  refine ⟨h1, h2, h3, h4, fun l hl => ?_, h6, h7⟩
  obtain ⟨j, g1, g2, g3, g4, g5⟩ := h5 l hl
  exact ⟨j, g1, g2, g3, by unfold sI; rw [hI_rowI_n _ _ (by omega)]; exact g4, by unfold sI; rw [hI_rowI_n _ _ (by omega)]; exact g5⟩
theorem okX_ref {σ : Hp} {p : Nat} {A : AbS} (ha : hI σ 31 2 = nI p) (hX : StX σ 2 A) (h5 : hI σ 31 5 = -1) : okX σ σ p A := ⟨FrX_refl σ, ha, hX, h5⟩
theorem x_charAt {i k : Nat} {σ : Hp} (hi : i < 5) (hk : k < (wdL i).length) : f_J0_charAt_5068e i (nI k) σ = some ((wdL i).getD k 0, σ) := by
  have : i = 0 ∨ i = 1 ∨ i = 2 ∨ i = 3 ∨ i = 4 := by omega
  rcases this with rfl | rfl | rfl | rfl | rfl
  · have hk4 : k < 4 := hk
    have : k = 0 ∨ k = 1 ∨ k = 2 ∨ k = 3 := by omega
    rcases this with rfl | rfl | rfl | rfl <;> rfl
  · have hk4 : k < 3 := hk
    have : k = 0 ∨ k = 1 ∨ k = 2 := by omega
    rcases this with rfl | rfl | rfl <;> rfl
  · have hk4 : k < 5 := hk
    have : k = 0 ∨ k = 1 ∨ k = 2 ∨ k = 3 ∨ k = 4 := by omega
    rcases this with rfl | rfl | rfl | rfl | rfl <;> rfl
  · have hk4 : k < 5 := hk
    have : k = 0 ∨ k = 1 ∨ k = 2 ∨ k = 3 ∨ k = 4 := by omega
    rcases this with rfl | rfl | rfl | rfl | rfl <;> rfl
  · have hk4 : k < 2 := hk
    have : k = 0 ∨ k = 1 := by omega
    rcases this with rfl | rfl <;> rfl
theorem x_length {i : Nat} {σ : Hp} (hi : i < 5) : f_J0_length_8abf5 i σ = some (nI (wdL i).length, σ) := by
  have : i = 0 ∨ i = 1 ∨ i = 2 ∨ i = 3 ∨ i = 4 := by omega
  rcases this with rfl | rfl | rfl | rfl | rfl <;> rfl
theorem wdL_len {i : Nat} : (wdL i).length ≤ 5 := by
  unfold wdL
  split <;> decide
theorem wdL_0 {i k : Nat} (hk : k < (wdL i).length) : ¬ (wdL i).getD k 0 = 0 := by
  have hm : ∀ l : List Int32, (∀ c, c ∈ l → ¬ c = 0) → ∀ k, k < l.length → ¬ l.getD k 0 = 0 := by
    intro l h k hk
    rw [List.getD_eq_getElem?_getD, List.getElem?_eq_getElem hk]
    exact h _ (List.getElem_mem hk)
  refine hm _ ?_ k hk
  unfold wdL
  split <;> decide
theorem dropD {l : List Int32} {k : Nat} (hk : k < l.length) : l.drop k = l.getD k 0 :: l.drop (k + 1) := by
  rw [List.getD_eq_getElem?_getD, List.getElem?_eq_getElem hk, ← List.getElem_cons_drop (h := hk)]
  rfl
theorem x_wordL {L : Nat → Int32} {s len p i : Nat} (hi : i < 5) (hp : p ≤ 160) : ∀ (m k fu : Nat) (σ : Hp), k + m = (wdL i).length → m < fu → CX L s len σ → hI σ 31 2 = nI (p + k) → if mwF L ((wdL i).drop k) (p + k) = (wdL i).length - k then ∃ F, iter (f_X4_readWord_s2 i) fu (nI k, σ) = some (1, rowI σ 31 F) ∧ F 2 = nI (p + (wdL i).length) ∧ F 5 = hI σ 31 5 else ∃ F, iter (f_X4_readWord_s2 i) fu (nI k, σ) = some (0, rowI σ 31 F) ∧ F 5 = nI (p + k + mwF L ((wdL i).drop k) (p + k))
  | m, k, 0, σ, _, hf, _, _ => by omega
  | 0, k, fu + 1, σ, hk, hf, h, ha => by
    have hk2 : k = (wdL i).length := by omega
    subst hk2
    rw [List.drop_length, Nat.sub_self, if_pos (show mwF L [] (p + (wdL i).length) = 0 from rfl)]
    refine ⟨hI σ 31, iter_inr ?_, ha, rfl⟩
    unfold f_X4_readWord_s2 f_X4_readWord_t2
    simp only
    rw [x_length hi, b2_some, if_pos (by rw [nI_leI (by have := @wdL_len i; omega) (by have := @wdL_len i; omega)]; omega), rowI_self]
    rfl
  | m + 1, k, fu + 1, σ, hk, hf, h, ha => by
    have hl := @wdL_len i
    have hst : f_X4_readWord_s2 i (nI k, σ) = if L (p + k) = (wdL i).getD k 0 then some (.inl (nI (k + 1), sI σ 31 2 (nI (p + k + 1)))) else ex (some (0, sI σ 31 5 (nI (p + k)))) := by
      unfold f_X4_readWord_s2 f_X4_readWord_t2
      simp only
      rw [x_length hi, b2_some, if_neg (by rw [nI_leI (by omega) (by omega)]; omega), x_charAt hi (by omega), b2_some, x_sign h (by omega) ha, nI_1]
      by_cases c : L (p + k) = (wdL i).getD k 0
      · rw [if_pos c, if_pos c, b2_some, if_neg (by decide)]
      · rw [if_neg c, if_neg c, b2_some, if_pos rfl]
    rw [dropD (show k < (wdL i).length by omega)]
    by_cases c : L (p + k) = (wdL i).getD k 0
    · have e1 : mwF L ((wdL i).getD k 0 :: (wdL i).drop (k + 1)) (p + k) = mwF L ((wdL i).drop (k + 1)) (p + (k + 1)) + 1 := by
        show (if _ then _ else _) = _
        rw [if_pos c, Nat.add_assoc p k 1]
      have ih := x_wordL (L := L) (s := s) (len := len) (p := p) hi hp m (k + 1) fu (sI σ 31 2 (nI (p + k + 1))) (by omega) (by omega) (CX_f (FrX_31 (FrX_refl σ) _ _) h) (by rw [sI_31k]; rfl)
      rw [e1]
      by_cases c2 : mwF L ((wdL i).drop (k + 1)) (p + (k + 1)) = (wdL i).length - (k + 1)
      · rw [if_pos c2] at ih
        rw [if_pos (by omega)]
        obtain ⟨F, g1, g2, g3⟩ := ih
        refine ⟨F, (iter_inl (by rw [hst, if_pos c])).trans (g1.trans ?_), g2, ?_⟩
        · unfold sI; rw [rowI_rowI]
        · rw [g3, sI_31 _ _ _ _ (by decide)]
      · rw [if_neg c2] at ih
        rw [if_neg (by omega)]
        obtain ⟨F, g1, g2⟩ := ih
        refine ⟨F, (iter_inl (by rw [hst, if_pos c])).trans (g1.trans ?_), ?_⟩
        · unfold sI; rw [rowI_rowI]
        · rw [g2]; congr 1; omega
    · have e1 : mwF L ((wdL i).getD k 0 :: (wdL i).drop (k + 1)) (p + k) = 0 := by
        show (if _ then _ else _) = _
        rw [if_neg c]
      rw [e1, if_neg (by omega)]
      refine ⟨va_up (hI σ 31) 5 (nI (p + k)), iter_inr ?_, by rw [up_eq]; rfl⟩
      rw [hst, if_neg c]
      rfl
theorem x_word {L : Nat → Int32} {s len p i : Nat} {σ : Hp} {A : AbS} (hi : i < 5) (hp : p ≤ 160) (h : CX L s len σ) (ha : hI σ 31 2 = nI p) (hX : StX σ 2 A) (h5 : hI σ 31 5 = -1) : match wdS L (wdL i) p with | .inr q => ∃ τ, f_X4_readWord i σ = some (1, τ) ∧ okX σ τ q A | .inl q => ∃ τ, f_X4_readWord i σ = some (0, τ) ∧ flX σ τ q := by
  have g := x_wordL (L := L) (s := s) (len := len) (p := p) hi hp (wdL i).length 0 fuel σ (by omega) (by have := @wdL_len i; unfold fuel; omega) h ha
  rw [List.drop_zero, Nat.add_zero, Nat.sub_zero] at g
  unfold wdS
  by_cases c : mwF L (wdL i) p = (wdL i).length
  · rw [if_pos c] at g ⊢
    obtain ⟨F, g1, g2, g3⟩ := g
    refine ⟨_, g1, ⟨FkX_I (by omega) (FkX_refl 2 σ) (Or.inr (Or.inr rfl)) _, rfl⟩, by rw [hI_rowI_k]; exact g2, ?_, by rw [hI_rowI_k, g3]; exact h5⟩
    obtain ⟨h1, h2, h3, h4, h5, h6, h7⟩ := hX
    exact ⟨h1, h2, h3, h4, x_lawsI (by omega) h5, h6, h7⟩
  · rw [if_neg c] at g ⊢
    obtain ⟨F, g1, g2⟩ := g
    exact ⟨_, g1, ⟨FkX_I (by omega) (FkX_refl 2 σ) (Or.inr (Or.inr rfl)) _, rfl⟩, by rw [hI_rowI_k]; exact g2⟩
theorem digB_n {c : Int32} (h : digB c = true) : ∃ m, c = nI m ∧ 48 ≤ m ∧ m ≤ 57 ∧ c.toNatClampNeg = m := by
  unfold digB at h
  simp only [Bool.and_eq_true, Bool.not_eq_true', decide_eq_false_iff_not] at h
  obtain ⟨h1, h2⟩ := h
  obtain ⟨m, hm, rfl⟩ := nI_cs c (fun h => h1 (Int32.lt_trans h (by decide)))
  rw [show (48 : Int32) = nI 48 from rfl, nI_ltI (by omega) (by omega)] at h1
  rw [show (57 : Int32) = nI 57 from rfl, nI_ltI (by omega) (by omega)] at h2
  exact ⟨m, rfl, by omega, by omega, nI_clamp (by omega)⟩
theorem x_isDigit (c : Int32) (σ : Hp) : f_X4_isDigit c σ = some (if digB c = true then 1 else 0, σ) := by
  unfold f_X4_isDigit digB
  by_cases h1 : c < 48
  · rw [if_pos h1, if_neg (by simp [h1])]
  · by_cases h2 : 57 < c
    · rw [if_neg h1, if_pos h2, if_neg (by simp [h2])]
    · rw [if_neg h1, if_neg h2, if_pos (by simp [h1, h2])]
theorem dgT_le {L : Nat → Int32} {len : Nat} (hL : ∀ p, len ≤ p → L p = 0) : ∀ (k p v : Nat), p ≤ len → v < 10 ^ (6 - k) → k ≤ 6 → p ≤ (dgT L k p v).1 ∧ (dgT L k p v).1 ≤ len ∧ (dgT L k p v).2 < 1000000
  | 0, p, v, hp, hv, _ => ⟨Nat.le_refl _, hp, hv⟩
  | k + 1, p, v, hp, hv, hk => by
    unfold dgT
    by_cases c : digB (L p) = true
    · rw [if_pos c]
      obtain ⟨m, m1, m2, m3, m4⟩ := digB_n c
      have hpl : p < len := by
        refine Classical.byContradiction (fun c2 => ?_)
        rw [hL p (by omega)] at c
        exact absurd c (by decide)
      have e : 10 ^ (6 - k) = 10 * 10 ^ (6 - (k + 1)) := by
        rw [show 6 - k = 6 - (k + 1) + 1 by omega, Nat.pow_succ, Nat.mul_comm]
      have ih := dgT_le hL k (p + 1) (10 * v + ((L p).toNatClampNeg - 48)) (by omega) (by rw [e]; omega) (by omega)
      exact ⟨by omega, ih.2⟩
    · rw [if_neg c]
      refine ⟨Nat.le_refl _, hp, Nat.lt_of_lt_of_le hv ?_⟩
      exact Nat.pow_le_pow_right (n := 10) (by omega) (show 6 - (k + 1) ≤ 6 by omega)
theorem x_dgL {L : Nat → Int32} {s len q : Nat} {x1 x2 : Int32} : ∀ (k i fu : Nat) (p v : Nat) (σ : Hp), i + k = 6 → k < fu → p ≤ len → v < 10 ^ i → CX L s len σ → hI σ 31 2 = nI p → hI σ 31 3 = nI v → hI σ 31 4 = nI q → ∃ F, iter (f_X4_readNumber_s26 x1 x2) fu (nI i, σ) = f_X4_readNumber_b91 x1 x2 (rowI σ 31 F) ∧ F 2 = nI (dgT L k p v).1 ∧ F 3 = nI (dgT L k p v).2 ∧ F 4 = nI q ∧ F 5 = hI σ 31 5
  | k, i, 0, p, v, σ, _, hf, _, _, _, _, _, _ => by omega
  | 0, i, fu + 1, p, v, σ, hi, hf, hp, hv, h, a2, a3, a4 => by
    refine ⟨hI σ 31, iter_ex ?_, a2, a3, a4, rfl⟩
    unfold f_X4_readNumber_s26 f_X4_readNumber_t26
    simp only
    rw [if_pos (by rw [show (6 : Int32) = nI 6 from rfl, nI_leI (by omega) (by omega)]; omega), rowI_self]
  | k + 1, i, fu + 1, p, v, σ, hi, hf, hp, hv, h, a2, a3, a4 => by
    have hle : len ≤ 160 := h.2.1
    have hv6 : v < 10 ^ 5 := Nat.lt_of_lt_of_le hv (Nat.pow_le_pow_right (by omega) (by omega))
    have hst : f_X4_readNumber_s26 x1 x2 (nI i, σ) = if digB (L p) = true then some (.inl (nI (i + 1), sI (sI σ 31 3 (nI (10 * v + ((L p).toNatClampNeg - 48)))) 31 2 (nI (p + 1)))) else ex (f_X4_readNumber_b91 x1 x2 σ) := by
      unfold f_X4_readNumber_s26 f_X4_readNumber_t26
      simp only
      rw [if_neg (by rw [show (6 : Int32) = nI 6 from rfl, nI_leI (by omega) (by omega)]; omega), h.2.2.1]
      show ck (ky (14 + s) = 6) _ = _
      rw [ck_pos (ky14 h.1), a2, x_letter h (by omega), b2_some, x_isDigit, b2_some]
      by_cases c : digB (L p) = true
      · obtain ⟨m, m1, m2, m3, m4⟩ := digB_n c
        rw [if_pos c, if_pos c, if_neg (by decide), h.2.2.1]
        show ck (ky (14 + s) = 6) _ = _
        rw [ck_pos (ky14 h.1), a2, x_letter h (by omega), b2_some, a3, m4, m1, show (10 : Int32) = nI 10 from rfl, nI_mul, nI_add, show (48 : Int32) = nI 48 from rfl, nI_sub2 (by omega) (by omega), sI_31 _ _ _ _ (by decide), a2, nI_1, nI_1, show v * 10 + m - 48 = 10 * v + (m - 48) by omega]
      · rw [if_neg c, if_neg c, if_pos rfl]
    unfold dgT
    by_cases c : digB (L p) = true
    · obtain ⟨m, m1, m2, m3, m4⟩ := digB_n c
      have hpl : p < len := L_lt h (by rw [m1, show (0 : Int32) = nI 0 from rfl, nI_eq (by omega) (by omega)]; omega)
      rw [if_pos c]
      obtain ⟨F, g1, g2, g3, g4, g5⟩ := x_dgL (L := L) (s := s) (len := len) (q := q) (x1 := x1) (x2 := x2) k (i + 1) fu (p + 1) (10 * v + ((L p).toNatClampNeg - 48)) (sI (sI σ 31 3 (nI (10 * v + ((L p).toNatClampNeg - 48)))) 31 2 (nI (p + 1))) (by omega) (by omega) (by omega) (by rw [Nat.pow_succ]; omega) (CX_f (FrX_31 (FrX_31 (FrX_refl σ) _ _) _ _) h) (sI_31k _ _ _) (by rw [sI_31 _ _ _ _ (by decide), sI_31k]) (by rw [sI_31 _ _ _ _ (by decide), sI_31 _ _ _ _ (by decide)]; exact a4)
      refine ⟨F, (iter_inl (by rw [hst, if_pos c])).trans (g1.trans ?_), g2, g3, g4, ?_⟩
      · unfold sI; rw [rowI_rowI, rowI_rowI]
      · rw [g5, sI_31 _ _ _ _ (by decide), sI_31 _ _ _ _ (by decide)]
    · rw [if_neg c]
      exact ⟨hI σ 31, iter_ex (by rw [hst, if_neg c, rowI_self]), a2, a3, a4, rfl⟩
/-- a number is read: with its value, its place -/
theorem x_num {L : Nat → Int32} {s len p : Nat} {σ : Hp} {A : AbS} {lo hi : Int32} {P : Nat → Bool} (hP : ∀ v, v < 1000000 → (P v = true ↔ ¬ nI v < lo ∧ nI v ≤ hi)) (hp : p ≤ len) (h : CX L s len σ) (ha : hI σ 31 2 = nI p) (hX : StX σ 2 A) (h5 : hI σ 31 5 = -1) : match arS L P p with | .inr z => ∃ τ, f_X4_readNumber lo hi σ = some (1, τ) ∧ okX σ τ z.1 A ∧ hI τ 31 3 = nI z.2 ∧ hI τ 31 4 = nI (p + 1) ∧ z.1 ≤ len ∧ z.2 < 1000000 ∧ P z.2 = true | .inl q => ∃ τ, f_X4_readNumber lo hi σ = some (0, τ) ∧ flX σ τ q := by
  have hle := h.2.1
  unfold arS f_X4_readNumber
  rw [x_sign h (by omega) ha]
  by_cases c : L p = 32
  · rw [if_pos c, if_pos c, b2_some, if_neg (show ¬ (1 : Int32) = 0 by decide), sI_31k]
    have hpl : p < len := L_lt h (by rw [c]; decide)
    obtain ⟨F, g1, g2, g3, g4, g5⟩ := x_dgL (L := L) (s := s) (len := len) (q := p + 1) (x1 := lo) (x2 := hi) 6 0 fuel (p + 1) 0 (sI (sI (sI σ 31 2 (nI (p + 1))) 31 4 (nI (p + 1))) 31 3 0) (by omega) (by unfold fuel; omega) (by omega) (by omega) (CX_f (FrX_31 (FrX_31 (FrX_31 (FrX_refl σ) _ _) _ _) _ _) h) (by rw [sI_31 _ _ _ _ (by decide), sI_31 _ _ _ _ (by decide), sI_31k]) (sI_31k _ _ _) (by rw [sI_31 _ _ _ _ (by decide), sI_31k])
    have g1' : iter (f_X4_readNumber_s26 lo hi) fuel (0, sI (sI (sI σ 31 2 (nI (p + 1))) 31 4 (nI (p + 1))) 31 3 0) = f_X4_readNumber_b91 lo hi (rowI (sI (sI (sI σ 31 2 (nI (p + 1))) 31 4 (nI (p + 1))) 31 3 0) 31 F) := g1
    rw [sI_31 _ _ _ _ (by decide), sI_31 _ _ _ _ (by decide), sI_31 _ _ _ _ (by decide), h5] at g5
    obtain ⟨d1, d2, d3⟩ := dgT_le h.2.2.2.2.2 6 (p + 1) 0 (by omega) (by omega) (by omega)
    rw [g1']
    unfold f_X4_readNumber_b91 f_X4_readNumber_b118 f_X4_failAt
    rw [hI_rowI_k, g2, g3, g4, b2_some, ck_pos (by decide)]
    have fr : FrX σ (rowI (sI (sI (sI σ 31 2 (nI (p + 1))) 31 4 (nI (p + 1))) 31 3 0) 31 F) := ⟨FkX_I (by omega) (FrX_31 (FrX_31 (FrX_31 (FrX_refl σ) _ _) _ _) _ _).1 (Or.inr (Or.inr rfl)) _, rfl⟩
    have fl : flX σ (sI (rowI (sI (sI (sI σ 31 2 (nI (p + 1))) 31 4 (nI (p + 1))) 31 3 0) 31 F) 31 5 (nI (p + 1))) (p + 1) := ⟨FrX_31 fr _ _, sI_31k _ _ _⟩
    by_cases c1 : (dgT L 6 (p + 1) 0).1 = p + 1
    · rw [if_pos (Or.inl c1), if_pos (by rw [c1])]
      exact ⟨_, rfl, fl⟩
    · rw [if_neg (show ¬ nI (dgT L 6 (p + 1) 0).1 = nI (p + 1) by rw [nI_eq (by omega) (by omega)]; exact c1)]
      by_cases c2 : P (dgT L 6 (p + 1) 0).2 = false
      · rw [if_pos (Or.inr c2)]
        have hn : ¬ (¬ nI (dgT L 6 (p + 1) 0).2 < lo ∧ nI (dgT L 6 (p + 1) 0).2 ≤ hi) := fun c3 => by rw [(hP _ d3).mpr c3] at c2; cases c2
        by_cases c4 : nI (dgT L 6 (p + 1) 0).2 < lo
        · rw [if_pos c4]; exact ⟨_, rfl, fl⟩
        · rw [if_neg c4, if_neg (fun c5 => hn ⟨c4, c5⟩)]; exact ⟨_, rfl, fl⟩
      · have hp2 : P (dgT L 6 (p + 1) 0).2 = true := by
          cases hb : P (dgT L 6 (p + 1) 0).2 with
          | true => rfl
          | false => exact absurd hb c2
        obtain ⟨e1, e2⟩ := (hP _ d3).mp hp2
        rw [if_neg (fun c3 => c3.elim c1 c2), if_neg e1, if_pos e2]
        refine ⟨_, rfl, ⟨fr, by rw [hI_rowI_k]; exact g2, ?_, by rw [hI_rowI_k]; exact g5⟩, by rw [hI_rowI_k]; exact g3, by rw [hI_rowI_k]; exact g4, d2, d3, hp2⟩
        have hX3 : StX (sI (sI (sI σ 31 2 (nI (p + 1))) 31 4 (nI (p + 1))) 31 3 0) 2 A := StX_31 (StX_31 (StX_31 hX))
        obtain ⟨h1, h2, h3, h4, h5, h6, h7⟩ := hX3
        exact ⟨h1, h2, h3, h4, x_lawsI (by omega) h5, h6, h7⟩
  · rw [if_neg c, if_neg c, b2_some, if_pos rfl]
    exact ⟨_, rfl, FrX_31 (FrX_refl σ) _ _, sI_31k _ _ _⟩
