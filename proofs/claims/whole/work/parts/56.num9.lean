theorem bp_out {f : Nat → Nat} {j k : Nat} (h1 : k ≠ j) (h2 : k ≠ j + 1) : bp f j k = f k := by
  unfold bp
  by_cases h : f j ≤ f (j + 1)
  · rw [if_pos h]
  · rw [if_neg h]
    show (if k = j + 1 then f j else if k = j then f (j + 1) else f k) = f k
    rw [if_neg h2, if_neg h1]
theorem bp_j {f : Nat → Nat} {j : Nat} : bp f j j = min (f j) (f (j + 1)) := by
  unfold bp
  by_cases h : f j ≤ f (j + 1)
  · rw [if_pos h]; omega
  · rw [if_neg h]
    show (if j = j + 1 then f j else if j = j then f (j + 1) else f j) = _
    rw [if_neg (by omega), if_pos rfl]; omega
theorem bp_j1 {f : Nat → Nat} {j : Nat} : bp f j (j + 1) = max (f j) (f (j + 1)) := by
  unfold bp
  by_cases h : f j ≤ f (j + 1)
  · rw [if_pos h]; omega
  · rw [if_neg h]
    show (if j + 1 = j + 1 then f j else if j + 1 = j then f (j + 1) else f (j + 1)) = _
    rw [if_pos rfl]; omega
theorem bpass_out : ∀ (m j : Nat) (f : Nat → Nat) (k : Nat), k < j ∨ j + m < k → bpass m j f k = f k
  | 0, j, f, k, _ => rfl
  | m + 1, j, f, k, h => by
    show bpass m (j + 1) (bp f j) k = f k
    rw [bpass_out m (j + 1) (bp f j) k (by omega), bp_out (by omega) (by omega)]
theorem bpass_top : ∀ (m j : Nat) (f : Nat → Nat), (∀ k, k ≤ j → f k ≤ f j) → ∀ k, k ≤ j + m → bpass m j f k ≤ bpass m j f (j + m)
  | 0, j, f, h, k, hk => h k hk
  | m + 1, j, f, h, k, hk => by
    have := bpass_top m (j + 1) (bp f j) (fun q hq => by
      rw [bp_j1]
      by_cases h1 : q = j + 1
      · subst h1; rw [bp_j1]; exact Nat.le_refl _
      · by_cases h2 : q = j
        · subst h2; rw [bp_j]; omega
        · rw [bp_out h2 h1]
          have := h q (by omega)
          omega) k (by omega)
    show bpass m (j + 1) (bp f j) k ≤ bpass m (j + 1) (bp f j) (j + (m + 1))
    rw [show j + (m + 1) = j + 1 + m by omega]
    exact this
theorem bpass_le {M v : Nat} : ∀ (m j : Nat) (f : Nat → Nat), (∀ k, k < M → f k ≤ v) → j + m < M → ∀ k, k < M → bpass m j f k ≤ v
  | 0, j, f, h, _, k, hk => h k hk
  | m + 1, j, f, h, hM, k, hk => by
    refine bpass_le m (j + 1) (bp f j) (fun q hq => ?_) (by omega) k hk
    have e1 := h j (by omega)
    have e2 := h (j + 1) (by omega)
    by_cases h1 : q = j + 1
    · subst h1; rw [bp_j1]; omega
    · by_cases h2 : q = j
      · subst h2; rw [bp_j]; omega
      · rw [bp_out h2 h1]; exact h q hq
theorem bsF_sorted {n : Nat} : ∀ (m i : Nat) (f : Nat → Nat), i + m = n → (∀ p q, p ≤ q → n - i ≤ q → q < n → f p ≤ f q) → ∀ p q, p ≤ q → q < n → bsF n m i f p ≤ bsF n m i f q
  | 0, i, f, hi, h, p, q, hpq, hq => h p q hpq (by omega) hq
  | m + 1, i, f, hi, h, p, q, hpq, hq => by
    refine bsF_sorted m (i + 1) _ (by omega) (fun p q hpq h1 h2 => ?_) p q hpq hq
    by_cases hq2 : q = n - i - 1
    · subst hq2
      have := bpass_top (n - i - 1) 0 f (fun k hk => by rw [show k = 0 by omega]; exact Nat.le_refl _) p (by omega)
      rw [Nat.zero_add] at this
      exact this
    · rw [bpass_out (n - i - 1) 0 f q (by omega)]
      by_cases hp : p ≤ n - i - 1
      · exact bpass_le (M := n - i) (n - i - 1) 0 f (fun k hk => h k q (by omega) (by omega) h2) (by omega) p (by omega)
      · rw [bpass_out (n - i - 1) 0 f p (by omega)]
        exact h p q hpq (by omega) h2
/-- how often d is among the first n -/
def cn (f : Nat → Nat) (d : Nat) : Nat → Nat
  | 0 => 0
  | n + 1 => cn f d n + if f n = d then 1 else 0
theorem cn_congr {f g : Nat → Nat} {d : Nat} : ∀ n, (∀ k, k < n → f k = g k) → cn f d n = cn g d n
  | 0, _ => rfl
  | n + 1, h => by
    unfold cn
    rw [cn_congr n (fun k hk => h k (by omega)), h n (by omega)]
theorem cn_bp {f : Nat → Nat} {d j : Nat} : ∀ n, j + 1 < n → cn (bp f j) d n = cn f d n
  | 0, h => by omega
  | n + 1, h => by
    by_cases hn : n = j + 1
    · subst hn
      unfold cn
      show cn (bp f j) d (j + 1) + _ = cn f d (j + 1) + _
      unfold cn
      rw [cn_congr (f := bp f j) (g := f) j (fun k hk => bp_out (by omega) (by omega)), bp_j, bp_j1]
      rcases Nat.le_total (f j) (f (j + 1)) with hle | hle
      · rw [Nat.min_eq_left hle, Nat.max_eq_right hle]
      · rw [Nat.min_eq_right hle, Nat.max_eq_left hle]; omega
    · unfold cn
      rw [cn_bp n (by omega), bp_out (by omega) (by omega)]
theorem cn_bpass {d n : Nat} : ∀ (m j : Nat) (f : Nat → Nat), j + m < n → cn (bpass m j f) d n = cn f d n
  | 0, j, f, _ => rfl
  | m + 1, j, f, h => by
    show cn (bpass m (j + 1) (bp f j)) d n = _
    rw [cn_bpass m (j + 1) (bp f j) (by omega), cn_bp n (by omega)]
theorem cn_bsF {d n : Nat} : ∀ (m i : Nat) (f : Nat → Nat), i + m = n → cn (bsF n m i f) d n = cn f d n
  | 0, i, f, _ => rfl
  | m + 1, i, f, h => by
    show cn (bsF n m (i + 1) (bpass (n - i - 1) 0 f)) d n = _
    rw [cn_bsF m (i + 1) _ (by omega), cn_bpass _ _ _ (by omega)]
