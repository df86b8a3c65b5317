/-! numbers: what a test, a go of a loop, a figure is, in naturals -/
theorem lc_lt {a b : Nat} (ha : a < 2 ^ 63) (hb : b < 2 ^ 63) (h : a < b) : lg_cmp (lN a) (lN b) = -1 := by
  unfold lg_cmp
  rw [if_neg (fun c => by have := (pk_lLT hb ha).mp c; omega), if_neg (by rw [pk_lEQ ha hb]; omega)]
theorem lc_eq {a : Nat} : lg_cmp (lN a) (lN a) = 0 := by
  unfold lg_cmp
  rw [if_neg (by intro h; exact absurd (Int64.lt_iff_toInt_lt.mp h) (by omega)), if_pos rfl]
theorem lc_gt {a b : Nat} (ha : a < 2 ^ 63) (hb : b < 2 ^ 63) (h : b < a) : lg_cmp (lN a) (lN b) = 1 := by
  unfold lg_cmp
  rw [if_pos ((pk_lLT hb ha).mpr h)]
theorem lc_LE {a b : Nat} (ha : a < 2 ^ 63) (hb : b < 2 ^ 63) : lg_cmp (lN a) (lN b) ≤ 0 ↔ a ≤ b := by
  rcases Nat.lt_trichotomy a b with h | h | h
  · rw [lc_lt ha hb h]; exact ⟨fun _ => by omega, fun _ => by decide⟩
  · subst h; rw [lc_eq]; exact ⟨fun _ => by omega, fun _ => by decide⟩
  · rw [lc_gt ha hb h]; exact ⟨fun h => absurd h (by decide), fun h => by omega⟩
theorem lc_LT {a b : Nat} (ha : a < 2 ^ 63) (hb : b < 2 ^ 63) : lg_cmp (lN a) (lN b) < 0 ↔ a < b := by
  rcases Nat.lt_trichotomy a b with h | h | h
  · rw [lc_lt ha hb h]; exact ⟨fun _ => by omega, fun _ => by decide⟩
  · subst h; rw [lc_eq]; exact ⟨fun h => absurd h (by decide), fun h => by omega⟩
  · rw [lc_gt ha hb h]; exact ⟨fun h => absurd h (by decide), fun h => by omega⟩
theorem lc_GE {a b : Nat} (ha : a < 2 ^ 63) (hb : b < 2 ^ 63) : 0 ≤ lg_cmp (lN a) (lN b) ↔ b ≤ a := by
  rcases Nat.lt_trichotomy a b with h | h | h
  · rw [lc_lt ha hb h]; exact ⟨fun h => absurd h (by decide), fun h => by omega⟩
  · subst h; rw [lc_eq]; exact ⟨fun _ => by omega, fun _ => by decide⟩
  · rw [lc_gt ha hb h]; exact ⟨fun _ => by omega, fun _ => by decide⟩
theorem lc_GT {a b : Nat} (ha : a < 2 ^ 63) (hb : b < 2 ^ 63) : 0 < lg_cmp (lN a) (lN b) ↔ b < a := by
  rcases Nat.lt_trichotomy a b with h | h | h
  · rw [lc_lt ha hb h]; exact ⟨fun h => absurd h (by decide), fun h => by omega⟩
  · subst h; rw [lc_eq]; exact ⟨fun h => absurd h (by decide), fun h => by omega⟩
  · rw [lc_gt ha hb h]; exact ⟨fun _ => by omega, fun _ => by decide⟩
theorem lc_EQ {a b : Nat} (ha : a < 2 ^ 63) (hb : b < 2 ^ 63) : lg_cmp (lN a) (lN b) = 0 ↔ a = b := by
  rcases Nat.lt_trichotomy a b with h | h | h
  · rw [lc_lt ha hb h]; exact ⟨fun h => absurd h (by decide), fun h => by omega⟩
  · subst h; rw [lc_eq]; exact ⟨fun _ => rfl, fun _ => rfl⟩
  · rw [lc_gt ha hb h]; exact ⟨fun h => absurd h (by decide), fun h => by omega⟩
theorem lc_LE0 {a : Nat} (ha : a < 2 ^ 63) : lg_cmp (lN a) 0 ≤ 0 ↔ a = 0 := by
  rw [show (0 : Int64) = lN 0 from rfl, lc_LE ha (by omega)]; omega
theorem lc_GT0 {a : Nat} (ha : a < 2 ^ 63) : 0 < lg_cmp (lN a) 0 ↔ ¬ a = 0 := by
  rw [show (0 : Int64) = lN 0 from rfl, lc_GT ha (by omega)]; omega
theorem nI_l0 {b : Nat} (h2 : 2 ≤ b) (h : b ≤ 10) : ¬ (nI b).toInt64 = 0 := by
  rw [nI_l (by omega), show (0 : Int64) = lN 0 from rfl, pk_lEQ (by omega) (by omega)]; omega
theorem nI_lit2 : (2 : Int32) = nI 2 := rfl
/-- the figures of a number, the last first; none of nothing -/
def dgF (b : Nat) : Nat → Nat → List Nat
  | 0, _ => []
  | k + 1, n => if n = 0 then [] else n % b :: dgF b k (n / b)
theorem dgF_0 {b k : Nat} : dgF b k 0 = [] := by cases k <;> simp [dgF]
theorem dgF_s {b k n : Nat} (h : ¬ n = 0) : dgF b (k + 1) n = n % b :: dgF b k (n / b) := by simp [dgF, h]
theorem half_lt {b n k : Nat} (h2 : 2 ≤ b) (h : n < 2 ^ (k + 1)) : n / b < 2 ^ k := by
  apply Nat.div_lt_of_lt_mul
  rw [Nat.pow_succ] at h
  have : 2 * 2 ^ k ≤ b * 2 ^ k := Nat.mul_le_mul_right _ h2
  omega
theorem dgF_st {b : Nat} (h2 : 2 ≤ b) : ∀ (k m n : Nat), n < 2 ^ k → k ≤ m → dgF b m n = dgF b k n
  | 0, m, n, h, _ => by rw [show n = 0 by omega, dgF_0, dgF_0]
  | k + 1, 0, n, _, hm => by omega
  | k + 1, m + 1, n, h, hm => by
    by_cases h0 : n = 0
    · subst h0; rw [dgF_0, dgF_0]
    · rw [dgF_s h0, dgF_s h0, dgF_st h2 k m (n / b) (half_lt h2 h) (by omega)]
/-- the figures, whatever the number below 2^63 -/
def dg (b n : Nat) : List Nat := dgF b 63 n
def rvA (b a : Nat) (l : List Nat) : Nat := l.foldl (fun a d => a * b + d) a
theorem x_rev {b : Nat} (h2 : 2 ≤ b) (h10 : b ≤ 10) (σ : Hp) : ∀ (k n a i fu : Nat), n < 2 ^ k → i + k ≤ 63 → k < fu → iter (f_X1_turnedOf_s15 (nI b)) fu (lN a, lN n, nI i, σ) = some (lN (rvA b a (dgF b k n)), σ)
  | 0, n, a, i, 0, _, _, hf => by omega
  | k + 1, n, a, i, 0, _, _, hf => by omega
  | k, n, a, i, fu + 1, hn, hi, hf => by
    have hn63 : n < 2 ^ 63 := Nat.lt_of_lt_of_le hn (Nat.pow_le_pow_right (by omega) (by omega))
    by_cases h0 : n = 0
    · subst h0
      refine iter_inr ?_
      rw [dgF_0]
      unfold f_X1_turnedOf_s15 f_X1_turnedOf_t15
      simp only [(lc_LE0 hn63).mpr rfl, if_true, ite_self]
      rfl
    · cases k with
      | zero => omega
      | succ k =>
        refine (iter_inl (a' := (lN (a * b + n % b), lN (n / b), nI (i + 1), σ)) ?_).trans ?_
        · unfold f_X1_turnedOf_s15 f_X1_turnedOf_t15
          rw [if_neg (by rw [show (64 : Int32) = nI 64 from rfl, nI_leI (by omega) (by omega)]; omega), if_neg (by rw [lc_LE0 hn63]; exact h0), ck_pos (nI_l0 h2 h10), nI_l (by omega), pk_lRem hn63 (by omega) (by omega), pk_lDiv hn63 (by omega) (by omega), lN_mul, lN_add, nI_1]
        · rw [dgF_s h0]
          exact x_rev h2 h10 σ k (n / b) (a * b + n % b) (i + 1) fu (half_lt h2 hn) (by omega) (by omega)
def rvN (b n : Nat) : Nat := rvA b 0 (dg b n)
theorem x_turnedOf {b n : Nat} (h2 : 2 ≤ b) (h10 : b ≤ 10) (hn : n < 2 ^ 63) (σ : Hp) : f_X1_turnedOf (lN n) (nI b) σ = some (lN (rvN b n), σ) := by
  unfold f_X1_turnedOf
  rw [if_pos (by rw [nI_lit2, nI_leI (by omega) (by omega)]; exact h2)]
  exact x_rev h2 h10 σ 63 n 0 0 fuel hn (by omega) (by unfold fuel; omega)
