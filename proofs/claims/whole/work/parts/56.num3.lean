theorem l0 : (0 : Int64) = lN 0 := rfl
theorem nb0 {b : Nat} (h2 : 2 ≤ b) (h10 : b ≤ 10) : ¬ lN b = 0 := by
  rw [l0, pk_lEQ (by omega) (by omega)]; omega
theorem ge2 {b : Nat} (h2 : 2 ≤ b) (h10 : b ≤ 10) : (2 : Int32) ≤ nI b := by
  rw [nI_lit2, nI_leI (by omega) (by omega)]; exact h2
theorem n64 {i : Nat} (h : i < 64) : ¬ (64 : Int32) ≤ nI i := by
  rw [show (64 : Int32) = nI 64 from rfl, nI_leI (by omega) (by omega)]; omega
theorem x_pow {b p n a i d : Nat} (h2 : 2 ≤ b) (h10 : b ≤ 10) (hn : n < 2 ^ 63) (hp : p ≤ 3) (σ : Hp) : ∀ (k r q fu : Nat), q + k = p → k < fu → iter (f_X1_together_s44 (nI b) (nI p) (lN a) (lN n) (nI i) (lN d)) fu (lN r, nI q, σ) = some (.inl (lN (a + r * d ^ k), lN (n / b), nI (i + 1), σ))
  | 0, r, q, 0, _, hf => by omega
  | k + 1, r, q, 0, _, hf => by omega
  | 0, r, q, fu + 1, hq, hf => by
    refine iter_inr ?_
    unfold f_X1_together_s44 f_X1_together_t44
    rw [if_pos (by rw [nI_leI (by omega) (by omega)]; omega), nI_l (by omega), ck_pos (nb0 h2 h10), pk_lDiv hn (by omega) (by omega), lN_add, nI_1, Nat.pow_zero, Nat.mul_one]
    rfl
  | k + 1, r, q, fu + 1, hq, hf => by
    refine (iter_inl (a' := (lN (r * d), nI (q + 1), σ)) ?_).trans ?_
    · unfold f_X1_together_s44 f_X1_together_t44
      rw [if_neg (by rw [nI_leI (by omega) (by omega)]; omega), lN_mul, nI_1]
    · rw [x_pow h2 h10 hn hp σ k (r * d) (q + 1) fu (by omega) (by omega), Nat.pow_succ', Nat.mul_assoc]
def smA (g : Nat → Nat) (a : Nat) (l : List Nat) : Nat := l.foldl (fun a d => a + g d) a
theorem x_tog {b p : Nat} (h2 : 2 ≤ b) (h10 : b ≤ 10) (hp : 1 ≤ p) (hp3 : p ≤ 3) (σ : Hp) : ∀ (k n a i fu : Nat), n < 2 ^ k → i + k ≤ 63 → k < fu → iter (f_X1_together_s16 (nI b) (nI p)) fu (lN a, lN n, nI i, σ) = some (lN (smA (fun d => d ^ p) a (dgF b k n)), σ)
  | 0, n, a, i, 0, _, _, hf => by omega
  | k + 1, n, a, i, 0, _, _, hf => by omega
  | k, n, a, i, fu + 1, hn, hi, hf => by
    have hn63 : n < 2 ^ 63 := Nat.lt_of_lt_of_le hn (Nat.pow_le_pow_right (by omega) (by omega))
    by_cases h0 : n = 0
    · subst h0
      refine iter_inr ?_
      rw [dgF_0]
      unfold f_X1_together_s16 f_X1_together_t16
      simp only [(lc_LE0 hn63).mpr rfl, if_true, ite_self]
      rfl
    · cases k with
      | zero => omega
      | succ k =>
        refine (iter_inl (a' := (lN (a + (n % b) ^ p), lN (n / b), nI (i + 1), σ)) ?_).trans ?_
        · unfold f_X1_together_s16 f_X1_together_t16
          rw [if_neg (n64 (by omega)), if_neg (by rw [lc_LE0 hn63]; exact h0), nI_l (by omega), ck_pos (nb0 h2 h10), pk_lRem hn63 (by omega) (by omega), show (1 : Int32) = nI 1 from rfl, x_pow h2 h10 hn63 hp3 σ (p - 1) (n % b) 1 fuel (by omega) (by unfold fuel; omega), ← Nat.pow_succ', show (p - 1).succ = p by omega]
        · rw [dgF_s h0]
          exact x_tog h2 h10 hp hp3 σ k (n / b) (a + (n % b) ^ p) (i + 1) fu (half_lt h2 hn) (by omega) (by omega)
theorem x_together {b n p : Nat} (h2 : 2 ≤ b) (h10 : b ≤ 10) (hn : n < 2 ^ 63) (hp : 1 ≤ p) (hp3 : p ≤ 3) (σ : Hp) : f_X1_together (lN n) (nI b) (nI p) σ = some (lN (smA (fun d => d ^ p) 0 (dg b n)), σ) := by
  unfold f_X1_together
  rw [if_pos (ge2 h2 h10)]
  exact x_tog h2 h10 hp hp3 σ 63 n 0 0 fuel hn (by omega) (by unfold fuel; omega)
def prA (a : Nat) (l : List Nat) : Nat := l.foldl (fun a d => a * d) a
theorem x_mul {b : Nat} (h2 : 2 ≤ b) (h10 : b ≤ 10) (σ : Hp) : ∀ (k n a i fu : Nat), n < 2 ^ k → i + k ≤ 63 → k < fu → iter (f_X1_multiplied_s21 (nI b)) fu (lN a, lN n, nI i, σ) = some (lN (prA a (dgF b k n)), σ)
  | 0, n, a, i, 0, _, _, hf => by omega
  | k + 1, n, a, i, 0, _, _, hf => by omega
  | k, n, a, i, fu + 1, hn, hi, hf => by
    have hn63 : n < 2 ^ 63 := Nat.lt_of_lt_of_le hn (Nat.pow_le_pow_right (by omega) (by omega))
    by_cases h0 : n = 0
    · subst h0
      refine iter_inr ?_
      rw [dgF_0]
      unfold f_X1_multiplied_s21 f_X1_multiplied_t21
      simp only [(lc_LE0 hn63).mpr rfl, if_true, ite_self]
      rfl
    · cases k with
      | zero => omega
      | succ k =>
        refine (iter_inl (a' := (lN (a * (n % b)), lN (n / b), nI (i + 1), σ)) ?_).trans ?_
        · unfold f_X1_multiplied_s21 f_X1_multiplied_t21
          rw [if_neg (n64 (by omega)), if_neg (by rw [lc_LE0 hn63]; exact h0), nI_l (by omega), ck_pos (nb0 h2 h10), pk_lRem hn63 (by omega) (by omega), pk_lDiv hn63 (by omega) (by omega), lN_mul, nI_1]
        · rw [dgF_s h0]
          exact x_mul h2 h10 σ k (n / b) (a * (n % b)) (i + 1) fu (half_lt h2 hn) (by omega) (by omega)
theorem fg_dg {b n : Nat} (h2 : 2 ≤ b) (hn : n < 2 ^ 63) (h0 : ¬ n = 0) : fg b n = dg b n := by
  unfold fg dg fgF
  rw [dgF_s h0]
theorem fg_0 {b : Nat} : fg b 0 = [0] := by
  unfold fg fgF
  rw [Nat.zero_mod, Nat.zero_div, dgF_0]
theorem dg_0 {b : Nat} : dg b 0 = [] := dgF_0
theorem x_multiplied {b n : Nat} (h2 : 2 ≤ b) (h10 : b ≤ 10) (hn : n < 2 ^ 63) (σ : Hp) : f_X1_multiplied (lN n) (nI b) σ = some (lN (prA 1 (fg b n)), σ) := by
  unfold f_X1_multiplied
  rw [if_neg (by rw [nI_lit2, nI_ltI (by omega) (by omega)]; omega)]
  by_cases h0 : n = 0
  · subst h0
    rw [if_pos (by rw [l0]; exact lc_eq), fg_0]
    rfl
  · rw [if_neg (by rw [l0, lc_EQ hn (by omega)]; exact h0), fg_dg h2 hn h0]
    exact x_mul h2 h10 σ 63 n 1 0 fuel hn (by omega) (by unfold fuel; omega)
theorem x_many {b : Nat} (h2 : 2 ≤ b) (h10 : b ≤ 10) (σ : Hp) : ∀ (k n i fu : Nat), n < 2 ^ k → i + k ≤ 63 → k < fu → iter (f_X1_howMany_s15 (nI b)) fu (nI i, lN n, σ) = some (nI (i + (dgF b k n).length), σ)
  | 0, n, i, 0, _, _, hf => by omega
  | k + 1, n, i, 0, _, _, hf => by omega
  | k, n, i, fu + 1, hn, hi, hf => by
    have hn63 : n < 2 ^ 63 := Nat.lt_of_lt_of_le hn (Nat.pow_le_pow_right (by omega) (by omega))
    by_cases h0 : n = 0
    · subst h0
      refine iter_inr ?_
      rw [dgF_0]
      unfold f_X1_howMany_s15 f_X1_howMany_t15
      simp only [(lc_LE0 hn63).mpr rfl, if_true, ite_self]
      rfl
    · cases k with
      | zero => omega
      | succ k =>
        refine (iter_inl (a' := (nI (i + 1), lN (n / b), σ)) ?_).trans ?_
        · unfold f_X1_howMany_s15 f_X1_howMany_t15
          rw [if_neg (n64 (by omega)), if_neg (by rw [lc_LE0 hn63]; exact h0), nI_l (by omega), ck_pos (nb0 h2 h10), pk_lDiv hn63 (by omega) (by omega), nI_1]
        · rw [dgF_s h0, x_many h2 h10 σ k (n / b) (i + 1) fu (half_lt h2 hn) (by omega) (by omega), List.length_cons]
          congr 3
          omega
theorem x_howMany {b n : Nat} (h2 : 2 ≤ b) (h10 : b ≤ 10) (hn : n < 2 ^ 63) (σ : Hp) : f_X1_howMany (lN n) (nI b) σ = some (nI (fg b n).length, σ) := by
  unfold f_X1_howMany
  rw [if_pos (ge2 h2 h10), nI_l (by omega), ck_pos (nb0 h2 h10), pk_lDiv hn (by omega) (by omega), show (1 : Int32) = nI 1 from rfl, x_many h2 h10 σ 62 (n / b) 1 fuel (half_lt h2 hn) (by omega) (by unfold fuel; omega)]
  unfold fg fgF
  rw [List.length_cons, Nat.add_comm]
