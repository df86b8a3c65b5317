theorem cv_lt10 {b n : Nat} (h2 : 2 ≤ b) (h10 : b ≤ 10) (l : List Nat) (hl : ∀ d, d ∈ l → d < b) (hn : l.length ≤ 63) : cvS l < 2 ^ 63 := cvS_lt hl hn h10
theorem x_sp1 {b : Nat} (h2 : 2 ≤ b) (h10 : b ≤ 10) (σ : Hp) {r : Option (Int64 × Hp)} : ∀ (k n a i fu : Nat), n < 2 ^ k → i + k ≤ 63 → k < fu → r = f_X1_spread_b57 (nI b) (lN (smA (fun d => 64 ^ d) a (dgF b k n))) σ → (∃ v, r = some v) → iter (f_X1_spread_s15 (nI b)) fu (lN a, lN n, nI i, σ) = r
  | 0, n, a, i, 0, _, _, hf, _, _ => by omega
  | k + 1, n, a, i, 0, _, _, hf, _, _ => by omega
  | k, n, a, i, fu + 1, hn, hi, hf, hr, hv => by
    have hn63 : n < 2 ^ 63 := Nat.lt_of_lt_of_le hn (Nat.pow_le_pow_right (by omega) (by omega))
    by_cases h0 : n = 0
    · subst h0
      obtain ⟨v, hv⟩ := hv
      rw [hv] at hr ⊢
      refine iter_inr ?_
      rw [dgF_0] at hr
      have hr : f_X1_spread_b57 (nI b) (lN a) σ = some v := hr.symm
      unfold f_X1_spread_s15 f_X1_spread_t15
      simp only [(lc_LE0 hn63).mpr rfl, if_true, ite_self, hr]
      rfl
    · cases k with
      | zero => omega
      | succ k =>
        have hd : n % b < 10 := Nat.lt_of_lt_of_le (Nat.mod_lt _ (by omega)) h10
        refine (iter_inl (a' := (lN (a + 64 ^ (n % b)), lN (n / b), nI (i + 1), σ)) ?_).trans ?_
        · unfold f_X1_spread_s15 f_X1_spread_t15
          rw [if_neg (n64 (by omega)), if_neg (by rw [lc_LE0 hn63]; exact h0), nI_l (by omega), ck_pos (nb0 h2 h10), pk_lRem hn63 (by omega) (by omega), pk_lDiv hn63 (by omega) (by omega), shl6 hd, lN_add, nI_1]
        · rw [dgF_s h0] at hr
          exact x_sp1 h2 h10 σ k (n / b) (a + 64 ^ (n % b)) (i + 1) fu (half_lt h2 hn) (by omega) (by omega) hr hv
/-- the same figure again and again behind a number -/
def rpA (b a d : Nat) : Nat → Nat
  | 0 => a
  | k + 1 => rpA b (a * b + d) d k
theorem x_sp3 {b c x9 x11 x14 : Nat} (h2 : 2 ≤ b) (h10 : b ≤ 10) (hx : x11 < b) (h14 : x14 ≤ 63) (σ : Hp) : ∀ (k x7 x16 fu : Nat), x16 + k = x14 → k < fu → iter (f_X1_spread_s136 (nI b) (lN c) (lN x9) (nI x11) (lN x14)) fu (lN x7, lN x16, σ) = some (.inl (lN (rpA b x7 (b - 1 - x11) k), lN x9, nI (x11 + 1), σ))
  | 0, x7, x16, 0, _, hf => by omega
  | k + 1, x7, x16, 0, _, hf => by omega
  | 0, x7, x16, fu + 1, hq, hf => by
    refine iter_inr ?_
    unfold f_X1_spread_s136 f_X1_spread_t136
    rw [if_pos (by rw [lc_GE (by omega) (by omega)]; omega), nI_1]
    rfl
  | k + 1, x7, x16, fu + 1, hq, hf => by
    refine (iter_inl (a' := (lN (x7 * b + (b - 1 - x11)), lN (x16 + 1), σ)) ?_).trans ?_
    · unfold f_X1_spread_s136 f_X1_spread_t136
      rw [if_neg (by rw [lc_GE (by omega) (by omega)]; omega), nI_l (by omega), nI_l (by omega), lN_mul, lN_add, show (1 : Int64) = lN 1 from rfl, lN_add, lN_sub (by omega), lN_sub (by omega), show x7 * b + b - 1 - x11 = x7 * b + (b - 1 - x11) by omega]
    · exact x_sp3 h2 h10 hx h14 σ k _ _ fu (by omega) (by omega)
theorem x_sp2 {b c x7 x11 x12 x14 : Nat} (h2 : 2 ≤ b) (h10 : b ≤ 10) (hx : x11 < b) (h12 : x12 ≤ 63) (h14 : x14 ≤ 63) (σ : Hp) : ∀ (k x9 x16 fu : Nat), x16 + k = x12 → k < fu → iter (f_X1_spread_s105 (nI b) (lN c) (lN x7) (nI x11) (lN x12) (lN x14)) fu (lN x9, lN x16, σ) = some (.inl (lN (rpA b x7 (b - 1 - x11) x14), lN (rpA b x9 x11 k), nI (x11 + 1), σ))
  | 0, x9, x16, 0, _, hf => by omega
  | k + 1, x9, x16, 0, _, hf => by omega
  | 0, x9, x16, fu + 1, hq, hf => by
    refine iter_inr ?_
    unfold f_X1_spread_s105 f_X1_spread_t105
    rw [if_pos (by rw [lc_GE (by omega) (by omega)]; omega), l0, x_sp3 h2 h10 hx h14 σ x14 x7 0 fuel (by omega) (by unfold fuel; omega)]
    rfl
  | k + 1, x9, x16, fu + 1, hq, hf => by
    refine (iter_inl (a' := (lN (x9 * b + x11), lN (x16 + 1), σ)) ?_).trans ?_
    · unfold f_X1_spread_s105 f_X1_spread_t105
      rw [if_neg (by rw [lc_GE (by omega) (by omega)]; omega), nI_l (by omega), nI_l (by omega), lN_mul, lN_add, show (1 : Int64) = lN 1 from rfl, lN_add]
    · exact x_sp2 h2 h10 hx h12 h14 σ k _ _ fu (by omega) (by omega)
/-- figures f to f + k - 1, each as often as it is there, behind a number; and those from b - 1 - f down -/
def upA (b : Nat) (g : Nat → Nat) : Nat → Nat → Nat → Nat
  | 0, _, a => a
  | k + 1, f, a => upA b g k (f + 1) (rpA b a f (g f))
def dnA (b : Nat) (g : Nat → Nat) : Nat → Nat → Nat → Nat
  | 0, _, a => a
  | k + 1, f, a => dnA b g k (f + 1) (rpA b a (b - 1 - f) (g (b - 1 - f)))
theorem x_sp4 {b : Nat} (h2 : 2 ≤ b) (h10 : b ≤ 10) {l : List Nat} (hl : ∀ d, d ∈ l → d < b) (hn : l.length ≤ 63) (σ : Hp) : ∀ (k f x7 x9 fu : Nat), f + k = b → k < fu → iter (f_X1_spread_s66 (nI b) (lN (cvS l))) fu (lN x7, lN x9, nI f, σ) = some (lN (dnA b (fun d => l.count d) k f x7) - lN (upA b (fun d => l.count d) k f x9), σ)
  | 0, f, x7, x9, 0, _, hf => by omega
  | k + 1, f, x7, x9, 0, _, hf => by omega
  | 0, f, x7, x9, fu + 1, hq, hf => by
    refine iter_inr ?_
    unfold f_X1_spread_s66 f_X1_spread_t66
    rw [if_pos (by rw [nI_leI (by omega) (by omega)]; omega)]
    rfl
  | k + 1, f, x7, x9, fu + 1, hq, hf => by
    have hc : ∀ d, l.count d ≤ 63 := fun d => Nat.le_trans List.count_le_length hn
    have hcv := cvS_lt hl hn h10
    refine (iter_inl (a' := (lN (rpA b x7 (b - 1 - f) (l.count (b - 1 - f))), lN (rpA b x9 f (l.count f)), nI (f + 1), σ)) ?_).trans ?_
    · unfold f_X1_spread_s66 f_X1_spread_t66
      rw [if_neg (by rw [nI_leI (by omega) (by omega)]; omega), show (1 : Int32) = nI 1 from rfl, pk_sub (by omega), pk_sub (by omega), shr6 hcv (by omega), shr6 hcv (by omega), cvS_at hl hn (by omega), cvS_at hl hn (by omega), l0, x_sp2 h2 h10 (by omega) (hc _) (hc _) σ (l.count f) x9 0 fuel (by omega) (by have := hc f; unfold fuel; omega)]
    · exact x_sp4 h2 h10 hl hn σ k (f + 1) _ _ fu (by omega) (by omega)
theorem x_spread {b n : Nat} (h2 : 2 ≤ b) (h10 : b ≤ 10) (hn : n < 2 ^ 63) (σ : Hp) : f_X1_spread (lN n) (nI b) σ = some (lN (dnA b (fun d => (dg b n).count d) b 0 0) - lN (upA b (fun d => (dg b n).count d) b 0 0), σ) := by
  have h := x_sp4 h2 h10 (l := dg b n) (fun d h => dgF_lt h2 _ _ d h) (dgF_len _ _) σ b 0 0 0 fuel (by omega) (by unfold fuel; omega)
  unfold f_X1_spread
  rw [if_pos (ge2 h2 h10)]
  exact x_sp1 h2 h10 σ 63 n 0 0 fuel hn (by omega) (by unfold fuel; omega) h.symm ⟨_, rfl⟩
