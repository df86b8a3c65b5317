theorem nI_mul (a b : Nat) : nI a * nI b = nI (a * b) := (Int32.ofNat_mul a b).symm
theorem dgF_lt {b : Nat} (h2 : 2 ≤ b) : ∀ (k n d : Nat), d ∈ dgF b k n → d < b
  | 0, n, d, h => by simp [dgF] at h
  | k + 1, n, d, h => by
    by_cases h0 : n = 0
    · subst h0; rw [dgF_0] at h; simp at h
    · rw [dgF_s h0] at h
      rcases List.mem_cons.mp h with rfl | h
      · exact Nat.mod_lt _ (by omega)
      · exact dgF_lt h2 k (n / b) d h
theorem dgF_len {b : Nat} : ∀ (k n : Nat), (dgF b k n).length ≤ k
  | 0, n => by simp [dgF]
  | k + 1, n => by
    by_cases h0 : n = 0
    · subst h0; rw [dgF_0]; simp
    · rw [dgF_s h0, List.length_cons]
      have := dgF_len (b := b) k (n / b)
      omega
theorem fg_lt {b n d : Nat} (h2 : 2 ≤ b) (h : d ∈ fg b n) : d < b := by
  unfold fg fgF at h
  rcases List.mem_cons.mp h with rfl | h
  · exact Nat.mod_lt _ (by omega)
  · exact dgF_lt h2 _ _ d h
theorem fg_len {b n : Nat} : (fg b n).length ≤ 63 := by
  unfold fg fgF
  rw [List.length_cons]
  have := dgF_len (b := b) 62 (n / b)
  omega
theorem fg_pos {b n : Nat} : 1 ≤ (fg b n).length := by
  unfold fg fgF
  rw [List.length_cons]
  omega
theorem x_valueOf {k pl d : Nat} (hp : pl < 6) (hd : d < 10) (σ : Hp) : f_X7_valueOf k (nI pl) (nI d) σ = some (hI σ (k + 6) (10 * pl + d), σ) := by
  unfold f_X7_valueOf
  rw [show (10 : Int32) = nI 10 from rfl, nI_mul, nI_add, if_neg (nI_pos (by omega)), if_neg (by rw [show (60 : Int32) = nI 60 from rfl, nI_leI (by omega) (by omega)]; omega), ck_pos (inb_nI (by omega) (by omega)), nI_clamp (by omega), Nat.mul_comm pl 10]
theorem x_told {b k j pl : Nat} {w : Nat → Nat} (h2 : 2 ≤ b) (h10 : b ≤ 10) (hp : pl < 6) {σ : Hp} (hL : isLaw σ j = true) (hP : hI σ (100 + j) 0 = nI pl) (hw : ∀ f, f < 10 → hI σ (k + 6) (10 * pl + f) = nI (w f)) (hw2 : ∀ f, f < 10 → w f < 2 ^ 31) : ∀ (q n a i fu : Nat), n < 2 ^ q → i + q ≤ 63 → q < fu → iter (f_X10_reckon_s41 j k (nI b)) fu (lN a, lN n, nI i, σ) = some (lN (smA w a (dgF b q n)), σ)
  | 0, n, a, i, 0, _, _, hf => by omega
  | q + 1, n, a, i, 0, _, _, hf => by omega
  | q, n, a, i, fu + 1, hn, hi, hf => by
    have hn63 : n < 2 ^ 63 := Nat.lt_of_lt_of_le hn (Nat.pow_le_pow_right (by omega) (by omega))
    by_cases h0 : n = 0
    · subst h0
      refine iter_inr ?_
      rw [dgF_0]
      unfold f_X10_reckon_s41 f_X10_reckon_t41
      simp only [(lc_LE0 hn63).mpr rfl, if_true, ite_self]
      rfl
    · cases q with
      | zero => omega
      | succ q =>
        have hd : n % b < 10 := Nat.lt_of_lt_of_le (Nat.mod_lt _ (by omega)) h10
        refine (iter_inl (a' := (lN (a + w (n % b)), lN (n / b), nI (i + 1), σ)) ?_).trans ?_
        · unfold f_X10_reckon_s41 f_X10_reckon_t41
          rw [if_neg (n64 (by omega)), if_neg (by rw [lc_LE0 hn63]; exact h0), ck_pos hL, nI_l (by omega), ck_pos (nb0 h2 h10), pk_lRem hn63 (by omega) (by omega), pk_lDiv hn63 (by omega) (by omega), lN_i, hP, x_valueOf hp hd, b2_some, hw _ hd, nI_l (hw2 _ hd), lN_add, nI_1]
        · rw [dgF_s h0]
          exact x_told h2 h10 hp hL hP hw hw2 q (n / b) (a + w (n % b)) (i + 1) fu (half_lt h2 hn) (by omega) (by omega)
theorem x_toldR {b k j pl n : Nat} {w : Nat → Nat} (h2 : 2 ≤ b) (h10 : b ≤ 10) (hp : pl < 6) {σ : Hp} (hL : isLaw σ j = true) (hP : hI σ (100 + j) 0 = nI pl) (hw : ∀ f, f < 10 → hI σ (k + 6) (10 * pl + f) = nI (w f)) (hw2 : ∀ f, f < 10 → w f < 2 ^ 31) (hB : hI σ k 0 = nI b) (hn : n < 2 ^ 63) : f_X10_reckon j (lN n) k σ = some (lN (smA w 0 (fg b n)), σ) := by
  have hd : n % b < 10 := Nat.lt_of_lt_of_le (Nat.mod_lt _ (by omega)) h10
  unfold f_X10_reckon
  rw [hB, if_pos (ge2 h2 h10), ck_pos hL, nI_l (by omega), ck_pos (nb0 h2 h10), pk_lRem hn (by omega) (by omega), pk_lDiv hn (by omega) (by omega), lN_i, hP, x_valueOf hp hd, b2_some, hw _ hd, nI_l (hw2 _ hd)]
  have h := x_told (k := k) h2 h10 hp hL hP hw hw2 62 (n / b) (w (n % b)) 1 fuel (half_lt h2 hn) (by omega) (by unfold fuel; omega)
  refine h.trans ?_
  unfold fg fgF smA
  rw [List.foldl_cons, Nat.zero_add]
def ckA : Nat → Nat → List Nat → Nat
  | a, _, [] => a
  | a, i, d :: l => ckA (a + i * d) (i + 1) l
theorem ckA_le : ∀ (l : List Nat) (a i : Nat), (∀ d, d ∈ l → d < 10) → i + l.length ≤ 64 → ckA a i l ≤ a + 576 * l.length
  | [], a, i, _, _ => by simp [ckA]
  | d :: l, a, i, h, hi => by
    rw [List.length_cons] at hi ⊢
    have h1 := ckA_le l (a + i * d) (i + 1) (fun e he => h e (List.mem_cons_of_mem _ he)) (by omega)
    have h2 : d ≤ 9 := by have := h d List.mem_cons_self; omega
    have h3 : i * d ≤ 64 * 9 := Nat.mul_le_mul (by omega) h2
    unfold ckA
    omega
theorem x_chk {b : Nat} (h2 : 2 ≤ b) (h10 : b ≤ 10) (σ : Hp) : ∀ (k n a i fu : Nat), n < 2 ^ k → 1 ≤ i → i + k ≤ 64 → a + 576 * k < 2 ^ 31 → k < fu → iter (f_X1_checkOf_s15 (nI b)) fu (lN a, lN n, nI i, σ) = some (nI (ckA a i (dgF b k n) % b), σ)
  | 0, n, a, i, 0, _, _, _, _, hf => by omega
  | k + 1, n, a, i, 0, _, _, _, _, hf => by omega
  | k, n, a, i, fu + 1, hn, h1, hi, ha, hf => by
    have hk : n < 2 ^ 63 := Nat.lt_of_lt_of_le hn (Nat.pow_le_pow_right (by omega) (by omega))
    by_cases h0 : n = 0
    · subst h0
      refine iter_inr ?_
      rw [dgF_0]
      have e : f_X1_checkOf_b54 (nI b) (lN a) σ = some (nI (a % b), σ) := by
        unfold f_X1_checkOf_b54
        rw [nI_l (by omega), ck_pos (nb0 h2 h10), pk_lRem (by omega) (by omega) (by omega), lN_i]
      unfold f_X1_checkOf_s15 f_X1_checkOf_t15
      simp only [(lc_LE0 (a := 0) (by omega)).mpr rfl, if_true, ite_self, e]
      rfl
    · cases k with
      | zero => omega
      | succ k =>
        have hd : n % b ≤ 9 := by have := Nat.mod_lt n (show b > 0 by omega); omega
        have hm : i * (n % b) ≤ 64 * 9 := Nat.mul_le_mul (by omega) hd
        refine (iter_inl (a' := (lN (a + i * (n % b)), lN (n / b), nI (i + 1), σ)) ?_).trans ?_
        · unfold f_X1_checkOf_s15 f_X1_checkOf_t15
          rw [if_neg (by rw [show (64 : Int32) = nI 64 from rfl, nI_ltI (by omega) (by omega)]; omega), if_neg (by rw [lc_LE0 hk]; exact h0), nI_l (by omega), ck_pos (nb0 h2 h10), pk_lRem hk (by omega) (by omega), pk_lDiv hk (by omega) (by omega), nI_l (by omega), lN_mul, lN_add, nI_1]
        · rw [dgF_s h0]
          exact x_chk h2 h10 σ k (n / b) (a + i * (n % b)) (i + 1) fu (half_lt h2 hn) (by omega) (by omega) (by omega) (by omega)
theorem x_checkOf {b n : Nat} (h2 : 2 ≤ b) (h10 : b ≤ 10) (hn : n < 2 ^ 63) (σ : Hp) : f_X1_checkOf (lN n) (nI b) σ = some (nI (ckA 0 1 (dg b n) % b), σ) := by
  unfold f_X1_checkOf
  rw [if_pos (ge2 h2 h10)]
  exact x_chk h2 h10 σ 63 n 0 1 fuel hn (by omega) (by omega) (by omega) (by unfold fuel; omega)
