/-! slips that the check does not find -/
theorem l_ndiv {w : Nat} (hw : w < 2 ^ 62) (B : Int64) : (-(lN w)) / B = -(lN w / B) := by
  apply Int64.toBitVec_inj.mp
  rw [Int64.toBitVec_div, Int64.toBitVec_neg, Int64.toBitVec_neg, Int64.toBitVec_div]
  refine BitVec.neg_sdiv (fun h => ?_)
  have h1 := congrArg BitVec.toNat h
  have e1 : (lN w).toBitVec.toNat = w := Nat.mod_eq_of_lt (show w < 2 ^ 64 by omega)
  rw [e1, show (BitVec.intMin 64).toNat = 2 ^ 63 from rfl] at h1
  omega
theorem i_ndiv {w : Nat} (hw : w < 2 ^ 30) (B : Int32) : (-(nI w)) / B = -(nI w / B) := by
  apply Int32.toBitVec_inj.mp
  rw [Int32.toBitVec_div, Int32.toBitVec_neg, Int32.toBitVec_neg, Int32.toBitVec_div]
  refine BitVec.neg_sdiv (fun h => ?_)
  have h1 := congrArg BitVec.toNat h
  have e1 : (nI w).toBitVec.toNat = w := Nat.mod_eq_of_lt (show w < 2 ^ 32 by omega)
  rw [e1, show (BitVec.intMin 32).toNat = 2 ^ 31 from rfl] at h1
  omega
theorem l_nrem {w b : Nat} (hw : w < 2 ^ 62) (h2 : 2 ≤ b) (h10 : b ≤ 10) : (-(lN w)) - (-(lN w)) / lN b * lN b = -(lN (w % b)) := by
  rw [l_ndiv hw, Int64.neg_mul, ← pk_lRem (by omega) (by omega) (by omega), Int64.neg_sub, Int64.sub_eq_add_neg, Int64.neg_neg, Int64.add_comm, ← Int64.sub_eq_add_neg]
theorem i_nrem {w b : Nat} (hw : w < 2 ^ 30) (h2 : 2 ≤ b) (h10 : b ≤ 10) : (-(nI w)) - (-(nI w)) / nI b * nI b = -(nI (w % b)) := by
  rw [i_ndiv hw, Int32.neg_mul, ← pk_rem (by omega) (by omega) (by omega), Int32.neg_sub, Int32.sub_eq_add_neg, Int32.neg_neg, Int32.add_comm, ← Int32.sub_eq_add_neg]
theorem l_neg0 {m : Nat} (h : m < 2 ^ 62) : -(lN m) = 0 ↔ m = 0 := by
  rw [show (0 : Int64) = -(lN 0) from rfl, Int64.neg_inj, pk_lEQ (by omega) (by omega)]
theorem i_neg0 {m : Nat} (h : m < 2 ^ 30) : -(nI m) = 0 ↔ m = 0 := by
  rw [show (0 : Int32) = -(nI 0) from rfl, Int32.neg_inj, nI_eq (by omega) (by omega)]
theorem l_subn {a b : Nat} (h : a ≤ b) : lN a - lN b = -(lN (b - a)) := by
  rw [← lN_sub h, Int64.neg_sub]
theorem i_subn {a b : Nat} (h : a ≤ b) : nI a - nI b = -(nI (b - a)) := by
  rw [← pk_sub h, Int32.neg_sub]
theorem dgF_get {b : Nat} : ∀ (k n i : Nat), i < (dgF b k n).length → (dgF b k n).getD i 0 = n / b ^ i % b
  | 0, n, i, h => by simp [dgF] at h
  | k + 1, n, i, h => by
    by_cases h0 : n = 0
    · rw [h0, dgF_0] at h; simp at h
    · rw [dgF_s h0] at h ⊢
      cases i with
      | zero => rw [Nat.pow_zero, Nat.div_one]; rfl
      | succ i =>
        rw [List.length_cons] at h
        have := dgF_get (b := b) k (n / b) i (by omega)
        rw [Nat.div_div_eq_div_mul, ← Nat.pow_succ'] at this
        exact this
theorem fg_get {b n i : Nat} (h : i < (fg b n).length) : (fg b n).getD i 0 = n / b ^ i % b := by
  unfold fg fgF at h ⊢
  cases i with
  | zero => rw [Nat.pow_zero, Nat.div_one]; rfl
  | succ i =>
    rw [List.length_cons] at h
    have := dgF_get (b := b) 62 (n / b) i (by omega)
    rw [Nat.div_div_eq_div_mul, ← Nat.pow_succ'] at this
    exact this
def dgI (b x i : Nat) : Nat := x / b ^ i % b
def msA (d f : Nat) : Nat := if d ≤ f then f - d else d - f
def msP (b x c i f : Nat) : Prop := ¬ f = dgI b x i ∧ (0 < f ∨ ¬ (1 < c ∧ i = c - 1)) ∧ x + f * b ^ i ≤ 999999999999999 + dgI b x i * b ^ i ∧ msA (dgI b x i) f * (i + 1) % b = 0
def msI (P : Nat → Bool) : Nat → Nat → Nat → Nat
  | 0, _, c => c
  | k + 1, f, c => msI P k (f + 1) (if P f = true then c + 1 else c)
def msB (b x c i f : Nat) : Bool := decide (¬ f = dgI b x i) && (decide (0 < f) || ! (decide (1 < c) && decide (i = c - 1))) && decide (x + f * b ^ i ≤ 999999999999999 + dgI b x i * b ^ i) && decide (msA (dgI b x i) f * (i + 1) % b = 0)
theorem msB_iff {b x c i f : Nat} : msB b x c i f = true ↔ msP b x c i f := by
  unfold msB msP
  simp only [Bool.and_eq_true, Bool.or_eq_true, Bool.not_eq_true', decide_eq_true_iff, decide_eq_false_iff_not, Bool.and_eq_false_iff, and_assoc]
  constructor
  · rintro ⟨h1, h2, h3, h4⟩
    exact ⟨h1, h2.imp id (fun h ⟨a, b⟩ => h.elim (fun c => c a) (fun c => c b)), h3, h4⟩
  · rintro ⟨h1, h2, h3, h4⟩
    refine ⟨h1, h2.imp id (fun h => ?_), h3, h4⟩
    by_cases c1 : 1 < c
    · exact Or.inr (fun e => h ⟨c1, e⟩)
    · exact Or.inl c1
def msG (b x c : Nat) (i : Nat) (n : Nat) : Nat ⊕ Unit := .inl (msI (msB b x c i) b 0 n)
def msS (b x : Nat) : Int32 := lpO (fun n : Nat => nI n) (fun _ : Unit => (0 : Int32)) (lpE (msG b x (fg b x).length) (fg b x).length 0 0)
theorem numB_lN {n : Nat} (h : n < 2 ^ 63) : numB (lN n) = true ↔ n ≤ 999999999999999 := by
  unfold numB
  rw [decide_eq_true_iff, show (0 : Int64) = lN 0 from rfl, lc_LT h (by omega), show (999999999999999 : Int64) = lN 999999999999999 from rfl, lc_GT h (by omega)]
  omega
/-- the number with one figure changed -/
theorem ms_num {x u f d : Nat} (hu : d * u ≤ x) : lN x + (lN f - lN d) * lN u = lN (x + f * u - d * u) := by
  by_cases h : d ≤ f
  · have h1 : d * u ≤ f * u := Nat.mul_le_mul_right _ h
    rw [lN_sub h, lN_mul, lN_add, Nat.sub_mul]
    congr 1
    omega
  · have h1 : f * u ≤ d * u := Nat.mul_le_mul_right _ (by omega)
    rw [l_subn (by omega), Int64.neg_mul, lN_mul, ← Int64.sub_eq_add_neg, lN_sub (by rw [Nat.sub_mul]; omega), Nat.sub_mul]
    congr 1
    omega
theorem ms_rz {b i f d : Nat} (h2 : 2 ≤ b) (h10 : b ≤ 10) (hi : i ≤ 64) (hf : f < 10) (hd : d < 10) : lg_cmp (((nI i + 1).toInt64 * (lN f - lN d)) - ((nI i + 1).toInt64 * (lN f - lN d)) / lN b * lN b) 0 = 0 ↔ msA d f * (i + 1) % b = 0 := by
  rw [lc_E, nI_1, nI_l (by omega)]
  unfold msA
  by_cases h : d ≤ f
  · have h1 : (f - d) * (i + 1) ≤ 10 * 65 := Nat.mul_le_mul (by omega) (by omega)
    have h3 : (f - d) * (i + 1) % b < b := Nat.mod_lt _ (by omega)
    rw [if_pos h, lN_sub h, lN_mul, Nat.mul_comm (i + 1), pk_lRem (by omega) (by omega) (by omega), show (0 : Int64) = lN 0 from rfl, pk_lEQ (by omega) (by omega)]
  · have h1 : (d - f) * (i + 1) ≤ 10 * 65 := Nat.mul_le_mul (by omega) (by omega)
    have h3 : (d - f) * (i + 1) % b < b := Nat.mod_lt _ (by omega)
    rw [if_neg h, l_subn (by omega), Int64.mul_neg, lN_mul, Nat.mul_comm (i + 1), l_nrem (by omega) h2 h10, l_neg0 (by omega)]
theorem ms_rzI {b i f d : Nat} (h2 : 2 ≤ b) (h10 : b ≤ 10) (hi : i ≤ 64) (hf : f < 10) (hd : d < 10) : ((nI f - nI d) * (nI i + 1)) - ((nI f - nI d) * (nI i + 1)) / nI b * nI b = 0 ↔ msA d f * (i + 1) % b = 0 := by
  rw [nI_1]
  unfold msA
  by_cases h : d ≤ f
  · have h1 : (f - d) * (i + 1) ≤ 10 * 65 := Nat.mul_le_mul (by omega) (by omega)
    have h3 : (f - d) * (i + 1) % b < b := Nat.mod_lt _ (by omega)
    rw [if_pos h, pk_sub h, nI_mul, pk_rem (by omega) (by omega) (by omega), show (0 : Int32) = nI 0 from rfl, nI_eq (by omega) (by omega)]
  · have h1 : (d - f) * (i + 1) ≤ 10 * 65 := Nat.mul_le_mul (by omega) (by omega)
    have h3 : (d - f) * (i + 1) % b < b := Nat.mod_lt _ (by omega)
    rw [if_neg h, i_subn (by omega), Int32.neg_mul, nI_mul, i_nrem (by omega) h2 h10, i_neg0 (by omega)]
theorem dgI_le {b x i : Nat} : dgI b x i * b ^ i ≤ x := by
  unfold dgI
  exact Nat.le_trans (Nat.mul_le_mul_right _ (Nat.mod_le _ _)) (Nat.div_mul_le_self _ _)
theorem dgI_lt {b x i : Nat} (h2 : 2 ≤ b) : dgI b x i < b := Nat.mod_lt _ (by omega)
theorem unit_le {b x i : Nat} (h2 : 2 ≤ b) (hx : x ≤ 999999999999999) (hi : i < (fg b x).length) : b ^ i ≤ x + 1 := by
  by_cases h0 : x = 0
  · subst h0
    rw [fg_0] at hi
    have : i = 0 := by simp at hi; omega
    subst this
    simp
  · have h1 := (fg_ex h2 (show x < 2 ^ 63 by omega) h0).1
    have h3 : b ^ i ≤ b ^ ((fg b x).length - 1) := Nat.pow_le_pow_right (by omega) (by omega)
    omega
theorem x_msI {b x i : Nat} (h2 : 2 ≤ b) (h10 : b ≤ 10) (hx : x ≤ 999999999999999) (hi : i < (fg b x).length) (σ : Hp) : ∀ (k f n fu : Nat), f + k = b → k < fu → (0 < f ∨ ¬ (1 < (fg b x).length ∧ i = (fg b x).length - 1)) → iter (f_X1_missedSlips_s70 (lN x) (nI b) (nI (fg b x).length) (lN (b ^ i)) (lN (x / b ^ i)) (nI i) (lN (dgI b x i))) fu (nI n, nI f, σ) = some (.inl (nI (msI (msB b x (fg b x).length i) k f n), lN (b ^ (i + 1)), lN (x / b ^ (i + 1)), nI (i + 1), σ))
  | k, f, n, 0, _, hf, _ => by omega
  | 0, f, n, fu + 1, hk, hf, h1 => by
    have hd : x / b ^ i ≤ x := Nat.div_le_self _ _
    refine iter_inr ?_
    unfold f_X1_missedSlips_s70 f_X1_missedSlips_t70
    simp only
    rw [if_pos (by rw [nI_leI (by omega) (by omega)]; omega), ck_pos (nI_l0 h2 h10), nI_l (by omega), lN_mul, pk_lDiv (by omega) (by omega) (by omega), div_pow_s, ← Nat.pow_succ, nI_1]
    rfl
  | k + 1, f, n, fu + 1, hk, hf, h1 => by
    have hl := fg_len (b := b) (n := x)
    have hu := unit_le h2 hx hi
    have hdl := dgI_le (b := b) (x := x) (i := i)
    have hdb := dgI_lt (b := b) (x := x) (i := i) h2
    have hfu : f * b ^ i ≤ 10 * 1000000000000000 := Nat.mul_le_mul (by omega) (by omega)
    refine (iter_inl (a' := (nI (if msB b x (fg b x).length i f = true then n + 1 else n), nI (f + 1), σ)) ?_).trans (x_msI h2 h10 hx hi σ k (f + 1) _ fu (by omega) (by omega) (Or.inl (by omega)))
    unfold f_X1_missedSlips_s70 f_X1_missedSlips_t70 f_X1_missedSlips_b108 f_X1_missedSlips_b109 f_X1_missedSlips_b135
    simp only
    rw [if_neg (by rw [nI_leI (by omega) (by omega)]; omega), nI_l (by omega), ms_num hdl, numB_x, b2_some, nI_l (by omega)]
    by_cases c0 : f = dgI b x i
    · have e : ¬ msB b x (fg b x).length i f = true := fun c => (msB_iff.mp c).1 c0
      rw [if_neg e, if_pos (by rw [lc_E, c0, lN_sub (Nat.le_refl _), Nat.sub_self]; rfl), if_pos trivial, nI_1]
    · have hc : ¬ lg_cmp (lN f - lN (dgI b x i)) 0 = 0 := by
        rw [lc_E]
        by_cases h : dgI b x i ≤ f
        · rw [lN_sub h, show (0 : Int64) = lN 0 from rfl, pk_lEQ (by omega) (by omega)]; omega
        · rw [l_subn (by omega), l_neg0 (by omega)]; omega
      have hn := numB_lN (n := x + f * b ^ i - dgI b x i * b ^ i) (by omega)
      rw [if_neg hc]
      by_cases c1 : numB (lN (x + f * b ^ i - dgI b x i * b ^ i)) = true
      · rw [if_pos c1, if_neg (by decide), if_neg (by decide), ck_pos (by rw [show (0 : Int64) = lN 0 from rfl, pk_lEQ (by omega) (by omega)]; omega)]
        have c1' := hn.mp c1
        by_cases c2 : msA (dgI b x i) f * (i + 1) % b = 0
        · have e : msB b x (fg b x).length i f = true := msB_iff.mpr ⟨c0, h1, by omega, c2⟩
          rw [if_pos e, if_pos ((ms_rz h2 h10 (by omega) (by omega) (by omega)).mpr c2), nI_1, nI_1]
        · have e : ¬ msB b x (fg b x).length i f = true := fun c => c2 (msB_iff.mp c).2.2.2
          rw [if_neg e, if_neg (fun c => c2 ((ms_rz h2 h10 (by omega) (by omega) (by omega)).mp c)), nI_1]
      · have e : ¬ msB b x (fg b x).length i f = true := fun c => c1 (hn.mpr (by have := (msB_iff.mp c).2.2.1; omega))
        rw [if_neg c1, if_neg e, if_pos rfl, if_pos trivial, nI_1]
theorem x_missed {b x : Nat} (h2 : 2 ≤ b) (h10 : b ≤ 10) (hx : x ≤ 999999999999999) (σ : Hp) : f_X1_missedSlips (lN x) (nI b) σ = some (msS b x, σ) := by
  have hl := fg_len (b := b) (n := x)
  have hp := fg_pos (b := b) (n := x)
  have key : ∃ bb, iter (f_X1_missedSlips_s25 (lN x) (nI b) (nI (fg b x).length)) fuel (0, 1, lN x, 0, σ) = some bb ∧ bb = (msS b x, σ) := by
    unfold msS
    refine iter_lp (R := fun i s a => a = (nI s, lN (b ^ i), lN (x / b ^ i), nI i, σ)) (Q := fun u bb => bb = (u, σ)) (n := (fg b x).length) (o1 := fun n : Nat => nI n) (o2 := fun _ : Unit => (0 : Int32)) (fun i s aa hi hR => ?_) (fun s aa hR => ?_) (fg b x).length 0 fuel 0 _ (by omega) (by unfold fuel; omega) (by rw [Nat.pow_zero, Nat.div_one]; rfl)
    · subst hR
      refine ⟨_, ?_, rfl⟩
      have hd : x / b ^ i ≤ x := Nat.div_le_self _ _
      unfold f_X1_missedSlips_s25 f_X1_missedSlips_t25 f_X1_missedSlips_b55 f_X1_missedSlips_b56 f_X1_missedSlips_b68
      simp only
      rw [if_neg (by rw [nI_leI (by omega) (by omega)]; omega), ck_pos (nI_l0 h2 h10), nI_l (by omega), pk_lRem (by omega) (by omega) (by omega), show (1 : Int32) = nI 1 from rfl, nI_sub2 (by omega) (by omega)]
      have g0 : ¬ (1 < (fg b x).length ∧ i = (fg b x).length - 1) → iter (f_X1_missedSlips_s70 (lN x) (nI b) (nI (fg b x).length) (lN (b ^ i)) (lN (x / b ^ i)) (nI i) (lN (x / b ^ i % b))) fuel (nI s, 0, σ) = _ := fun hc => x_msI h2 h10 hx hi σ b 0 s fuel (by omega) (by unfold fuel; omega) (Or.inr hc)
      by_cases c1 : (fg b x).length ≤ 1
      · rw [if_pos (by rw [nI_leI (by omega) (by omega)]; exact c1), if_pos trivial]
        exact g0 (fun c => by omega)
      · rw [if_neg (by rw [nI_leI (by omega) (by omega)]; exact c1)]
        by_cases c2 : i = (fg b x).length - 1
        · rw [if_pos (by rw [nI_eq (by omega) (by omega)]; exact c2), if_neg (by decide)]
          have e0 : ¬ msB b x (fg b x).length i 0 = true := fun c => (msB_iff.mp c).2.1.elim (fun c => by omega) (fun c => c ⟨by omega, c2⟩)
          have e1 : msI (msB b x (fg b x).length i) b 0 s = msI (msB b x (fg b x).length i) (b - 1) 1 s := by
            have gen : ∀ (P : Nat → Bool) (k : Nat), ¬ P 0 = true → msI P (k + 1) 0 s = msI P k 1 s := by
              intro P k h
              show msI P k 1 (if P 0 = true then s + 1 else s) = _
              rw [if_neg h]
            have := gen (msB b x (fg b x).length i) (b - 1) e0
            rw [show b - 1 + 1 = b by omega] at this
            exact this
          rw [e1]
          exact x_msI h2 h10 hx hi σ (b - 1) 1 s fuel (by omega) (by unfold fuel; omega) (Or.inl (by omega))
        · rw [if_neg (by rw [nI_eq (by omega) (by omega)]; exact c2), if_pos trivial]
          exact g0 (fun c => c2 c.2)
    · subst hR
      refine ⟨_, ?_, rfl⟩
      unfold f_X1_missedSlips_s25 f_X1_missedSlips_t25
      simp only
      rw [if_pos (by rw [nI_leI (by omega) (by omega)]; omega)]
      rfl
  obtain ⟨bb, e1, e2⟩ := key
  unfold f_X1_missedSlips
  rw [if_pos (ge2 h2 h10), x_howMany h2 h10 (by omega), b2_some, e1, e2]
theorem m_msI {b x i : Nat} (h2 : 2 ≤ b) (h10 : b ≤ 10) (hx : x ≤ 999999999999999) (hi : i < (fg b x).length) {σ : Hp} (hB : hI σ 40 2 = nI b) (hF : ∀ j, j < (fg b x).length → hI σ 67 j = nI ((fg b x).getD j 0)) : ∀ (k f n fu : Nat), f + k = b → k < fu → iter (f_X12_missed_s39 (lN x) (nI (fg b x).length) (lN (b ^ i)) (nI i)) fu (nI n, nI f, σ) = some (.inl (nI (msI (msB b x (fg b x).length i) k f n), lN (b ^ (i + 1)), nI (i + 1), σ))
  | k, f, n, 0, _, hf => by omega
  | 0, f, n, fu + 1, hk, hf => by
    refine iter_inr ?_
    unfold f_X12_missed_s39 f_X12_missed_t39
    simp only
    rw [hB, if_pos (by rw [nI_leI (by omega) (by omega)]; omega), nI_l (by omega), lN_mul, ← Nat.pow_succ, nI_1]
    rfl
  | k + 1, f, n, fu + 1, hk, hf => by
    have hl := fg_len (b := b) (n := x)
    have hu := unit_le h2 hx hi
    have hdl := dgI_le (b := b) (x := x) (i := i)
    have hdb := dgI_lt (b := b) (x := x) (i := i) h2
    have hfu : f * b ^ i ≤ 10 * 1000000000000000 := Nat.mul_le_mul (by omega) (by omega)
    have hfig : hI σ 67 i = nI (dgI b x i) := by rw [hF i hi, fg_get hi]; rfl
    refine (iter_inl (a' := (nI (if msB b x (fg b x).length i f = true then n + 1 else n), nI (f + 1), σ)) ?_).trans (m_msI h2 h10 hx hi hB hF k (f + 1) _ fu (by omega) (by omega))
    have e8 : ∀ v : Int32, f_X12_missed_b143 (lN x) (nI (fg b x).length) v (lN (b ^ i)) (nI i) (nI f) σ = some (.inl (v, nI (f + 1), σ)) := by
      intro v
      unfold f_X12_missed_b143
      rw [nI_1]
    have eF : f_X12_missed_b83 (lN x) (nI (fg b x).length) (nI n) (lN (b ^ i)) (nI i) (nI f) 0 σ = some (.inl (nI n, nI (f + 1), σ)) := by
      unfold f_X12_missed_b83
      rw [ck_pos (inb_nI (by omega) (by omega)), if_pos rfl, e8]
    have hnum : lN x + (nI f - nI (dgI b x i)).toInt64 * lN (b ^ i) = lN (x + f * b ^ i - dgI b x i * b ^ i) := by
      rw [← ms_num hdl]
      congr 2
      by_cases h : dgI b x i ≤ f
      · rw [pk_sub h, nI_l (by omega), lN_sub h]
      · rw [i_subn (by omega), l_subn (by omega)]
        have : ∀ m, m < 10 → (-(nI m)).toInt64 = -(lN m) := by decide
        exact this _ (by omega)
    have eT : f_X12_missed_b83 (lN x) (nI (fg b x).length) (nI n) (lN (b ^ i)) (nI i) (nI f) 1 σ = if x + f * b ^ i - dgI b x i * b ^ i ≤ 999999999999999 ∧ msA (dgI b x i) f * (i + 1) % b = 0 then some (.inl (nI (n + 1), nI (f + 1), σ)) else some (.inl (nI n, nI (f + 1), σ)) := by
      unfold f_X12_missed_b83
      rw [ck_pos (inb_nI (by omega) (by omega)), if_neg (by decide), nI_clamp (by omega), hfig, hnum, hB, e8, e8, show (999999999999999 : Int64) = lN 999999999999999 from rfl]
      by_cases c1 : x + f * b ^ i - dgI b x i * b ^ i ≤ 999999999999999
      · rw [if_neg (by rw [lc_GT (by omega) (by omega)]; omega), ck_pos (by rw [show (0 : Int32) = nI 0 from rfl, nI_eq (by omega) (by omega)]; omega)]
        by_cases c2 : msA (dgI b x i) f * (i + 1) % b = 0
        · rw [if_pos ((ms_rzI h2 h10 (by omega) (by omega) (by omega)).mpr c2), if_pos ⟨c1, c2⟩, nI_1]
        · rw [if_neg (fun c => c2 ((ms_rzI h2 h10 (by omega) (by omega) (by omega)).mp c)), if_neg (fun c => c2 c.2)]
      · rw [if_pos (by rw [lc_GT (by omega) (by omega)]; omega), if_neg (fun c => c1 c.1)]
    unfold f_X12_missed_s39 f_X12_missed_t39 f_X12_missed_b82 f_X12_missed_b78
    simp only
    rw [hB, if_neg (by rw [nI_leI (by omega) (by omega)]; omega), ck_pos (inb_nI (by omega) (by omega)), nI_clamp (by omega), hfig, eF, eT]
    have fin : (0 < f ∨ ¬ (1 < (fg b x).length ∧ i = (fg b x).length - 1)) → ¬ f = dgI b x i → (if x + f * b ^ i - dgI b x i * b ^ i ≤ 999999999999999 ∧ msA (dgI b x i) f * (i + 1) % b = 0 then some (.inl (nI (n + 1), nI (f + 1), σ)) else some (.inl (nI n, nI (f + 1), σ)) : Option ((Int32 × Int32 × Hp) ⊕ ((Int32 × Int64 × Int32 × Hp) ⊕ (Int32 × Hp)))) = some (.inl (nI (if msB b x (fg b x).length i f = true then n + 1 else n), nI (f + 1), σ)) := by
      intro h1 c0
      by_cases c : x + f * b ^ i - dgI b x i * b ^ i ≤ 999999999999999 ∧ msA (dgI b x i) f * (i + 1) % b = 0
      · rw [if_pos c, if_pos (msB_iff.mpr ⟨c0, h1, by omega, c.2⟩)]
      · rw [if_neg c, if_neg (fun c2 => c ⟨by have := (msB_iff.mp c2).2.2.1; omega, (msB_iff.mp c2).2.2.2⟩)]
    by_cases c0 : f = dgI b x i
    · rw [if_pos (by rw [c0]), if_neg (fun c => (msB_iff.mp c).1 c0)]
    · rw [if_neg (by rw [nI_eq (by omega) (by omega)]; exact c0)]
      by_cases c1 : 0 < f
      · rw [if_pos (by rw [show (0 : Int32) = nI 0 from rfl, nI_ltI (by omega) (by omega)]; exact c1)]
        exact fin (Or.inl c1) c0
      · rw [if_neg (by rw [show (0 : Int32) = nI 0 from rfl, nI_ltI (by omega) (by omega)]; exact c1), show (1 : Int32) = nI 1 from rfl, nI_sub2 (by omega) fg_pos]
        by_cases c2 : i < (fg b x).length - 1
        · rw [if_pos (by rw [nI_ltI (by omega) (by omega)]; exact c2)]
          exact fin (Or.inr (fun c => by omega)) c0
        · rw [if_neg (by rw [nI_ltI (by omega) (by omega)]; exact c2)]
          by_cases c3 : (fg b x).length = 1
          · rw [if_pos (by rw [nI_eq (by omega) (by omega)]; exact c3)]
            exact fin (Or.inr (fun c => by omega)) c0
          · have hp := fg_pos (b := b) (n := x)
            rw [if_neg (by rw [nI_eq (by omega) (by omega)]; exact c3), if_neg (fun c => (msB_iff.mp c).2.1.elim (fun c => c1 c) (fun c => c ⟨by omega, by omega⟩))]
theorem m_missed {b x : Nat} (h2 : 2 ≤ b) (h10 : b ≤ 10) (hx : x ≤ 999999999999999) {σ : Hp} (hB : hI σ 40 2 = nI b) : ∃ bb, b2 (f_X12_figures (lN x) σ) (fun r_6 s_7 => iter (f_X12_missed_s30 (lN x) r_6) fuel ((0 : Int32), (1 : Int64), (0 : Int32), s_7)) = some bb ∧ anM σ (msS b x) none bb := by
  have hl := fg_len (b := b) (n := x)
  obtain ⟨F, g1, g2⟩ := m_figures h2 h10 (show x < 2 ^ 63 by omega) hB
  rw [g1, b2_some]
  unfold msS
  refine iter_lp (R := fun i s a => a = (nI s, lN (b ^ i), nI i, rowI σ 67 F)) (Q := fun u bb => anM σ u none bb) (n := (fg b x).length) (o1 := fun n : Nat => nI n) (o2 := fun _ : Unit => (0 : Int32)) (fun i s aa hi hR => ?_) (fun s aa hR => ?_) (fg b x).length 0 fuel 0 _ (by omega) (by unfold fuel; omega) (by rw [Nat.pow_zero]; rfl)
  · subst hR
    refine ⟨_, ?_, rfl⟩
    unfold f_X12_missed_s30 f_X12_missed_t30
    simp only
    rw [if_neg (by rw [nI_leI (by omega) (by omega)]; omega)]
    exact m_msI h2 h10 hx hi (σ := rowI σ 67 F) (by rw [hI_rowI_n _ _ (by decide)]; exact hB) (fun j hj => by rw [hI_rowI_k]; exact g2 j hj) b 0 s fuel (by omega) (by unfold fuel; omega)
  · subst hR
    refine ⟨_, ?_, anM_n (Fs_67 (Fs_refl σ) F)⟩
    unfold f_X12_missed_s30 f_X12_missed_t30
    simp only
    rw [if_pos (by rw [nI_leI (by omega) (by omega)]; omega)]
    rfl
