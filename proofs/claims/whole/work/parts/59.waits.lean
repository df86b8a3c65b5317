/-! the next number that reads alike -/
def mrA (b : Nat) : Nat → Nat → Nat → Nat
  | 0, a, _ => a
  | k + 1, a, r => mrA b k (a * b + r % b) (r / b)
theorem mrA_a {b : Nat} : ∀ (k a r : Nat), mrA b k a r = a * b ^ k + mrA b k 0 r
  | 0, a, r => by simp [mrA]
  | k + 1, a, r => by
    unfold mrA
    rw [mrA_a k (a * b + r % b), mrA_a k (0 * b + r % b), Nat.pow_succ, Nat.add_mul, Nat.zero_mul, Nat.zero_add, Nat.mul_assoc, Nat.mul_comm b]
    omega
theorem mrA_lt {b : Nat} (h2 : 2 ≤ b) : ∀ (k r : Nat), mrA b k 0 r < b ^ k
  | 0, r => by simp [mrA]
  | k + 1, r => by
    unfold mrA
    rw [mrA_a, Nat.zero_mul, Nat.zero_add, Nat.pow_succ]
    have h1 := mrA_lt h2 k (r / b)
    have h3 : r % b < b := Nat.mod_lt _ (by omega)
    have h4 : (r % b + 1) * b ^ k ≤ b * b ^ k := Nat.mul_le_mul_right _ h3
    rw [Nat.add_mul, Nat.one_mul] at h4
    rw [Nat.mul_comm (b ^ k)]
    omega
theorem mrA_top {b : Nat} (h2 : 2 ≤ b) : ∀ (k : Nat), mrA b k 0 (b ^ k - 1) = b ^ k - 1
  | 0 => by simp [mrA]
  | k + 1 => by
    have hp : 0 < b ^ k := Nat.pow_pos (by omega)
    have e1 : b ^ (k + 1) - 1 = (b ^ k - 1) * b + (b - 1) := by
      rw [Nat.pow_succ, Nat.sub_mul, Nat.one_mul]
      have : b ≤ b ^ k * b := Nat.le_mul_of_pos_left b hp
      omega
    have e2 : (b ^ (k + 1) - 1) % b = b - 1 := by
      rw [e1, Nat.add_comm, Nat.add_mul_mod_self_right]
      exact Nat.mod_eq_of_lt (by omega)
    have e3 : (b ^ (k + 1) - 1) / b = b ^ k - 1 := by
      rw [e1, Nat.add_comm, Nat.add_mul_div_right _ _ (by omega : 0 < b), Nat.div_eq_of_lt (by omega), Nat.zero_add]
    unfold mrA
    rw [e2, e3, mrA_a, mrA_top h2 k, Nat.zero_mul, Nat.zero_add, Nat.pow_succ, Nat.sub_mul, Nat.one_mul, Nat.mul_comm (b ^ k) b]
    have : b ^ k ≤ b * b ^ k := Nat.le_mul_of_pos_left _ (by omega)
    omega
/-- exactly m figures -/
def exF (b m r : Nat) : Prop := r < b ^ m ∧ (m = 0 ∨ b ^ (m - 1) ≤ r)
theorem exF_s {b m r : Nat} (h2 : 2 ≤ b) (h : exF b (m + 1) r) : ¬ r = 0 ∧ exF b m (r / b) := by
  obtain ⟨h1, h3⟩ := h
  have h4 : b ^ m ≤ r := by rcases h3 with h3 | h3; · omega
                            · exact h3
  have hp : 0 < b ^ m := Nat.pow_pos (by omega)
  refine ⟨by omega, Nat.div_lt_of_lt_mul (by rw [Nat.mul_comm, ← Nat.pow_succ]; exact h1), ?_⟩
  cases m with
  | zero => exact Or.inl rfl
  | succ m => exact Or.inr (by rw [Nat.le_div_iff_mul_le (by omega), Nat.add_sub_cancel, ← Nat.pow_succ]; exact h4)
theorem mrA_rv {b : Nat} (h2 : 2 ≤ b) : ∀ (m k a r : Nat), exF b m r → r < 2 ^ k → rvA b a (dgF b k r) = mrA b m a r
  | 0, k, a, r, h, hk => by
    have h1 := h.1
    have e : r = 0 := by rw [Nat.pow_zero] at h1; omega
    rw [e, dgF_0]
    rfl
  | m + 1, k, a, r, h, hk => by
    obtain ⟨h1, h3⟩ := exF_s h2 h
    cases k with
    | zero => omega
    | succ k =>
      rw [dgF_s h1]
      exact mrA_rv h2 m k (a * b + r % b) (r / b) h3 (half_lt h2 hk)
theorem lt_powF {b : Nat} (h2 : 2 ≤ b) : ∀ (k n : Nat), n < 2 ^ k → n < b ^ (dgF b k n).length
  | 0, n, h => by rw [show n = 0 by omega, dgF_0]; simp
  | k + 1, n, h => by
    by_cases h0 : n = 0
    · rw [h0, dgF_0]; simp
    · rw [dgF_s h0, List.length_cons, Nat.pow_succ]
      exact (Nat.div_lt_iff_lt_mul (by omega)).mp (lt_powF h2 k (n / b) (half_lt h2 h))
theorem fg_ex {b n : Nat} (h2 : 2 ≤ b) (hn : n < 2 ^ 63) (h0 : ¬ n = 0) : b ^ ((fg b n).length - 1) ≤ n ∧ n < b ^ (fg b n).length := by
  rw [fg_dg h2 hn h0]
  have h1 := pow_dg h2 63 n hn h0
  have h3 := lt_powF h2 63 n hn
  refine ⟨?_, h3⟩
  have h4 : 0 < (dgF b 63 n).length := by
    rw [dgF_s h0]; simp
  have e : b ^ (dgF b 63 n).length = b * b ^ ((dgF b 63 n).length - 1) := by
    rw [Nat.mul_comm, ← Nat.pow_succ, Nat.succ_eq_add_one, Nat.sub_add_cancel h4]
  rw [e] at h1
  exact Nat.le_of_mul_le_mul_left h1 (by omega)
def alH (b c h : Nat) : Nat := mrA b (c / 2) h (if c % 2 = 1 then h / b else h)
def alN (b x : Nat) : Nat := if x ≤ alH b (fg b x).length (x / b ^ ((fg b x).length / 2)) then alH b (fg b x).length (x / b ^ ((fg b x).length / 2)) else alH b (fg b x).length (x / b ^ ((fg b x).length / 2) + 1)
/-- the half that is turned about has as many figures as it should -/
theorem al_ex {b c h : Nat} (h2 : 2 ≤ b) (h0 : 1 ≤ c) (h1 : exF b (c - c / 2) h) : exF b (c / 2) (if c % 2 = 1 then h / b else h) := by
  by_cases hc : c % 2 = 1
  · rw [if_pos hc]
    rw [show c - c / 2 = c / 2 + 1 by omega] at h1
    exact (exF_s h2 h1).2
  · rw [if_neg hc]
    rw [show c - c / 2 = c / 2 by omega] at h1
    exact h1
theorem hd_ex {b c x : Nat} (h2 : 2 ≤ b) (h0 : 1 ≤ c) (h1 : b ^ (c - 1) ≤ x) (h3 : x < b ^ c) : exF b (c - c / 2) (x / b ^ (c / 2)) := by
  have hp : 0 < b ^ (c / 2) := Nat.pow_pos (by omega)
  refine ⟨Nat.div_lt_of_lt_mul ?_, Or.inr ?_⟩
  · rw [← Nat.pow_add, show c / 2 + (c - c / 2) = c by omega]; exact h3
  · rw [Nat.le_div_iff_mul_le hp, ← Nat.pow_add, show c - c / 2 - 1 + c / 2 = c - 1 by omega]; exact h1
theorem alH_ge {b c h : Nat} : h * b ^ (c / 2) ≤ alH b c h := by
  unfold alH
  rw [mrA_a]
  omega
theorem alH_lt {b c h : Nat} (h2 : 2 ≤ b) : alH b c h < (h + 1) * b ^ (c / 2) := by
  unfold alH
  rw [mrA_a, Nat.add_mul, Nat.one_mul]
  have := mrA_lt h2 (c / 2) (if c % 2 = 1 then h / b else h)
  omega
/-- one more head has as many figures, where the first is too small -/
theorem hd_nx {b c x : Nat} (h2 : 2 ≤ b) (h0 : 1 ≤ c) (h1 : b ^ (c - 1) ≤ x) (h3 : x < b ^ c) (hx : ¬ x ≤ alH b c (x / b ^ (c / 2))) : exF b (c - c / 2) (x / b ^ (c / 2) + 1) := by
  have hp : 0 < b ^ (c / 2) := Nat.pow_pos (by omega)
  obtain ⟨e1, e2⟩ := hd_ex h2 h0 h1 h3
  refine ⟨?_, e2.imp id (fun e => by omega)⟩
  refine Classical.byContradiction (fun hc => hx ?_)
  have hq : 0 < b ^ (c - c / 2) := Nat.pow_pos (by omega)
  have e3 : x / b ^ (c / 2) = b ^ (c - c / 2) - 1 := by omega
  have e4 : (if c % 2 = 1 then x / b ^ (c / 2) / b else x / b ^ (c / 2)) = b ^ (c / 2) - 1 := by
    by_cases hc2 : c % 2 = 1
    · rw [if_pos hc2, e3, show c - c / 2 = c / 2 + 1 by omega, Nat.pow_succ]
      have e5 : b ^ (c / 2) * b - 1 = (b ^ (c / 2) - 1) * b + (b - 1) := by
        rw [Nat.sub_mul, Nat.one_mul]
        have : b ≤ b ^ (c / 2) * b := Nat.le_mul_of_pos_left b hp
        omega
      rw [e5, Nat.add_comm, Nat.add_mul_div_right _ _ (by omega : 0 < b), Nat.div_eq_of_lt (by omega), Nat.zero_add]
    · rw [if_neg hc2, e3, show c - c / 2 = c / 2 by omega]
  unfold alH
  rw [mrA_a, e4, mrA_top h2, e3, Nat.sub_mul, Nat.one_mul, ← Nat.pow_add, show c - c / 2 + c / 2 = c by omega]
  have : b ^ (c / 2) ≤ b ^ c := Nat.pow_le_pow_right (by omega) (by omega)
  omega
theorem alN_ge {b x : Nat} (h2 : 2 ≤ b) (hx : x < 2 ^ 63) : x ≤ alN b x := by
  unfold alN
  split
  · assumption
  · have hp : 0 < b ^ ((fg b x).length / 2) := Nat.pow_pos (by omega)
    have h1 := alH_ge (b := b) (c := (fg b x).length) (h := x / b ^ ((fg b x).length / 2) + 1)
    have h3 := Nat.lt_mul_div_succ x hp
    rw [Nat.mul_comm] at h3
    exact Nat.le_of_lt (Nat.lt_of_lt_of_le h3 h1)
theorem mrA_z {b : Nat} : ∀ k, mrA b k 0 0 = 0
  | 0 => rfl
  | k + 1 => by unfold mrA; rw [Nat.zero_mod, Nat.zero_div, Nat.zero_mul, Nat.add_zero]; exact mrA_z k
theorem alH_0 {b c : Nat} : alH b c 0 = 0 := by
  unfold alH
  rw [Nat.zero_div, ite_self, mrA_z]
theorem alH_lt2 {b c h : Nat} (h2 : 2 ≤ b) (h0 : exF b (c - c / 2) h) : alH b c h < b ^ c := by
  have h1 := alH_lt (c := c) (h := h) h2
  have h3 : (h + 1) * b ^ (c / 2) ≤ b ^ (c - c / 2) * b ^ (c / 2) := Nat.mul_le_mul_right _ h0.1
  rw [← Nat.pow_add, show c - c / 2 + c / 2 = c by omega] at h3
  omega
theorem x_mirL {b c : Nat} (h2 : 2 ≤ b) (h10 : b ≤ 10) (hc : c ≤ 63) (σ : Hp) : ∀ (k i fu a r : Nat), i + k = c / 2 → k < fu → r < 2 ^ 63 → iter (f_X1_mirrored_s30 (nI c) (nI b)) fu (lN a, lN r, nI i, σ) = some (lN (mrA b k a r), σ)
  | k, i, 0, a, r, _, hf, _ => by omega
  | 0, i, fu + 1, a, r, hi, hf, hr => by
    refine iter_inr ?_
    unfold f_X1_mirrored_s30 f_X1_mirrored_t30
    simp only
    rw [show (2 : Int32) = nI 2 from rfl, pk_div (by omega) (by omega) (by omega), if_pos (by rw [nI_leI (by omega) (by omega)]; omega)]
    rfl
  | k + 1, i, fu + 1, a, r, hi, hf, hr => by
    refine (iter_inl (a' := (lN (a * b + r % b), lN (r / b), nI (i + 1), σ)) ?_).trans (x_mirL h2 h10 hc σ k (i + 1) fu (a * b + r % b) (r / b) (by omega) (by omega) (Nat.lt_of_le_of_lt (Nat.div_le_self _ _) hr))
    unfold f_X1_mirrored_s30 f_X1_mirrored_t30
    simp only
    rw [show (2 : Int32) = nI 2 from rfl, pk_div (by omega) (by omega) (by omega), if_neg (by rw [nI_leI (by omega) (by omega)]; omega), ck_pos (nI_l0 h2 h10), nI_l (by omega), pk_lRem hr (by omega) (by omega), pk_lDiv hr (by omega) (by omega), lN_mul, lN_add, nI_1]
theorem x_mirrored {b c h : Nat} (h2 : 2 ≤ b) (h10 : b ≤ 10) (hc : c ≤ 63) (hh : h < 2 ^ 63) (σ : Hp) : f_X1_mirrored (lN h) (nI c) (nI b) σ = some (lN (alH b c h), σ) := by
  unfold f_X1_mirrored f_X1_mirrored_b25
  rw [if_pos (ge2 h2 h10), show (2 : Int32) = nI 2 from rfl, pk_rem (by omega) (by omega) (by omega), show (1 : Int32) = nI 1 from rfl]
  unfold alH
  by_cases hc2 : c % 2 = 1
  · rw [if_pos (by rw [nI_eq (by omega) (by omega)]; exact hc2), if_pos hc2, ck_pos (nI_l0 h2 h10), nI_l (by omega), pk_lDiv hh (by omega) (by omega)]
    exact x_mirL h2 h10 hc σ (c / 2) 0 fuel h (h / b) (by omega) (by unfold fuel; omega) (Nat.lt_of_le_of_lt (Nat.div_le_self _ _) hh)
  · rw [if_neg (by rw [nI_eq (by omega) (by omega)]; exact hc2), if_neg hc2]
    exact x_mirL h2 h10 hc σ (c / 2) 0 fuel h h (by omega) (by unfold fuel; omega) hh
theorem div_pow_s {x b i : Nat} : x / b ^ i / b = x / b ^ (i + 1) := by rw [Nat.div_div_eq_div_mul, ← Nat.pow_succ]
theorem x_alL {b x : Nat} (h2 : 2 ≤ b) (h10 : b ≤ 10) (hx : x ≤ 999999999999999) (σ : Hp) : ∀ (k i fu : Nat), i + k = (fg b x).length / 2 → k < fu → iter (f_X1_alikeFrom_s19 (lN x) (nI b) (nI (fg b x).length)) fu (lN (x / b ^ i), nI i, σ) = some (lN (alN b x), σ)
  | k, i, 0, _, hf => by omega
  | 0, i, fu + 1, hi, hf => by
    have hl := fg_len (b := b) (n := x)
    have hd : x / b ^ ((fg b x).length / 2) ≤ x := Nat.div_le_self _ _
    have ha := alH_lt (b := b) (c := (fg b x).length) (h := x / b ^ ((fg b x).length / 2)) h2
    have hal : alH b (fg b x).length (x / b ^ ((fg b x).length / 2)) < 2 ^ 63 := by
      by_cases h0 : x = 0
      · rw [h0, Nat.zero_div, alH_0]; omega
      · obtain ⟨e1, e2⟩ := fg_ex h2 (show x < 2 ^ 63 by omega) h0
        have e3 := alH_lt2 h2 (hd_ex h2 fg_pos e1 e2)
        have e4 := pow_dg h2 63 x (by omega) h0
        rw [fg_dg h2 (by omega) h0] at e3 ⊢
        have e5 : b * x ≤ 10 * 999999999999999 := Nat.mul_le_mul h10 hx
        have e6 : b ^ (dg b x).length ≤ b * x := e4
        omega
    refine iter_ex ?_
    unfold f_X1_alikeFrom_s19 f_X1_alikeFrom_t19
    simp only
    rw [show (2 : Int32) = nI 2 from rfl, pk_div (by omega) (by omega) (by omega), if_pos (by rw [nI_leI (by omega) (by omega)]; omega), show i = (fg b x).length / 2 by omega, x_mirrored h2 h10 (by omega) (by omega), b2_some, show (1 : Int64) = lN 1 from rfl, lN_add, x_mirrored h2 h10 (by omega) (by omega), b2_some]
    unfold alN
    by_cases hc : x ≤ alH b (fg b x).length (x / b ^ ((fg b x).length / 2))
    · rw [if_pos hc, if_neg (by rw [lc_LT hal (by omega)]; omega)]
    · rw [if_neg hc, if_pos (by rw [lc_LT hal (by omega)]; omega)]
  | k + 1, i, fu + 1, hi, hf => by
    have hl := fg_len (b := b) (n := x)
    have hd : x / b ^ i ≤ x := Nat.div_le_self _ _
    refine (iter_inl (a' := (lN (x / b ^ (i + 1)), nI (i + 1), σ)) ?_).trans (x_alL h2 h10 hx σ k (i + 1) fu (by omega) (by omega))
    unfold f_X1_alikeFrom_s19 f_X1_alikeFrom_t19
    simp only
    rw [show (2 : Int32) = nI 2 from rfl, pk_div (by omega) (by omega) (by omega), if_neg (by rw [nI_leI (by omega) (by omega)]; omega), ck_pos (nI_l0 h2 h10), nI_l (by omega), pk_lDiv (by omega) (by omega) (by omega), div_pow_s, nI_1]
theorem x_alikeFrom {b x : Nat} (h2 : 2 ≤ b) (h10 : b ≤ 10) (hx : x ≤ 999999999999999) (σ : Hp) : f_X1_alikeFrom (lN x) (nI b) σ = some (lN (alN b x), σ) := by
  unfold f_X1_alikeFrom
  rw [if_pos (ge2 h2 h10), x_howMany h2 h10 (by omega), b2_some]
  have := x_alL h2 h10 hx σ ((fg b x).length / 2) 0 fuel (by omega) (by have := fg_len (b := b) (n := x); unfold fuel; omega)
  rw [Nat.pow_zero, Nat.div_one] at this
  exact this
theorem m_mirL {b x h : Nat} {x3 : Int32} (h2 : 2 ≤ b) (h10 : b ≤ 10) {σ : Hp} (hB : hI σ 40 2 = nI b) : ∀ (k fu a r : Nat), r < 2 ^ k → k ≤ 63 → k < fu → iter (f_X12_alikeFrom_s66 (lN x) x3 (lN h)) fu (lN a, lN r, σ) = (if lg_cmp (lN (rvA b a (dgF b k r))) (lN x) < 0 then some (.inl (lN (h + 1), σ)) else some (.inr (lN (rvA b a (dgF b k r)), σ)))
  | k, 0, a, r, _, _, hf => by omega
  | k, fu + 1, a, r, hr, hk, hf => by
    have hn63 : r < 2 ^ 63 := Nat.lt_of_lt_of_le hr (Nat.pow_le_pow_right (by omega) (by omega))
    by_cases h0 : r = 0
    · subst h0
      refine iter_ex ?_
      rw [dgF_0]
      unfold f_X12_alikeFrom_s66 f_X12_alikeFrom_t66
      simp only
      rw [if_pos ((lc_LE0 hn63).mpr rfl), show (1 : Int64) = lN 1 from rfl, lN_add]
      rfl
    · cases k with
      | zero => omega
      | succ k =>
        refine (iter_inl (a' := (lN (a * b + r % b), lN (r / b), σ)) ?_).trans ?_
        · unfold f_X12_alikeFrom_s66 f_X12_alikeFrom_t66
          simp only
          rw [if_neg (by rw [lc_LE0 hn63]; exact h0), hB, ck_pos (nI_l0 h2 h10), nI_l (by omega), pk_lRem hn63 (by omega) (by omega), pk_lDiv hn63 (by omega) (by omega), lN_mul, lN_add]
        · rw [dgF_s h0]
          exact m_mirL h2 h10 hB k fu (a * b + r % b) (r / b) (half_lt h2 hr) (by omega) (by omega)
theorem m_alS {b x h c : Nat} (h2 : 2 ≤ b) (h10 : b ≤ 10) {σ : Hp} (hB : hI σ 40 2 = nI b) (hc : c ≤ 63) (hh : h < 2 ^ 63) (he : exF b (c / 2) (if c % 2 = 1 then h / b else h)) : f_X12_alikeFrom_s40 (lN x) (nI c) (lN h, σ) = (if lg_cmp (lN (alH b c h)) (lN x) < 0 then some (.inl (lN (h + 1), σ)) else some (.inr (lN (alH b c h), σ))) := by
  have hd : h / b < 2 ^ 63 := Nat.lt_of_le_of_lt (Nat.div_le_self _ _) hh
  unfold f_X12_alikeFrom_s40 f_X12_alikeFrom_t40 f_X12_alikeFrom_b64
  simp only
  rw [show (2 : Int32) = nI 2 from rfl, pk_rem (by omega) (by omega) (by omega), show (1 : Int32) = nI 1 from rfl]
  unfold alH
  by_cases hc2 : c % 2 = 1
  · rw [if_pos hc2] at he
    rw [if_pos (by rw [nI_eq (by omega) (by omega)]; exact hc2), if_pos hc2, hB, ck_pos (nI_l0 h2 h10), nI_l (by omega), pk_lDiv hh (by omega) (by omega), m_mirL h2 h10 hB 63 fuel h (h / b) hd (by omega) (by unfold fuel; omega), mrA_rv h2 (c / 2) 63 h (h / b) he hd]
  · rw [if_neg hc2] at he
    rw [if_neg (by rw [nI_eq (by omega) (by omega)]; exact hc2), if_neg hc2, m_mirL h2 h10 hB 63 fuel h h hh (by omega) (by unfold fuel; omega), mrA_rv h2 (c / 2) 63 h h he hh]
theorem alN_lt {b x : Nat} (h2 : 2 ≤ b) (h10 : b ≤ 10) (hx : x ≤ 999999999999999) : alN b x ≤ 9999999999999990 ∧ alH b (fg b x).length (x / b ^ ((fg b x).length / 2)) ≤ 9999999999999990 := by
  by_cases h0 : x = 0
  · unfold alN
    rw [h0, Nat.zero_div, alH_0, if_pos (Nat.le_refl _)]
    omega
  · obtain ⟨e1, e2⟩ := fg_ex h2 (show x < 2 ^ 63 by omega) h0
    have e3 := alH_lt2 h2 (hd_ex h2 fg_pos e1 e2)
    have e5 : b * x ≤ 10 * 999999999999999 := Nat.mul_le_mul h10 hx
    have e6 : b ^ (fg b x).length ≤ b * x := by rw [fg_dg h2 (by omega) h0]; exact pow_dg h2 63 x (by omega) h0
    refine ⟨?_, by omega⟩
    unfold alN
    by_cases hc : x ≤ alH b (fg b x).length (x / b ^ ((fg b x).length / 2))
    · rw [if_pos hc]; omega
    · rw [if_neg hc]
      have e4 := alH_lt2 h2 (hd_nx h2 fg_pos e1 e2 hc)
      omega
theorem m_alT {b x : Nat} (h2 : 2 ≤ b) (h10 : b ≤ 10) (hx : x ≤ 999999999999999) {σ : Hp} (hB : hI σ 40 2 = nI b) : iter (f_X12_alikeFrom_s40 (lN x) (nI (fg b x).length)) fuel (lN (x / b ^ ((fg b x).length / 2)), σ) = some (lN (alN b x), σ) := by
  have hl := fg_len (b := b) (n := x)
  have hd : x / b ^ ((fg b x).length / 2) ≤ x := Nat.div_le_self _ _
  obtain ⟨b1, b2⟩ := alN_lt h2 h10 hx
  by_cases h0 : x = 0
  · subst h0
    have e : alN b 0 = 0 := by unfold alN; rw [Nat.zero_div, alH_0, if_pos (Nat.le_refl _)]
    rw [e, Nat.zero_div]
    refine iter_inr (k := 19999) ?_
    have hz : exF b ((fg b 0).length / 2) (if (fg b 0).length % 2 = 1 then 0 / b else 0) := by
      rw [fg_0, Nat.zero_div, ite_self]
      exact ⟨Nat.pow_pos (by omega), Or.inl rfl⟩
    rw [m_alS h2 h10 hB hl (by omega) hz, alH_0, if_neg (by rw [lc_LT (by omega) (by omega)]; omega)]
  · obtain ⟨e1, e2⟩ := fg_ex h2 (show x < 2 ^ 63 by omega) h0
    have e3 := hd_ex h2 fg_pos e1 e2
    have s1 := m_alS (x := x) h2 h10 hB hl (show x / b ^ ((fg b x).length / 2) < 2 ^ 63 by omega) (al_ex h2 fg_pos e3)
    unfold alN at b1 ⊢
    by_cases hc : x ≤ alH b (fg b x).length (x / b ^ ((fg b x).length / 2))
    · rw [if_pos hc]
      refine iter_inr (k := 19999) ?_
      rw [s1, if_neg (by rw [lc_LT (by omega) (by omega)]; omega)]
    · rw [if_neg hc] at b1 ⊢
      refine (iter_inl (k := 19999) (by rw [s1, if_pos (by rw [lc_LT (by omega) (by omega)]; omega)])).trans (iter_inr (k := 19998) ?_)
      have e4 := hd_nx h2 fg_pos e1 e2 hc
      have hg := alN_ge h2 (show x < 2 ^ 63 by omega)
      unfold alN at hg
      rw [if_neg hc] at hg
      rw [m_alS h2 h10 hB hl (by omega) (al_ex h2 fg_pos e4), if_neg (by rw [lc_LT (by omega) (by omega)]; omega)]
theorem m_alL {b x : Nat} (h2 : 2 ≤ b) (h10 : b ≤ 10) (hx : x ≤ 999999999999999) {σ : Hp} (hB : hI σ 40 2 = nI b) : ∀ (k i fu : Nat), i + k = (fg b x).length / 2 → k < fu → iter (f_X12_alikeFrom_s12 (lN x) (nI (fg b x).length)) fu (lN (x / b ^ i), nI i, σ) = some (lN (alN b x), σ)
  | k, i, 0, _, hf => by omega
  | 0, i, fu + 1, hi, hf => by
    have hl := fg_len (b := b) (n := x)
    refine iter_ex ?_
    unfold f_X12_alikeFrom_s12 f_X12_alikeFrom_t12
    simp only
    rw [show (2 : Int32) = nI 2 from rfl, pk_div (by omega) (by omega) (by omega), if_pos (by rw [nI_leI (by omega) (by omega)]; omega), show i = (fg b x).length / 2 by omega, m_alT h2 h10 hx hB]
  | k + 1, i, fu + 1, hi, hf => by
    have hl := fg_len (b := b) (n := x)
    have hd : x / b ^ i ≤ x := Nat.div_le_self _ _
    refine (iter_inl (a' := (lN (x / b ^ (i + 1)), nI (i + 1), σ)) ?_).trans (m_alL h2 h10 hx hB k (i + 1) fu (by omega) (by omega))
    unfold f_X12_alikeFrom_s12 f_X12_alikeFrom_t12
    simp only
    rw [show (2 : Int32) = nI 2 from rfl, pk_div (by omega) (by omega) (by omega), if_neg (by rw [nI_leI (by omega) (by omega)]; omega), hB, ck_pos (nI_l0 h2 h10), nI_l (by omega), pk_lDiv (by omega) (by omega) (by omega), div_pow_s, nI_1]
theorem m_alikeFrom {b x : Nat} (h2 : 2 ≤ b) (h10 : b ≤ 10) (hx : x ≤ 999999999999999) {σ : Hp} (hB : hI σ 40 2 = nI b) : ∃ F, f_X12_alikeFrom (lN x) σ = some (lN (alN b x), rowI σ 67 F) := by
  obtain ⟨F, g1, _⟩ := m_figures h2 h10 (show x < 2 ^ 63 by omega) hB
  refine ⟨F, ?_⟩
  unfold f_X12_alikeFrom
  rw [g1, b2_some]
  have := m_alL h2 h10 hx (σ := rowI σ 67 F) (by rw [hI_rowI_n _ _ (by decide)]; exact hB) ((fg b x).length / 2) 0 fuel (by omega) (by have := fg_len (b := b) (n := x); unfold fuel; omega)
  rw [Nat.pow_zero, Nat.div_one] at this
  exact this
