theorem l_subT {n r : Nat} (hn : n < 2 ^ 62) (hr : r < 2 ^ 62) : (lN n - lN r).toInt = (n : Int) - r := by
  rw [Int64.toInt_sub, pk_lT (by omega), pk_lT (by omega)]
  exact Int.bmod_eq_of_le (by omega) (by omega)
theorem l_neg {n r : Nat} (h : n < r) : -(lN n - lN r) = lN (r - n) := by
  rw [Int64.neg_sub, lN_sub (by omega)]
theorem lc_neg {n r : Nat} (hn : n < 2 ^ 62) (hr : r < 2 ^ 62) (h : n < r) : ¬ 0 ≤ lg_cmp (lN n - lN r) 0 := by
  have e := l_subT hn hr
  have h1 : ¬ (lN n - lN r) > 0 := by
    intro c
    have := Int64.lt_iff_toInt_lt.mp c
    rw [e, show (0 : Int64).toInt = 0 from rfl] at this
    omega
  have h2 : ¬ lN n - lN r = 0 := by
    intro c
    rw [c, show (0 : Int64).toInt = 0 from rfl] at e
    omega
  unfold lg_cmp
  rw [if_neg h1, if_neg h2]
  decide
theorem x_abs {n r : Nat} (hn : n < 2 ^ 62) (hr : r < 2 ^ 62) : (if 0 < (lN n - lN r) then (lN n - lN r) else -(lN n - lN r)) = lN (if r ≤ n then n - r else r - n) := by
  have e := l_subT hn hr
  by_cases h : r ≤ n
  · rw [if_pos h]
    by_cases h1 : r = n
    · subst h1
      rw [lN_sub (Nat.le_refl _), Nat.sub_self, if_neg (by decide)]
      rfl
    · rw [if_pos (by rw [Int64.lt_iff_toInt_lt, e, show (0 : Int64).toInt = 0 from rfl]; omega), lN_sub h]
  · rw [if_neg h, if_neg (by rw [Int64.lt_iff_toInt_lt, e, show (0 : Int64).toInt = 0 from rfl]; omega), l_neg (by omega)]
/-- the place of a kind's type among the known ones -/
def clK (kd : Nat) : Nat := if kd = 0 then 1 else if kd = 1 then 7 else if kd = 2 then 5 else if kd = 3 then 2 else if kd = 4 then 8 else if kd = 5 then 9 else 0
/-- a made law j stands for a law of a kind, its figure a, its place, with values, in the state k of a base -/
def lawX (σ : Hp) (j k kd a pl b : Nat) (w : Nat → Nat) : Prop := isLaw σ j = true ∧ hC σ j = clK kd ∧ hI σ (100 + j) 0 = nI pl ∧ hI σ (100 + j) 1 = nI a ∧ hI σ k 0 = nI b ∧ (∀ f, f < 10 → hI σ (k + 6) (10 * pl + f) = nI (w f)) ∧ kd ≤ 6 ∧ a ≤ 9 ∧ pl < 6 ∧ 2 ≤ b ∧ b ≤ 10 ∧ ∀ f, f < 10 → w f ≤ 999
theorem x_reckon {σ : Hp} {j k kd a pl b n : Nat} {w : Nat → Nat} (h : lawX σ j k kd a pl b w) (hn : n ≤ 999999999999999) : v_reckon j (lN n) k σ = some (lN (nxN kd a b w n), σ) := by
  obtain ⟨hL, hCl, hP, hA, hB, hw, hk, ha, hp, h2, h10, hw9⟩ := h
  have hn63 : n < 2 ^ 63 := by omega
  have hr := rvN_le h2 hn63
  have hbn : b * n ≤ 10 * 999999999999999 := Nat.mul_le_mul h10 hn
  unfold v_reckon nxN
  rcases (show kd = 0 ∨ kd = 1 ∨ kd = 2 ∨ kd = 3 ∨ kd = 4 ∨ kd = 5 ∨ kd = 6 by omega) with rfl | rfl | rfl | rfl | rfl | rfl | rfl
  · rw [show hC σ j = 1 from hCl]
    unfold f_X2_reckon
    rw [hB, x_turnedOf h2 h10 hn63, b2_some, ck_pos hL, hA, nI_l (by omega), lN_add, lN_add]
    rfl
  · rw [show hC σ j = 7 from hCl]
    unfold f_X8_reckon
    rw [hB, x_turnedOf h2 h10 hn63, b2_some, x_abs (by omega) (by omega)]
    rfl
  · rw [show hC σ j = 5 from hCl]
    unfold f_X6_reckon
    have e : smA (fun d => d ^ 2) 0 (dg b n) = smA (fun d => d ^ 2) 0 (fg b n) := by
      by_cases h0 : n = 0
      · subst h0; rw [dg_0, fg_0]; rfl
      · rw [fg_dg h2 hn63 h0]
    rw [hB, show (2 : Int32) = nI 2 from rfl, x_together h2 h10 hn63 (by omega) (by omega), b2_some, e]
    rfl
  · rw [show hC σ j = 2 from hCl]
    unfold f_X3_reckon
    rw [hB, x_spreadN h2 h10 hn63, b2_some]
    rfl
  · rw [show hC σ j = 8 from hCl]
    unfold f_X9_reckon
    rw [hB, x_multiplied h2 h10 hn63, b2_some, ck_pos hL, hA, nI_l (by omega), lN_add]
    rfl
  · rw [show hC σ j = 9 from hCl]
    have := x_toldR (k := k) (w := w) h2 h10 hp hL hP hw (fun f hf => by have := hw9 f hf; omega) hB hn63
    exact this
  · rw [show hC σ j = 0 from hCl]
    unfold f_X0_reckon
    have e : smA (fun d => d ^ 3) 0 (dg b n) = smA (fun d => d ^ 3) 0 (fg b n) := by
      by_cases h0 : n = 0
      · subst h0; rw [dg_0, fg_0]; rfl
      · rw [fg_dg h2 hn63 h0]
    rw [hB, show (3 : Int32) = nI 3 from rfl, x_together h2 h10 hn63 (by omega) (by omega), b2_some, e]
    rfl
theorem clK_in (kd : Nat) : clK kd = 0 ∨ clK kd = 1 ∨ clK kd = 2 ∨ clK kd = 5 ∨ clK kd = 7 ∨ clK kd = 8 ∨ clK kd = 9 := by
  unfold clK
  repeat' split
  all_goals simp
theorem x_onward {σ : Hp} {j k kd a pl b n : Nat} {w : Nat → Nat} (h : lawX σ j k kd a pl b w) (hn : n ≤ 999999999999999) : v_onward j (lN n) k σ = some (oM (nxN kd a b w n), σ) := by
  have hr := x_reckon h hn
  obtain ⟨hL, hCl, hP, hA, hB, hw, hk, ha, hp, h2, h10, hw9⟩ := h
  have hlt := nxN_lt (kd := kd) (a := a) (w := w) h2 h10 ha hw9 hn
  have e : f_X2_onward j (lN n) k σ = some (oM (nxN kd a b w n), σ) := by
    unfold f_X2_onward oM
    rw [ck_pos hL, hr, b2_some]
    by_cases hc : nxN kd a b w n ≤ 999999999999999
    · rw [if_pos (by rw [show (999999999999999 : Int64) = lN 999999999999999 from rfl, lc_LE (by omega) (by omega)]; exact hc), if_pos hc]
    · rw [if_neg (by rw [show (999999999999999 : Int64) = lN 999999999999999 from rfl, lc_LE (by omega) (by omega)]; exact hc), if_neg hc]
  unfold v_onward
  rcases clK_in kd with hc | hc | hc | hc | hc | hc | hc <;> (rw [hCl, hc]; exact e)
