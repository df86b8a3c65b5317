theorem pow_dg {b : Nat} (h2 : 2 ≤ b) : ∀ (k n : Nat), n < 2 ^ k → ¬ n = 0 → b ^ (dgF b k n).length ≤ b * n
  | 0, n, h, h0 => by omega
  | k + 1, n, h, h0 => by
    rw [dgF_s h0, List.length_cons, Nat.pow_succ, Nat.mul_comm]
    refine Nat.mul_le_mul_left b ?_
    by_cases h1 : n / b = 0
    · rw [h1, dgF_0]; simp; omega
    · exact Nat.le_trans (pow_dg h2 k (n / b) (half_lt h2 h) h1) (Nat.mul_div_le n b)
theorem rvA_lt {b : Nat} : ∀ (l : List Nat) (a : Nat), (∀ d, d ∈ l → d < b) → rvA b a l < (a + 1) * b ^ l.length
  | [], a, _ => by simp [rvA]
  | d :: l, a, h => by
    have h1 := rvA_lt l (a * b + d) (fun e he => h e (List.mem_cons_of_mem _ he))
    have h2 := h d List.mem_cons_self
    have h3 : (a * b + d + 1) * b ^ l.length ≤ ((a + 1) * b) * b ^ l.length := Nat.mul_le_mul_right _ (by rw [Nat.add_mul]; omega)
    rw [List.length_cons, Nat.pow_succ, Nat.mul_comm (b ^ l.length) b, ← Nat.mul_assoc]
    unfold rvA at *
    rw [List.foldl_cons]
    omega
theorem rvN_le {b n : Nat} (h2 : 2 ≤ b) (hn : n < 2 ^ 63) : rvN b n ≤ b * n := by
  by_cases h0 : n = 0
  · subst h0; unfold rvN; rw [dg_0]; simp [rvA]
  · have h1 := rvA_lt (b := b) (dg b n) 0 (fun d h => dgF_lt h2 _ _ d h)
    have h3 := pow_dg h2 63 n hn h0
    unfold rvN dg at *
    omega
theorem prA_le {b : Nat} (h2 : 2 ≤ b) : ∀ (k n a : Nat), n < 2 ^ k → ¬ n = 0 → prA a (dgF b k n) ≤ a * n
  | 0, n, a, h, h0 => by omega
  | k + 1, n, a, h, h0 => by
    rw [dgF_s h0, prA_c2]
    by_cases h1 : n / b = 0
    · rw [h1, dgF_0]
      show a * (n % b) ≤ a * n
      exact Nat.mul_le_mul_left _ (Nat.mod_le _ _)
    · refine Nat.le_trans (prA_le h2 k (n / b) _ (half_lt h2 h) h1) ?_
      rw [Nat.mul_assoc]
      refine Nat.mul_le_mul_left _ ?_
      exact Nat.le_trans (Nat.mul_le_mul_right _ (Nat.le_of_lt (Nat.mod_lt n (by omega)))) (Nat.mul_div_le n b)
theorem prN_le {b n : Nat} (h2 : 2 ≤ b) (hn : n < 2 ^ 63) : prA 1 (fg b n) ≤ n := by
  by_cases h0 : n = 0
  · subst h0; rw [fg_0]; simp [prA]
  · rw [fg_dg h2 hn h0]
    have := prA_le h2 63 n 1 hn h0
    rw [Nat.one_mul] at this
    exact this
theorem smA_le {g : Nat → Nat} {M : Nat} : ∀ (l : List Nat) (a : Nat), (∀ d, d ∈ l → g d ≤ M) → smA g a l ≤ a + M * l.length
  | [], a, _ => by simp [smA]
  | d :: l, a, h => by
    have h1 := smA_le l (a + g d) (fun e he => h e (List.mem_cons_of_mem _ he))
    have h2 := h d List.mem_cons_self
    rw [smA_c2, List.length_cons, Nat.mul_add, Nat.mul_one]
    omega
theorem upF_lt {b : Nat} {s : Nat → Nat} : ∀ m, (∀ q, q < m → s q < b) → upF b s m 0 0 < b ^ m
  | 0, _ => by simp [upF]
  | m + 1, h => by
    have h1 := upF_lt (s := s) m (fun q hq => h q (by omega))
    have h2 := h m (by omega)
    have h3 : (upF b s m 0 0 + 1) * b ≤ b ^ m * b := Nat.mul_le_mul_right _ h1
    rw [upF_r, Nat.zero_add, Nat.pow_succ]
    rw [Nat.add_mul] at h3
    omega
theorem spD_le {b n : Nat} (h2 : 2 ≤ b) (hn : n < 2 ^ 63) : spD b n ≤ b * n := by
  by_cases h0 : n = 0
  · subst h0; rw [sp_0.2]; omega
  · have h1 := upF_lt (b := b) (s := fun k => srt b n ((fg b n).length - 1 - k)) (fg b n).length (fun q hq => srt_lt h2 _ (by omega))
    have h3 := pow_dg h2 63 n hn h0
    have e : dgF b 63 n = fg b n := (fg_dg h2 hn h0).symm
    rw [e] at h3
    unfold spD
    omega
/-- what is behind a number by a law of a kind, its figure a, in a base, with values; it may be above MOST -/
def nxN (kd a b : Nat) (w : Nat → Nat) (n : Nat) : Nat :=
  if kd = 0 then n + rvN b n + a
  else if kd = 1 then (if rvN b n ≤ n then n - rvN b n else rvN b n - n)
  else if kd = 2 then smA (fun d => d ^ 2) 0 (fg b n)
  else if kd = 3 then spD b n - spU b n
  else if kd = 4 then prA 1 (fg b n) + a
  else if kd = 5 then smA w 0 (fg b n)
  else smA (fun d => d ^ 3) 0 (fg b n)
theorem nxN_lt {kd a b n : Nat} {w : Nat → Nat} (h2 : 2 ≤ b) (h10 : b ≤ 10) (ha : a ≤ 9) (hw : ∀ f, f < 10 → w f ≤ 999) (hn : n ≤ 999999999999999) : nxN kd a b w n < 2 ^ 62 := by
  have hn63 : n < 2 ^ 63 := by omega
  have hbn : b * n ≤ 10 * 999999999999999 := Nat.mul_le_mul h10 hn
  have h1 := rvN_le h2 hn63
  have h3 := prN_le h2 hn63
  have h4 := spD_le h2 hn63
  have h5 := fg_len (b := b) (n := n)
  have hd : ∀ d, d ∈ fg b n → d ≤ 9 := fun d h => by have := fg_lt h2 h; omega
  have h6 : smA (fun d => d ^ 2) 0 (fg b n) ≤ 0 + 81 * (fg b n).length := smA_le _ _ (fun d h => Nat.pow_le_pow_left (hd d h) 2)
  have h7 : smA (fun d => d ^ 3) 0 (fg b n) ≤ 0 + 729 * (fg b n).length := smA_le _ _ (fun d h => Nat.pow_le_pow_left (hd d h) 3)
  have h8 : smA w 0 (fg b n) ≤ 0 + 999 * (fg b n).length := smA_le _ _ (fun d h => hw d (by have := hd d h; omega))
  unfold nxN
  by_cases c0 : kd = 0
  · rw [if_pos c0]; omega
  rw [if_neg c0]
  by_cases c1 : kd = 1
  · rw [if_pos c1]
    by_cases hc : rvN b n ≤ n
    · rw [if_pos hc]; omega
    · rw [if_neg hc]; omega
  rw [if_neg c1]
  by_cases c2 : kd = 2
  · rw [if_pos c2]; omega
  rw [if_neg c2]
  by_cases c3 : kd = 3
  · rw [if_pos c3]; omega
  rw [if_neg c3]
  by_cases c4 : kd = 4
  · rw [if_pos c4]; omega
  rw [if_neg c4]
  by_cases c5 : kd = 5
  · rw [if_pos c5]; omega
  · rw [if_neg c5]; omega
