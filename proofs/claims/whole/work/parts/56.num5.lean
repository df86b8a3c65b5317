theorem l_and63 {n : Nat} (hn : n < 2 ^ 63) : lN n &&& (63 : Int64) = lN (n % 64) := by
  apply Int64.toBitVec_inj.mp
  apply BitVec.eq_of_toNat_eq
  rw [Int64.toBitVec_and, BitVec.toNat_and]
  have e1 : (lN n).toBitVec.toNat = n := Nat.mod_eq_of_lt (show n < 2 ^ 64 by omega)
  have e2 : (63 : Int64).toBitVec.toNat = 2 ^ 6 - 1 := by decide
  have e3 : (lN (n % 64)).toBitVec.toNat = n % 64 := Nat.mod_eq_of_lt (show n % 64 < 2 ^ 64 by omega)
  rw [e1, e2, e3, Nat.and_two_pow_sub_one_eq_mod]
theorem l_ushr {n : Nat} (hn : n < 2 ^ 63) (s : UInt64) (k : Nat) (hs : (s.toBitVec % 64).toNat = k) : ((lN n).toUInt64 >>> s).toInt64 = lN (n / 2 ^ k) := by
  apply Int64.toBitVec_inj.mp
  apply BitVec.eq_of_toNat_eq
  have e : ((lN n).toUInt64 >>> s).toInt64.toBitVec = (lN n).toBitVec >>> k := by
    rw [← hs]
    exact UInt64.toBitVec_shiftRight _ _
  have e1 : (lN n).toBitVec.toNat = n := Nat.mod_eq_of_lt (show n < 2 ^ 64 by omega)
  have e3 : (lN (n / 2 ^ k)).toBitVec.toNat = n / 2 ^ k := Nat.mod_eq_of_lt (Nat.lt_of_le_of_lt (Nat.div_le_self _ _) (show n < 2 ^ 64 by omega))
  rw [e, BitVec.toNat_ushiftRight, Nat.shiftRight_eq_div_pow, e1, e3]
theorem shl6 {d : Nat} (h : d < 10) : (1 : Int64) <<< ((((6 : Int64) * lN d).toInt32).toInt64 &&& 63) = lN (64 ^ d) := by
  have : ∀ d, d < 10 → (1 : Int64) <<< ((((6 : Int64) * lN d).toInt32).toInt64 &&& 63) = lN (64 ^ d) := by decide +kernel
  exact this d h
theorem shr6 {c f : Nat} (hc : c < 2 ^ 63) (h : f < 10) : (((lN c).toUInt64 >>> (((6 : Int32) * nI f).toInt64.toUInt64 &&& Int64.toUInt64 63)).toInt64 &&& (63 : Int64)) = lN (c / 64 ^ f % 64) := by
  have e : ∀ f, f < 10 → ((((6 : Int32) * nI f).toInt64.toUInt64 &&& Int64.toUInt64 63).toBitVec % 64).toNat = 6 * f := by decide +kernel
  rw [l_ushr hc _ (6 * f) (e f h), l_and63 (Nat.lt_of_le_of_lt (Nat.div_le_self _ _) hc), Nat.pow_mul]
/-- how often a figure is there, in six bits each -/
def cvS (l : List Nat) : Nat := smA (fun d => 64 ^ d) 0 l
theorem smA_a (g : Nat → Nat) : ∀ (l : List Nat) (a : Nat), smA g a l = a + smA g 0 l
  | [], a => by simp [smA]
  | d :: l, a => by
    have h1 := smA_a g l (a + g d)
    have h2 := smA_a g l (0 + g d)
    unfold smA at *
    rw [List.foldl_cons, List.foldl_cons, h1, h2]
    omega
theorem smA_c (g : Nat → Nat) (d : Nat) (l : List Nat) : smA g 0 (d :: l) = g d + smA g 0 l := by
  have := smA_a g l (0 + g d)
  unfold smA at *
  rw [List.foldl_cons, this]
  omega
def vlG (g : Nat → Nat) : Nat → Nat
  | 0 => 0
  | m + 1 => vlG g m + g m * 64 ^ m
theorem vlG_lt {g : Nat → Nat} (h : ∀ f, g f ≤ 63) : ∀ m, vlG g m < 64 ^ m
  | 0 => by simp [vlG]
  | m + 1 => by
    have h1 := vlG_lt h m
    have h2 : g m * 64 ^ m ≤ 63 * 64 ^ m := Nat.mul_le_mul_right _ (h m)
    unfold vlG
    rw [Nat.pow_succ]
    omega
theorem vlG_at {g : Nat → Nat} (h : ∀ f, g f ≤ 63) : ∀ m f, f < m → vlG g m / 64 ^ f % 64 = g f
  | 0, f, hf => by omega
  | m + 1, f, hf => by
    have hp : 0 < 64 ^ f := Nat.pow_pos (by omega)
    unfold vlG
    by_cases hm : f = m
    · subst hm
      rw [Nat.add_mul_div_right _ _ hp, Nat.div_eq_of_lt (vlG_lt h f), Nat.zero_add]
      exact Nat.mod_eq_of_lt (by have := h f; omega)
    · have e : g m * 64 ^ m = (g m * 64 ^ (m - f - 1) * 64) * 64 ^ f := by
        rw [Nat.mul_assoc (g m), ← Nat.pow_succ, Nat.mul_assoc, ← Nat.pow_add]
        congr 2
        omega
      rw [e, Nat.add_mul_div_right _ _ hp, Nat.add_mul_mod_self_right]
      exact vlG_at h m f (by omega)
theorem vlG_up {g : Nat → Nat} {d : Nat} : ∀ m, vlG (fun f => if f = d then g f + 1 else g f) m = vlG g m + if d < m then 64 ^ d else 0
  | 0 => by simp [vlG]
  | m + 1 => by
    unfold vlG
    rw [vlG_up m]
    by_cases hm : m = d
    · subst hm
      simp [Nat.add_mul]
      omega
    · rw [if_neg hm]
      by_cases h1 : d < m
      · rw [if_pos h1, if_pos (by omega)]; omega
      · rw [if_neg h1, if_neg (by omega)]; omega
theorem vlG_0 : ∀ m, vlG (fun _ => 0) m = 0
  | 0 => rfl
  | m + 1 => by unfold vlG; rw [vlG_0 m]; omega
theorem cvS_eq {m : Nat} : ∀ l : List Nat, (∀ d, d ∈ l → d < m) → cvS l = vlG (fun f => l.count f) m
  | [], _ => by
    have : (fun f => List.count f ([] : List Nat)) = fun _ => 0 := by funext f; simp
    rw [this, vlG_0]
    rfl
  | d :: l, h => by
    have e : (fun f => List.count f (d :: l)) = fun f => if f = d then List.count f l + 1 else List.count f l := by
      funext f
      rw [List.count_cons]
      by_cases hf : f = d
      · subst hf; simp
      · rw [if_neg hf, if_neg (by simpa using fun e => hf e.symm)]; rfl
    rw [e, vlG_up, if_pos (h d List.mem_cons_self), ← cvS_eq l (fun e he => h e (List.mem_cons_of_mem _ he))]
    unfold cvS
    rw [smA_c]
    omega
theorem cvS_at {m f : Nat} {l : List Nat} (h : ∀ d, d ∈ l → d < m) (hl : l.length ≤ 63) (hf : f < m) : cvS l / 64 ^ f % 64 = l.count f := by
  rw [cvS_eq l h]
  exact vlG_at (fun f => Nat.le_trans List.count_le_length hl) m f hf
theorem cvS_lt {m : Nat} {l : List Nat} (h : ∀ d, d ∈ l → d < m) (hl : l.length ≤ 63) (hm : m ≤ 10) : cvS l < 2 ^ 63 := by
  rw [cvS_eq l h]
  refine Nat.lt_of_lt_of_le (vlG_lt (fun f => Nat.le_trans List.count_le_length hl) m) ?_
  exact Nat.le_trans (Nat.pow_le_pow_right (by omega) hm) (by decide)
