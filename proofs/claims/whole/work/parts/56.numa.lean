/-- how often d is among m from i on -/
def cnR (s : Nat → Nat) (d : Nat) : Nat → Nat → Nat
  | 0, _ => 0
  | m + 1, i => (if s i = d then 1 else 0) + cnR s d m (i + 1)
theorem cnR_r {s : Nat → Nat} {d : Nat} : ∀ m i, cnR s d (m + 1) i = cnR s d m i + if s (i + m) = d then 1 else 0
  | 0, i => by simp [cnR]
  | m + 1, i => by
    have := cnR_r (s := s) (d := d) m (i + 1)
    rw [show i + 1 + m = i + (m + 1) by omega] at this
    show (if s i = d then 1 else 0) + cnR s d (m + 1) (i + 1) = (if s i = d then 1 else 0) + cnR s d m (i + 1) + _
    rw [this]
    omega
theorem cnR_cn {s : Nat → Nat} {d : Nat} : ∀ m, cnR s d m 0 = cn s d m
  | 0 => rfl
  | m + 1 => by rw [cnR_r, cnR_cn m, Nat.zero_add]; rfl
theorem cnR_rev {s : Nat → Nat} {d n : Nat} : ∀ m i, i + m = n → cnR (fun q => s (n - 1 - q)) d m i = cn s d m
  | 0, i, _ => rfl
  | m + 1, i, h => by
    unfold cnR cn
    rw [cnR_rev m (i + 1) (by omega), show n - 1 - i = m by omega]
    omega
theorem cnR_map {s : Nat → Nat} {d b : Nat} (hd : d < b) : ∀ m i, (∀ q, i ≤ q → q < i + m → s q < b) → cnR (fun q => b - 1 - s q) d m i = cnR s (b - 1 - d) m i
  | 0, i, _ => rfl
  | m + 1, i, h => by
    unfold cnR
    have h1 := h i (by omega) (by omega)
    rw [cnR_map hd m (i + 1) (fun q h2 h3 => h q (by omega) (by omega))]
    by_cases he : s i = b - 1 - d
    · rw [if_pos he, if_pos (by omega)]
    · rw [if_neg he, if_neg (by omega)]
theorem cnR_sh {s : Nat → Nat} {d : Nat} : ∀ m i, cnR s d m (i + 1) = cnR (fun j => s (j + 1)) d m i
  | 0, i => rfl
  | m + 1, i => by
    unfold cnR
    rw [cnR_sh m (i + 1)]
theorem count_cnR {d : Nat} : ∀ l : List Nat, l.count d = cnR (fun j => l.getD j 0) d l.length 0
  | [] => by simp [cnR]
  | x :: l => by
    rw [List.length_cons]
    unfold cnR
    rw [cnR_sh, List.count_cons, count_cnR l]
    by_cases h : x = d
    · subst h; simp [Nat.add_comm]
    · simp [h]
theorem cnR_0 {s : Nat → Nat} {d : Nat} : ∀ m i, (∀ q, i ≤ q → q < i + m → s q ≠ d) → cnR s d m i = 0
  | 0, i, _ => rfl
  | m + 1, i, h => by
    unfold cnR
    rw [if_neg (h i (by omega) (by omega)), cnR_0 m (i + 1) (fun q h2 h3 => h q (by omega) (by omega))]
/-- figures h f, h (f + 1), .. each as often as g says, behind a number -/
def upG (b : Nat) (h g : Nat → Nat) : Nat → Nat → Nat → Nat
  | 0, _, a => a
  | k + 1, f, a => upG b h g k (f + 1) (rpA b a (h f) (g f))
theorem upG_congr {b : Nat} {h g g' : Nat → Nat} : ∀ k f a, (∀ d, f ≤ d → d < f + k → g d = g' d) → upG b h g k f a = upG b h g' k f a
  | 0, _, _, _ => rfl
  | k + 1, f, a, e => by
    unfold upG
    rw [e f (by omega) (by omega)]
    exact upG_congr k (f + 1) _ (fun d h1 h2 => e d (by omega) (by omega))
theorem upA_G {b : Nat} {g : Nat → Nat} : ∀ k f a, upA b g k f a = upG b (fun d => d) g k f a
  | 0, _, _ => rfl
  | k + 1, f, a => by unfold upA upG; exact upA_G k (f + 1) _
theorem dnA_G {b : Nat} {g : Nat → Nat} : ∀ k f a, dnA b g k f a = upG b (fun d => b - 1 - d) (fun d => g (b - 1 - d)) k f a
  | 0, _, _ => rfl
  | k + 1, f, a => by unfold dnA upG; exact dnA_G k (f + 1) _
theorem upG_F {b : Nat} {h s : Nat → Nat} : ∀ (k f m i a : Nat), (∀ p q, i ≤ p → p ≤ q → q < i + m → s p ≤ s q) → (∀ q, i ≤ q → q < i + m → f ≤ s q ∧ s q < f + k) → upG b h (fun d => cnR s d m i) k f a = upF b (fun q => h (s q)) m i a
  | 0, f, 0, i, a, _, _ => rfl
  | 0, f, m + 1, i, a, _, hb => absurd (hb i (by omega) (by omega)) (by omega)
  | k + 1, f, 0, i, a, hs, hb => by
    show upG b h (fun d => cnR s d 0 i) k (f + 1) (rpA b a (h f) 0) = _
    exact upG_F k (f + 1) 0 i a hs (fun q h1 h2 => absurd h2 (by omega))
  | k + 1, f, m + 1, i, a, hs, hb => by
    have hi := hb i (by omega) (by omega)
    by_cases he : s i = f
    · have h1 := upG_F (b := b) (h := h) (s := s) (k + 1) f m (i + 1) (a * b + h f) (fun p q a1 a2 a3 => hs p q (by omega) a2 (by omega)) (fun q a1 a2 => hb q (by omega) (by omega))
      show _ = upF b (fun q => h (s q)) m (i + 1) (a * b + h (s i))
      rw [he, ← h1]
      show upG b h _ k (f + 1) (rpA b a (h f) (cnR s f (m + 1) i)) = upG b h _ k (f + 1) (rpA b (a * b + h f) (h f) (cnR s f m (i + 1)))
      have e1 : cnR s f (m + 1) i = cnR s f m (i + 1) + 1 := by
        show (if s i = f then 1 else 0) + cnR s f m (i + 1) = _
        rw [if_pos he]; omega
      rw [e1]
      show upG b h _ k (f + 1) (rpA b (a * b + h f) (h f) (cnR s f m (i + 1))) = _
      refine upG_congr k (f + 1) _ (fun d h1 h2 => ?_)
      show (if s i = d then 1 else 0) + cnR s d m (i + 1) = cnR s d m (i + 1)
      rw [if_neg (by omega)]; omega
    · have hall : ∀ q, i ≤ q → q < i + (m + 1) → s q ≠ f := by
        intro q h1 h2
        have := hs i q (by omega) h1 h2
        omega
      have e1 : cnR s f (m + 1) i = 0 := cnR_0 (m + 1) i hall
      show upG b h _ k (f + 1) (rpA b a (h f) (cnR s f (m + 1) i)) = _
      rw [e1]
      exact upG_F k (f + 1) (m + 1) i a hs (fun q h1 h2 => by have := hb q h1 h2; have := hall q h1 h2; omega)
theorem upF_a {b : Nat} {s : Nat → Nat} : ∀ m i a, upF b s m i a = a * b ^ m + upF b s m i 0
  | 0, i, a => by simp [upF]
  | m + 1, i, a => by
    unfold upF
    rw [upF_a m (i + 1) (a * b + s i), upF_a m (i + 1) (0 * b + s i), Nat.pow_succ, Nat.add_mul, Nat.zero_mul, Nat.zero_add, Nat.mul_assoc a b, Nat.mul_comm b, Nat.add_assoc]
theorem upF_r {b : Nat} {s : Nat → Nat} : ∀ m i a, upF b s (m + 1) i a = upF b s m i a * b + s (i + m)
  | 0, i, a => by simp [upF]
  | m + 1, i, a => by
    have := upF_r (b := b) (s := s) m (i + 1) (a * b + s i)
    show upF b s (m + 1) (i + 1) (a * b + s i) = _
    rw [this, show i + 1 + m = i + (m + 1) by omega]
    rfl
theorem upF_congr {b : Nat} {s t : Nat → Nat} : ∀ m i a, (∀ q, i ≤ q → q < i + m → s q = t q) → upF b s m i a = upF b t m i a
  | 0, _, _, _ => rfl
  | m + 1, i, a, e => by
    unfold upF
    rw [e i (by omega) (by omega)]
    exact upF_congr m (i + 1) _ (fun q h1 h2 => e q (by omega) (by omega))
theorem upF_sh {b : Nat} {s : Nat → Nat} : ∀ m i a, upF b s m (i + 1) a = upF b (fun j => s (j + 1)) m i a
  | 0, _, _ => rfl
  | m + 1, i, a => by
    unfold upF
    exact upF_sh m (i + 1) _
/-- the value of the first m, the last first -/
theorem upF_rev {b : Nat} {s : Nat → Nat} (m : Nat) : upF b (fun q => s (m + 1 - 1 - q)) (m + 1) 0 0 = s m * b ^ m + upF b (fun q => s (m - 1 - q)) m 0 0 := by
  show upF b (fun q => s (m + 1 - 1 - q)) m (0 + 1) (0 * b + s (m + 1 - 1 - 0)) = _
  rw [upF_sh, upF_a, Nat.zero_mul, Nat.zero_add]
  congr 1
  refine upF_congr m 0 0 (fun q h1 h2 => ?_)
  show s (m + 1 - 1 - (q + 1)) = s (m - 1 - q)
  congr 1
  omega
theorem upF_ub {b x : Nat} {s : Nat → Nat} (h2 : 2 ≤ b) : ∀ m, (∀ q, q < m → s q ≤ x) → (b - 1) * upF b s m 0 0 + x ≤ x * b ^ m
  | 0, _ => by simp [upF]
  | m + 1, h => by
    have h1 := upF_ub (x := x) (s := s) h2 m (fun q hq => h q (by omega))
    have h3 := h m (by omega)
    rw [upF_r, Nat.zero_add, Nat.pow_succ, ← Nat.mul_assoc]
    obtain ⟨c, rfl⟩ : ∃ c, b = c + 1 := ⟨b - 1, by omega⟩
    simp only [Nat.add_sub_cancel] at h1 ⊢
    have h4 : (c * upF (c + 1) s m 0 0 + x) * (c + 1) ≤ x * (c + 1) ^ m * (c + 1) := Nat.mul_le_mul_right _ h1
    have h5 : c * s m ≤ c * x := Nat.mul_le_mul_left _ h3
    have e1 : c * (upF (c + 1) s m 0 0 * (c + 1) + s m) = c * upF (c + 1) s m 0 0 * (c + 1) + c * s m := by rw [Nat.mul_add, Nat.mul_assoc]
    have e2 : (c * upF (c + 1) s m 0 0 + x) * (c + 1) = c * upF (c + 1) s m 0 0 * (c + 1) + (x * c + x) := by rw [Nat.add_mul, Nat.mul_add x, Nat.mul_one]
    have e3 : c * x = x * c := Nat.mul_comm _ _
    omega
theorem upF_le {b : Nat} {s : Nat → Nat} (h2 : 2 ≤ b) : ∀ m, (∀ p q, p ≤ q → q < m → s p ≤ s q) → upF b s m 0 0 ≤ upF b (fun q => s (m - 1 - q)) m 0 0
  | 0, _ => by simp [upF]
  | m + 1, h => by
    have h1 := upF_le (s := s) h2 m (fun p q a1 a2 => h p q a1 (by omega))
    have h3 := upF_ub (x := s m) (s := s) h2 m (fun q hq => h q m (by omega) (by omega))
    rw [upF_rev, upF_r, Nat.zero_add]
    obtain ⟨c, rfl⟩ : ∃ c, b = c + 1 := ⟨b - 1, by omega⟩
    simp only [Nat.add_sub_cancel] at h3
    have e : upF (c + 1) s m 0 0 * (c + 1) = c * upF (c + 1) s m 0 0 + upF (c + 1) s m 0 0 := by rw [Nat.mul_add, Nat.mul_one, Nat.mul_comm]
    omega
