/-! rounds: the first number that comes again -/
theorem gr_sh {f : Nat → Option Nat} {o : Option Nat} {i j : Nat} (h : goN f i o = goN f j o) (t : Nat) : goN f (t + i) o = goN f (t + j) o := by
  rw [goN_a, goN_a, h]
theorem gr_dead {f : Nat → Option Nat} {o : Option Nat} {i j : Nat} (h : goN f i o = none) (hij : i ≤ j) : goN f j o = none := by
  rw [show j = (j - i) + i by omega, goN_a, h, goN_none]
theorem per_inj {r : Nat → Option Nat} (hr : ∀ i j t, r i = r j → r (t + i) = r (t + j)) {a L p : Nat} (hp : r (a + L) = r a) (hm : ∀ d, 0 < d → d < L → ¬ r (a + d) = r a) (hpp : r (p + L) = r p) (hpa : p ≤ a) (hmin : ∀ i, i < p → ¬ r (i + L) = r i) : ∀ i j, i < j → j < p + L → ¬ r i = r j := by
  intro i j hij hj e
  have per_L : ∀ u, p ≤ u → r (u + L) = r u := by
    intro u hu
    have h := hr (p + L) p (u - p) hpp
    rw [show u - p + (p + L) = u + L by omega, show u - p + p = u by omega] at h
    exact h
  by_cases hi : i < p
  · apply hmin i hi
    have per_d : ∀ k, r (i + k * (j - i)) = r i := by
      intro k
      induction k with
      | zero => rw [Nat.zero_mul, Nat.add_zero]
      | succ k ih =>
        have h := hr j i (k * (j - i)) e.symm
        rw [show k * (j - i) + j = i + (k + 1) * (j - i) by rw [Nat.add_mul]; omega, Nat.add_comm (k * (j - i)) i] at h
        rw [h, ih]
    have h1 := hr _ _ L (per_d p)
    have h2 : p ≤ p * (j - i) := Nat.le_mul_of_pos_right p (by omega)
    rw [Nat.add_comm i L, ← h1, Nat.add_comm L, per_L _ (by omega), per_d]
  · have h := hr i j (a + L - i) e
    rw [show a + L - i + i = a + L by omega, show a + L - i + j = a + (j - i) + L by omega, hp, per_L _ (by omega)] at h
    exact hm (j - i) (by omega) (by omega) h.symm
def rdO (r : Nat → Option Nat) (p q : Nat) : Prop := 0 < q ∧ p + q ≤ 1000 ∧ r (p + q) = r p ∧ ¬ r (p + q) = none ∧ ∀ i j, i < j → j < p + q → ¬ r i = r j
theorem rd_one {r : Nat → Option Nat} {p q p2 q2 : Nat} (h : rdO r p q) (h2 : rdO r p2 q2) : p = p2 ∧ q = q2 := by
  obtain ⟨a1, a2, a3, a4, a5⟩ := h
  obtain ⟨b1, b2, b3, b4, b5⟩ := h2
  have e1 : ¬ p + q < p2 + q2 := fun c => b5 p (p + q) (by omega) c a3.symm
  have e2 : ¬ p2 + q2 < p + q := fun c => a5 p2 (p2 + q2) (by omega) c b3.symm
  have e3 : p + q = p2 + q2 := by omega
  have e4 : r p = r p2 := by rw [← a3, e3, b3]
  have e5 : ¬ p < p2 := fun c => b5 p p2 c (by omega) e4
  have e6 : ¬ p2 < p := fun c => a5 p2 p c (by omega) e4.symm
  omega
theorem rd_no3 {r : Nat → Option Nat} (h : ∀ i j, i < j → j ≤ 1000 → ¬ r i = r j) (p q : Nat) : ¬ rdO r p q :=
  fun ⟨a1, a2, a3, _, _⟩ => h p (p + q) (by omega) a2 a3.symm
theorem rd_no1 {f : Nat → Option Nat} {o : Option Nat} {i : Nat} (h : goN f i o = none) (p q : Nat) : ¬ rdO (fun k => goN f k o) p q := by
  intro ⟨a1, a2, a3, a4, a5⟩
  by_cases hi : i ≤ p + q
  · exact a4 (gr_dead h hi)
  · obtain ⟨q2, h1, h2⟩ := goN_cyc (f := f) (o := o) (show p < p + q by omega) a3 (i - (p + q))
    rw [show p + q + (i - (p + q)) = i by omega, h] at h2
    exact a4 (gr_dead h2.symm (by omega))
theorem rd_no2 {f : Nat → Option Nat} {o : Option Nat} (h : ∀ j, j < 1000 → ¬ goN f j o = goN f 1000 o) (p q : Nat) : ¬ rdO (fun k => goN f k o) p q := by
  intro ⟨a1, a2, a3, a4, a5⟩
  obtain ⟨q2, h1, h2⟩ := goN_cyc (f := f) (o := o) (show p < p + q by omega) a3 (1000 - (p + q))
  rw [show p + q + (1000 - (p + q)) = 1000 by omega] at h2
  exact h q2 (by omega) h2.symm
def rdL (f : Nat → Option Nat) (L : Nat → Option (Nat × Nat)) : Prop := ∀ x p q, L x = some (p, q) ↔ rdO (fun k => goN f k (some x)) p q
theorem rd_ex (f : Nat → Option Nat) : ∃ L, rdL f L := by
  refine ⟨fun x => @dite _ (∃ z : Nat × Nat, rdO (fun k => goN f k (some x)) z.1 z.2) (Classical.propDecidable _) (fun h => some h.choose) (fun _ => none), fun x p q => ?_⟩
  by_cases h : ∃ z : Nat × Nat, rdO (fun k => goN f k (some x)) z.1 z.2
  · simp only [h, dite_true, Option.some.injEq]
    constructor
    · intro e
      have h1 := h.choose_spec
      rw [e] at h1
      exact h1
    · intro e
      have h1 := rd_one h.choose_spec e
      exact Prod.ext h1.1 h1.2
  · simp only [h, dite_false]
    constructor
    · intro e; cases e
    · intro e; exact absurd ⟨(p, q), e⟩ h
theorem rdL_n {f : Nat → Option Nat} {L : Nat → Option (Nat × Nat)} (hL : rdL f L) {x : Nat} (h : ∀ p q, ¬ rdO (fun k => goN f k (some x)) p q) : L x = none := by
  cases e : L x with
  | none => rfl
  | some z => exact absurd ((hL x z.1 z.2).mp e) (h _ _)
def mnR (r : Nat → Option Nat) (p : Nat) : Nat → Nat
  | 0 => (r p).getD 0
  | k + 1 => if (r (p + (k + 1))).getD 0 < mnR r p k then (r (p + (k + 1))).getD 0 else mnR r p k
theorem okO_D {o : Option Nat} (h : okO o) : o.getD 0 ≤ 999999999999999 := by
  cases o with
  | none => exact Nat.zero_le _
  | some n => exact h n rfl
theorem mnR_le {r : Nat → Option Nat} (h : ∀ i, okO (r i)) {p : Nat} : ∀ k, mnR r p k ≤ 999999999999999
  | 0 => okO_D (h p)
  | k + 1 => by
    unfold mnR
    split
    · exact okO_D (h _)
    · exact mnR_le h k
theorem oL_D {o : Option Nat} (h : ¬ o = none) : oL o = lN (o.getD 0) := by
  cases o with
  | none => exact absurd rfl h
  | some n => rfl
theorem lc_oL {o u : Option Nat} (ho : okO o) (hu : okO u) : lg_cmp (oL o) (oL u) = 0 ↔ o = u := by
  cases o with
  | none => cases u with
    | none => exact ⟨fun _ => rfl, fun _ => lc_m1m⟩
    | some n =>
      refine ⟨fun h => ?_, fun h => by cases h⟩
      have hn := hu n rfl
      have h1 : ¬ ((-1 : Int64) > lN n) := by
        intro c
        have c1 := Int64.lt_iff_toInt_lt.mp c
        rw [pk_lT (by omega), show ((-1 : Int64)).toInt = -1 from rfl] at c1
        omega
      have h2 : ¬ ((-1 : Int64) = lN n) := by
        intro c
        have c1 := congrArg Int64.toInt c
        rw [pk_lT (by omega), show ((-1 : Int64)).toInt = -1 from rfl] at c1
        omega
      rw [oL_n, oL_s] at h
      unfold lg_cmp at h
      rw [if_neg h1, if_neg h2] at h
      exact absurd h (by decide)
  | some m => cases u with
    | none => exact ⟨fun h => absurd h (lc_m1 (ho m rfl)), fun h => by cases h⟩
    | some n =>
      have h1 := ho m rfl
      have h2 := hu n rfl
      rw [oL_s, oL_s, lc_EQ (by omega) (by omega)]
      exact ⟨fun h => by rw [h], fun h => by cases h; rfl⟩
theorem lc_oN {o : Option Nat} {y : Nat} (ho : okO o) (hy : y ≤ 999999999999999) : lg_cmp (oL o) (lN y) = 0 ↔ o = some y := lc_oL (u := some y) ho (fun m e => by cases e; exact hy)
