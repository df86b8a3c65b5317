theorem m_goesOf {σ : Hp} {l kd a b n : Nat} {w : Nat → Nat} (h : lawM σ l kd a b w) (hn : n ≤ 999999999999999) : ∃ (F : Nat → Int32) (C : Nat → Int64), f_X12_goesOf (nI l) (lN n) σ = some (oI (gs (nxO kd a b w) b 201 0 (some n)), rowJ (rowI σ 67 F) 40 C) ∧ ∀ q, gs (nxO kd a b w) b 201 0 (some n) = some q → C 28 = oL (goN (nxO kd a b w) q (some n)) := by
  obtain ⟨F, C, g1, g2⟩ := m_goeL (l := l) (kd := kd) (a := a) (b := b) (w := w) 201 0 fuel (some n) (sJ σ 40 28 (lN n)) (lawM_rowJ h) (by unfold sJ; rw [hJ_rowJ_k, up_eq]; rfl) (by omega) (fun m e => by cases e; exact hn) (by unfold fuel; omega)
  refine ⟨F, C, ?_, fun q e => (g2 q e).2⟩
  unfold f_X12_goesOf
  refine g1.trans ?_
  unfold sJ
  rw [rowIJ, rowJ_rowJ]
theorem goN_s {f : Nat → Option Nat} : ∀ k o, goN f (k + 1) o = (goN f k o).bind f
  | 0, o => rfl
  | k + 1, o => goN_s k (o.bind f)
theorem goN_a {f : Nat → Option Nat} : ∀ k m o, goN f (k + m) o = goN f k (goN f m o)
  | k, 0, o => rfl
  | k, m + 1, o => by
    show goN f (k + m) (o.bind f) = goN f k (goN f m (o.bind f))
    exact goN_a k m _
/-- a number that comes again brings nothing new -/
theorem goN_cyc {f : Nat → Option Nat} {o : Option Nat} {i m : Nat} (hm : m < i) (h : goN f i o = goN f m o) : ∀ t, ∃ q, q < i ∧ goN f (i + t) o = goN f q o
  | 0 => ⟨m, hm, h⟩
  | t + 1 => by
    obtain ⟨q, h1, h2⟩ := goN_cyc hm h t
    have e : goN f (i + (t + 1)) o = goN f (q + 1) o := by rw [← Nat.add_assoc, goN_s, h2, goN_s]
    by_cases hq : q + 1 = i
    · exact ⟨m, hm, by rw [e, hq, h]⟩
    · exact ⟨q + 1, by omega, e⟩
theorem gs_cyc {f : Nat → Option Nat} {o : Option Nat} {b i m : Nat} (hm : m < i) (h : goN f i o = goN f m o) (ha : ∀ q, q < i → ∀ v, goN f q o = some v → ¬ rvN b v = v) : ∀ k t, gs f b k (i + t) (goN f (i + t) o) = none
  | 0, t => rfl
  | k + 1, t => by
    cases hv : goN f (i + t) o with
    | none => rfl
    | some v =>
      obtain ⟨q, h1, h2⟩ := goN_cyc hm h t
      have h3 := ha q h1 v (by rw [← h2, hv])
      show (if rvN b v = v then some (i + t) else gs f b k (i + t + 1) (f v)) = none
      have e : f v = goN f (i + (t + 1)) o := by rw [← Nat.add_assoc, goN_s, hv]; rfl
      rw [if_neg h3, e, Nat.add_assoc]
      exact gs_cyc hm h ha k (t + 1)
