/-! runs: the numbers behind each other, none behind an end -/
def oL (o : Option Nat) : Int64 := match o with
  | none => -1
  | some m => lN m
theorem oL_n : oL none = -1 := rfl
theorem oL_s {n : Nat} : oL (some n) = lN n := rfl
def nxO (kd a b : Nat) (w : Nat → Nat) (n : Nat) : Option Nat := if nxN kd a b w n ≤ 999999999999999 then some (nxN kd a b w n) else none
theorem oL_nx {kd a b n : Nat} {w : Nat → Nat} : oM (nxN kd a b w n) = oL (nxO kd a b w n) := by
  unfold oM nxO
  by_cases h : nxN kd a b w n ≤ 999999999999999
  · rw [if_pos h, if_pos h]; rfl
  · rw [if_neg h, if_neg h]; rfl
def okO (o : Option Nat) : Prop := ∀ m, o = some m → m ≤ 999999999999999
theorem okO_nx {kd a b n : Nat} {w : Nat → Nat} : okO (nxO kd a b w n) := by
  intro m h
  unfold nxO at h
  by_cases hc : nxN kd a b w n ≤ 999999999999999
  · rw [if_pos hc] at h; cases h; exact hc
  · rw [if_neg hc] at h; cases h
theorem okO_b {kd a b : Nat} {w : Nat → Nat} {o : Option Nat} : okO (o.bind (nxO kd a b w)) := by
  cases o with
  | none => intro m h; cases h
  | some n => exact okO_nx
/-- k goes on from a number or an end -/
def goN (f : Nat → Option Nat) : Nat → Option Nat → Option Nat
  | 0, o => o
  | k + 1, o => goN f k (o.bind f)
theorem goN_none {f : Nat → Option Nat} : ∀ k, goN f k none = none
  | 0 => rfl
  | k + 1 => goN_none k
theorem lc_m1 {n : Nat} (h : n ≤ 999999999999999) : ¬ lg_cmp (lN n) (-1) = 0 := by
  have h1 : (lN n) > (-1 : Int64) := by
    show (-1 : Int64) < lN n
    rw [Int64.lt_iff_toInt_lt, pk_lT (by omega), show ((-1 : Int64)).toInt = -1 from rfl]
    omega
  unfold lg_cmp
  rw [if_pos h1]
  decide
theorem lc_m1m : lg_cmp (-1) (-1) = 0 := by decide
theorem x_behL {σ : Hp} {j kd a pl b g : Nat} {w : Nat → Nat} (h : lawX σ j 1 kd a pl b w) (hg : g < 2 ^ 14) : ∀ (k i fu : Nat) (o : Option Nat), i + k = g → okO o → k < fu → iter (f_X11_behind_s6 j (nI g)) fu (oL o, nI i, σ) = some (oL (goN (nxO kd a b w) k o), σ)
  | 0, i, 0, o, _, _, hf => by omega
  | k + 1, i, 0, o, _, _, hf => by omega
  | 0, i, fu + 1, o, hi, ho, hf => by
    refine iter_inr ?_
    unfold f_X11_behind_s6 f_X11_behind_t6
    simp only
    rw [if_pos (by rw [nI_leI (by omega) (by omega)]; omega)]
    rfl
  | k + 1, i, fu + 1, o, hi, ho, hf => by
    cases o with
    | none =>
      refine iter_inr ?_
      rw [goN_none]
      unfold f_X11_behind_s6 f_X11_behind_t6
      simp only
      rw [if_neg (by rw [nI_leI (by omega) (by omega)]; omega), oL_n, if_pos lc_m1m]
      rfl
    | some n =>
      have hn := ho n rfl
      refine (iter_inl (a' := (oL (nxO kd a b w n), nI (i + 1), σ)) ?_).trans (x_behL h hg k (i + 1) fu (nxO kd a b w n) (by omega) okO_nx (by omega))
      unfold f_X11_behind_s6 f_X11_behind_t6
      simp only
      rw [if_neg (by rw [nI_leI (by omega) (by omega)]; omega), oL_s, if_neg (lc_m1 hn), ck_pos h.1, x_onward h hn, b2_some, oL_nx, nI_1]
theorem x_behind {σ : Hp} {j kd a pl b g n : Nat} {w : Nat → Nat} (h : lawX σ j 1 kd a pl b w) (hg : g < 2 ^ 14) (hn : n ≤ 999999999999999) : f_X11_behind j (lN n) (nI g) σ = some (oL (goN (nxO kd a b w) g (some n)), σ) :=
  x_behL h hg g 0 fuel (some n) (by omega) (fun m e => by cases e; exact hn) (by unfold fuel; omega)
/-- equal but for the figures -/
theorem m_aftL {l kd a b g : Nat} {w : Nat → Nat} (hg : g < 2 ^ 14) : ∀ (k i fu : Nat) (o : Option Nat) (σ : Hp), lawM σ l kd a b w → i + k = g → okO o → k < fu → ∃ F : Nat → Int32, iter (f_X12_afterOf_s6 (nI l) (nI g)) fu (oL o, nI i, σ) = some (oL (goN (nxO kd a b w) k o), rowI σ 67 F)
  | 0, i, 0, o, _, _, _, _, hf => by omega
  | k + 1, i, 0, o, _, _, _, _, hf => by omega
  | 0, i, fu + 1, o, σ, h, hi, ho, hf => by
    refine ⟨hI σ 67, iter_inr ?_⟩
    unfold f_X12_afterOf_s6 f_X12_afterOf_t6
    simp only
    rw [if_pos (by rw [nI_leI (by omega) (by omega)]; omega), rowI_self]
    rfl
  | k + 1, i, fu + 1, o, σ, h, hi, ho, hf => by
    cases o with
    | none =>
      refine ⟨hI σ 67, iter_inr ?_⟩
      rw [goN_none]
      unfold f_X12_afterOf_s6 f_X12_afterOf_t6
      simp only
      rw [if_neg (by rw [nI_leI (by omega) (by omega)]; omega), oL_n, if_pos lc_m1m, rowI_self]
      rfl
    | some n =>
      have hn := ho n rfl
      obtain ⟨F, g1⟩ := m_nextOf h hn
      obtain ⟨F2, g2⟩ := m_aftL hg k (i + 1) fu (nxO kd a b w n) (rowI σ 67 F) (lawM_row h) (by omega) okO_nx (by omega)
      refine ⟨F2, (iter_inl (a' := (oL (nxO kd a b w n), nI (i + 1), rowI σ 67 F)) ?_).trans ?_⟩
      · unfold f_X12_afterOf_s6 f_X12_afterOf_t6
        simp only
        rw [if_neg (by rw [nI_leI (by omega) (by omega)]; omega), oL_s, if_neg (lc_m1 hn), g1, b2_some, oL_nx, nI_1]
      · rw [g2, rowI_rowI]
        rfl
theorem m_afterOf {σ : Hp} {l kd a b g n : Nat} {w : Nat → Nat} (h : lawM σ l kd a b w) (hg : g < 2 ^ 14) (hn : n ≤ 999999999999999) : ∃ F : Nat → Int32, f_X12_afterOf (nI l) (lN n) (nI g) σ = some (oL (goN (nxO kd a b w) g (some n)), rowI σ 67 F) :=
  m_aftL hg g 0 fuel (some n) σ h (by omega) (fun m e => by cases e; exact hn) (by unfold fuel; omega)
/-- how many goes until a number reads alike: k places from the i-th on -/
def gs (f : Nat → Option Nat) (b : Nat) : Nat → Nat → Option Nat → Option Nat
  | 0, _, _ => none
  | k + 1, i, o => match o with
    | none => none
    | some n => if rvN b n = n then some i else gs f b k (i + 1) (f n)
def oI (o : Option Nat) : Int32 := match o with
  | none => -1
  | some i => nI i
theorem gs_none {f : Nat → Option Nat} {b : Nat} : ∀ k i, gs f b k i none = none
  | 0, _ => rfl
  | k + 1, _ => rfl
theorem m_isAlike {σ : Hp} {b n : Nat} (h2 : 2 ≤ b) (h10 : b ≤ 10) (hn : n ≤ 999999999999999) (hσ : hI σ 40 2 = nI b) : f_X12_isAlike (lN n) σ = some (if rvN b n = n then 1 else 0, σ) := by
  have hr := rvN_le h2 (show n < 2 ^ 63 by omega)
  have hbn : b * n ≤ 10 * 999999999999999 := Nat.mul_le_mul h10 hn
  unfold f_X12_isAlike
  rw [m_turnedOf h2 h10 (by omega) hσ, b2_some]
  by_cases h : rvN b n = n
  · rw [if_pos (by rw [lc_EQ (by omega) (by omega)]; exact h), if_pos h]
  · rw [if_neg (by rw [lc_EQ (by omega) (by omega)]; exact h), if_neg h]
theorem x_isAlike {σ : Hp} {b n : Nat} (h2 : 2 ≤ b) (h10 : b ≤ 10) (hn : n ≤ 999999999999999) (hσ : hI σ 1 0 = nI b) : f_X11_isAlike (lN n) σ = some (if rvN b n = n then 1 else 0, σ) := by
  have hr := rvN_le h2 (show n < 2 ^ 63 by omega)
  have hbn : b * n ≤ 10 * 999999999999999 := Nat.mul_le_mul h10 hn
  unfold f_X11_isAlike
  rw [hσ, x_turnedOf h2 h10 (by omega), b2_some]
  by_cases h : rvN b n = n
  · rw [if_pos (by rw [lc_EQ (by omega) (by omega)]; exact h), if_pos h]
  · rw [if_neg (by rw [lc_EQ (by omega) (by omega)]; exact h), if_neg h]
