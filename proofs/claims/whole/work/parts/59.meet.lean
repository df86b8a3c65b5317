/-! where two runs meet -/
def amB (f : Nat → Option Nat) (y z : Nat) : Bool := (List.range 201).any (fun i => decide (goN f i (some y) = some z))
theorem amB_iff {f : Nat → Option Nat} {y z : Nat} : amB f y z = true ↔ ∃ i, i < 201 ∧ goN f i (some y) = some z := by
  unfold amB
  rw [List.any_eq_true]
  constructor
  · rintro ⟨i, h1, h2⟩
    exact ⟨i, List.mem_range.mp h1, of_decide_eq_true h2⟩
  · rintro ⟨i, h1, h2⟩
    exact ⟨i, List.mem_range.mpr h1, decide_eq_true h2⟩
def mtF (f : Nat → Option Nat) (y : Nat) : Nat → Option Nat → Option Nat
  | 0, _ => none
  | k + 1, o => match o with
    | none => none
    | some z => if amB f y z = true then some z else mtF f y k (f z)
def kpR (f : Nat → Option Nat) (y c : Nat) (R : Nat → Int64) : Prop := c ≤ 201 ∧ (∀ i, i < c → R i = oL (goN f i (some y)) ∧ ¬ goN f i (some y) = none) ∧ (c = 201 ∨ goN f c (some y) = none)
theorem kpR_am {f : Nat → Option Nat} {y c : Nat} {R : Nat → Int64} (h : kpR f y c R) {z : Nat} : amB f y z = true ↔ ∃ i, i < c ∧ goN f i (some y) = some z := by
  rw [amB_iff]
  obtain ⟨h1, h2, h3⟩ := h
  constructor
  · rintro ⟨i, e1, e2⟩
    refine ⟨i, ?_, e2⟩
    rcases h3 with h3 | h3
    · omega
    · refine Classical.byContradiction (fun c2 => ?_)
      have := gr_dead h3 (show c ≤ i by omega)
      rw [e2] at this
      cases this
  · rintro ⟨i, e1, e2⟩
    exact ⟨i, by omega, e2⟩
theorem go_next {f : Nat → Option Nat} {o : Option Nat} {c n : Nat} (h : goN f c o = some n) : goN f (c + 1) o = f n := by rw [goN_s, h]; rfl
theorem x_krL {j kd a pl b y : Nat} {w : Nat → Nat} (hy : y ≤ 999999999999999) : ∀ (k c fu : Nat) (σ : Hp), lawX σ j 1 kd a pl b w → c + k = 201 → k < fu → (∀ i, i < c → hJ σ 33 i = oL (goN (nxO kd a b w) i (some y)) ∧ ¬ goN (nxO kd a b w) i (some y) = none) → ∃ (c2 : Nat) (R : Nat → Int64), iter (f_X11_keepRun_s6 j (nI 201)) fu (nI c, oL (goN (nxO kd a b w) c (some y)), σ) = some (nI c2, rowJ σ 33 R) ∧ kpR (nxO kd a b w) y c2 R
  | k, c, 0, σ, _, _, hf, _ => by omega
  | 0, c, fu + 1, σ, h, hc, hf, hR => by
    refine ⟨c, hJ σ 33, iter_inr ?_, by omega, hR, Or.inl (by omega)⟩
    unfold f_X11_keepRun_s6 f_X11_keepRun_t6
    simp only
    rw [if_pos (by rw [nI_leI (by omega) (by omega)]; omega), rowJ_self]
    rfl
  | k + 1, c, fu + 1, σ, h, hc, hf, hR => by
    have hr : ∀ i, okO (goN (nxO kd a b w) i (some y)) := okO_go (fun m e => by cases e; exact hy)
    have hlw := h.1
    cases hg : goN (nxO kd a b w) c (some y) with
    | none =>
      refine ⟨c, hJ σ 33, iter_inr ?_, by omega, hR, Or.inr hg⟩
      unfold f_X11_keepRun_s6 f_X11_keepRun_t6
      simp only
      rw [if_neg (by rw [nI_leI (by omega) (by omega)]; omega), if_neg (by rw [show (1001 : Int32) = nI 1001 from rfl, nI_leI (by omega) (by omega)]; omega), oL_n, if_pos lc_m1m, rowJ_self]
      rfl
    | some n =>
      have hn := hr c n hg
      obtain ⟨c2, R, g1, g2⟩ := x_krL hy k (c + 1) fu (sJ σ 33 c (lN n)) (lawX_rowJ h) (by omega) (by omega) (fun i hi => by
        unfold sJ
        rw [hJ_rowJ_k]
        by_cases e : i = c
        · subst e; rw [up_eq, hg]; exact ⟨rfl, fun e => by cases e⟩
        · rw [up_ne _ _ e]; exact hR i (by omega))
      refine ⟨c2, R, (iter_inl (a' := (nI (c + 1), oL (goN (nxO kd a b w) (c + 1) (some y)), sJ σ 33 c (lN n))) ?_).trans (g1.trans ?_), g2⟩
      · unfold f_X11_keepRun_s6 f_X11_keepRun_t6
        simp only
        rw [if_neg (by rw [nI_leI (by omega) (by omega)]; omega), if_neg (by rw [show (1001 : Int32) = nI 1001 from rfl, nI_leI (by omega) (by omega)]; omega), oL_s, if_neg (lc_m1 hn), ck_pos (inb_nI (by omega) (by omega)), nI_clamp (by omega), ck_pos (show isLaw (sJ σ 33 c (lN n)) j = true from hlw), x_on2 (σ := sJ σ 33 c (lN n)) (lawX_rowJ h) hn, b2_some, go_next hg, nI_1]
      · unfold sJ; rw [rowJ_rowJ]
theorem x_amL {σ : Hp} {k0 c z : Nat} {u : Nat → Nat} (hc : c ≤ ln k0) (hl : ln k0 < 2 ^ 14) (hz : z ≤ 999999999999999) (hu : ∀ i, i < c → hJ σ k0 i = lN (u i) ∧ u i ≤ 999999999999999) : ∀ (k i fu : Nat), i + k = c → k < fu → (∀ q, q < i → ¬ u q = z) → ((∃ q, q < c ∧ u q = z) ∧ iter (f_X11_isAmong_s3 k0 (nI c) (lN z)) fu (nI i, σ) = some (1, σ)) ∨ ((∀ q, q < c → ¬ u q = z) ∧ iter (f_X11_isAmong_s3 k0 (nI c) (lN z)) fu (nI i, σ) = some (0, σ))
  | k, i, 0, _, hf, _ => by omega
  | 0, i, fu + 1, hi, hf, hq => by
    refine Or.inr ⟨fun q h => hq q (by omega), iter_inr ?_⟩
    unfold f_X11_isAmong_s3 f_X11_isAmong_t3
    simp only
    rw [if_pos (by rw [nI_leI (by omega) (by omega)]; omega)]
    rfl
  | k + 1, i, fu + 1, hi, hf, hq => by
    obtain ⟨e1, e2⟩ := hu i (by omega)
    have hs : f_X11_isAmong_s3 k0 (nI c) (lN z) (nI i, σ) = if u i = z then ex (some (1, σ)) else some (.inl (nI (i + 1), σ)) := by
      unfold f_X11_isAmong_s3 f_X11_isAmong_t3
      simp only
      rw [if_neg (by rw [nI_leI (by omega) (by omega)]; omega), if_neg (by rw [show Int32.ofNat (ln k0) = nI (ln k0) from rfl, nI_leI (by omega) (by omega)]; omega), ck_pos (inb_nI (by omega) (by omega)), nI_clamp (by omega), e1, nI_1]
      by_cases e : u i = z
      · rw [if_pos (by rw [lc_EQ (by omega) (by omega)]; exact e), if_pos e]
      · rw [if_neg (by rw [lc_EQ (by omega) (by omega)]; exact e), if_neg e]
    by_cases e : u i = z
    · exact Or.inl ⟨⟨i, by omega, e⟩, iter_inr (by rw [hs, if_pos e]; rfl)⟩
    · rw [iter_inl (by rw [hs, if_neg e])]
      exact x_amL hc hl hz hu k (i + 1) fu (by omega) (by omega) (fun q h => by
        by_cases e3 : q = i
        · subst e3; exact e
        · exact hq q (by omega))
theorem x_isAmong {σ : Hp} {k0 c z : Nat} {u : Nat → Nat} (hc : c ≤ ln k0) (hl : ln k0 < 2 ^ 14) (hz : z ≤ 999999999999999) (hu : ∀ i, i < c → hJ σ k0 i = lN (u i) ∧ u i ≤ 999999999999999) : ((∃ q, q < c ∧ u q = z) ∧ f_X11_isAmong k0 (nI c) (lN z) σ = some (1, σ)) ∨ ((∀ q, q < c → ¬ u q = z) ∧ f_X11_isAmong k0 (nI c) (lN z) σ = some (0, σ)) :=
  x_amL hc hl hz hu c 0 fuel (by omega) (by unfold fuel; omega) (fun q hq => by omega)
theorem x_mtL {j kd a pl b y c : Nat} {w : Nat → Nat} {σ : Hp} (hy : y ≤ 999999999999999) (h : lawX σ j 1 kd a pl b w) (hk : kpR (nxO kd a b w) y c (hJ σ 33)) : ∀ (k g fu : Nat) (o : Option Nat), g + k = 201 → k < fu → okO o → iter (f_X11_meet_s64 j (nI c)) fu (oL o, nI g, σ) = match mtF (nxO kd a b w) y k o with | some v => some (lN v, σ) | none => f_X11_meet_b117 σ
  | k, g, 0, o, _, hf, _ => by omega
  | 0, g, fu + 1, o, hg, hf, ho => by
    refine iter_ex ?_
    unfold f_X11_meet_s64 f_X11_meet_t64
    simp only
    rw [if_pos (by rw [show (200 : Int32) = nI 200 from rfl, nI_ltI (by omega) (by omega)]; omega)]
    rfl
  | k + 1, g, fu + 1, o, hg, hf, ho => by
    have h200 : ¬ (200 : Int32) < nI g := by rw [show (200 : Int32) = nI 200 from rfl, nI_ltI (by omega) (by omega)]; omega
    cases o with
    | none =>
      refine iter_ex ?_
      unfold f_X11_meet_s64 f_X11_meet_t64
      simp only
      rw [if_neg h200, oL_n, if_pos lc_m1m]
      rfl
    | some z =>
      have hz := ho z rfl
      have hr : ∀ i, okO (goN (nxO kd a b w) i (some y)) := okO_go (fun m e => by cases e; exact hy)
      have hlw := h.1
      have ham := kpR_am hk (z := z)
      rcases x_isAmong (σ := σ) (k0 := 33) (c := c) (z := z) (u := fun i => (goN (nxO kd a b w) i (some y)).getD 0) (by have := hk.1; show c ≤ 1001; omega) (by decide) hz (fun i hi => ⟨by rw [(hk.2.1 i hi).1, oL_D (hk.2.1 i hi).2], okO_D (hr i)⟩) with ⟨⟨q, q1, q2⟩, e2⟩ | ⟨e1, e2⟩
      · have hb : amB (nxO kd a b w) y z = true := ham.mpr ⟨q, q1, by
          cases hv : goN (nxO kd a b w) q (some y) with
          | none => exact absurd hv (hk.2.1 q q1).2
          | some v => rw [hv] at q2; exact congrArg some q2⟩
        have e3 : mtF (nxO kd a b w) y (k + 1) (some z) = some z := by
          show (if _ then _ else _) = _
          rw [if_pos hb]
        rw [e3]
        refine iter_ex ?_
        unfold f_X11_meet_s64 f_X11_meet_t64
        simp only
        rw [if_neg h200, oL_s, if_neg (lc_m1 hz), e2, b2_some, if_neg (by decide)]
      · have hb : ¬ amB (nxO kd a b w) y z = true := by
          intro c1
          obtain ⟨q, q1, q2⟩ := ham.mp c1
          exact e1 q q1 (by show (goN _ q _).getD 0 = z; rw [q2]; rfl)
        have e3 : mtF (nxO kd a b w) y (k + 1) (some z) = mtF (nxO kd a b w) y k (nxO kd a b w z) := by
          show (if _ then _ else _) = _
          rw [if_neg hb]
        rw [e3]
        refine (iter_inl (a' := (oL (nxO kd a b w z), nI (g + 1), σ)) ?_).trans (x_mtL hy h hk k (g + 1) fu (nxO kd a b w z) (by omega) (by omega) okO_nx)
        unfold f_X11_meet_s64 f_X11_meet_t64
        simp only
        rw [if_neg h200, oL_s, if_neg (lc_m1 hz), e2, b2_some, if_pos rfl, ck_pos hlw, x_on2 h hz, b2_some, nI_1]
theorem m_krL {l kd a b y : Nat} {w : Nat → Nat} {x2 : Int64} (hy : y ≤ 999999999999999) : ∀ (k c fu : Nat) (σ : Hp), lawM σ l kd a b w → c + k = 201 → k < fu → (∀ i, i < c → hJ σ 70 i = oL (goN (nxO kd a b w) i (some y)) ∧ ¬ goN (nxO kd a b w) i (some y) = none) → ∃ (c2 : Nat) (F : Nat → Int32) (R : Nat → Int64), iter (f_X12_meet_s47 (nI l) x2) fu (nI c, oL (goN (nxO kd a b w) c (some y)), σ) = f_X12_meet_b88 (nI l) x2 (nI c2) (rowJ (rowI σ 67 F) 70 R) ∧ kpR (nxO kd a b w) y c2 R
  | k, c, 0, σ, _, _, hf, _ => by omega
  | 0, c, fu + 1, σ, h, hc, hf, hR => by
    refine ⟨c, hI σ 67, hJ σ 70, iter_ex ?_, by omega, hR, Or.inl (by omega)⟩
    unfold f_X12_meet_s47 f_X12_meet_t47
    simp only
    rw [rowI_self, rowJ_self, if_pos (show (200 : Int32) < nI c by rw [show (200 : Int32) = nI 200 from rfl, nI_ltI (by omega) (by omega)]; omega), ite_self]
  | k + 1, c, fu + 1, σ, h, hc, hf, hR => by
    have hr : ∀ i, okO (goN (nxO kd a b w) i (some y)) := okO_go (fun m e => by cases e; exact hy)
    have h200 : ¬ (200 : Int32) < nI c := by rw [show (200 : Int32) = nI 200 from rfl, nI_ltI (by omega) (by omega)]; omega
    cases hg : goN (nxO kd a b w) c (some y) with
    | none =>
      refine ⟨c, hI σ 67, hJ σ 70, iter_ex ?_, by omega, hR, Or.inr hg⟩
      unfold f_X12_meet_s47 f_X12_meet_t47
      simp only
      rw [oL_n, if_pos lc_m1m, rowI_self, rowJ_self]
    | some n =>
      have hn := hr c n hg
      obtain ⟨F, e1⟩ := m_next2 (σ := sJ σ 70 c (lN n)) (lawM_rowJ h) hn
      obtain ⟨c2, F2, R, g1, g2⟩ := m_krL hy k (c + 1) fu (rowI (sJ σ 70 c (lN n)) 67 F) (lawM_row (lawM_rowJ h)) (by omega) (by omega) (fun i hi => by
        show hJ (sJ σ 70 c (lN n)) 70 i = _ ∧ _
        unfold sJ
        rw [hJ_rowJ_k]
        by_cases e : i = c
        · subst e; rw [up_eq, hg]; exact ⟨rfl, fun e => by cases e⟩
        · rw [up_ne _ _ e]; exact hR i (by omega))
      refine ⟨c2, F2, R, (iter_inl (a' := (nI (c + 1), oL (goN (nxO kd a b w) (c + 1) (some y)), rowI (sJ σ 70 c (lN n)) 67 F)) ?_).trans (g1.trans ?_), g2⟩
      · unfold f_X12_meet_s47 f_X12_meet_t47
        simp only
        rw [oL_s, if_neg (lc_m1 hn), if_neg h200, ck_pos (inb_nI (by omega) (by omega)), nI_clamp (by omega), e1, b2_some, go_next hg, nI_1]
      · unfold sJ; rw [rowI_rowI, rowIJ, rowJ_rowJ]
theorem m_mtI {kd a b y c z l g : Nat} {w : Nat → Nat} (hy : y ≤ 999999999999999) (hz : z ≤ 999999999999999) {σ : Hp} (h : lawM σ l kd a b w) (hk : kpR (nxO kd a b w) y c (hJ σ 70)) : ∀ (k i fu : Nat), i + k = c → k < fu → (∀ q, q < i → ¬ goN (nxO kd a b w) q (some y) = some z) → ((∃ q, q < c ∧ goN (nxO kd a b w) q (some y) = some z) ∧ iter (f_X12_meet_s114 (nI l) (nI c) (lN z) (nI g)) fu (nI i, σ) = some (.inr (lN z, σ))) ∨ ((∀ q, q < c → ¬ goN (nxO kd a b w) q (some y) = some z) ∧ ∃ F : Nat → Int32, iter (f_X12_meet_s114 (nI l) (nI c) (lN z) (nI g)) fu (nI i, σ) = some (.inl (oL (nxO kd a b w z), nI (g + 1), rowI σ 67 F)))
  | k, i, 0, _, hf, _ => by omega
  | 0, i, fu + 1, hi, hf, hq => by
    obtain ⟨F, e1⟩ := m_next2 h hz
    have hc := hk.1
    refine Or.inr ⟨fun q h => hq q (by omega), F, iter_ex ?_⟩
    unfold f_X12_meet_s114 f_X12_meet_t114
    simp only
    rw [if_pos (by rw [nI_leI (by omega) (by omega)]; omega), e1, b2_some, nI_1]
  | k + 1, i, fu + 1, hi, hf, hq => by
    have hc := hk.1
    have hr : ∀ i, okO (goN (nxO kd a b w) i (some y)) := okO_go (fun m e => by cases e; exact hy)
    have hs : f_X12_meet_s114 (nI l) (nI c) (lN z) (nI g) (nI i, σ) = if goN (nxO kd a b w) i (some y) = some z then ex (ex (some (lN z, σ))) else some (.inl (nI (i + 1), σ)) := by
      unfold f_X12_meet_s114 f_X12_meet_t114
      simp only
      rw [if_neg (by rw [nI_leI (by omega) (by omega)]; omega), ck_pos (inb_nI (by omega) (by omega)), nI_clamp (by omega), (hk.2.1 i (by omega)).1, nI_1, show lN z = oL (some z) from rfl]
      by_cases e : goN (nxO kd a b w) i (some y) = some z
      · rw [if_pos ((lc_oL (hr i) (fun m e => by cases e; exact hz)).mpr e), if_pos e]
      · rw [if_neg (fun c => e ((lc_oL (hr i) (fun m e => by cases e; exact hz)).mp c)), if_neg e]
    by_cases e : goN (nxO kd a b w) i (some y) = some z
    · exact Or.inl ⟨⟨i, by omega, e⟩, iter_inr (by rw [hs, if_pos e]; rfl)⟩
    · rw [iter_inl (by rw [hs, if_neg e])]
      exact m_mtI hy hz h hk k (i + 1) fu (by omega) (by omega) (fun q h => by
        by_cases e3 : q = i
        · subst e3; exact e
        · exact hq q (by omega))
theorem m_mtL {kd a b y c l : Nat} {w : Nat → Nat} (hy : y ≤ 999999999999999) : ∀ (k g fu : Nat) (o : Option Nat) (σ : Hp), lawM σ l kd a b w → kpR (nxO kd a b w) y c (hJ σ 70) → g + k = 201 → k < fu → okO o → ∃ F : Nat → Int32, iter (f_X12_meet_s94 (nI l) (nI c)) fu (oL o, nI g, σ) = match mtF (nxO kd a b w) y k o with | some v => some (lN v, rowI σ 67 F) | none => f_X12_meet_b158 (rowI σ 67 F)
  | k, g, 0, o, σ, _, _, _, hf, _ => by omega
  | 0, g, fu + 1, o, σ, h, hk, hg, hf, ho => by
    refine ⟨hI σ 67, iter_ex ?_⟩
    unfold f_X12_meet_s94 f_X12_meet_t94
    simp only
    rw [if_pos (by rw [show (200 : Int32) = nI 200 from rfl, nI_ltI (by omega) (by omega)]; omega), rowI_self]
    rfl
  | k + 1, g, fu + 1, o, σ, h, hk, hg, hf, ho => by
    have h200 : ¬ (200 : Int32) < nI g := by rw [show (200 : Int32) = nI 200 from rfl, nI_ltI (by omega) (by omega)]; omega
    cases o with
    | none =>
      refine ⟨hI σ 67, iter_ex ?_⟩
      unfold f_X12_meet_s94 f_X12_meet_t94
      simp only
      rw [if_neg h200, oL_n, if_pos lc_m1m, rowI_self]
      rfl
    | some z =>
      have hz := ho z rfl
      have ham := kpR_am hk (z := z)
      have hs : f_X12_meet_s94 (nI l) (nI c) (oL (some z), nI g, σ) = iter (f_X12_meet_s114 (nI l) (nI c) (lN z) (nI g)) fuel (nI 0, σ) := by
        unfold f_X12_meet_s94 f_X12_meet_t94
        simp only
        rw [if_neg h200, oL_s, if_neg (lc_m1 hz)]
        rfl
      rcases m_mtI (g := g) hy hz h hk c 0 fuel (by omega) (by have := hk.1; unfold fuel; omega) (fun q hq => by omega) with ⟨e1, e2⟩ | ⟨e1, F, e2⟩
      · have e3 : mtF (nxO kd a b w) y (k + 1) (some z) = some z := by
          show (if _ then _ else _) = _
          rw [if_pos (ham.mpr e1)]
        rw [e3]
        exact ⟨hI σ 67, iter_inr (by rw [hs, e2, rowI_self])⟩
      · have hb : ¬ amB (nxO kd a b w) y z = true := by
          intro c1
          obtain ⟨q, q1, q2⟩ := ham.mp c1
          exact e1 q q1 q2
        have e3 : mtF (nxO kd a b w) y (k + 1) (some z) = mtF (nxO kd a b w) y k (nxO kd a b w z) := by
          show (if _ then _ else _) = _
          rw [if_neg hb]
        rw [e3]
        obtain ⟨F2, g1⟩ := m_mtL hy k (g + 1) fu (nxO kd a b w z) (rowI σ 67 F) (lawM_row h) hk (by omega) (by omega) okO_nx
        refine ⟨F2, (iter_inl (by rw [hs, e2])).trans ?_⟩
        rw [g1, rowI_rowI]
