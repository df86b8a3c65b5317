/-! rounds of a law -/
def rsG (f : Nat → Option Nat) (L : Nat → Option (Nat × Nat)) (x : Nat) (s : List Nat) : List Nat ⊕ Unit := match L x with
  | none => .inl s
  | some z => if mnR (fun k => goN f k (some x)) z.1 (z.2 - 1) ∈ s then .inl s else .inl (s ++ [mnR (fun k => goN f k (some x)) z.1 (z.2 - 1)])
def rsS (f : Nat → Option Nat) (L : Nat → Option (Nat × Nat)) (n : Nat) : Int32 := lpO (fun s : List Nat => nI s.length) (fun _ : Unit => (0 : Int32)) (lpE (rsG f L) n 0 [])
theorem getD_of {s : List Nat} {v : Nat} : (∃ q, q < s.length ∧ s.getD q 0 = v) ↔ v ∈ s := by
  constructor
  · rintro ⟨q, h1, h2⟩
    rw [← h2, List.getD_eq_getElem?_getD, List.getElem?_eq_getElem h1]
    exact List.getElem_mem h1
  · intro h
    obtain ⟨q, h1, h2⟩ := List.mem_iff_getElem.mp h
    exact ⟨q, h1, by rw [List.getD_eq_getElem?_getD, List.getElem?_eq_getElem h1]; exact h2⟩
theorem getD_app {s : List Nat} {v q : Nat} (h : q < s.length) : (s ++ [v]).getD q 0 = s.getD q 0 := by
  rw [List.getD_eq_getElem?_getD, List.getElem?_append_left h, ← List.getD_eq_getElem?_getD]
theorem getD_lst {s : List Nat} {v : Nat} : (s ++ [v]).getD s.length 0 = v := by
  rw [List.getD_eq_getElem?_getD, List.getElem?_append_right (Nat.le_refl _)]
  simp
def rsK (s : List Nat) (i : Nat) (u : Nat → Int64) : Prop := s.length ≤ i ∧ ∀ q, q < s.length → u q = lN (s.getD q 0) ∧ s.getD q 0 ≤ 999999999999999
theorem rsK_s {s : List Nat} {i v : Nat} {u : Nat → Int64} (h : rsK s i u) (hv : v ≤ 999999999999999) : rsK (s ++ [v]) (i + 1) (va_up u s.length (lN v)) := by
  obtain ⟨h1, h2⟩ := h
  refine ⟨by rw [List.length_append]; simp; omega, fun q hq => ?_⟩
  rw [List.length_append] at hq
  by_cases e : q = s.length
  · subst e
    rw [up_eq, getD_lst]
    exact ⟨rfl, hv⟩
  · rw [up_ne _ _ e, getD_app (by simp at hq; omega)]
    exact h2 q (by simp at hq; omega)
theorem x_rounds {σ : Hp} {j kd a pl b n : Nat} {w : Nat → Nat} {L : Nat → Option (Nat × Nat)} (h : lawX σ j 1 kd a pl b w) (hL : rdL (nxO kd a b w) L) (hn : n ≤ 500) : ∃ bb, iter (f_X11_rounds_s44 (nI n) j) fuel (0, 0, σ) = some bb ∧ anX σ (rsS (nxO kd a b w) L n) none bb := by
  unfold rsS
  refine iter_lp (R := fun i s a => ∃ τ, Fs σ τ ∧ a = (nI s.length, nI i, τ) ∧ rsK s i (hJ τ 35)) (Q := fun u bb => anX σ u none bb) (n := n) (o1 := fun s : List Nat => nI s.length) (o2 := fun _ : Unit => (0 : Int32)) (fun i s aa hi hR => ?_) (fun s aa hR => ?_) n 0 fuel [] _ (by omega) (by unfold fuel; omega) ⟨σ, Fs_refl σ, rfl, by simp, fun q hq => by simp at hq⟩
  · obtain ⟨τ, hf, rfl, hk⟩ := hR
    obtain ⟨R, S, g1, g2⟩ := x_findRound (lawX_Fr hf.1 h (by omega)) hL (show i ≤ 999999999999999 by omega)
    have hf2 : Fs σ (rowJ (rowJ τ 33 R) 34 S) := Fs_J (Fs_J hf rfl R) rfl S
    have hk2 : rsK s i (hJ (rowJ (rowJ τ 33 R) 34 S) 35) := hk
    unfold f_X11_rounds_s44 f_X11_rounds_t44
    simp only
    rw [if_neg (by rw [nI_leI (by omega) (by omega)]; omega), nI_l (by omega), g1, b2_some]
    unfold rsG
    cases e : L i with
    | none =>
      simp only [Option.isSome_none, Bool.false_eq_true, if_false, if_true]
      refine ⟨_, ?_, rowJ (rowJ τ 33 R) 34 S, hf2, rfl, Nat.le_succ_of_le hk.1, hk2.2⟩
      unfold f_X11_rounds_b83 f_X11_rounds_b84 f_X11_rounds_b117
      rw [if_pos rfl, nI_1]
    | some z =>
      obtain ⟨p, q⟩ := z
      simp only [Option.isSome_some, if_true]
      rw [if_neg (by decide), ck_pos (by decide), show (2 : Int32).toNatClampNeg = 2 from rfl, hJ_rowJ_k, (g2 p q e).2.2]
      have hv := mnR_le (r := fun k => goN (nxO kd a b w) k (some i)) (okO_go (fun m e => by cases e; omega)) (p := p) (q - 1)
      have hlen := hk.1
      rcases x_isAmong (σ := rowJ (rowJ τ 33 R) 34 S) (k0 := 35) (c := s.length) (z := mnR (fun k => goN (nxO kd a b w) k (some i)) p (q - 1)) (u := fun q => s.getD q 0) (by show _ ≤ 500; omega) (by decide) hv hk2.2 with ⟨e1, e2⟩ | ⟨e1, e2⟩
      · rw [e2, b2_some, if_neg (by decide)]
        show goR _ _ _ (if _ then _ else _)
        rw [if_pos (getD_of.mp e1)]
        refine ⟨_, ?_, rowJ (rowJ τ 33 R) 34 S, hf2, rfl, Nat.le_succ_of_le hk.1, hk2.2⟩
        unfold f_X11_rounds_b83 f_X11_rounds_b84 f_X11_rounds_b117
        rw [if_pos rfl, nI_1]
      · rw [e2, b2_some, if_pos rfl]
        show goR _ _ _ (if _ then _ else _)
        rw [if_neg (fun c => by obtain ⟨q0, q1, q2⟩ := getD_of.mpr c; exact e1 q0 q1 q2)]
        refine ⟨_, ?_, sJ (rowJ (rowJ τ 33 R) 34 S) 35 s.length (lN (mnR (fun k => goN (nxO kd a b w) k (some i)) p (q - 1))), Fs_J hf2 rfl _, rfl, ?_⟩
        · unfold f_X11_rounds_b84 f_X11_rounds_b117
          rw [if_neg (by decide), if_neg (by rw [show (500 : Int32) = nI 500 from rfl, nI_leI (by omega) (by omega)]; omega), ck_pos (by decide), ck_pos (inb_nI (by omega) (by omega)), nI_clamp (by omega), show (2 : Int32).toNatClampNeg = 2 from rfl, hJ_rowJ_k, (g2 p q e).2.2, nI_1, nI_1, List.length_append]
          rfl
        · unfold sJ
          rw [hJ_rowJ_k]
          exact rsK_s hk2 hv
  · obtain ⟨τ, hf, rfl, hk⟩ := hR
    refine ⟨(nI s.length, τ), ?_, anX_n hf⟩
    unfold f_X11_rounds_s44 f_X11_rounds_t44
    simp only
    rw [if_pos (by rw [nI_leI (by omega) (by omega)]; omega)]
    rfl
theorem m_rdsI {x1 x2 x4 : Int32} {s : List Nat} {v i0 : Nat} {τ : Hp} (hl : s.length ≤ 500) (hk : rsK s i0 (hJ τ 74)) (hv : v ≤ 999999999999999) : ∀ (k i fu : Nat), i + k = s.length → k < fu → (∀ q, q < i → ¬ s.getD q 0 = v) → iter (f_X12_rounds_s73 x1 x2 (nI s.length) x4 (lN v)) fu (1, nI i, τ) = f_X12_rounds_b110 x1 x2 (nI s.length) x4 (lN v) (if v ∈ s then 0 else 1) τ
  | k, i, 0, _, hf, _ => by omega
  | 0, i, fu + 1, hi, hf, hq => by
    refine iter_ex ?_
    unfold f_X12_rounds_s73 f_X12_rounds_t73
    simp only
    rw [if_pos (by rw [nI_leI (by omega) (by omega)]; omega), if_neg (fun c => by obtain ⟨q0, q1, q2⟩ := getD_of.mpr c; exact hq q0 (by omega) q2)]
  | k + 1, i, fu + 1, hi, hf, hq => by
    obtain ⟨h1, h2⟩ := hk.2 i (by omega)
    by_cases e : s.getD i 0 = v
    · have hm : v ∈ s := getD_of.mp ⟨i, by omega, e⟩
      rw [if_pos hm]
      cases fu with
      | zero => omega
      | succ fu =>
        refine (iter_inl (a' := (0, nI (i + 1), τ)) ?_).trans (iter_ex ?_)
        · unfold f_X12_rounds_s73 f_X12_rounds_t73 f_X12_rounds_b102
          simp only
          rw [if_neg (by rw [nI_leI (by omega) (by omega)]; omega), if_neg (by decide), ck_pos (inb_nI (by omega) (by omega)), nI_clamp (by omega), h1, if_pos (by rw [lc_EQ (by omega) (by omega)]; exact e), nI_1]
        · unfold f_X12_rounds_s73 f_X12_rounds_t73
          simp only [if_true, ite_self]
    · refine (iter_inl (a' := (1, nI (i + 1), τ)) ?_).trans (m_rdsI hl hk hv k (i + 1) fu (by omega) (by omega) (fun q h => by
        by_cases e3 : q = i
        · subst e3; exact e
        · exact hq q (by omega)))
      unfold f_X12_rounds_s73 f_X12_rounds_t73 f_X12_rounds_b102
      simp only
      rw [if_neg (by rw [nI_leI (by omega) (by omega)]; omega), if_neg (by decide), ck_pos (inb_nI (by omega) (by omega)), nI_clamp (by omega), h1, if_neg (by rw [lc_EQ (by omega) (by omega)]; exact e), nI_1]
theorem m_rounds {σ : Hp} {l kd a b n : Nat} {w : Nat → Nat} {L : Nat → Option (Nat × Nat)} (h : lawM σ l kd a b w) (hL : rdL (nxO kd a b w) L) (hn : n ≤ 500) : ∃ bb, iter (f_X12_rounds_s38 (nI l) (nI n)) fuel (0, 0, σ) = some bb ∧ anM σ (rsS (nxO kd a b w) L n) none bb := by
  unfold rsS
  refine iter_lp (R := fun i s a => ∃ τ, Fs σ τ ∧ a = (nI s.length, nI i, τ) ∧ rsK s i (hJ τ 74)) (Q := fun u bb => anM σ u none bb) (n := n) (o1 := fun s : List Nat => nI s.length) (o2 := fun _ : Unit => (0 : Int32)) (fun i s aa hi hR => ?_) (fun s aa hR => ?_) n 0 fuel [] _ (by omega) (by unfold fuel; omega) ⟨σ, Fs_refl σ, rfl, by simp, fun q hq => by simp at hq⟩
  · obtain ⟨τ, hf, rfl, hk⟩ := hR
    obtain ⟨F, G, R, g1, g2, g3⟩ := m_roundOf (lawM_Fr hf.1 h) hL (show i ≤ 999999999999999 by omega)
    have hlen := hk.1
    have hf2 : Fs σ (rowJ (rowI (rowI τ 67 F) 40 G) 69 R) := Fs_J (Fs_40 (Fs_67 hf F) (fun i hi => by
      rw [hI_rowI_n _ _ (by decide)]
      refine g2 i (fun c => ?_) (fun c => ?_)
      · subst c; cases hi
      · subst c; cases hi)) rfl R
    have hk2 : rsK s i (hJ (rowJ (rowI (rowI τ 67 F) 40 G) 69 R) 74) := hk
    unfold f_X12_rounds_s38 f_X12_rounds_t38
    simp only
    rw [if_neg (by rw [nI_leI (by omega) (by omega)]; omega), nI_l (by omega), g1, b2_some]
    unfold rsG
    cases e : L i with
    | none =>
      refine ⟨_, ?_, rowJ (rowI (rowI τ 67 F) 40 G) 69 R, hf2, rfl, by omega, hk2.2⟩
      show (if lg_cmp (-1) (-1) = 0 then _ else _) = _
      rw [if_pos lc_m1m]
      unfold f_X12_rounds_b68
      refine iter_ex (k := 19999) ?_
      unfold f_X12_rounds_s73 f_X12_rounds_t73 f_X12_rounds_b110 f_X12_rounds_b129
      simp only [if_true, ite_self, nI_1]
    | some z =>
      obtain ⟨p, q⟩ := z
      have hv := mnR_le (r := fun k => goN (nxO kd a b w) k (some i)) (okO_go (fun m e => by cases e; omega)) (p := p) (q - 1)
      show goR _ _ (if lg_cmp (lN (mnR (fun k => goN (nxO kd a b w) k (some i)) p (q - 1))) (-1) = 0 then _ else _) (if mnR (fun k => goN (nxO kd a b w) k (some i)) p (q - 1) ∈ s then _ else _)
      rw [if_neg (lc_m1 hv)]
      unfold f_X12_rounds_b68
      have g := m_rdsI (x1 := nI l) (x2 := nI n) (x4 := nI i) (s := s) (τ := rowJ (rowI (rowI τ 67 F) 40 G) 69 R) (by omega) hk2 hv s.length 0 fuel (by omega) (by unfold fuel; omega) (fun q hq => by omega)
      have g' : iter (f_X12_rounds_s73 (nI l) (nI n) (nI s.length) (nI i) (lN (mnR (fun k => goN (nxO kd a b w) k (some i)) p (q - 1)))) fuel (1, 0, rowJ (rowI (rowI τ 67 F) 40 G) 69 R) = _ := g
      rw [g']
      unfold f_X12_rounds_b110 f_X12_rounds_b129
      by_cases c : mnR (fun k => goN (nxO kd a b w) k (some i)) p (q - 1) ∈ s
      · rw [if_pos c, if_pos c, if_pos rfl, nI_1]
        exact ⟨_, rfl, _, hf2, rfl, by omega, hk2.2⟩
      · rw [if_neg c, if_neg c, if_neg (by decide), ck_pos (inb_nI (by omega) (by omega)), nI_clamp (by omega), nI_1, nI_1]
        refine ⟨_, rfl, sJ (rowJ (rowI (rowI τ 67 F) 40 G) 69 R) 74 s.length (lN (mnR (fun k => goN (nxO kd a b w) k (some i)) p (q - 1))), Fs_J hf2 rfl _, ?_, ?_⟩
        · rw [List.length_append]
          rfl
        · unfold sJ
          rw [hJ_rowJ_k]
          exact rsK_s hk2 hv
  · obtain ⟨τ, hf, rfl, hk⟩ := hR
    refine ⟨(nI s.length, τ), ?_, anM_n hf⟩
    unfold f_X12_rounds_s38 f_X12_rounds_t38
    simp only
    rw [if_pos (by rw [nI_leI (by omega) (by omega)]; omega)]
    rfl
