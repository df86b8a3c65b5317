/-! loops over small numbers and laws: the class and the reference count alike -/
theorem m_goes2 {σ τ : Hp} {l kd a b n : Nat} {w : Nat → Nat} (hs : Fs σ τ) (h : lawM τ l kd a b w) (hn : n ≤ 999999999999999) : ∃ υ, f_X12_goesOf (nI l) (lN n) τ = some (oI (gs (nxO kd a b w) b 201 0 (some n)), υ) ∧ Fs σ υ := by
  obtain ⟨F, C, g, _⟩ := m_goesOf h hn
  exact ⟨_, g, Fs_J (Fs_67 hs F) rfl C⟩
theorem m_next3 {σ τ : Hp} {l kd a b n : Nat} {w : Nat → Nat} (hs : Fs σ τ) (h : lawM τ l kd a b w) (hn : n ≤ 999999999999999) : ∃ υ, f_X12_nextOf (nI l) (lN n) τ = some (oL (nxO kd a b w n), υ) ∧ Fs σ υ := by
  obtain ⟨F, g⟩ := m_next2 h hn
  exact ⟨_, g, Fs_67 hs F⟩
theorem m_after3 {σ τ : Hp} {l kd a b n g : Nat} {w : Nat → Nat} (hs : Fs σ τ) (h : lawM τ l kd a b w) (hg : g < 2 ^ 14) (hn : n ≤ 999999999999999) : ∃ υ, f_X12_afterOf (nI l) (lN n) (nI g) τ = some (oL (goN (nxO kd a b w) g (some n)), υ) ∧ Fs σ υ := by
  obtain ⟨F, g⟩ := m_afterOf h hg hn
  exact ⟨_, g, Fs_67 hs F⟩
def lgG (f : Nat → Option Nat) (b : Nat) (x : Nat) (s : Int32 × Int32) : (Int32 × Int32) ⊕ Unit := if oI (gs f b 201 0 (some x)) ≤ s.2 then .inl s else .inl (nI x, oI (gs f b 201 0 (some x)))
def lgS (f : Nat → Option Nat) (b n : Nat) : Int32 := lpO (fun s : Int32 × Int32 => s.1) (fun _ : Unit => (0 : Int32)) (lpE (lgG f b) n 0 (-1, -1))
theorem x_longest {σ : Hp} {j kd a pl b n : Nat} {w : Nat → Nat} (h : lawX σ j 1 kd a pl b w) (hn : n ≤ 2000) : ∃ bb, iter (f_X11_longest_s53 (nI n) j) fuel (-1, -1, 0, σ) = some bb ∧ anX σ (lgS (nxO kd a b w) b n) none bb := by
  unfold lgS
  refine iter_lp (R := fun i s a => a = (s.1, s.2, nI i, σ)) (Q := fun u bb => anX σ u none bb) (n := n) (o1 := fun s : Int32 × Int32 => s.1) (o2 := fun _ : Unit => (0 : Int32)) (fun i s aa hi hR => ?_) (fun s aa hR => ?_) n 0 fuel (-1, -1) _ (by omega) (by unfold fuel; omega) rfl
  · subst hR
    have hs : f_X11_longest_s53 (nI n) j (s.1, s.2, nI i, σ) = if oI (gs (nxO kd a b w) b 201 0 (some i)) ≤ s.2 then some (.inl (s.1, s.2, nI (i + 1), σ)) else some (.inl (nI i, oI (gs (nxO kd a b w) b 201 0 (some i)), nI (i + 1), σ)) := by
      unfold f_X11_longest_s53 f_X11_longest_t53 f_X11_longest_b84
      simp only
      rw [if_neg (by rw [nI_leI (by omega) (by omega)]; omega), nI_l (by omega), x_countGoes h (by omega), b2_some, nI_1]
    rw [hs]
    unfold lgG goR
    by_cases c : oI (gs (nxO kd a b w) b 201 0 (some i)) ≤ s.2
    · rw [if_pos c, if_pos c]; exact ⟨_, rfl, rfl⟩
    · rw [if_neg c, if_neg c]; exact ⟨_, rfl, rfl⟩
  · subst hR
    refine ⟨(s.1, σ), ?_, anX_n (Fs_refl σ)⟩
    unfold f_X11_longest_s53 f_X11_longest_t53
    simp only
    rw [if_pos (by rw [nI_leI (by omega) (by omega)]; omega)]
    rfl
theorem m_longest {σ : Hp} {l kd a b n : Nat} {w : Nat → Nat} (h : lawM σ l kd a b w) (hn : n ≤ 2000) : ∃ bb, iter (f_X12_longest_s41 (nI l) (nI n)) fuel (-1, -1, 0, σ) = some bb ∧ anM σ (lgS (nxO kd a b w) b n) none bb := by
  unfold lgS
  refine iter_lp (R := fun i s a => ∃ τ, Fs σ τ ∧ a = (s.1, s.2, nI i, τ)) (Q := fun u bb => anM σ u none bb) (n := n) (o1 := fun s : Int32 × Int32 => s.1) (o2 := fun _ : Unit => (0 : Int32)) (fun i s aa hi hR => ?_) (fun s aa hR => ?_) n 0 fuel (-1, -1) _ (by omega) (by unfold fuel; omega) ⟨σ, Fs_refl σ, rfl⟩
  · obtain ⟨τ, hf, rfl⟩ := hR
    obtain ⟨υ, g1, g2⟩ := m_goes2 (n := i) hf (lawM_Fr hf.1 h) (by omega)
    have hs : f_X12_longest_s41 (nI l) (nI n) (s.1, s.2, nI i, τ) = if oI (gs (nxO kd a b w) b 201 0 (some i)) ≤ s.2 then some (.inl (s.1, s.2, nI (i + 1), υ)) else some (.inl (nI i, oI (gs (nxO kd a b w) b 201 0 (some i)), nI (i + 1), υ)) := by
      unfold f_X12_longest_s41 f_X12_longest_t41 f_X12_longest_b74
      simp only
      rw [if_neg (by rw [nI_leI (by omega) (by omega)]; omega), nI_l (by omega), g1, b2_some, nI_1]
      by_cases c : oI (gs (nxO kd a b w) b 201 0 (some i)) ≤ s.2
      · rw [if_pos c, if_neg (Int32.not_lt.mpr c)]
      · rw [if_neg c, if_pos (Int32.not_le.mp c)]
    rw [hs]
    unfold lgG goR
    by_cases c : oI (gs (nxO kd a b w) b 201 0 (some i)) ≤ s.2
    · rw [if_pos c, if_pos c]; exact ⟨_, rfl, υ, g2, rfl⟩
    · rw [if_neg c, if_neg c]; exact ⟨_, rfl, υ, g2, rfl⟩
  · obtain ⟨τ, hf, rfl⟩ := hR
    refine ⟨(s.1, τ), ?_, anM_n hf⟩
    unfold f_X12_longest_s41 f_X12_longest_t41
    simp only
    rw [if_pos (by rw [nI_leI (by omega) (by omega)]; omega)]
    rfl
def mnG (f : Nat → Option Nat) (b f0 : Nat) (g : Int32) (i : Nat) (c : Int32) : Int32 ⊕ Unit := if oI (gs f b 201 0 (some (f0 + i))) = g then .inl (c + 1) else .inl c
def mnS (f : Nat → Option Nat) (b f0 : Nat) (g : Int32) (n : Nat) : Int32 := lpO (fun s : Int32 => s) (fun _ : Unit => (0 : Int32)) (lpE (mnG f b f0 g) n 0 0)
theorem x_manyL {σ : Hp} {j kd a pl b f t : Nat} {w : Nat → Nat} {g : Int32} (h : lawX σ j 1 kd a pl b w) (hf : f ≤ t) (ht : t < 2 ^ 31) (hn : t - f < 2000) : ∃ bb, iter (f_X11_many_s66 (nI f) (nI t) g j) fuel (0, 0, σ) = some bb ∧ anX σ (mnS (nxO kd a b w) b f g (t - f + 1)) none bb := by
  unfold mnS
  refine iter_lp (R := fun i s a => a = (s, nI i, σ)) (Q := fun u bb => anX σ u none bb) (n := t - f + 1) (o1 := fun s : Int32 => s) (o2 := fun _ : Unit => (0 : Int32)) (fun i s aa hi hR => ?_) (fun s aa hR => ?_) (t - f + 1) 0 fuel 0 _ (by omega) (by unfold fuel; omega) rfl
  · subst hR
    have hs : f_X11_many_s66 (nI f) (nI t) g j (s, nI i, σ) = if oI (gs (nxO kd a b w) b 201 0 (some (f + i))) = g then some (.inl (s + 1, nI (i + 1), σ)) else some (.inl (s, nI (i + 1), σ)) := by
      unfold f_X11_many_s66 f_X11_many_t66 f_X11_many_b94
      simp only
      rw [nI_sub2 (by omega) (by omega), if_neg (by rw [nI_ltI (by omega) (by omega)]; omega), nI_l (by omega), nI_l (by omega), lN_add, x_countGoes h (by omega), b2_some, nI_1]
    rw [hs]
    unfold mnG goR
    by_cases c : oI (gs (nxO kd a b w) b 201 0 (some (f + i))) = g
    · rw [if_pos c, if_pos c]; exact ⟨_, rfl, rfl⟩
    · rw [if_neg c, if_neg c]; exact ⟨_, rfl, rfl⟩
  · subst hR
    refine ⟨(s, σ), ?_, anX_n (Fs_refl σ)⟩
    unfold f_X11_many_s66 f_X11_many_t66
    simp only
    rw [nI_sub2 (by omega) (by omega), if_pos (by rw [nI_ltI (by omega) (by omega)]; omega)]
    rfl
theorem m_manyL {σ : Hp} {l kd a b f t : Nat} {w : Nat → Nat} {g : Int32} (h : lawM σ l kd a b w) (hf : f ≤ t) (ht : t < 2 ^ 31) (hn : t - f < 2000) : ∃ bb, iter (f_X12_many_s59 (nI l) (nI f) (nI t) g) fuel (0, 0, σ) = some bb ∧ anM σ (mnS (nxO kd a b w) b f g (t - f + 1)) none bb := by
  unfold mnS
  refine iter_lp (R := fun i s a => ∃ τ, Fs σ τ ∧ a = (s, nI i, τ)) (Q := fun u bb => anM σ u none bb) (n := t - f + 1) (o1 := fun s : Int32 => s) (o2 := fun _ : Unit => (0 : Int32)) (fun i s aa hi hR => ?_) (fun s aa hR => ?_) (t - f + 1) 0 fuel 0 _ (by omega) (by unfold fuel; omega) ⟨σ, Fs_refl σ, rfl⟩
  · obtain ⟨τ, hfs, rfl⟩ := hR
    obtain ⟨υ, g1, g2⟩ := m_goes2 (n := f + i) hfs (lawM_Fr hfs.1 h) (by omega)
    have hs : f_X12_many_s59 (nI l) (nI f) (nI t) g (s, nI i, τ) = if oI (gs (nxO kd a b w) b 201 0 (some (f + i))) = g then some (.inl (s + 1, nI (i + 1), υ)) else some (.inl (s, nI (i + 1), υ)) := by
      unfold f_X12_many_s59 f_X12_many_t59 f_X12_many_b86
      simp only
      rw [nI_sub2 (by omega) (by omega), if_neg (by rw [nI_ltI (by omega) (by omega)]; omega), nI_l (by omega), nI_l (by omega), lN_add, g1, b2_some, nI_1]
    rw [hs]
    unfold mnG goR
    by_cases c : oI (gs (nxO kd a b w) b 201 0 (some (f + i))) = g
    · rw [if_pos c, if_pos c]; exact ⟨_, rfl, υ, g2, rfl⟩
    · rw [if_neg c, if_neg c]; exact ⟨_, rfl, υ, g2, rfl⟩
  · obtain ⟨τ, hfs, rfl⟩ := hR
    refine ⟨(s, τ), ?_, anM_n hfs⟩
    unfold f_X12_many_s59 f_X12_many_t59
    simp only
    rw [nI_sub2 (by omega) (by omega), if_pos (by rw [nI_ltI (by omega) (by omega)]; omega)]
    rfl
def bgG (f : Nat → Option Nat) (g y : Nat) (i : Int32) (x : Nat) (c : Int32) : Int32 ⊕ Int32 := if goN f g (some x) = some y then (if c = i then .inr (nI x) else .inl (c + 1)) else .inl c
def bgO (i c : Int32) : Int32 × Option Nat := if i = -1 then (c, none) else (-5, some 4)
def bgS (f : Nat → Option Nat) (g y : Nat) (i : Int32) : Int32 × Option Nat := lpO (bgO i) (fun x : Int32 => (x, none)) (lpE (bgG f g y i) 10000 0 0)
theorem x_beginner {σ : Hp} {j kd a pl b g y : Nat} {w : Nat → Nat} {i0 : Int32} (h : lawX σ j 1 kd a pl b w) (hg : g < 2 ^ 14) (hy : y ≤ 999999999999999) : ∃ bb, f_X11_beginner j (lN y) (nI g) i0 σ = some bb ∧ anX σ (bgS (nxO kd a b w) g y i0).1 (bgS (nxO kd a b w) g y i0).2 bb := by
  refine iter_lp (R := fun i s a => a = (s, nI i, σ)) (Q := fun (u : Int32 × Option Nat) bb => anX σ u.1 u.2 bb) (n := 10000) (o1 := bgO i0) (o2 := fun x : Int32 => (x, none)) (fun i s aa hi hR => ?_) (fun s aa hR => ?_) 10000 0 fuel 0 _ (by omega) (by unfold fuel; omega) rfl
  · subst hR
    have hok := okO_go (kd := kd) (a := a) (b := b) (w := w) (o := some i) (fun m e => by cases e; omega) g
    have hs : f_X11_beginner_s6 j (lN y) (nI g) i0 (s, nI i, σ) = if goN (nxO kd a b w) g (some i) = some y then (if s = i0 then ex (some (nI i, σ)) else some (.inl (s + 1, nI (i + 1), σ))) else some (.inl (s, nI (i + 1), σ)) := by
      unfold f_X11_beginner_s6 f_X11_beginner_t6 f_X11_beginner_b42
      simp only
      rw [if_neg (by rw [show (10000 : Int32) = nI 10000 from rfl, nI_leI (by omega) (by omega)]; omega), nI_l (by omega), x_behind h hg (by omega), b2_some, nI_1]
      by_cases c : goN (nxO kd a b w) g (some i) = some y
      · rw [if_pos ((lc_oN hok hy).mpr c), if_pos c]
      · rw [if_neg (fun c2 => c ((lc_oN hok hy).mp c2)), if_neg c]
    rw [hs]
    unfold bgG goR
    by_cases c : goN (nxO kd a b w) g (some i) = some y
    · rw [if_pos c, if_pos c]
      by_cases c2 : s = i0
      · rw [if_pos c2, if_pos c2]; exact ⟨_, rfl, anX_n (Fs_refl σ)⟩
      · rw [if_neg c2, if_neg c2]; exact ⟨_, rfl, rfl⟩
    · rw [if_neg c, if_neg c]; exact ⟨_, rfl, rfl⟩
  · subst hR
    unfold f_X11_beginner_s6 f_X11_beginner_t6 bgO
    simp only
    rw [if_pos (by decide)]
    by_cases c : i0 = -1
    · rw [if_pos c, if_pos c]; exact ⟨(s, σ), rfl, anX_n (Fs_refl σ)⟩
    · rw [if_neg c, if_neg c, x_ref (k := 4) rfl (by omega), b2_some]; exact ⟨_, rfl, anX_s (Fs_refl σ)⟩
theorem m_began {σ : Hp} {l kd a b g y : Nat} {w : Nat → Nat} {i0 : Int32} (h : lawM σ l kd a b w) (hg : g < 2 ^ 14) (hy : y ≤ 999999999999999) : ∃ bb, iter (f_X12_began_s61 (nI l) (lN y) (nI g) i0) fuel (0, 0, σ) = some bb ∧ anM σ (bgS (nxO kd a b w) g y i0).1 (bgS (nxO kd a b w) g y i0).2 bb := by
  refine iter_lp (R := fun i s a => ∃ τ, Fs σ τ ∧ a = (s, nI i, τ)) (Q := fun (u : Int32 × Option Nat) bb => anM σ u.1 u.2 bb) (n := 10000) (o1 := bgO i0) (o2 := fun x : Int32 => (x, none)) (fun i s aa hi hR => ?_) (fun s aa hR => ?_) 10000 0 fuel 0 _ (by omega) (by unfold fuel; omega) ⟨σ, Fs_refl σ, rfl⟩
  · obtain ⟨τ, hf, rfl⟩ := hR
    obtain ⟨υ, g1, g2⟩ := m_after3 (n := i) (g := g) hf (lawM_Fr hf.1 h) hg (by omega)
    have hok := okO_go (kd := kd) (a := a) (b := b) (w := w) (o := some i) (fun m e => by cases e; omega) g
    have hs : f_X12_began_s61 (nI l) (lN y) (nI g) i0 (s, nI i, τ) = if goN (nxO kd a b w) g (some i) = some y then (if s = i0 then ex (some (nI i, υ)) else some (.inl (s + 1, nI (i + 1), υ))) else some (.inl (s, nI (i + 1), υ)) := by
      unfold f_X12_began_s61 f_X12_began_t61 f_X12_began_b100
      simp only
      rw [if_neg (by rw [show (10000 : Int32) = nI 10000 from rfl, nI_leI (by omega) (by omega)]; omega), nI_l (by omega), g1, b2_some, nI_1]
      by_cases c : goN (nxO kd a b w) g (some i) = some y
      · rw [if_pos ((lc_oN hok hy).mpr c), if_pos c]
      · rw [if_neg (fun c2 => c ((lc_oN hok hy).mp c2)), if_neg c]
    rw [hs]
    unfold bgG goR
    by_cases c : goN (nxO kd a b w) g (some i) = some y
    · rw [if_pos c, if_pos c]
      by_cases c2 : s = i0
      · rw [if_pos c2, if_pos c2]; exact ⟨_, rfl, anM_n g2⟩
      · rw [if_neg c2, if_neg c2]; exact ⟨_, rfl, υ, g2, rfl⟩
    · rw [if_neg c, if_neg c]; exact ⟨_, rfl, υ, g2, rfl⟩
  · obtain ⟨τ, hf, rfl⟩ := hR
    unfold f_X12_began_s61 f_X12_began_t61 bgO
    simp only
    rw [if_pos (by decide)]
    by_cases c : i0 = -1
    · rw [if_pos c, if_pos c]; exact ⟨(s, τ), rfl, anM_n hf⟩
    · rw [if_neg c, if_neg c, m_ref (k := 4) rfl (by omega), b2_some]; exact ⟨_, rfl, anM_s hf⟩
theorem m_source {σ : Hp} {l kd a b y : Nat} {w : Nat → Nat} {i0 : Int32} (h : lawM σ l kd a b w) (hy : y ≤ 999999999999999) : ∃ bb, iter (f_X12_source_s48 (nI l) (lN y) i0) fuel (0, 0, σ) = some bb ∧ anM σ (bgS (nxO kd a b w) 1 y i0).1 (bgS (nxO kd a b w) 1 y i0).2 bb := by
  refine iter_lp (R := fun i s a => ∃ τ, Fs σ τ ∧ a = (s, nI i, τ)) (Q := fun (u : Int32 × Option Nat) bb => anM σ u.1 u.2 bb) (n := 10000) (o1 := bgO i0) (o2 := fun x : Int32 => (x, none)) (fun i s aa hi hR => ?_) (fun s aa hR => ?_) 10000 0 fuel 0 _ (by omega) (by unfold fuel; omega) ⟨σ, Fs_refl σ, rfl⟩
  · obtain ⟨τ, hf, rfl⟩ := hR
    obtain ⟨υ, g1, g2⟩ := m_next3 (n := i) hf (lawM_Fr hf.1 h) (by omega)
    have hok : okO (nxO kd a b w i) := okO_nx
    have hs : f_X12_source_s48 (nI l) (lN y) i0 (s, nI i, τ) = if nxO kd a b w i = some y then (if s = i0 then ex (some (nI i, υ)) else some (.inl (s + 1, nI (i + 1), υ))) else some (.inl (s, nI (i + 1), υ)) := by
      unfold f_X12_source_s48 f_X12_source_t48 f_X12_source_b85
      simp only
      rw [if_neg (by rw [show (10000 : Int32) = nI 10000 from rfl, nI_leI (by omega) (by omega)]; omega), nI_l (by omega), g1, b2_some, nI_1]
      by_cases c : nxO kd a b w i = some y
      · rw [if_pos ((lc_oN hok hy).mpr c), if_pos c]
      · rw [if_neg (fun c2 => c ((lc_oN hok hy).mp c2)), if_neg c]
    rw [hs]
    show goR _ _ _ (if nxO kd a b w i = some y then (if s = i0 then .inr (nI i) else .inl (s + 1)) else .inl s)
    unfold goR
    by_cases c : nxO kd a b w i = some y
    · rw [if_pos c, if_pos c]
      by_cases c2 : s = i0
      · rw [if_pos c2, if_pos c2]; exact ⟨_, rfl, anM_n g2⟩
      · rw [if_neg c2, if_neg c2]; exact ⟨_, rfl, υ, g2, rfl⟩
    · rw [if_neg c, if_neg c]; exact ⟨_, rfl, υ, g2, rfl⟩
  · obtain ⟨τ, hf, rfl⟩ := hR
    unfold f_X12_source_s48 f_X12_source_t48 bgO
    simp only
    rw [if_pos (by decide)]
    by_cases c : i0 = -1
    · rw [if_pos c, if_pos c]; exact ⟨(s, τ), rfl, anM_n hf⟩
    · rw [if_neg c, if_neg c, m_ref (k := 4) rfl (by omega), b2_some]; exact ⟨_, rfl, anM_s hf⟩
