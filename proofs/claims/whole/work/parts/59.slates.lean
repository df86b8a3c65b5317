/-! laws that fit; told slates -/
def ftG (f : Nat → Nat → Option Nat) (x y : Nat) (l : Nat) (s : Int32) : Int32 ⊕ Unit := if f l x = some y then .inl (s ||| ((1 : Int32) <<< (nI l &&& 31))) else .inl s
def ftS (f : Nat → Nat → Option Nat) (n x y : Nat) : Int32 := lpO (fun s : Int32 => s) (fun _ : Unit => (0 : Int32)) (lpE (ftG f x y) n 0 0)
abbrev nxA (A : AbS) (l : Nat) : Nat → Option Nat := nxO (aK A l) (aA A l) (aB A) (aW A l)
theorem x_fit {σ : Hp} {A : AbS} {x y : Nat} (hA : okA A) (h : StX σ 1 A) (hx : x ≤ 999999999999999) (hy : y ≤ 999999999999999) : ∃ bb, iter (f_X11_fit_s27 (lN x) (lN y)) fuel (0, 0, σ) = some bb ∧ anX σ (ftS (nxA A) (aN A) x y) none bb := by
  unfold ftS
  have hA1 := hA.1
  refine iter_lp (R := fun i s a => a = (s, nI i, σ)) (Q := fun u bb => anX σ u none bb) (n := aN A) (o1 := fun s : Int32 => s) (o2 := fun _ : Unit => (0 : Int32)) (fun i s aa hi hR => ?_) (fun s aa hR => ?_) (aN A) 0 fuel 0 _ (by omega) (by unfold fuel; omega) rfl
  · subst hR
    obtain ⟨j, e1, e2⟩ := law_X (by omega) hA h hi
    have hlw := e2.1
    have hs : f_X11_fit_s27 (lN x) (lN y) (s, nI i, σ) = if nxA A i x = some y then some (.inl (s ||| ((1 : Int32) <<< (nI i &&& 31)), nI (i + 1), σ)) else some (.inl (s, nI (i + 1), σ)) := by
      unfold f_X11_fit_s27 f_X11_fit_t27 f_X11_fit_b79
      simp only
      rw [h.2.2.1, if_neg (by rw [nI_leI (by omega) (by omega)]; omega), e1, b2_some]
      show ck (isLaw σ j = true) _ = _
      rw [ck_pos hlw, x_on2 e2 hx, b2_some, nI_1]
      by_cases c : nxA A i x = some y
      · rw [if_pos ((lc_oN okO_nx hy).mpr c), if_pos c]
      · rw [if_neg (fun c2 => c ((lc_oN okO_nx hy).mp c2)), if_neg c]
    rw [hs]
    unfold ftG goR
    by_cases c : nxA A i x = some y
    · rw [if_pos c, if_pos c]; exact ⟨_, rfl, rfl⟩
    · rw [if_neg c, if_neg c]; exact ⟨_, rfl, rfl⟩
  · subst hR
    refine ⟨(s, σ), ?_, anX_n (Fs_refl σ)⟩
    unfold f_X11_fit_s27 f_X11_fit_t27
    simp only
    rw [h.2.2.1, if_pos (by rw [nI_leI (by omega) (by omega)]; omega)]
    rfl
theorem m_fit2 {σ : Hp} {A : AbS} {x y : Nat} (hA : okA A) (h : StM σ A) (hx : x ≤ 999999999999999) (hy : y ≤ 999999999999999) : ∃ bb, iter (f_X12_fit_s29 (lN x) (lN y)) fuel (0, 0, σ) = some bb ∧ anM σ (ftS (nxA A) (aN A) x y) none bb := by
  unfold ftS
  have hA1 := hA.1
  refine iter_lp (R := fun i s a => ∃ τ, Fs σ τ ∧ a = (s, nI i, τ)) (Q := fun u bb => anM σ u none bb) (n := aN A) (o1 := fun s : Int32 => s) (o2 := fun _ : Unit => (0 : Int32)) (fun i s aa hi hR => ?_) (fun s aa hR => ?_) (aN A) 0 fuel 0 _ (by omega) (by unfold fuel; omega) ⟨σ, Fs_refl σ, rfl⟩
  · obtain ⟨τ, hf, rfl⟩ := hR
    have hM := StM_Fr hf.1 h
    obtain ⟨υ, g1, g2⟩ := m_next3 hf (law_M hA hM hi) hx
    have hs : f_X12_fit_s29 (lN x) (lN y) (s, nI i, τ) = if nxA A i x = some y then some (.inl (s ||| ((1 : Int32) <<< (nI i &&& 31)), nI (i + 1), υ)) else some (.inl (s, nI (i + 1), υ)) := by
      unfold f_X12_fit_s29 f_X12_fit_t29 f_X12_fit_b59
      simp only
      rw [hM.1, if_neg (by rw [nI_leI (by omega) (by omega)]; omega), g1, b2_some, nI_1]
      by_cases c : nxA A i x = some y
      · rw [if_pos ((lc_oN okO_nx hy).mpr c), if_pos c]
      · rw [if_neg (fun c2 => c ((lc_oN okO_nx hy).mp c2)), if_neg c]
    rw [hs]
    unfold ftG goR
    by_cases c : nxA A i x = some y
    · rw [if_pos c, if_pos c]; exact ⟨_, rfl, υ, g2, rfl⟩
    · rw [if_neg c, if_neg c]; exact ⟨_, rfl, υ, g2, rfl⟩
  · obtain ⟨τ, hf, rfl⟩ := hR
    have hM := StM_Fr hf.1 h
    refine ⟨(s, τ), ?_, anM_n hf⟩
    unfold f_X12_fit_s29 f_X12_fit_t29
    simp only
    rw [hM.1, if_pos (by rw [nI_leI (by omega) (by omega)]; omega)]
    rfl
def numB (v : Int64) : Bool := decide (¬ lg_cmp v 0 < 0 ∧ ¬ 0 < lg_cmp v 999999999999999)
theorem numB_x (v : Int64) (σ : Hp) : f_X11_isNumber v σ = some (if numB v = true then 1 else 0, σ) := by
  unfold f_X11_isNumber numB
  by_cases h1 : lg_cmp v 0 < 0
  · rw [if_pos h1, if_neg (by simp [h1])]
  · by_cases h2 : 0 < lg_cmp v 999999999999999
    · rw [if_neg h1, if_pos h2, if_neg (by simp [h2])]
    · rw [if_neg h1, if_neg h2, if_pos (by simp [h1, h2])]
theorem numB_m (v : Int64) (σ : Hp) : f_X12_isNumber v σ = some (if numB v = true then 1 else 0, σ) := by
  unfold f_X12_isNumber numB
  by_cases h1 : lg_cmp v 0 < 0
  · rw [if_pos h1, if_neg (by simp [h1])]
  · by_cases h2 : 0 < lg_cmp v 999999999999999
    · rw [if_neg h1, if_pos h2, if_neg (by simp [h2])]
    · rw [if_neg h1, if_neg h2, if_pos (by simp [h1, h2])]
theorem numB_n {v : Int64} (h : numB v = true) : v = lN v.toInt.toNat ∧ v.toInt.toNat ≤ 999999999999999 := by
  rcases num_cs v with ⟨n, h1, h2, h3, h4⟩ | ⟨h3, h4⟩
  · subst h2
    rw [pk_lT (by omega)]
    exact ⟨rfl, by omega⟩
  · have e := h3 ((fun _ _ => 0), (fun _ _ => 0), (fun _ _ => none), (fun _ => 0), 0)
    rw [numB_x, if_pos h] at e
    cases e
def wrG (f : Nat → Option Nat) (v : Nat → Int64) (i : Nat) (_ : Unit) : Unit ⊕ Int32 := if numB (v i) = true then (if i = 0 then .inl () else if oL (f (v (i - 1)).toInt.toNat) = v i then .inl () else .inr (nI i)) else .inr (nI i)
def wrS (f : Nat → Option Nat) (v : Nat → Int64) (n : Nat) : Int32 := lpO (fun _ : Unit => (-1 : Int32)) (fun x : Int32 => x) (lpE (wrG f v) n 0 ())
theorem x_firstWrong {σ : Hp} {j kd a pl b n s len : Nat} {w : Nat → Nat} (h : lawX σ j 1 kd a pl b w) (hs8 : s < 8) (hlen : hI σ (14 + s) 2 = nI len) (hl : len ≤ 160) (hn : n ≤ len) : f_X11_firstWrong j (14 + s) (nI n) σ = some (wrS (nxO kd a b w) (hJ σ (22 + s)) n, σ) := by
  have hlw := h.1
  have hel : ∀ i, i < n → f_X5_elementAt (14 + s) (nI i) σ = some (hJ σ (22 + s) i, σ) := by
    intro i hi
    unfold f_X5_elementAt
    rw [if_neg (by rw [show (0 : Int32) = nI 0 from rfl, nI_ltI (by omega) (by omega)]; omega), hlen, if_neg (by rw [nI_leI (by omega) (by omega)]; omega), if_neg (by rw [show (160 : Int32) = nI 160 from rfl, nI_leI (by omega) (by omega)]; omega), ck_pos (inb_nI (by omega) (by omega)), nI_clamp (by omega), show 14 + s + 8 = 22 + s by omega]
  have key : ∃ bb, iter (f_X11_firstWrong_s3 j (14 + s) (nI n)) fuel (0, σ) = some bb ∧ bb = (wrS (nxO kd a b w) (hJ σ (22 + s)) n, σ) := by
   unfold wrS
   refine iter_lp (step := f_X11_firstWrong_s3 j (14 + s) (nI n)) (g := wrG (nxO kd a b w) (hJ σ (22 + s))) (R := fun i (_ : Unit) a => a = (nI i, σ) ∧ ∀ q, q < i → numB (hJ σ (22 + s) q) = true) (Q := fun u bb => bb = (u, σ)) (n := n) (o1 := fun _ : Unit => (-1 : Int32)) (o2 := fun x : Int32 => x) (fun i s2 aa hi hR => ?_) (fun s2 aa hR => ?_) n 0 fuel () (0, σ) (by omega) (by unfold fuel; omega) ⟨rfl, fun q hq => by omega⟩
   · obtain ⟨rfl, hq⟩ := hR
     have hst : f_X11_firstWrong_s3 j (14 + s) (nI n) (nI i, σ) = if numB (hJ σ (22 + s) i) = true then (if i = 0 then some (.inl (nI (i + 1), σ)) else if oL (nxO kd a b w (hJ σ (22 + s) (i - 1)).toInt.toNat) = hJ σ (22 + s) i then some (.inl (nI (i + 1), σ)) else ex (some (nI i, σ))) else ex (some (nI i, σ)) := by
       unfold f_X11_firstWrong_s3 f_X11_firstWrong_t3 f_X11_firstWrong_b55
       simp only
       rw [if_neg (by rw [nI_leI (by omega) (by omega)]; omega), hel i hi, b2_some, numB_x, b2_some]
       by_cases c1 : numB (hJ σ (22 + s) i) = true
       · rw [if_pos c1, if_pos c1, if_neg (by decide)]
         by_cases c2 : i = 0
         · rw [if_pos c2, if_pos (by rw [show (0 : Int32) = nI 0 from rfl, nI_leI (by omega) (by omega)]; omega), nI_1]
         · obtain ⟨v1, v2⟩ := numB_n (hq (i - 1) (by omega))
           have e1 : nI i - 1 = nI (i - 1) := nI_sub2 (m := i) (n := 1) (by omega) (by omega)
           rw [if_neg c2, if_neg (by rw [show (0 : Int32) = nI 0 from rfl, nI_leI (by omega) (by omega)]; omega), e1, hel (i - 1) (by omega), b2_some, ck_pos hlw]
           have e3 : v_onward j (hJ σ (22 + s) (i - 1)) 1 σ = some (oL (nxO kd a b w (hJ σ (22 + s) (i - 1)).toInt.toNat), σ) := by
             conv => lhs; rw [v1]
             exact x_on2 h v2
           rw [e3, b2_some, nI_1]
           by_cases c3 : oL (nxO kd a b w (hJ σ (22 + s) (i - 1)).toInt.toNat) = hJ σ (22 + s) i
           · rw [if_pos (lc_E.mpr c3), if_pos c3]
           · rw [if_neg (fun c => c3 (lc_E.mp c)), if_neg c3]
       · rw [if_neg c1, if_neg c1, if_pos rfl]
     rw [hst]
     unfold wrG goR
     by_cases c1 : numB (hJ σ (22 + s) i) = true
     · have hq2 : ∀ q, q < i + 1 → numB (hJ σ (22 + s) q) = true := fun q h => by
         by_cases e : q = i
         · subst e; exact c1
         · exact hq q (by omega)
       rw [if_pos c1, if_pos c1]
       by_cases c2 : i = 0
       · rw [if_pos c2, if_pos c2]; exact ⟨_, rfl, rfl, hq2⟩
       · rw [if_neg c2, if_neg c2]
         by_cases c3 : oL (nxO kd a b w (hJ σ (22 + s) (i - 1)).toInt.toNat) = hJ σ (22 + s) i
         · rw [if_pos c3, if_pos c3]; exact ⟨_, rfl, rfl, hq2⟩
         · rw [if_neg c3, if_neg c3]; exact ⟨_, rfl, rfl⟩
     · rw [if_neg c1, if_neg c1]; exact ⟨_, rfl, rfl⟩
   · obtain ⟨rfl, hq⟩ := hR
     refine ⟨_, ?_, rfl⟩
     unfold f_X11_firstWrong_s3 f_X11_firstWrong_t3
     simp only
     rw [if_pos (by rw [nI_leI (by omega) (by omega)]; omega)]
     rfl
  obtain ⟨bb, e1, e2⟩ := key
  unfold f_X11_firstWrong
  rw [e1, e2]
theorem wr_congr {f : Nat → Option Nat} {v u : Nat → Int64} {n : Nat} (h : ∀ q, q < n → v q = u q) : wrS f v n = wrS f u n := by
  unfold wrS
  rw [lpE_congr (g2 := wrG f u) (n := n) (fun i s hi => ?_) n 0 () (by omega)]
  show (if numB (v i) = true then (if i = 0 then _ else if oL (f (v (i - 1)).toInt.toNat) = v i then _ else _) else _) = (if numB (u i) = true then (if i = 0 then _ else if oL (f (u (i - 1)).toInt.toNat) = u i then _ else _) else _)
  rw [h i hi, h (i - 1) (by omega)]
theorem m_wrongIn {σ : Hp} {l kd a b n s : Nat} {w : Nat → Nat} (h : lawM σ l kd a b w) (hs8 : s < 8) (hn : n ≤ 160) : ∃ τ, f_X12_wrongIn (nI l) (nI s) (nI n) σ = some (wrS (nxO kd a b w) (fun i => hJ σ 54 (160 * s + i)) n, τ) ∧ Fs σ τ := by
  have key : ∃ bb, iter (f_X12_wrongIn_s3 (nI l) (nI s) (nI n)) fuel (0, σ) = some bb ∧ bb.1 = wrS (nxO kd a b w) (fun i => hJ σ 54 (160 * s + i)) n ∧ Fs σ bb.2 := by
   unfold wrS
   refine iter_lp (step := f_X12_wrongIn_s3 (nI l) (nI s) (nI n)) (g := wrG (nxO kd a b w) (fun i => hJ σ 54 (160 * s + i))) (R := fun i (_ : Unit) a => (∃ τ, Fs σ τ ∧ a = (nI i, τ)) ∧ ∀ q, q < i → numB (hJ σ 54 (160 * s + q)) = true) (Q := fun u bb => bb.1 = u ∧ Fs σ bb.2) (n := n) (o1 := fun _ : Unit => (-1 : Int32)) (o2 := fun x : Int32 => x) (fun i s2 aa hi hR => ?_) (fun s2 aa hR => ?_) n 0 fuel () (0, σ) (by omega) (by unfold fuel; omega) ⟨⟨σ, Fs_refl σ, rfl⟩, fun q hq => by omega⟩
   · obtain ⟨⟨τ, hf, rfl⟩, hq⟩ := hR
     have h54 : hJ τ 54 = hJ σ 54 := hf.1.2.2.2.2.2 54 rfl
     have e160 : (160 : Int32) * nI s + nI i = nI (160 * s + i) := by rw [show (160 : Int32) = nI 160 from rfl, nI_mul, nI_add]
     obtain ⟨υ, g1, g2⟩ := m_next3 (n := (hJ σ 54 (160 * s + (i - 1))).toInt.toNat % 1000000000000000) hf (lawM_Fr hf.1 h) (by omega)
     have hst : ∃ υ, Fs σ υ ∧ f_X12_wrongIn_s3 (nI l) (nI s) (nI n) (nI i, τ) = if numB (hJ σ 54 (160 * s + i)) = true then (if i = 0 then some (.inl (nI (i + 1), υ)) else if oL (nxO kd a b w (hJ σ 54 (160 * s + (i - 1))).toInt.toNat) = hJ σ 54 (160 * s + i) then some (.inl (nI (i + 1), υ)) else ex (some (nI i, υ))) else ex (some (nI i, υ)) := by
       unfold f_X12_wrongIn_s3 f_X12_wrongIn_t3 f_X12_wrongIn_b67
       simp only
       rw [if_neg (by rw [nI_leI (by omega) (by omega)]; omega), e160, ck_pos (inb_nI (by omega) (by omega)), nI_clamp (by omega), h54, numB_m, b2_some]
       by_cases c1 : numB (hJ σ 54 (160 * s + i)) = true
       · rw [if_pos c1, if_neg (by decide)]
         by_cases c2 : i = 0
         · refine ⟨τ, hf, ?_⟩
           rw [if_pos c2, if_pos c1, if_pos (by rw [show (0 : Int32) = nI 0 from rfl, nI_leI (by omega) (by omega)]; omega), nI_1]
         · obtain ⟨v1, v2⟩ := numB_n (hq (i - 1) (by omega))
           have e1 : nI (160 * s + i) - 1 = nI (160 * s + (i - 1)) := by
             rw [show 160 * s + (i - 1) = 160 * s + i - 1 by omega]
             exact nI_sub2 (m := 160 * s + i) (n := 1) (by omega) (by omega)
           rw [Nat.mod_eq_of_lt (by omega), ← v1] at g1
           refine ⟨υ, g2, ?_⟩
           rw [if_neg c2, if_pos c1, if_neg (by rw [show (0 : Int32) = nI 0 from rfl, nI_leI (by omega) (by omega)]; omega), e1, ck_pos (inb_nI (by omega) (by omega)), nI_clamp (by omega), h54, g1, b2_some, nI_1]
           by_cases c3 : oL (nxO kd a b w (hJ σ 54 (160 * s + (i - 1))).toInt.toNat) = hJ σ 54 (160 * s + i)
           · rw [if_pos (lc_E.mpr c3), if_pos c3]
           · rw [if_neg (fun c => c3 (lc_E.mp c)), if_neg c3]
       · refine ⟨τ, hf, ?_⟩
         rw [if_neg c1, if_neg c1, if_pos rfl]
     obtain ⟨υ, hf2, hst⟩ := hst
     rw [hst]
     unfold wrG goR
     by_cases c1 : numB (hJ σ 54 (160 * s + i)) = true
     · have hq2 : ∀ q, q < i + 1 → numB (hJ σ 54 (160 * s + q)) = true := fun q h => by
         by_cases e : q = i
         · subst e; exact c1
         · exact hq q (by omega)
       rw [if_pos c1, if_pos c1]
       by_cases c2 : i = 0
       · rw [if_pos c2, if_pos c2]; exact ⟨_, rfl, ⟨υ, hf2, rfl⟩, hq2⟩
       · rw [if_neg c2, if_neg c2]
         by_cases c3 : oL (nxO kd a b w (hJ σ 54 (160 * s + (i - 1))).toInt.toNat) = hJ σ 54 (160 * s + i)
         · rw [if_pos c3, if_pos c3]; exact ⟨_, rfl, ⟨υ, hf2, rfl⟩, hq2⟩
         · rw [if_neg c3, if_neg c3]; exact ⟨_, rfl, rfl, hf2⟩
     · rw [if_neg c1, if_neg c1]; exact ⟨_, rfl, rfl, hf2⟩
   · obtain ⟨⟨τ, hf, rfl⟩, hq⟩ := hR
     refine ⟨(-1, τ), ?_, rfl, hf⟩
     unfold f_X12_wrongIn_s3 f_X12_wrongIn_t3
     simp only
     rw [if_pos (by rw [nI_leI (by omega) (by omega)]; omega)]
     rfl
  obtain ⟨bb, e1, e2⟩ := key
  refine ⟨bb.2, ?_, e2.2⟩
  unfold f_X12_wrongIn
  rw [e1]
  show some (bb.1, bb.2) = _
  rw [e2.1]
def lsG (f : Nat → Nat → Option Nat) (v : Nat → Int64) (n : Nat) (l : Nat) (s : Int32) : Int32 ⊕ Unit := if wrS (f l) v n = -1 then .inl (s ||| ((1 : Int32) <<< (nI l &&& 31))) else .inl s
def lsS (f : Nat → Nat → Option Nat) (v : Nat → Int64) (n m : Nat) : Int32 := lpO (fun s : Int32 => s) (fun _ : Unit => (0 : Int32)) (lpE (lsG f v n) m 0 0)
theorem x_laws {σ : Hp} {A : AbS} {s n len : Nat} (hA : okA A) (h : StX σ 1 A) (hs8 : s < 8) (hlen : hI σ (14 + s) 2 = nI len) (hl : len ≤ 160) (hn : n ≤ len) : ∃ bb, iter (f_X11_laws_s41 (nI n) (14 + s)) fuel (0, 0, σ) = some bb ∧ anX σ (lsS (nxA A) (hJ σ (22 + s)) n (aN A)) none bb := by
  unfold lsS
  have hA1 := hA.1
  refine iter_lp (R := fun i s a => a = (s, nI i, σ)) (Q := fun u bb => anX σ u none bb) (n := aN A) (o1 := fun s : Int32 => s) (o2 := fun _ : Unit => (0 : Int32)) (fun i s2 aa hi hR => ?_) (fun s2 aa hR => ?_) (aN A) 0 fuel 0 _ (by omega) (by unfold fuel; omega) rfl
  · subst hR
    obtain ⟨j, e1, e2⟩ := law_X (by omega) hA h hi
    have hs : f_X11_laws_s41 (nI n) (14 + s) (s2, nI i, σ) = if wrS (nxA A i) (hJ σ (22 + s)) n = -1 then some (.inl (s2 ||| ((1 : Int32) <<< (nI i &&& 31)), nI (i + 1), σ)) else some (.inl (s2, nI (i + 1), σ)) := by
      unfold f_X11_laws_s41 f_X11_laws_t41 f_X11_laws_b90
      simp only
      rw [h.2.2.1, if_neg (by rw [nI_leI (by omega) (by omega)]; omega), e1, b2_some]
      show b2 (f_X11_firstWrong j (14 + s) (nI n) σ) _ = _
      rw [x_firstWrong e2 hs8 hlen hl hn, b2_some, nI_1]
    rw [hs]
    unfold lsG goR
    by_cases c : wrS (nxA A i) (hJ σ (22 + s)) n = -1
    · rw [if_pos c, if_pos c]; exact ⟨_, rfl, rfl⟩
    · rw [if_neg c, if_neg c]; exact ⟨_, rfl, rfl⟩
  · subst hR
    refine ⟨(s2, σ), ?_, anX_n (Fs_refl σ)⟩
    unfold f_X11_laws_s41 f_X11_laws_t41
    simp only
    rw [h.2.2.1, if_pos (by rw [nI_leI (by omega) (by omega)]; omega)]
    rfl
theorem m_laws {σ : Hp} {A : AbS} {s n : Nat} (hA : okA A) (h : StM σ A) (hs8 : s < 8) (hn : n ≤ 160) : ∃ bb, iter (f_X12_laws_s23 (nI s) (nI n)) fuel (0, 0, σ) = some bb ∧ anM σ (lsS (nxA A) (fun i => hJ σ 54 (160 * s + i)) n (aN A)) none bb := by
  unfold lsS
  have hA1 := hA.1
  refine iter_lp (R := fun i s a => ∃ τ, Fs σ τ ∧ a = (s, nI i, τ)) (Q := fun u bb => anM σ u none bb) (n := aN A) (o1 := fun s : Int32 => s) (o2 := fun _ : Unit => (0 : Int32)) (fun i s2 aa hi hR => ?_) (fun s2 aa hR => ?_) (aN A) 0 fuel 0 _ (by omega) (by unfold fuel; omega) ⟨σ, Fs_refl σ, rfl⟩
  · obtain ⟨τ, hf, rfl⟩ := hR
    have hM := StM_Fr hf.1 h
    have h54 : hJ τ 54 = hJ σ 54 := hf.1.2.2.2.2.2 54 rfl
    obtain ⟨υ, g1, g2⟩ := m_wrongIn (s := s) (n := n) (law_M hA hM hi) hs8 hn
    rw [h54] at g1
    have hs : f_X12_laws_s23 (nI s) (nI n) (s2, nI i, τ) = if wrS (nxA A i) (fun i => hJ σ 54 (160 * s + i)) n = -1 then some (.inl (s2 ||| ((1 : Int32) <<< (nI i &&& 31)), nI (i + 1), υ)) else some (.inl (s2, nI (i + 1), υ)) := by
      unfold f_X12_laws_s23 f_X12_laws_t23 f_X12_laws_b53
      simp only
      rw [hM.1, if_neg (by rw [nI_leI (by omega) (by omega)]; omega), g1, b2_some, nI_1]
    rw [hs]
    unfold lsG goR
    by_cases c : wrS (nxA A i) (fun i => hJ σ 54 (160 * s + i)) n = -1
    · rw [if_pos c, if_pos c]; exact ⟨_, rfl, υ, Fs_trans hf g2, rfl⟩
    · rw [if_neg c, if_neg c]; exact ⟨_, rfl, υ, Fs_trans hf g2, rfl⟩
  · obtain ⟨τ, hf, rfl⟩ := hR
    have hM := StM_Fr hf.1 h
    refine ⟨(s2, τ), ?_, anM_n hf⟩
    unfold f_X12_laws_s23 f_X12_laws_t23
    simp only
    rw [hM.1, if_pos (by rw [nI_leI (by omega) (by omega)]; omega)]
    rfl
