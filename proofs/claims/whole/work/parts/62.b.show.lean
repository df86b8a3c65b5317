/-! rows: set, show -/
theorem m_wanted_Fr {σ τ : Hp} {s : Nat} {r : Int32} (hs : s < 8) (hf : Fr σ τ) (h : f_X12_wanted (nI s) σ = some (r, σ)) : f_X12_wanted (nI s) τ = some (r, τ) := by
  have w0 : ∀ σ, f_X12_wanted (nI s) σ = if hI σ 50 s = 2 then some (-2, σ) else if hI σ 50 s = 0 then some (-3, σ) else some (0, σ) := by
    intro σ
    unfold f_X12_wanted f_X12_isShelf
    rw [if_neg (nI_0le (by omega)), if_neg (by rw [show (8 : Int32) = nI 8 from rfl, nI_leI (by omega) (by omega)]; omega), b2_some, if_neg (by decide), ck_pos (inb_nI (by omega) (by omega)), nI_clamp (by omega)]
  rw [w0] at h ⊢
  rw [hf.2.2.2.1 50 rfl (by decide)]
  by_cases c1 : hI σ 50 s = 2
  · rw [if_pos c1] at h ⊢; cases h; rfl
  · rw [if_neg c1] at h ⊢
    by_cases c2 : hI σ 50 s = 0
    · rw [if_pos c2] at h ⊢; cases h; rfl
    · rw [if_neg c2] at h ⊢; cases h; rfl
def lowV (t : Int32) (v : Int64) : Int64 := if t = 0 then v.toInt32.toInt8.toInt32.toInt64 else if t = 1 then v.toInt32.toInt16.toInt32.toInt64 else if t = 2 then v.toInt32.toInt64 else v
theorem op_set (σ : Hp) (hv : Inv σ) (a0 : Int32) (a1 : Int32) (a2 : Int64) : ∃ (r : Int32) (σ1 σ2 : Hp), f_X11_set a0 a1 a2 σ = some (r, σ1) ∧ f_X12_set a0 a1 a2 σ1 = some (r, σ2) ∧ Inv σ2 := by
  refine op_shx hv (fun A hA => ?_)
  obtain ⟨hO, hX, hM, hI1, hS, -⟩ := id hA
  rcases sh_cs a0 with ⟨s, hs, rfl, s1, s2⟩ | ⟨s1, s2⟩
  · have x0 : f_X11_set (nI s) a1 a2 σ = b2 (f_X5_refusalOfRow (14 + s) σ) (fun r_9 s_10 => if r_9 = 0 then b2 (f_X5_has (14 + s) a1 (1 : Int32) s_10) (fun r_13 s_14 => if r_13 = 0 then b2 (f_X11_refuse (-5 : Int32) s_14) (fun r_20 s_21 => some (r_20, s_21)) else b2 (f_X5_put (14 + s) a1 a2 s_14) (fun r_17 s_18 => some ((1 : Int32), s_18))) else b2 (f_X11_refuse r_9 s_10) (fun r_23 s_24 => some (r_23, s_24))) := by
      unfold f_X11_set
      rw [s1, b2_some, cs_some, ck_pos (ky14 hs)]
    rcases hS s hs with ⟨h1, h2, h3, h4⟩ | ⟨t, len, h⟩ | ⟨l, hl, h1, h2, h3, h4, h5⟩
    · refine Or.inl ⟨-3, some 2, (fun k e => by cases e; omega), ⟨(-3, sI σ 30 2 (hI σ 30 2 + 1)), ?_, anX_s (Fs_refl σ)⟩, fun τ hf hτ => ⟨(-3, sI τ 45 3 (hI τ 45 3 + 1)), ?_, anM_s (k := 2) (Fs_refl τ)⟩⟩
      · rw [x0]
        unfold f_X5_refusalOfRow
        rw [h4, if_pos rfl, h2, if_pos rfl, b2_some, if_neg (by decide), x_r3, b2_some]
      · unfold f_X12_set
        rw [s2, b2_some, if_neg (by decide), ck_pos (inb_nI (by omega) (by omega)), nI_clamp (by omega), hf.2.2.2.1 50 rfl (by decide), h1, if_neg (by decide), if_pos rfl, m_r3, b2_some]
    · have hr : rwR σ s t len := h
      obtain ⟨h1, h2, h3, h4, h5, h6, h7, h8, h9⟩ := h
      have er : f_X5_refusalOfRow (14 + s) σ = some (0, σ) := by
        unfold f_X5_refusalOfRow
        rw [h8, if_pos rfl, h6, if_neg (by have := oI_m1 (q := t) (by omega); exact this)]
      have h5' : (a1 < 0 ∨ ∃ i, a1 = nI i ∧ i < 2 ^ 31 ∧ ¬ i < len) → opG (f_X11_set (nI s) a1 a2) (f_X12_set (nI s) a1 a2) σ A := by
        intro hh
        refine ⟨-5, some 4, (fun k e => by cases e; omega), ⟨(-5, sI σ 30 4 (hI σ 30 4 + 1)), ?_, anX_s (Fs_refl σ)⟩, fun τ hf hτ => ⟨(-5, sI τ 45 5 (hI τ 45 5 + 1)), ?_, anM_s (k := 4) (Fs_refl τ)⟩⟩
        · have eh : f_X5_has (14 + s) a1 1 σ = some (0, σ) := by
            unfold f_X5_has
            rcases hh with hh | ⟨i, rfl, hi, hil⟩
            · rw [if_pos hh]
            · rw [if_neg (nI_0le hi), h7]
              by_cases c : nI len < 1
              · rw [if_pos c]
              · have hl1 : 1 ≤ len := by rw [show (1 : Int32) = nI 1 from rfl, nI_ltI (by omega) (by omega)] at c; omega
                rw [if_neg c, show (1 : Int32) = nI 1 from rfl, nI_sub2 (by omega) hl1, if_pos (by rw [nI_ltI (by omega) hi]; omega)]
          rw [x0, er, b2_some, if_pos rfl, eh, b2_some, if_pos rfl, x_r5, b2_some]
        · obtain ⟨_, _, k3, _, k5, _⟩ := rwR_Fr hf hs hr
          unfold f_X12_set f_X12_set_b61
          rw [s2, b2_some, if_neg (by decide), ck_pos (inb_nI (by omega) (by omega)), nI_clamp (by omega), k3, if_neg (by decide), if_neg (by decide), k5, m_r5, b2_some]
          rcases hh with hh | ⟨i, rfl, hi, hil⟩
          · rw [if_pos hh]
          · rw [if_neg (nI_0le hi), if_neg (by rw [nI_ltI hi (by omega)]; exact hil)]
      rcases int_cs a1 with c | ⟨i, hi, rfl⟩
      · exact Or.inl (h5' (Or.inl c))
      · by_cases c2 : i < len
        · have eh : f_X5_has (14 + s) (nI i) 1 σ = some (1, σ) := by
            unfold f_X5_has
            rw [if_neg (nI_0le hi), h7, show (1 : Int32) = nI 1 from rfl, if_neg (by rw [nI_ltI (by omega) (by omega)]; omega), nI_sub2 (by omega) (by omega), if_neg (by rw [nI_ltI (by omega) hi]; omega)]
          have el : f_X5_lowestBits (14 + s) a2 σ = some (lowV (nI t) a2, σ) := by
            unfold f_X5_lowestBits lowV
            rw [h6]
            by_cases c0 : nI t = 0
            · rw [if_pos c0, if_pos c0]
            · rw [if_neg c0, if_neg c0]
              by_cases c1 : nI t = 1
              · rw [if_pos c1, if_pos c1]
              · rw [if_neg c1, if_neg c1]
                by_cases c3 : nI t = 2
                · rw [if_pos c3, if_pos c3]
                · rw [if_neg c3, if_neg c3]
          refine Or.inr ⟨1, sJ σ (22 + s) i (lowV (nI t) a2), sJ (sJ σ (22 + s) i (lowV (nI t) a2)) 54 (160 * s + i) (lowV (nI t) a2), ?_, ?_, ?_, ?_⟩
          · rw [x0, er, b2_some, if_pos rfl, eh, b2_some, if_neg (by decide)]
            unfold f_X5_put
            rw [if_neg (nI_0le hi), if_neg (by rw [show (160 : Int32) = nI 160 from rfl, nI_leI (by omega) (by omega)]; omega), el, b2_some, ck_pos (inb_nI (by omega) (by omega)), nI_clamp (by omega), show 14 + s + 8 = 22 + s by omega, b2_some]
          · have z : ∀ τ : Hp, hI τ = hI σ → f_X12_set (nI s) (nI i) a2 τ = some (1, sJ τ 54 (160 * s + i) (lowV (nI t) a2)) := by
              intro τ hτ
              unfold f_X12_set lowV
              rw [s2, b2_some, if_neg (by decide), ck_pos (inb_nI (by omega) (by omega)), nI_clamp (by omega), hτ, h3, if_neg (by decide), if_neg (by decide), if_neg (nI_0le hi), h5, if_pos (by rw [nI_ltI hi (by omega)]; exact c2), h4, show (160 : Int32) = nI 160 from rfl, nI_mul, nI_add, ck_pos (inb_nI (by omega) (by omega)), ck_pos (inb_nI (by omega) (by omega)), ck_pos (inb_nI (by omega) (by omega)), ck_pos (inb_nI (by omega) (by omega)), nI_clamp (by omega)]
              by_cases c0 : nI t = 0
              · rw [if_pos c0, if_pos c0]
              · rw [if_neg c0, if_neg c0]
                by_cases c1 : nI t = 1
                · rw [if_pos c1, if_pos c1]
                · rw [if_neg c1, if_neg c1]
                  by_cases c3 : nI t = 2
                  · rw [if_pos c3, if_pos c3]
                  · rw [if_neg c3, if_neg c3]
            exact z _ rfl
          · exact FsH_J (FsH_J (FsH_refl σ) (Or.inr (by omega)) _) (Or.inl (by omega)) _
          · intro u hu
            by_cases e : u = s
            · subst e
              refine Or.inr (Or.inl ⟨t, len, h1, h2, h3, h4, h5, h6, h7, h8, fun q hq => ?_⟩)
              unfold sJ
              rw [hJ_rowJ_k, hJ_rowJ_n _ _ (by omega), hJ_rowJ_k, hJ_rowJ_n _ _ (by omega)]
              by_cases e2 : q = i
              · subst e2; rw [up_eq, up_eq]
              · rw [up_ne _ _ e2, up_ne _ _ (by omega)]; exact h9 q hq
            · refine ShR_pt (σ := σ) rfl rfl rfl rfl rfl ?_ (fun q hq => ?_) (hS u hu)
              · unfold sJ; rw [hJ_rowJ_n _ _ (by omega), hJ_rowJ_n _ _ (by omega)]
              · unfold sJ; rw [hJ_rowJ_k, up_ne _ _ (by omega), hJ_rowJ_n _ _ (by omega)]
        · exact Or.inl (h5' (Or.inr ⟨i, rfl, hi, c2⟩))
    · refine Or.inl ⟨-2, some 1, (fun k e => by cases e; omega), ⟨(-2, sI σ 30 1 (hI σ 30 1 + 1)), ?_, anX_s (Fs_refl σ)⟩, fun τ hf hτ => ⟨(-2, sI τ 45 2 (hI τ 45 2 + 1)), ?_, anM_s (k := 1) (Fs_refl τ)⟩⟩
      · rw [x0]
        unfold f_X5_refusalOfRow
        have hO1 := hO.1
        rw [h5, if_neg (by have := oI_m1 (q := l) (by omega); exact this), b2_some, if_neg (by decide), x_r2, b2_some]
      · unfold f_X12_set
        rw [s2, b2_some, if_neg (by decide), ck_pos (inb_nI (by omega) (by omega)), nI_clamp (by omega), hf.2.2.2.1 50 rfl (by decide), h1, if_pos rfl, m_r2, b2_some]
  · refine Or.inl (op_no (k := 0) (by omega) (v := -1) ?_ (fun τ hτ => ?_))
    · unfold f_X11_set
      rw [s1, b2_some, cs_none, x_r1, b2_some]
    · unfold f_X12_set
      rw [s2, b2_some, if_pos rfl, m_r1, b2_some]
theorem op_show (σ : Hp) (hv : Inv σ) (a0 : Int32) (a1 : Int32) : ∃ (r : Int32) (σ1 σ2 : Hp), f_X11_show a0 a1 σ = some (r, σ1) ∧ f_X12_show a0 a1 σ1 = some (r, σ2) ∧ Inv σ2 := by
  refine op_shx hv (fun A hA => ?_)
  obtain ⟨hO, hX, hM, hI1, hS, -⟩ := id hA
  have hO1 := hO.1
  rcases sh_cs a0 with ⟨s, hs, rfl, s1, s2⟩ | ⟨s1, s2⟩
  · have hk14 : 14 ≤ 14 + s ∧ 14 + s ≤ 21 := by omega
    have go : ∀ (v r h : Int32), (a1 = v) → (r = if v = -1 then 0 else 1) → (h = if v = -1 then 0 else 2) → (v = -1 ∨ ∃ l, l < aN A ∧ v = nI l) → ∃ r' σ1 σ2, f_X11_show (nI s) a1 σ = some (r', σ1) ∧ f_X12_show (nI s) a1 σ1 = some (r', σ2) ∧ FsH σ σ2 ∧ ∀ u, u < 8 → ShR σ2 (aN A) u := by
      intro v r h ev er eh hc
      subst ev
      refine ⟨r, sI (sI (sI σ (14 + s) 1 (-1)) (14 + s) 2 0) (14 + s) 3 a1, sI (sI (sI (sI (sI σ (14 + s) 1 (-1)) (14 + s) 2 0) (14 + s) 3 a1) 50 s h) 53 s a1, ?_, ?_, ?_, ?_⟩
      · have eb : ∀ τ, f_X11_show_b32 a1 (14 + s) τ = some (r, sI (sI (sI τ (14 + s) 1 (-1)) (14 + s) 2 0) (14 + s) 3 a1) := by
          intro τ
          unfold f_X11_show_b32 f_X5_holdLaw
          rw [b2_some, er]
          by_cases c : a1 = -1
          · rw [if_pos c, if_pos c]
          · rw [if_neg c, if_neg c]
        unfold f_X11_show
        rw [s1, b2_some, cs_some, ck_pos (ky14 hs)]
        by_cases c : a1 = -1
        · rw [if_pos c]; exact eb σ
        · rw [if_neg c]
          obtain ⟨l, hl, rfl⟩ := hc.resolve_left c
          obtain ⟨j, e1, -⟩ := law_X (by omega) hO hX hl
          rw [e1, b2_some, cs_some]; exact eb σ
      · have eb : ∀ τ, f_X12_show_b27 (nI s) a1 τ = some (r, sI (sI τ 50 s h) 53 s a1) := by
          intro τ
          unfold f_X12_show_b27 f_X12_show_b42
          rw [ck_pos (inb_nI (by omega) (by omega)), ck_pos (inb_nI (by omega) (by omega)), ck_pos (inb_nI (by omega) (by omega)), ck_pos (inb_nI (by omega) (by omega)), nI_clamp (by omega), er, eh]
          by_cases c : a1 = -1
          · rw [if_pos c, if_pos c, if_pos c, if_pos c]
          · rw [if_neg c, if_neg c, if_neg c, if_neg c]
        unfold f_X12_show
        rw [s2, b2_some, if_neg (by decide)]
        by_cases c : a1 = -1
        · rw [if_pos c]; exact eb _
        · rw [if_neg c]
          obtain ⟨l, hl, rfl⟩ := hc.resolve_left c
          have hM1 : StM (sI (sI (sI σ (14 + s) 1 (-1)) (14 + s) 2 0) (14 + s) 3 (nI l)) A := by
            unfold StM at *
            unfold sI
            rw [hI_rowI_n _ _ (show 40 ≠ 14 + s by omega), hI_rowI_n _ _ (show 40 ≠ 14 + s by omega), hI_rowI_n _ _ (show 40 ≠ 14 + s by omega), hI_rowI_n _ _ (show 46 ≠ 14 + s by omega), hI_rowI_n _ _ (show 46 ≠ 14 + s by omega), hI_rowI_n _ _ (show 46 ≠ 14 + s by omega), hI_rowI_n _ _ (show 47 ≠ 14 + s by omega), hI_rowI_n _ _ (show 47 ≠ 14 + s by omega), hI_rowI_n _ _ (show 47 ≠ 14 + s by omega), hI_rowI_n _ _ (show 48 ≠ 14 + s by omega), hI_rowI_n _ _ (show 48 ≠ 14 + s by omega), hI_rowI_n _ _ (show 48 ≠ 14 + s by omega)]
            exact hM
          rw [m_isLaw hO hM1 hl, b2_some, if_neg (by decide)]; exact eb _
      · exact FsH_I (FsH_I (FsH_I (FsH_I (FsH_I (FsH_refl σ) (Or.inr hk14) _) (Or.inr hk14) _) (Or.inr hk14) _) (Or.inl (by omega)) _) (Or.inl (by omega)) _
      · intro u hu
        by_cases e : u = s
        · subst e
          have e50 : hI (sI (sI (sI (sI (sI σ (14 + u) 1 (-1)) (14 + u) 2 0) (14 + u) 3 a1) 50 u h) 53 u a1) 50 u = h := by unfold sI; rw [hI_rowI_n _ _ (by decide), hI_rowI_k, up_eq]
          have e53 : hI (sI (sI (sI (sI (sI σ (14 + u) 1 (-1)) (14 + u) 2 0) (14 + u) 3 a1) 50 u h) 53 u a1) 53 u = a1 := by unfold sI; rw [hI_rowI_k, up_eq]
          have e1 : hI (sI (sI (sI (sI (sI σ (14 + u) 1 (-1)) (14 + u) 2 0) (14 + u) 3 a1) 50 u h) 53 u a1) (14 + u) 1 = -1 := by unfold sI; rw [hI_rowI_n _ _ (by omega), hI_rowI_n _ _ (by omega), hI_rowI_k, up_ne _ _ (by decide), hI_rowI_k, up_ne _ _ (by decide), hI_rowI_k, up_eq]
          have e2 : hI (sI (sI (sI (sI (sI σ (14 + u) 1 (-1)) (14 + u) 2 0) (14 + u) 3 a1) 50 u h) 53 u a1) (14 + u) 2 = 0 := by unfold sI; rw [hI_rowI_n _ _ (by omega), hI_rowI_n _ _ (by omega), hI_rowI_k, up_ne _ _ (by decide), hI_rowI_k, up_eq]
          have e3 : hI (sI (sI (sI (sI (sI σ (14 + u) 1 (-1)) (14 + u) 2 0) (14 + u) 3 a1) 50 u h) 53 u a1) (14 + u) 3 = a1 := by unfold sI; rw [hI_rowI_n _ _ (by omega), hI_rowI_n _ _ (by omega), hI_rowI_k, up_eq]
          by_cases c : a1 = -1
          · refine Or.inl ⟨by rw [e50, eh, if_pos c], e1, e2, by rw [e3, c]⟩
          · obtain ⟨l, hl, hal⟩ := hc.resolve_left c
            exact Or.inr (Or.inr ⟨l, hl, by rw [e50, eh, if_neg c], by rw [e53, hal], e1, e2, by rw [e3, hal]⟩)
        · refine ShR_pt (σ := σ) ?_ ?_ ?_ ?_ ?_ rfl (fun q _ => rfl) (hS u hu)
          · unfold sI; rw [hI_rowI_n _ _ (by decide), hI_rowI_k, up_ne _ _ e, hI_rowI_n _ _ (by omega), hI_rowI_n _ _ (by omega), hI_rowI_n _ _ (by omega)]
          · unfold sI; rw [hI_rowI_n _ _ (by decide), hI_rowI_n _ _ (by decide), hI_rowI_n _ _ (by omega), hI_rowI_n _ _ (by omega), hI_rowI_n _ _ (by omega)]
          · unfold sI; rw [hI_rowI_n _ _ (by decide), hI_rowI_n _ _ (by decide), hI_rowI_n _ _ (by omega), hI_rowI_n _ _ (by omega), hI_rowI_n _ _ (by omega)]
          · unfold sI; rw [hI_rowI_k, up_ne _ _ e, hI_rowI_n _ _ (by decide), hI_rowI_n _ _ (by omega), hI_rowI_n _ _ (by omega), hI_rowI_n _ _ (by omega)]
          · unfold sI; rw [hI_rowI_n _ _ (by omega), hI_rowI_n _ _ (by omega), hI_rowI_n _ _ (by omega), hI_rowI_n _ _ (by omega), hI_rowI_n _ _ (by omega)]
    by_cases c : a1 = -1
    · exact Or.inr (go a1 _ _ rfl rfl rfl (Or.inl c))
    · rcases law_cs2 hO a1 with ⟨l, hl, hal⟩ | ⟨l1, l2⟩
      · exact Or.inr (go a1 _ _ rfl rfl rfl (Or.inr ⟨l, hl, hal⟩))
      · refine Or.inl (op_no (k := 0) (by omega) (v := -1) ?_ (fun τ hτ => ?_))
        · unfold f_X11_show f_X11_show_b26
          rw [s1, b2_some, cs_some, ck_pos (ky14 hs), if_neg c, l1 σ 1 (by omega) hX, b2_some, cs_none, x_r1, b2_some]
        · unfold f_X12_show f_X12_show_b21
          rw [s2, b2_some, if_neg (by decide), if_neg c, l2 τ hτ.2.2.1, b2_some, if_pos rfl, m_r1, b2_some]
  · refine Or.inl (op_no (k := 0) (by omega) (v := -1) ?_ (fun τ hτ => ?_))
    · unfold f_X11_show f_X11_show_b26
      rw [s1, b2_some, cs_none, x_r1, b2_some]
    · unfold f_X12_show f_X12_show_b21
      rw [s2, b2_some, if_pos rfl, m_r1, b2_some]
