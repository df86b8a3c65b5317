/-! row: copy -/
theorem op_no2 {α : Type} {fx fm : Hp → Option (α × Hp)} {σ : Hp} {A : AbS} {v : α} {k : Nat} (hk : k < 7) (hx : fx σ = some (v, sI σ 30 k (hI σ 30 k + 1))) (hm : ∀ τ, Fr σ τ → fm τ = some (v, sI τ 45 (k + 1) (hI τ 45 (k + 1) + 1))) : opG fx fm σ A :=
  ⟨v, some k, (fun q e => by cases e; exact hk), ⟨_, hx, anX_s (Fs_refl σ)⟩, fun τ hf _ => ⟨_, hm τ hf, anM_s (k := k) (Fs_refl τ)⟩⟩
theorem nI_neglt {m a : Nat} (h0 : 0 < m) (hm : m < 2 ^ 31) (ha : a < 2 ^ 31) : -(nI m) < nI a := by
  rw [Int32.lt_iff_toInt_lt, Int32.toInt_neg, nI_toInt hm, nI_toInt ha]
  rw [Int.bmod_def]
  split <;> omega
theorem sub_lt {len n a : Nat} (hl : len ≤ 160) (hn : n < 2 ^ 31) (ha : a < 2 ^ 31) : (nI len - nI n < nI a) ↔ len < a + n := by
  by_cases c : n ≤ len
  · rw [nI_sub2 (by omega) c, nI_ltI (by omega) ha]
    omega
  · rw [i_subn (by omega)]
    exact ⟨fun _ => by omega, fun _ => nI_neglt (by omega) (by omega) ha⟩
theorem m_cp2 {q b n : Nat} (hq : q < 8) (hb : b + n ≤ 160) : ∀ (k i fu : Nat) (σ : Hp), i + k = n → k < fu → ∃ F, iter (f_X12_copy_s205 (nI q) (nI b) (nI n)) fu (nI i, σ) = some (1, rowJ σ 54 F) ∧ (∀ j, ¬ (160 * q + b + i ≤ j ∧ j < 160 * q + b + n) → F j = hJ σ 54 j) ∧ ∀ j, i ≤ j → j < n → F (160 * q + b + j) = hJ σ 55 j
  | k, i, 0, σ, _, hf => by omega
  | 0, i, fu + 1, σ, hi, hf => by
    refine ⟨hJ σ 54, iter_ex ?_, fun _ _ => rfl, fun j h1 h2 => by omega⟩
    unfold f_X12_copy_s205 f_X12_copy_t205
    simp only
    rw [if_pos (by rw [nI_leI (by omega) (by omega)]; omega), rowJ_self]
  | k + 1, i, fu + 1, σ, hi, hf => by
    obtain ⟨F, g1, g2, g3⟩ := m_cp2 hq hb k (i + 1) fu (sJ σ 54 (160 * q + b + i) (hJ σ 55 i)) (by omega) (by omega)
    refine ⟨F, (iter_inl (a' := (nI (i + 1), sJ σ 54 (160 * q + b + i) (hJ σ 55 i))) ?_).trans (g1.trans ?_), fun j hj => ?_, fun j h1 h2 => ?_⟩
    · unfold f_X12_copy_s205 f_X12_copy_t205
      simp only
      rw [if_neg (by rw [nI_leI (by omega) (by omega)]; omega), ck_pos (inb_nI (by omega) (by omega)), show (160 : Int32) = nI 160 from rfl, nI_mul, nI_add, nI_add, ck_pos (inb_nI (by omega) (by omega)), nI_clamp (by omega), nI_clamp (by omega), nI_1]
    · unfold sJ; rw [rowJ_rowJ]
    · rw [g2 j (by omega)]; unfold sJ; rw [hJ_rowJ_k, up_ne _ _ (by omega)]
    · by_cases e : j = i
      · subst e; rw [g2 _ (by omega)]; unfold sJ; rw [hJ_rowJ_k, up_eq]
      · rw [g3 j (by omega) h2]; unfold sJ; rw [hJ_rowJ_n _ _ (by decide)]
theorem m_cp1 {p q a b n : Nat} (hp : p < 8) (ha : a + n ≤ 160) : ∀ (k i fu : Nat) (σ : Hp), i + k = n → k < fu → ∃ F, iter (f_X12_copy_s167 (nI p) (nI q) (nI a) (nI b) (nI n)) fu (nI i, σ) = iter (f_X12_copy_s205 (nI q) (nI b) (nI n)) fuel (nI 0, rowJ σ 55 F) ∧ (∀ j, j < i → F j = hJ σ 55 j) ∧ ∀ j, i ≤ j → j < n → F j = hJ σ 54 (160 * p + a + j)
  | k, i, 0, σ, _, hf => by omega
  | 0, i, fu + 1, σ, hi, hf => by
    refine ⟨hJ σ 55, iter_ex ?_, fun _ _ => rfl, fun j h1 h2 => by omega⟩
    unfold f_X12_copy_s167 f_X12_copy_t167
    simp only
    rw [if_pos (by rw [nI_leI (by omega) (by omega)]; omega), rowJ_self]
    rfl
  | k + 1, i, fu + 1, σ, hi, hf => by
    obtain ⟨F, g1, g2, g3⟩ := m_cp1 (q := q) (b := b) hp ha k (i + 1) fu (sJ σ 55 i (hJ σ 54 (160 * p + a + i))) (by omega) (by omega)
    refine ⟨F, (iter_inl (a' := (nI (i + 1), sJ σ 55 i (hJ σ 54 (160 * p + a + i)))) ?_).trans (g1.trans ?_), fun j hj => ?_, fun j h1 h2 => ?_⟩
    · unfold f_X12_copy_s167 f_X12_copy_t167
      simp only
      rw [if_neg (by rw [nI_leI (by omega) (by omega)]; omega), show (160 : Int32) = nI 160 from rfl, nI_mul, nI_add, nI_add, ck_pos (inb_nI (by omega) (by omega)), ck_pos (inb_nI (by omega) (by omega)), nI_clamp (by omega), nI_clamp (by omega), nI_1]
    · unfold sJ; rw [rowJ_rowJ]
    · rw [g2 j (by omega)]; unfold sJ; rw [hJ_rowJ_k, up_ne _ _ (by omega)]
    · by_cases e : j = i
      · subst e; rw [g2 _ (by omega)]; unfold sJ; rw [hJ_rowJ_k, up_eq]
      · rw [g3 j (by omega) h2]; unfold sJ; rw [hJ_rowJ_n _ _ (by decide)]
/-- what a shelf is, in both: 0 nothing, 1 a row, 2 a law -/
def kdR (σ : Hp) (s k : Nat) : Prop := hI σ 50 s = nI k ∧ ((k = 0 ∧ hI σ (14 + s) 1 = -1 ∧ hI σ (14 + s) 3 = -1) ∨ (k = 1 ∧ ¬ hI σ (14 + s) 1 = -1 ∧ hI σ (14 + s) 3 = -1) ∨ (k = 2 ∧ hI σ (14 + s) 1 = -1 ∧ ¬ hI σ (14 + s) 3 = -1))
theorem kdR_of {σ : Hp} {n s : Nat} (hn : n ≤ 6) (h : ShR σ n s) : ∃ k, kdR σ s k ∧ (k = 1 → ∃ t len, rwR σ s t len) := by
  rcases h with ⟨h1, h2, h3, h4⟩ | ⟨t, len, h⟩ | ⟨l, hl, h1, h2, h3, h4, h5⟩
  · exact ⟨0, ⟨h1, Or.inl ⟨rfl, h2, h4⟩⟩, fun c => by omega⟩
  · have hr : rwR σ s t len := h
    obtain ⟨h1, h2, h3, h4, h5, h6, h7, h8, h9⟩ := h
    exact ⟨1, ⟨h3, Or.inr (Or.inl ⟨rfl, by rw [h6]; have := oI_m1 (q := t) (by omega); exact this, h8⟩)⟩, fun _ => ⟨t, len, hr⟩⟩
  · exact ⟨2, ⟨h1, Or.inr (Or.inr ⟨rfl, h3, by rw [h5]; have := oI_m1 (q := l) (by omega); exact this⟩)⟩, fun c => by omega⟩
theorem op_copy (σ : Hp) (hv : Inv σ) (a0 : Int32) (a1 : Int32) (a2 : Int32) (a3 : Int32) (a4 : Int32) : ∃ (r : Int32) (σ1 σ2 : Hp), f_X11_copy a0 a1 a2 a3 a4 σ = some (r, σ1) ∧ f_X12_copy a0 a1 a2 a3 a4 σ1 = some (r, σ2) ∧ Inv σ2 := by
  refine op_shx hv (fun A hA => ?_)
  obtain ⟨hO, hX, hM, hI1, hS, -⟩ := id hA
  have hO1 := hO.1
  rcases sh_cs a0 with ⟨p, hp, rfl, p1, p2⟩ | ⟨p1, p2⟩
  · rcases sh_cs a1 with ⟨q, hq, rfl, q1, q2⟩ | ⟨q1, q2⟩
    · have x0 : f_X11_copy (nI p) (nI q) a2 a3 a4 σ = if (hI σ (14 + p) 1) = (-1 : Int32) then f_X11_copy_b53 a2 a3 a4 (14 + p) (14 + q) 0 σ else if (hI σ (14 + q) 1) = (-1 : Int32) then f_X11_copy_b53 a2 a3 a4 (14 + p) (14 + q) 0 σ else f_X11_copy_b53 a2 a3 a4 (14 + p) (14 + q) (1 : Int32) σ := by
        unfold f_X11_copy f_X11_copy_b52
        rw [p1, b2_some, q1, b2_some, cs_some, ck_pos (ky14 hp), cs_some, ck_pos (ky14 hq)]
      have m0 : ∀ τ, f_X12_copy (nI p) (nI q) a2 a3 a4 τ = if (hI τ 50 p) = (2 : Int32) then f_X12_copy_b77 τ else if (hI τ 50 q) = (2 : Int32) then f_X12_copy_b77 τ else if (hI τ 50 p) = (1 : Int32) then if (hI τ 50 q) = (1 : Int32) then if (hI τ 51 p) = (hI τ 51 q) then f_X12_copy_b84 (nI p) (nI q) a2 a3 a4 τ else f_X12_copy_b77 τ else f_X12_copy_b84 (nI p) (nI q) a2 a3 a4 τ else f_X12_copy_b84 (nI p) (nI q) a2 a3 a4 τ := by
        intro τ
        unfold f_X12_copy
        rw [p2, b2_some, if_neg (by decide), q2, b2_some, if_neg (by decide), ck_pos (inb_nI (by omega) (by omega)), ck_pos (inb_nI (by omega) (by omega)), nI_clamp (by omega), nI_clamp (by omega)]
      have xb91 : f_X11_copy_b91 σ = some (-2, sI σ 30 1 (hI σ 30 1 + 1)) := by unfold f_X11_copy_b91; rw [x_r2, b2_some]
      have mb77 : ∀ τ, f_X12_copy_b77 τ = some (-2, sI τ 45 2 (hI τ 45 2 + 1)) := fun τ => by unfold f_X12_copy_b77; rw [m_r2, b2_some]
      have e50 : ∀ τ, Fr σ τ → hI τ 50 = hI σ 50 := fun τ hf => hf.2.2.2.1 50 rfl (by decide)
      have e51 : ∀ τ, Fr σ τ → hI τ 51 = hI σ 51 := fun τ hf => hf.2.2.2.1 51 rfl (by decide)
      have e52 : ∀ τ, Fr σ τ → hI τ 52 = hI σ 52 := fun τ hf => hf.2.2.2.1 52 rfl (by decide)
      obtain ⟨kp, ⟨kp1, kp2⟩, kp3⟩ := kdR_of hO1 (hS p hp)
      obtain ⟨kq, ⟨kq1, kq2⟩, kq3⟩ := kdR_of hO1 (hS q hq)
      by_cases cl : kp = 2 ∨ kq = 2
      · refine Or.inl (op_no2 (k := 1) (by omega) (v := -2) ?_ (fun τ hf => ?_))
        · have b53 : ∀ xt, f_X11_copy_b53 a2 a3 a4 (14 + p) (14 + q) xt σ = some (-2, sI σ 30 1 (hI σ 30 1 + 1)) := by
            intro xt
            unfold f_X11_copy_b53
            rw [xb91]
            rcases cl with cl | cl
            · have : ¬ hI σ (14 + p) 3 = -1 := by
                rcases kp2 with c | c | c
                · omega
                · omega
                · exact c.2.2
              rw [if_neg this]
            · have : ¬ hI σ (14 + q) 3 = -1 := by
                rcases kq2 with c | c | c
                · omega
                · omega
                · exact c.2.2
              rw [if_neg this, ite_self]
          rw [x0, b53, b53, ite_self, ite_self]
        · rw [m0, mb77, e50 τ hf]
          rcases cl with cl | cl
          · rw [if_pos (by rw [kp1, cl]; rfl)]
          · rw [if_pos (show hI σ 50 q = 2 by rw [kq1, cl]; rfl), ite_self]
      · have cp2 : ¬ kp = 2 := fun c => cl (Or.inl c)
        have cq2 : ¬ kq = 2 := fun c => cl (Or.inr c)
        have p3 : hI σ (14 + p) 3 = -1 := by
          rcases kp2 with c | c | c
          · exact c.2.2
          · exact c.2.2
          · exact absurd c.1 cp2
        have q3 : hI σ (14 + q) 3 = -1 := by
          rcases kq2 with c | c | c
          · exact c.2.2
          · exact c.2.2
          · exact absurd c.1 cq2
        have n2p : ¬ hI σ 50 p = 2 := by rw [kp1, show (2 : Int32) = nI 2 from rfl, nI_eq (by omega) (by omega)]; exact cp2
        have n2q : ¬ hI σ 50 q = 2 := by rw [kq1, show (2 : Int32) = nI 2 from rfl, nI_eq (by omega) (by omega)]; exact cq2
        by_cases c0 : kp = 0 ∨ kq = 0
        · refine Or.inl (op_no2 (k := 2) (by omega) (v := -3) ?_ (fun τ hf => ?_))
          · have b53 : f_X11_copy_b53 a2 a3 a4 (14 + p) (14 + q) 0 σ = some (-3, sI σ 30 2 (hI σ 30 2 + 1)) := by
              unfold f_X11_copy_b53 f_X11_copy_b98
              rw [if_pos p3, if_pos q3, if_pos rfl, if_pos rfl, x_r3, b2_some]
            rw [x0, b53]
            rcases c0 with c | c
            · have : hI σ (14 + p) 1 = -1 := by
                rcases kp2 with d | d | d
                · exact d.2.1
                · omega
                · omega
              rw [if_pos this]
            · have : hI σ (14 + q) 1 = -1 := by
                rcases kq2 with d | d | d
                · exact d.2.1
                · omega
                · omega
              rw [if_pos this, ite_self]
          · have b84 : f_X12_copy_b84 (nI p) (nI q) a2 a3 a4 τ = some (-3, sI τ 45 3 (hI τ 45 3 + 1)) := by
              unfold f_X12_copy_b84 f_X12_copy_b102
              rw [ck_pos (inb_nI (by omega) (by omega)), ck_pos (inb_nI (by omega) (by omega)), nI_clamp (by omega), nI_clamp (by omega), e50 τ hf, m_r3, b2_some]
              rcases c0 with c | c
              · rw [if_pos (show hI σ 50 p = 0 by rw [kp1, c]; rfl)]
              · rw [if_pos (show hI σ 50 q = 0 by rw [kq1, c]; rfl), ite_self]
            rw [m0, b84, e50 τ hf, if_neg n2p, if_neg n2q]
            rcases c0 with c | c
            · rw [if_neg (show ¬ hI σ 50 p = 1 by rw [kp1, c]; decide)]
            · rw [if_neg (show ¬ hI σ 50 q = 1 by rw [kq1, c]; decide), ite_self]
        · have kp1' : kp = 1 := by
            rcases kp2 with d | d | d <;> omega
          have kq1' : kq = 1 := by
            rcases kq2 with d | d | d <;> omega
          obtain ⟨t, lp, rp⟩ := kp3 kp1'
          obtain ⟨u, lq, rq⟩ := kq3 kq1'
          obtain ⟨g1, g2, g3, g4, g5, g6, g7, g8, g9⟩ := id rp
          obtain ⟨d1, d2, d3, d4, d5, d6, d7, d8, d9⟩ := id rq
          have n1p : ¬ hI σ (14 + p) 1 = -1 := by rw [g6]; have := oI_m1 (q := t) (by omega); exact this
          have n1q : ¬ hI σ (14 + q) 1 = -1 := by rw [d6]; have := oI_m1 (q := u) (by omega); exact this
          have n0p : ¬ hI σ 50 p = 0 := by rw [g3]; decide
          have n0q : ¬ hI σ 50 q = 0 := by rw [d3]; decide
          by_cases ct : t = u
          · subst ct
            have x1 : f_X11_copy (nI p) (nI q) a2 a3 a4 σ = f_X11_copy_b98 a2 a3 a4 (14 + p) (14 + q) 1 σ := by
              rw [x0, if_neg n1p, if_neg n1q]
              unfold f_X11_copy_b53
              rw [if_pos p3, if_pos q3, if_neg (show ¬ (1 : Int32) = 0 by decide), g6, d6, if_pos rfl]
            have m1 : ∀ τ, hI τ 50 = hI σ 50 → hI τ 51 = hI σ 51 → f_X12_copy (nI p) (nI q) a2 a3 a4 τ = f_X12_copy_b84 (nI p) (nI q) a2 a3 a4 τ := by
              intro τ h50 h51
              rw [m0, h50, h51, if_neg n2p, if_neg n2q, if_pos g3, if_pos d3, g4, d4, if_pos rfl]
            rcases int_cs a4 with c4 | ⟨n, hn, rfl⟩
            · refine Or.inl (op_no2 (k := 3) (by omega) (v := -4) ?_ (fun τ hf => ?_))
              · rw [x1]
                unfold f_X11_copy_b98
                rw [if_neg (show ¬ (1 : Int32) = 0 by decide), if_neg (Int32.not_le.mpr c4), x_r4, b2_some]
              · rw [m1 τ (e50 τ hf) (e51 τ hf)]
                unfold f_X12_copy_b84
                rw [ck_pos (inb_nI (by omega) (by omega)), ck_pos (inb_nI (by omega) (by omega)), nI_clamp (by omega), nI_clamp (by omega), e50 τ hf, if_neg n0p, if_neg n0q, if_neg (Int32.not_le.mpr c4), m_r4, b2_some]
            · have x2 : f_X11_copy (nI p) (nI q) a2 a3 (nI n) σ = b2 (f_X5_has (14 + p) a2 (nI n) σ) (fun r_23 s_24 => if r_23 = 0 then f_X11_copy_b145 s_24 else b2 (f_X5_has (14 + q) a3 (nI n) s_24) (fun r_30 s_31 => if r_30 = 0 then f_X11_copy_b145 s_31 else ck (okCopy a2 a3 (nI n) 160 160 = true) (some ((1 : Int32), (rowJ s_31 (14 + q + 8) (va_cpy (hJ s_31 (14 + p + 8)) (hJ s_31 (14 + q + 8)) a2.toNatClampNeg a3.toNatClampNeg (nI n).toNatClampNeg)))))) := by
                rw [x1]
                unfold f_X11_copy_b98
                rw [if_neg (show ¬ (1 : Int32) = 0 by decide), if_pos (Int32.not_lt.mp (nI_0le hn))]
              have m2 : ∀ τ, hI τ 50 = hI σ 50 → hI τ 51 = hI σ 51 → hI τ 52 = hI σ 52 → f_X12_copy (nI p) (nI q) a2 a3 (nI n) τ = if a2 < 0 then f_X12_copy_b157 τ else if a3 < 0 then f_X12_copy_b157 τ else if (nI lp - nI n) < a2 then f_X12_copy_b157 τ else if a3 ≤ (nI lq - nI n) then iter (f_X12_copy_s167 (nI p) (nI q) a2 a3 (nI n)) fuel ((0 : Int32), τ) else f_X12_copy_b157 τ := by
                intro τ h50 h51 h52
                rw [m1 τ h50 h51]
                unfold f_X12_copy_b84
                rw [ck_pos (inb_nI (by omega) (by omega)), ck_pos (inb_nI (by omega) (by omega)), nI_clamp (by omega), nI_clamp (by omega), h50, if_neg n0p, if_neg n0q, if_pos (Int32.not_lt.mp (nI_0le hn)), h52, g5, d5]
              have m157 : ∀ τ, f_X12_copy_b157 τ = some (-5, sI τ 45 5 (hI τ 45 5 + 1)) := fun τ => by unfold f_X12_copy_b157; rw [m_r5, b2_some]
              have x145 : f_X11_copy_b145 σ = some (-5, sI σ 30 4 (hI σ 30 4 + 1)) := by unfold f_X11_copy_b145; rw [x_r5, b2_some]
              have hneg : ∀ k v, v < 0 → f_X5_has k v (nI n) σ = some (0, σ) := fun k v hv => by unfold f_X5_has; rw [if_pos hv]
              have hpos : ∀ k v len, v < 2 ^ 31 → len ≤ 160 → hI σ k 2 = nI len → f_X5_has k (nI v) (nI n) σ = some (if v + n ≤ len then 1 else 0, σ) := by
                intro k v len hv hl e
                unfold f_X5_has
                rw [if_neg (nI_0le hv), e]
                by_cases c1 : len < n
                · rw [if_pos ((nI_ltI (by omega) hn).mpr c1), if_neg (by omega)]
                · rw [if_neg (fun h => c1 ((nI_ltI (by omega) hn).mp h))]
                  by_cases c2 : v + n ≤ len
                  · rw [if_neg (fun h => by have := (sub_lt hl hn hv).mp h; omega), if_pos c2]
                  · rw [if_pos ((sub_lt hl hn hv).mpr (by omega)), if_neg c2]
              have h5 : (f_X5_has (14 + p) a2 (nI n) σ = some (0, σ) ∨ f_X5_has (14 + q) a3 (nI n) σ = some (0, σ) ∧ ∃ r, f_X5_has (14 + p) a2 (nI n) σ = some (r, σ)) → (a2 < 0 ∨ a3 < 0 ∨ (nI lp - nI n) < a2 ∨ ¬ a3 ≤ (nI lq - nI n)) → opG (f_X11_copy (nI p) (nI q) a2 a3 (nI n)) (f_X12_copy (nI p) (nI q) a2 a3 (nI n)) σ A := by
                intro hx hm
                refine op_no2 (k := 4) (by omega) (v := -5) ?_ (fun τ hf => ?_)
                · rw [x2]
                  rcases hx with hx | ⟨hx, r, hr⟩
                  · rw [hx, b2_some, if_pos rfl, x145]
                  · rw [hr, b2_some, hx, b2_some, if_pos rfl, x145, ite_self]
                · rw [m2 τ (e50 τ hf) (e51 τ hf) (e52 τ hf), m157]
                  rcases hm with h | h | h | h
                  · rw [if_pos h]
                  · rw [if_pos h, ite_self]
                  · rw [if_pos h, ite_self, ite_self]
                  · rw [if_neg h, ite_self, ite_self, ite_self]
              rcases int_cs a2 with c2 | ⟨a, ha, rfl⟩
              · exact Or.inl (h5 (Or.inl (hneg _ _ c2)) (Or.inl c2))
              · have hhp := hpos (14 + p) a lp ha g2 g7
                rcases int_cs a3 with c3 | ⟨b, hb, rfl⟩
                · exact Or.inl (h5 (Or.inr ⟨hneg _ _ c3, _, hhp⟩) (Or.inr (Or.inl c3)))
                · have hhq := hpos (14 + q) b lq hb d2 d7
                  by_cases cp : a + n ≤ lp
                  · by_cases cq : b + n ≤ lq
                    · rw [if_pos cp] at hhp
                      rw [if_pos cq] at hhq
                      obtain ⟨σ1, hσ1⟩ : ∃ σ1, σ1 = rowJ σ (22 + q) (va_cpy (hJ σ (22 + p)) (hJ σ (22 + q)) a b n) := ⟨_, rfl⟩
                      have eI : hI σ1 = hI σ := by rw [hσ1]; rfl
                      obtain ⟨F1, u1, u2, u3⟩ := m_cp1 (p := p) (q := q) (a := a) (b := b) (n := n) hp (by omega) n 0 fuel σ1 (by omega) (by unfold fuel; omega)
                      obtain ⟨F2, w1, w2, w3⟩ := m_cp2 (q := q) (b := b) (n := n) hq (by omega) n 0 fuel (rowJ σ1 55 F1) (by omega) (by unfold fuel; omega)
                      have j54 : hJ σ1 54 = hJ σ 54 := by rw [hσ1, hJ_rowJ_n _ _ (by omega)]
                      refine Or.inr ⟨1, σ1, rowJ (rowJ σ1 55 F1) 54 F2, ?_, ?_, ?_, fun v hv8 => ?_⟩
                      · have ho : okCopy (nI a) (nI b) (nI n) 160 160 = true := by
                          unfold okCopy
                          rw [decide_eq_true_iff, nI_clamp ha, nI_clamp hb, nI_clamp hn]
                          exact ⟨nI_0le ha, nI_0le hb, nI_0le hn, by omega, by omega⟩
                        rw [x2, hhp, b2_some, if_neg (by decide), hhq, b2_some, if_neg (by decide), ck_pos ho, nI_clamp ha, nI_clamp hb, nI_clamp hn, show 14 + q + 8 = 22 + q by omega, show 14 + p + 8 = 22 + p by omega, hσ1]
                      · rw [m2 σ1 (by rw [eI]) (by rw [eI]) (by rw [eI]), if_neg (nI_0le ha), if_neg (nI_0le hb), if_neg (fun h => by have := (sub_lt g2 hn ha).mp h; omega), if_pos (Int32.not_lt.mp (fun h => by have := (sub_lt d2 hn hb).mp h; omega))]
                        exact u1.trans w1
                      · rw [hσ1]
                        exact FsH_J (FsH_J (FsH_J (FsH_refl σ) (Or.inr (by omega)) _) (Or.inl (by omega)) _) (Or.inl (by omega)) _
                      · have eJ : ∀ i, ¬ i = 54 → ¬ i = 55 → ¬ i = 22 + q → hJ (rowJ (rowJ σ1 55 F1) 54 F2) i = hJ σ i := fun i h1 h2 h3 => by rw [hJ_rowJ_n _ _ h1, hJ_rowJ_n _ _ h2, hσ1, hJ_rowJ_n _ _ h3]
                        have eI2 : hI (rowJ (rowJ σ1 55 F1) 54 F2) = hI σ := by rw [hI_rowJ, hI_rowJ, eI]
                        have e55 : hJ (rowJ σ1 55 F1) 54 = hJ σ 54 := by rw [hJ_rowJ_n _ _ (by decide), j54]
                        by_cases e : v = q
                        · subst e
                          refine Or.inr (Or.inl ⟨t, lq, d1, d2, by rw [eI2]; exact d3, by rw [eI2]; exact d4, by rw [eI2]; exact d5, by rw [eI2]; exact d6, by rw [eI2]; exact d7, by rw [eI2]; exact d8, fun i hi => ?_⟩)
                          rw [hJ_rowJ_n _ _ (by omega), hJ_rowJ_n _ _ (by omega), hJ_rowJ_k, hσ1, hJ_rowJ_k]
                          by_cases c : b ≤ i ∧ i < b + n
                          · have z := w3 (i - b) (by omega) (by omega)
                            rw [show 160 * v + b + (i - b) = 160 * v + i by omega, hJ_rowJ_k, u3 (i - b) (by omega) (by omega), j54, show 160 * p + a + (i - b) = 160 * p + (a + (i - b)) by omega] at z
                            rw [pk_cpy_in c.1 c.2, z]
                            exact g9 _ (by omega)
                          · rw [pk_cpy_out (by omega), w2 _ (by omega), e55]
                            exact d9 i hi
                        · refine ShR_pt (by rw [eI2]) (by rw [eI2]) (by rw [eI2]) (by rw [eI2]) (by rw [eI2]) (eJ _ (by omega) (by omega) (by omega)) (fun i hi => ?_) (hS v hv8)
                          rw [hJ_rowJ_k, w2 _ (by omega), e55]
                    · rw [if_neg cq] at hhq
                      refine Or.inl (h5 (Or.inr ⟨hhq, _, hhp⟩) (Or.inr (Or.inr (Or.inr (fun h => ?_)))))
                      exact absurd ((sub_lt d2 hn hb).mpr (by omega)) (Int32.not_lt.mpr h)
                  · rw [if_neg cp] at hhp
                    exact Or.inl (h5 (Or.inl hhp) (Or.inr (Or.inr (Or.inl ((sub_lt g2 hn ha).mpr (by omega))))))
          · have cne : ¬ nI t = nI u := fun h => ct ((nI_eq (by omega) (by omega)).mp h)
            refine Or.inl (op_no2 (k := 1) (by omega) (v := -2) ?_ (fun τ hf => ?_))
            · rw [x0, if_neg n1p, if_neg n1q]
              unfold f_X11_copy_b53
              rw [if_pos p3, if_pos q3, if_neg (show ¬ (1 : Int32) = 0 by decide), g6, d6, if_neg cne, xb91]
            · rw [m0, e50 τ hf, e51 τ hf, if_neg n2p, if_neg n2q, if_pos g3, if_pos d3, g4, d4, if_neg cne, mb77]
    · refine Or.inl (op_no2 (k := 0) (by omega) (v := -1) ?_ (fun τ hf => ?_))
      · unfold f_X11_copy f_X11_copy_b24
        rw [p1, b2_some, q1, b2_some, cs_some, ck_pos (ky14 hp), cs_none, x_r1, b2_some]
      · unfold f_X12_copy f_X12_copy_b16
        rw [p2, b2_some, if_neg (by decide), q2, b2_some, if_pos rfl, m_r1, b2_some]
  · refine Or.inl (op_no2 (k := 0) (by omega) (v := -1) ?_ (fun τ hf => ?_))
    · have hq : ∃ o, f_X11_shelfAt a1 σ = some (o, σ) := by
        rcases sh_cs a1 with ⟨q, hq, rfl, q1, q2⟩ | ⟨q1, q2⟩
        · exact ⟨_, q1 σ⟩
        · exact ⟨_, q1 σ⟩
      obtain ⟨o, ho⟩ := hq
      unfold f_X11_copy f_X11_copy_b24
      rw [p1, b2_some, ho, b2_some, cs_none, x_r1, b2_some]
    · unfold f_X12_copy f_X12_copy_b16
      rw [p2, b2_some, if_pos rfl, m_r1, b2_some]
