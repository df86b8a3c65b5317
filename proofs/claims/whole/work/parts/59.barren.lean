/-! small numbers that come of none: the class in bits, the reference in an array -/
theorem shlb {r : Nat} (h : r < 64) : ((1 : Int64) <<< (lN r &&& 63)).toBitVec = 1#64 <<< r := by
  have : ∀ r, r < 64 → ((1 : Int64) <<< (lN r &&& 63)).toBitVec = 1#64 <<< r := by decide +kernel
  exact this r h
theorem onb {r s : Nat} (hr : r < 64) (hs : s < 64) : (1#64 <<< r).getLsbD s = decide (s = r) := by
  have : ∀ r, r < 64 → ∀ s, s < 64 → (1#64 <<< r).getLsbD s = decide (s = r) := by decide +kernel
  exact this r hr s hs
def bitJ (m : Int64) (r : Nat) : Bool := m.toBitVec.getLsbD r
theorem bitJ_or {m : Int64} {r s : Nat} (hr : r < 64) (hs : s < 64) : bitJ (m ||| ((1 : Int64) <<< (lN r &&& 63))) s = (bitJ m s || decide (s = r)) := by
  unfold bitJ
  rw [Int64.toBitVec_or, BitVec.getLsbD_or, shlb hr, onb hr hs]
theorem bitJ_is {m : Int64} {r : Nat} (hr : r < 64) : lg_cmp ((m.toUInt64 >>> ((nI r).toInt64.toUInt64 &&& Int64.toUInt64 63)).toInt64 &&& (1 : Int64)) (1 : Int64) = 0 ↔ bitJ m r = true := by
  have e : ∀ r, r < 64 → (((nI r).toInt64.toUInt64 &&& Int64.toUInt64 63).toBitVec % 64).toNat = r := by decide +kernel
  rw [lc_E, ← Int64.toBitVec_inj, Int64.toBitVec_and]
  have e2 : (m.toUInt64 >>> ((nI r).toInt64.toUInt64 &&& Int64.toUInt64 63)).toInt64.toBitVec = m.toBitVec >>> r := by
    conv => rhs; rw [← e r hr]
    exact UInt64.toBitVec_shiftRight _ _
  rw [e2, show (1 : Int64).toBitVec = 1#64 from rfl]
  unfold bitJ
  have e3 : m.toBitVec.getLsbD r = (m.toBitVec >>> r).getLsbD 0 := by rw [BitVec.getLsbD_ushiftRight, Nat.add_zero]
  rw [e3]
  have e4 : (m.toBitVec >>> r).getLsbD 0 = decide ((m.toBitVec >>> r).toNat % 2 = 1) := Nat.testBit_zero _
  rw [e4, decide_eq_true_iff]
  constructor
  · intro h
    have h2 := congrArg BitVec.toNat h
    rw [BitVec.toNat_and, show (1#64).toNat = 1 from rfl, Nat.and_one_is_mod] at h2
    exact h2
  · intro h
    apply BitVec.eq_of_toNat_eq
    rw [BitVec.toNat_and, show (1#64).toNat = 1 from rfl, Nat.and_one_is_mod]
    exact h
def hitP (f : Nat → Option Nat) (i y : Nat) : Prop := ∃ x, x < i ∧ f x = some y
def hitB (f : Nat → Option Nat) (y : Nat) : Bool := (List.range 10000).any (fun x => decide (f x = some y))
theorem hitB_iff {f : Nat → Option Nat} {y : Nat} : hitB f y = true ↔ hitP f 10000 y := by
  unfold hitB hitP
  rw [List.any_eq_true]
  constructor
  · rintro ⟨i, h1, h2⟩
    exact ⟨i, List.mem_range.mp h1, of_decide_eq_true h2⟩
  · rintro ⟨i, h1, h2⟩
    exact ⟨i, List.mem_range.mpr h1, decide_eq_true h2⟩
theorem hitP_s {f : Nat → Option Nat} {i y : Nat} : hitP f (i + 1) y ↔ hitP f i y ∨ f i = some y := by
  unfold hitP
  constructor
  · rintro ⟨x, h1, h2⟩
    by_cases e : x = i
    · subst e; exact Or.inr h2
    · exact Or.inl ⟨x, by omega, h2⟩
  · rintro (⟨x, h1, h2⟩ | h)
    · exact ⟨x, by omega, h2⟩
    · exact ⟨i, by omega, h⟩
def brG (f : Nat → Bool) (f0 i : Nat) (c : Int32) : Int32 ⊕ Unit := if f (f0 + i) = true then .inl c else .inl (c + 1)
def brS (f : Nat → Bool) (f0 n : Nat) : Int32 := lpO (fun s : Int32 => s) (fun _ : Unit => (0 : Int32)) (lpE (brG f f0) n 0 0)
theorem x_fillJ {k0 : Nat} {v : Int64} (hl : ln k0 < 2 ^ 14) : ∀ (k i fu : Nat) (σ : Hp), i + k = ln k0 → k < fu → ∃ R, iter (f_J7_fill_d0a16_s6 k0 v (Int32.ofNat (ln k0))) fu (nI i, σ) = some ((), rowJ σ k0 R) ∧ (∀ q, q < i → R q = hJ σ k0 q) ∧ ∀ q, i ≤ q → q < ln k0 → R q = v
  | k, i, 0, σ, _, hf => by omega
  | 0, i, fu + 1, σ, hi, hf => by
    refine ⟨hJ σ k0, iter_inr ?_, fun _ _ => rfl, fun q h1 h2 => by omega⟩
    unfold f_J7_fill_d0a16_s6 f_J7_fill_d0a16_t6
    simp only
    rw [if_pos (by rw [show Int32.ofNat (ln k0) = nI (ln k0) from rfl, nI_leI (by omega) (by omega)]; omega), rowJ_self]
    rfl
  | k + 1, i, fu + 1, σ, hi, hf => by
    obtain ⟨R, g1, g2, g3⟩ := x_fillJ (v := v) hl k (i + 1) fu (sJ σ k0 i v) (by omega) (by omega)
    refine ⟨R, (iter_inl (a' := (nI (i + 1), sJ σ k0 i v)) ?_).trans (g1.trans ?_), fun q hq => ?_, fun q h1 h2 => ?_⟩
    · unfold f_J7_fill_d0a16_s6 f_J7_fill_d0a16_t6
      simp only
      rw [if_neg (by rw [show Int32.ofNat (ln k0) = nI (ln k0) from rfl, nI_leI (by omega) (by omega)]; omega), ck_pos (inb_nI (by omega) (by omega)), nI_clamp (by omega), nI_1]
    · unfold sJ; rw [rowJ_rowJ]
    · rw [g2 q (by omega)]; unfold sJ; rw [hJ_rowJ_k, up_ne _ _ (by omega)]
    · by_cases e : q = i
      · subst e; rw [g2 q (by omega)]; unfold sJ; rw [hJ_rowJ_k, up_eq]
      · exact g3 q (by omega) h2
theorem x_fill {k0 : Nat} {v : Int64} {σ : Hp} (hl : ln k0 < 2 ^ 14) : ∃ R, f_J7_fill_d0a16 k0 v σ = some ((), rowJ σ k0 R) ∧ ∀ q, q < ln k0 → R q = v := by
  obtain ⟨R, g1, g2, g3⟩ := x_fillJ (v := v) hl (ln k0) 0 fuel σ (by omega) (by unfold fuel; omega)
  exact ⟨R, g1, fun q hq => g3 q (by omega) hq⟩
theorem x_mark {f : Nat → Option Nat} {i : Nat} {τ : Hp} (ho : okO (f i)) (hk : ∀ y, y < 10000 → (bitJ (hJ τ 36 (y / 64)) (y % 64) = true ↔ hitP f i y)) : ∃ R, f_X11_mark (oL (f i)) τ = some ((), rowJ τ 36 R) ∧ ∀ y, y < 10000 → (bitJ (R (y / 64)) (y % 64) = true ↔ hitP f (i + 1) y) := by
  cases e : f i with
  | none =>
    refine ⟨hJ τ 36, ?_, fun y hy => ?_⟩
    · unfold f_X11_mark
      rw [if_pos (by decide), rowJ_self]
    · rw [hk y hy, hitP_s, e]
      exact ⟨Or.inl, fun h => h.resolve_right (fun c => by cases c)⟩
  | some v =>
    have hv := ho v e
    have h0 : ¬ lg_cmp (oL (some v)) 0 < 0 := by rw [oL_s, show (0 : Int64) = lN 0 from rfl, lc_LT (by omega) (by omega)]; omega
    by_cases h1 : 10000 ≤ v
    · refine ⟨hJ τ 36, ?_, fun y hy => ?_⟩
      · unfold f_X11_mark
        rw [if_neg h0, if_pos (by rw [oL_s, show (10000 : Int64) = lN 10000 from rfl, lc_GE (by omega) (by omega)]; exact h1), rowJ_self]
      · rw [hk y hy, hitP_s, e]
        refine ⟨Or.inl, fun h => h.resolve_right (fun c => ?_)⟩
        cases c
        omega
    · refine ⟨va_up (hJ τ 36) (v / 64) (hJ τ 36 (v / 64) ||| ((1 : Int64) <<< (lN (v % 64) &&& 63))), ?_, fun y hy => ?_⟩
      · unfold f_X11_mark
        rw [if_neg h0, if_neg (by rw [oL_s, show (10000 : Int64) = lN 10000 from rfl, lc_GE (by omega) (by omega)]; exact h1), oL_s, show (64 : Int64) = lN 64 from rfl, pk_lDiv (by omega) (by omega) (by omega), if_neg (by rw [show (157 : Int32).toInt64 = lN 157 from rfl, lc_GE (by omega) (by omega)]; omega), lN_i, ck_pos (inb_nI (by omega) (by omega)), nI_clamp (by omega), ← pk_lDiv (by omega) (by omega) (by omega), pk_lRem (by omega) (by omega) (by omega), lN_i, nI_l (by omega)]
        rfl
      · rw [hitP_s, e, ← hk y hy]
        by_cases h2 : y / 64 = v / 64
        · rw [h2, up_eq, bitJ_or (by omega) (by omega), Bool.or_eq_true, decide_eq_true_iff]
          refine or_congr Iff.rfl ⟨fun h => ?_, fun h => by cases h; rfl⟩
          congr 1
          omega
        · rw [up_ne _ _ h2]
          refine ⟨Or.inl, fun h => h.resolve_right (fun c => ?_)⟩
          cases c
          exact h2 rfl
theorem x_isMarked {y : Nat} {τ : Hp} (hy : y < 10000) : f_X11_isMarked (nI y) τ = some (if bitJ (hJ τ 36 (y / 64)) (y % 64) = true then 1 else 0, τ) := by
  unfold f_X11_isMarked
  rw [if_neg (by rw [show (0 : Int32) = nI 0 from rfl, nI_ltI (by omega) (by omega)]; omega), show (64 : Int32) = nI 64 from rfl, pk_div (by omega) (by omega) (by omega), if_neg (by rw [show (157 : Int32) = nI 157 from rfl, nI_leI (by omega) (by omega)]; omega), ck_pos (inb_nI (by omega) (by omega)), nI_clamp (by omega), ← pk_div (by omega) (by omega) (by omega), pk_rem (by omega) (by omega) (by omega)]
  by_cases h : bitJ (hJ τ 36 (y / 64)) (y % 64) = true
  · rw [if_pos ((bitJ_is (by omega)).mpr h), if_pos h]
  · rw [if_neg (fun c => h ((bitJ_is (by omega)).mp c)), if_neg h]
theorem x_barC {f : Nat → Bool} {σ τ : Hp} {f0 t : Nat} (hf : Fs σ τ) (hft : f0 ≤ t) (ht : t < 10000) (hk : ∀ y, y < 10000 → (bitJ (hJ τ 36 (y / 64)) (y % 64) = true ↔ f y = true)) : ∃ bb, iter (f_X11_barren_s91 (nI t)) fuel (0, nI f0, τ) = some bb ∧ anX σ (brS f f0 (t - f0 + 1)) none bb := by
  unfold brS
  refine iter_lp (g := brG f f0) (R := fun i s a => a = (s, nI (f0 + i), τ)) (Q := fun u bb => anX σ u none bb) (n := t - f0 + 1) (o1 := fun s : Int32 => s) (o2 := fun _ : Unit => (0 : Int32)) (fun i s aa hi hR => ?_) (fun s aa hR => ?_) (t - f0 + 1) 0 fuel 0 (0, nI f0, τ) (by omega) (by unfold fuel; omega) (by rw [Nat.add_zero])
  · subst hR
    unfold f_X11_barren_s91 f_X11_barren_t91 f_X11_barren_b109
    simp only
    rw [if_neg (by rw [nI_ltI (by omega) (by omega)]; omega), x_isMarked (by omega), b2_some, nI_1]
    unfold brG
    have e := hk (f0 + i) (by omega)
    by_cases c : f (f0 + i) = true
    · rw [if_pos c, if_pos (e.mpr c), if_neg (by decide)]; exact ⟨_, rfl, rfl⟩
    · rw [if_neg c, if_neg (fun c2 => c (e.mp c2)), if_pos rfl]; exact ⟨_, rfl, rfl⟩
  · subst hR
    refine ⟨(s, τ), ?_, anX_n hf⟩
    unfold f_X11_barren_s91 f_X11_barren_t91
    simp only
    rw [if_pos (by rw [nI_ltI (by omega) (by omega)]; omega)]
    rfl
theorem bitJ_0 (r : Nat) : bitJ 0 r = false := by
  unfold bitJ
  show (0#64).getLsbD r = false
  exact BitVec.getLsbD_zero
theorem x_barren {σ : Hp} {j kd a pl b f0 t : Nat} {w : Nat → Nat} (h : lawX σ j 1 kd a pl b w) (hft : f0 ≤ t) (ht : t < 10000) : ∃ bb, b2 (f_J7_fill_d0a16 36 (0 : Int64) σ) (fun _ s_15 => iter (f_X11_barren_s55 (nI f0) (nI t) j) fuel ((0 : Int32), s_15)) = some bb ∧ anX σ (brS (hitB (nxO kd a b w)) f0 (t - f0 + 1)) none bb := by
  obtain ⟨R0, g1, g2⟩ := x_fill (k0 := 36) (v := 0) (σ := σ) (by decide)
  rw [g1, b2_some]
  refine iter_lp (g := fun _ _ => (.inl () : Unit ⊕ Unit)) (R := fun i (_ : Unit) aa => ∃ τ, Fs σ τ ∧ aa = (nI i, τ) ∧ ∀ y, y < 10000 → (bitJ (hJ τ 36 (y / 64)) (y % 64) = true ↔ hitP (nxO kd a b w) i y)) (Q := fun (u : Unit) bb => anX σ (brS (hitB (nxO kd a b w)) f0 (t - f0 + 1)) none bb) (n := 10000) (o1 := fun s : Unit => s) (o2 := fun s : Unit => s) (fun i s aa hi hR => ?_) (fun s aa hR => ?_) 10000 0 fuel () _ (by omega) (by unfold fuel; omega) ⟨_, Fs_J (Fs_refl σ) rfl R0, rfl, fun y hy => ?_⟩
  · obtain ⟨τ, hf, rfl, hk⟩ := hR
    obtain ⟨R, e1, e2⟩ := x_mark (f := nxO kd a b w) (i := i) okO_nx hk
    have hX := lawX_Fr hf.1 h (by omega)
    have hlw := hX.1
    refine ⟨(nI (i + 1), rowJ τ 36 R), ?_, _, Fs_J hf rfl R, rfl, fun y hy => by rw [hJ_rowJ_k]; exact e2 y hy⟩
    unfold f_X11_barren_s55 f_X11_barren_t55
    simp only
    rw [if_neg (by rw [show (10000 : Int32) = nI 10000 from rfl, nI_leI (by omega) (by omega)]; omega), ck_pos hlw, nI_l (by omega), x_on2 hX (by omega), b2_some, e1, b2_some, nI_1]
  · obtain ⟨τ, hf, rfl, hk⟩ := hR
    obtain ⟨bb, e1, e2⟩ := x_barC (f := hitB (nxO kd a b w)) hf hft ht (fun y hy => (hk y hy).trans hitB_iff.symm)
    refine ⟨bb, ?_, e2⟩
    unfold f_X11_barren_s55 f_X11_barren_t55
    simp only
    rw [if_pos (by decide), e1]
    rfl
  · rw [hJ_rowJ_k, g2 _ (by show y / 64 < 157; omega), bitJ_0]
    exact ⟨fun c => absurd c (by decide), fun ⟨x, hx, _⟩ => by omega⟩
theorem m_barC {f : Nat → Bool} {σ τ : Hp} {f0 t : Nat} (hf : Fs σ τ) (hft : f0 ≤ t) (ht : t < 10000) (hk : ∀ y, y < 10000 → (hI τ 73 y = 0 ↔ ¬ f y = true)) : ∃ bb, iter (f_X12_barren_s122 (nI t)) fuel (0, nI f0, τ) = some bb ∧ anM σ (brS f f0 (t - f0 + 1)) none bb := by
  unfold brS
  refine iter_lp (g := brG f f0) (R := fun i s a => a = (s, nI (f0 + i), τ)) (Q := fun u bb => anM σ u none bb) (n := t - f0 + 1) (o1 := fun s : Int32 => s) (o2 := fun _ : Unit => (0 : Int32)) (fun i s aa hi hR => ?_) (fun s aa hR => ?_) (t - f0 + 1) 0 fuel 0 (0, nI f0, τ) (by omega) (by unfold fuel; omega) (by rw [Nat.add_zero])
  · subst hR
    unfold f_X12_barren_s122 f_X12_barren_t122 f_X12_barren_b141
    simp only
    rw [if_neg (by rw [nI_ltI (by omega) (by omega)]; omega), ck_pos (inb_nI (by omega) (by omega)), nI_clamp (by omega), nI_1]
    unfold brG
    have e := hk (f0 + i) (by omega)
    by_cases c : f (f0 + i) = true
    · rw [if_pos c, if_neg (fun c2 => (e.mp c2) c)]; exact ⟨_, rfl, rfl⟩
    · rw [if_neg c, if_pos (e.mpr c)]; exact ⟨_, rfl, rfl⟩
  · subst hR
    refine ⟨(s, τ), ?_, anM_n hf⟩
    unfold f_X12_barren_s122 f_X12_barren_t122
    simp only
    rw [if_pos (by rw [nI_ltI (by omega) (by omega)]; omega)]
    rfl
theorem m_barren {σ : Hp} {l kd a b f0 t : Nat} {w : Nat → Nat} (h : lawM σ l kd a b w) (hft : f0 ≤ t) (ht : t < 10000) : ∃ bb, iter (f_X12_barren_s40 (nI l) (nI f0) (nI t)) fuel (0, σ) = some bb ∧ anM σ (brS (hitB (nxO kd a b w)) f0 (t - f0 + 1)) none bb := by
  refine iter_lp (g := fun _ _ => (.inl () : Unit ⊕ Unit)) (R := fun i (_ : Unit) aa => ∃ τ, Fs σ τ ∧ aa = (nI i, τ) ∧ ∀ y, y < i → hI τ 73 y = 0) (Q := fun (u : Unit) bb => anM σ (brS (hitB (nxO kd a b w)) f0 (t - f0 + 1)) none bb) (n := 10000) (o1 := fun s : Unit => s) (o2 := fun s : Unit => s) (fun i s aa hi hR => ?_) (fun s aa hR => ?_) 10000 0 fuel () _ (by omega) (by unfold fuel; omega) ⟨σ, Fs_refl σ, rfl, fun y hy => by omega⟩
  · obtain ⟨τ, hf, rfl, hk⟩ := hR
    refine ⟨(nI (i + 1), sI τ 73 i 0), ?_, _, Fs_I hf rfl (by decide) (by decide) _, rfl, fun y hy => ?_⟩
    · unfold f_X12_barren_s40 f_X12_barren_t40
      simp only
      rw [if_neg (by rw [show (10000 : Int32) = nI 10000 from rfl, nI_leI (by omega) (by omega)]; omega), ck_pos (inb_nI (by omega) (by omega)), nI_clamp (by omega), nI_1]
    · rw [hI_rowI_k]
      by_cases e : y = i
      · subst e; rw [up_eq]
      · rw [up_ne _ _ e]; exact hk y (by omega)
  · obtain ⟨τ, hf, rfl, hk⟩ := hR
    have hst : f_X12_barren_s40 (nI l) (nI f0) (nI t) (nI 10000, τ) = ex (iter (f_X12_barren_s65 (nI l) (nI f0) (nI t)) fuel (0, τ)) := by
      unfold f_X12_barren_s40 f_X12_barren_t40
      simp only
      rw [if_pos (by decide)]
    have h2 : ∃ bb, iter (f_X12_barren_s65 (nI l) (nI f0) (nI t)) fuel (0, τ) = some bb ∧ anM σ (brS (hitB (nxO kd a b w)) f0 (t - f0 + 1)) none bb := by
      refine iter_lp (g := fun _ _ => (.inl () : Unit ⊕ Unit)) (R := fun i (_ : Unit) aa => ∃ τ, Fs σ τ ∧ aa = (nI i, τ) ∧ ∀ y, y < 10000 → (hI τ 73 y = 0 ↔ ¬ hitP (nxO kd a b w) i y)) (Q := fun (u : Unit) bb => anM σ (brS (hitB (nxO kd a b w)) f0 (t - f0 + 1)) none bb) (n := 10000) (o1 := fun s : Unit => s) (o2 := fun s : Unit => s) (fun i s aa hi hR => ?_) (fun s aa hR => ?_) 10000 0 fuel () _ (by omega) (by unfold fuel; omega) ⟨τ, hf, rfl, fun y hy => ?_⟩
      · obtain ⟨τ, hf, rfl, hk⟩ := hR
        obtain ⟨F, e1⟩ := m_next2 (lawM_Fr hf.1 h) (show i ≤ 999999999999999 by omega)
        have hst : f_X12_barren_s65 (nI l) (nI f0) (nI t) (nI i, τ) = match nxO kd a b w i with | none => some (.inl (nI (i + 1), rowI τ 67 F)) | some v => if 10000 ≤ v then some (.inl (nI (i + 1), rowI τ 67 F)) else some (.inl (nI (i + 1), sI (rowI τ 67 F) 73 v 1)) := by
          unfold f_X12_barren_s65 f_X12_barren_t65 f_X12_barren_b110
          simp only
          rw [if_neg (by rw [show (10000 : Int32) = nI 10000 from rfl, nI_leI (by omega) (by omega)]; omega), nI_l (by omega), e1, b2_some, nI_1]
          cases e : nxO kd a b w i with
          | none => rw [oL_n, if_pos lc_m1m]
          | some v =>
            have hv : v ≤ 999999999999999 := okO_nx v e
            rw [oL_s, if_neg (lc_m1 hv)]
            show _ = if 10000 ≤ v then _ else _
            by_cases c : 10000 ≤ v
            · rw [if_pos c, if_pos (by rw [show (10000 : Int64) = lN 10000 from rfl, lc_GE (by omega) (by omega)]; exact c)]
            · rw [if_neg c, if_neg (by rw [show (10000 : Int64) = lN 10000 from rfl, lc_GE (by omega) (by omega)]; exact c), lN_i, ck_pos (inb_nI (by omega) (by omega)), nI_clamp (by omega)]
        rw [hst]
        cases e : nxO kd a b w i with
        | none =>
          refine ⟨_, rfl, _, Fs_67 hf F, rfl, fun y hy => ?_⟩
          rw [hI_rowI_n _ _ (by decide), hk y hy, hitP_s, e]
          exact ⟨fun h c => h (c.resolve_right (fun c => by cases c)), fun h c => h (Or.inl c)⟩
        | some v =>
          show goR _ _ (if 10000 ≤ v then _ else _) _
          by_cases c : 10000 ≤ v
          · rw [if_pos c]
            refine ⟨_, rfl, _, Fs_67 hf F, rfl, fun y hy => ?_⟩
            rw [hI_rowI_n _ _ (by decide), hk y hy, hitP_s, e]
            exact ⟨fun h c2 => h (c2.resolve_right (fun c2 => by cases c2; omega)), fun h c => h (Or.inl c)⟩
          · rw [if_neg c]
            refine ⟨_, rfl, _, Fs_I (Fs_67 hf F) rfl (by decide) (by decide) _, rfl, fun y hy => ?_⟩
            rw [hI_rowI_k, hitP_s, e]
            by_cases e2 : y = v
            · subst e2
              rw [up_eq]
              exact ⟨fun c => absurd c (by decide), fun c => absurd (Or.inr rfl) c⟩
            · rw [up_ne _ _ e2, hI_rowI_n _ _ (by decide), hk y hy]
              exact ⟨fun h c2 => h (c2.resolve_right (fun c2 => by cases c2; exact e2 rfl)), fun h c => h (Or.inl c)⟩
      · obtain ⟨τ, hf, rfl, hk⟩ := hR
        obtain ⟨bb, e1, e2⟩ := m_barC (f := hitB (nxO kd a b w)) hf hft ht (fun y hy => (hk y hy).trans (not_congr hitB_iff).symm)
        refine ⟨bb, ?_, e2⟩
        unfold f_X12_barren_s65 f_X12_barren_t65
        simp only
        rw [if_pos (by decide), e1]
        rfl
      · rw [hk y hy]
        exact ⟨fun _ ⟨x, hx, _⟩ => by omega, fun _ => rfl⟩
    obtain ⟨bb, e1, e2⟩ := h2
    exact ⟨bb, by rw [hst, e1]; rfl, e2⟩
