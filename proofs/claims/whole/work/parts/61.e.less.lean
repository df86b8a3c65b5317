/-! lessons -/
theorem nI_all (s : Int32) : s = nI s.toBitVec.toNat := by
  apply Int32.toBitVec_inj.mp
  show s.toBitVec = BitVec.ofNat 32 s.toBitVec.toNat
  rw [BitVec.ofNat_toNat, BitVec.setWidth_eq]
def sdN (s : Int32) : Int32 := s * 1103515245 + 12345
def drV (s : Int32) (n : Nat) : Nat := (sdN s).toBitVec.toNat / 65536 % n
theorem sh16 (s : Int32) : (s.toUInt32 >>> ((16 : Int32).toUInt32 &&& Int32.toUInt32 31)).toInt32 = nI (s.toBitVec.toNat / 65536) := by
  conv => lhs; rw [nI_all s]
  exact pk_ushrN (by have := s.toBitVec.isLt; omega) 16 16 (by decide)
theorem x_draw {σ : Hp} {k n : Nat} {A : AbS} (hn : 0 < n) (hn2 : n ≤ 1000) (h : StX σ k A) : f_X7_draw k (nI n) σ = some (nI (drV (aS A) n), sI σ k 1 (sdN (aS A))) := by
  have hb := (sdN (aS A)).toBitVec.isLt
  unfold f_X7_draw
  rw [if_neg (by rw [show (0 : Int32) = nI 0 from rfl, nI_leI (by omega) (by omega)]; omega), ck_pos (by rw [show (0 : Int32) = nI 0 from rfl, nI_eq (by omega) (by omega)]; omega), h.2.1]
  have e : hI (sI σ k 1 (aS A * 1103515245 + 12345)) k 1 = sdN (aS A) := by unfold sI; rw [hI_rowI_k, up_eq]; rfl
  rw [e, sh16, pk_rem (by omega) hn (by omega)]
  rfl
theorem m_draw {σ : Hp} {n : Nat} {A : AbS} (hn : 0 < n) (hn2 : n ≤ 1000) (h : StM σ A) : f_X12_draw (nI n) σ = some (nI (drV (aS A) n), sI σ 40 3 (sdN (aS A))) := by
  have hb := (sdN (aS A)).toBitVec.isLt
  unfold f_X12_draw
  rw [ck_pos (by rw [show (0 : Int32) = nI 0 from rfl, nI_eq (by omega) (by omega)]; omega), h.2.2.2.1]
  have e : hI (sI σ 40 3 (aS A * 1103515245 + 12345)) 40 3 = sdN (aS A) := by unfold sI; rw [hI_rowI_k, up_eq]; rfl
  rw [e, sh16, pk_rem (by omega) hn (by omega)]
  rfl
theorem drV_lt {s : Int32} {n : Nat} (hn : 0 < n) : drV s n < n := Nat.mod_lt _ hn
/-- goes of a lesson, to a number that reads alike -/
def wkA (l : Nat) : Nat → AbS → AbS × Bool
  | 0, A => (A, false)
  | k + 1, A => if rvN (aB A) (aL A (aM A - 1)) = aL A (aM A - 1) then (A, true) else match goA A l with
    | some B => wkA l k B
    | none => (A, false)
def lsA (A : AbS) : AbS := setS (putA (setS (setM A 0) (sdN (aS A))) (drV (aS A) 1000)) (sdN (sdN (aS A)))
def lsR (A : AbS) : AbS × Bool := wkA (drV (sdN (aS A)) (aN A)) 20 (lsA A)
theorem drV_le {s : Int32} : drV s 1000 ≤ 999999999999999 := by
  have h : drV s 1000 < 1000 := drV_lt (by omega)
  generalize drV s 1000 = d at h
  omega
theorem lsA_m {A : AbS} : aM (lsA A) = 1 := by
  unfold lsA setS putA
  rfl
theorem smL_S (A : AbS) (s : Int32) : smL A (setS A s) := ⟨rfl, rfl, rfl, rfl, rfl⟩
theorem smL_P (A : AbS) (v : Nat) : smL A (putA A v) := ⟨rfl, rfl, rfl, rfl, rfl⟩
theorem smL_M (A : AbS) (m : Nat) : smL A (setM A m) := ⟨rfl, rfl, rfl, rfl, rfl⟩
theorem lsA_s {A : AbS} : smL A (lsA A) := by
  unfold lsA
  exact smL_trans (smL_M A 0) (smL_trans (smL_S _ _) (smL_trans (smL_P _ _) (smL_S _ _)))
theorem okA_ls {A : AbS} {s1 s2 : Int32} {d : Nat} (h : okA A) (hd : d ≤ 999999999999999) : okA (setS (putA (setS (setM A 0) s1) d) s2) := by
  have h1 : okA (setS (setM A 0) s1) := okA_S (okA_M h (by omega))
  have h2 : aM (setS (setM A 0) s1) < 20 := by
    show (0 : Nat) < 20
    omega
  exact okA_S (okA_put h1 h2 hd)
theorem lsA_ok {A : AbS} (h : okA A) : okA (lsA A) ∧ smL A (lsA A) ∧ aM (lsA A) = 1 := ⟨okA_ls h drV_le, lsA_s, lsA_m⟩
