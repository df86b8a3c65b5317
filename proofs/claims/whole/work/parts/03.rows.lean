/-! the rows over this state -/
section TR
variable {p : Program} {l : Launch} {e : Env} {R : Room} {s : State} {m : MethodId} {args : Array Value} {below : List Frame} {meth : Method} {c : Code} {H : Heap} {locs : List Loc} {cells slots : Nat} {Q : State → Prop}
variable {cc : ByteArray} {pc : Nat} {ls : Array Slot} {rest : List Value} {g : tG} {P : Nat → Nat} {σ : Hp} {A : Nat → Prop} {H0 : Heap}
theorem W.stk {v v' : Value} (h : v = v') (k : W p l e R s m args below meth c H locs cells slots Q (F0 m pc ls (v' :: rest))) : W p l e R s m args below meth c H locs cells slots Q (F0 m pc ls (v :: rest)) := by rw [h]; exact k
theorem R_get (hx : p.tables.exec = Jvm.exec) (hb : c.code = cc) {own ref C : String} {T : u_T} {N ci index k : Nat} {Ts : List Cond} {fs : List Value} {v : Value} (hts : ∀ w ∈ Ts, w.before args s = true) (hin : ∀ w ∈ u_ws C T N, w ∈ Ts) (hown : s.vm.findClass own = some m.cls) (hK : tK g s) (hB : tB g P σ A H0 H locs)
    (hk : k ∈ idL) (hcell : cellX g P σ k = .inr (ci, fs)) (hc : vwCl[ci]? = some (C, T, N)) (i : Nat) (hi : i < N) (hlink : (Cond.fieldLink own index ref (T i).2.1 (T i).2.2.1).before args s = true) (hsame : ∀ x, s.fieldFound? (T i).1 (T i).2.1 (T i).2.2.1 = some x → s.fieldFound? ref (T i).2.1 (T i).2.2.1 = some x) (hv : fs[i]? = some v) (hdg : decode cc pc = .ok (.getfield index, 3))
    (kk : W p l e R s m args below meth c H locs cells slots Q (F0 m (pc + 3) ls (v :: rest))) : W p l e R s m args below meth c H locs cells slots Q (F0 m pc ls (.ref (gL g k) :: rest)) := by
  obtain ⟨q0, hq⟩ := wC_get (g := g) (P := P) (σ := σ) hk
  rw [hcell] at hq
  exact va_get hx hb hts hin hown hK.1 hB.1 q0 hq hc i hi hlink hsame hv hdg kk
theorem R_putI (hx : p.tables.exec = Jvm.exec) (hb : c.code = cc) {own ref C : String} {T : u_T} {N ci index k : Nat} {Ts : List Cond} {fs : List Value} {v : Int32} {ty : FieldType} (hts : ∀ w ∈ Ts, w.before args s = true) (hin : ∀ w ∈ u_ws C T N, w ∈ Ts) (ty0 : Nat → FieldType) (hty : ∀ k, k < N → parseFieldDescriptor (T k).2.2.1 = some (ty0 k)) (hnm : ∀ a, a < N → ∀ b, b < N → a ≠ b → (T a).2.1 ≠ (T b).2.1) (hown : s.vm.findClass own = some m.cls) (hK : tK g s) (hB : tB g P σ A H0 H locs)
    (hk : k ∈ idL) (hcell : cellX g P σ k = .inr (ci, fs)) (hc : vwCl[ci]? = some (C, T, N)) (i : Nat) (hi : i < N) (hlink : (Cond.fieldLink own index ref (T i).2.1 (T i).2.2.1).before args s = true) (hsame : ∀ x, s.fieldFound? (T i).1 (T i).2.1 (T i).2.2.1 = some x → s.fieldFound? ref (T i).2.1 (T i).2.2.1 = some x) (hfin : (T i).2.2.2 = false) (hd : parseFieldDescriptor (T i).2.2.1 = some ty) (hn : narrow ty (.int v) = .int v) (hfit : fits ty (.int v) = true) (hl : i < fs.length)
    (hset : cellX g P (sI σ k i v) k = .inr (ci, fs.set i (.int v))) (hdg : decode cc pc = .ok (.putfield index, 3))
    (kk : ∀ (H1 : Heap) (locs1 : List Loc), tB g P (sI σ k i v) A H0 H1 locs1 → W p l e R s m args below meth c H1 locs1 cells slots Q (F0 m (pc + 3) ls rest)) : W p l e R s m args below meth c H locs cells slots Q (F0 m pc ls (.int v :: .ref (gL g k) :: rest)) := by
  obtain ⟨q0, hq⟩ := wC_get (g := g) (P := P) (σ := σ) hk
  rw [hcell] at hq
  refine va_put hx hb hts hin ty0 hty hnm hown hK.1 hB.1 hB.2.1 hB.2.2 q0 hq hc i hi hlink hsame hfin hd hn hfit hl hdg (fun H1 locs1 hP hD hS => kk H1 locs1 ?_)
  rw [wC_setI hk hB.2.1 hq hset] at hP hD
  exact ⟨hP, hD, hS⟩
theorem R_putJ (hx : p.tables.exec = Jvm.exec) (hb : c.code = cc) {own ref C : String} {T : u_T} {N ci index k : Nat} {Ts : List Cond} {fs : List Value} {v : Int64} (hts : ∀ w ∈ Ts, w.before args s = true) (hin : ∀ w ∈ u_ws C T N, w ∈ Ts) (ty0 : Nat → FieldType) (hty : ∀ k, k < N → parseFieldDescriptor (T k).2.2.1 = some (ty0 k)) (hnm : ∀ a, a < N → ∀ b, b < N → a ≠ b → (T a).2.1 ≠ (T b).2.1) (hown : s.vm.findClass own = some m.cls) (hK : tK g s) (hB : tB g P σ A H0 H locs)
    (hk : k ∈ idL) (hcell : cellX g P σ k = .inr (ci, fs)) (hc : vwCl[ci]? = some (C, T, N)) (i : Nat) (hi : i < N) (hlink : (Cond.fieldLink own index ref (T i).2.1 (T i).2.2.1).before args s = true) (hsame : ∀ x, s.fieldFound? (T i).1 (T i).2.1 (T i).2.2.1 = some x → s.fieldFound? ref (T i).2.1 (T i).2.2.1 = some x) (hfin : (T i).2.2.2 = false) (hd : parseFieldDescriptor (T i).2.2.1 = some .long) (hl : i < fs.length)
    (hset : cellX g P (sJ σ k i v) k = .inr (ci, fs.set i (.long v))) (hdg : decode cc pc = .ok (.putfield index, 3))
    (kk : ∀ (H1 : Heap) (locs1 : List Loc), tB g P (sJ σ k i v) A H0 H1 locs1 → W p l e R s m args below meth c H1 locs1 cells slots Q (F0 m (pc + 3) ls rest)) : W p l e R s m args below meth c H locs cells slots Q (F0 m pc ls (.long v :: .ref (gL g k) :: rest)) := by
  obtain ⟨q0, hq⟩ := wC_get (g := g) (P := P) (σ := σ) hk
  rw [hcell] at hq
  refine va_put hx hb hts hin ty0 hty hnm hown hK.1 hB.1 hB.2.1 hB.2.2 q0 hq hc i hi hlink hsame hfin hd (by rfl) (by rfl) hl hdg (fun H1 locs1 hP hD hS => kk H1 locs1 ?_)
  rw [wC_setJ hk hB.2.1 hq hset] at hP hD
  exact ⟨hP, hD, hS⟩
theorem R_putR (hx : p.tables.exec = Jvm.exec) (hb : c.code = cc) {own ref C : String} {T : u_T} {N ci index k : Nat} {Ts : List Cond} {fs : List Value} {v : Option Nat} {nm : String} (hts : ∀ w ∈ Ts, w.before args s = true) (hin : ∀ w ∈ u_ws C T N, w ∈ Ts) (ty0 : Nat → FieldType) (hty : ∀ k, k < N → parseFieldDescriptor (T k).2.2.1 = some (ty0 k)) (hnm : ∀ a, a < N → ∀ b, b < N → a ≠ b → (T a).2.1 ≠ (T b).2.1) (hown : s.vm.findClass own = some m.cls) (hK : tK g s) (hB : tB g P σ A H0 H locs)
    (hk : k ∈ idL) (hcell : cellX g P σ k = .inr (ci, fs)) (hc : vwCl[ci]? = some (C, T, N)) (i : Nat) (hi : i < N) (hlink : (Cond.fieldLink own index ref (T i).2.1 (T i).2.2.1).before args s = true) (hsame : ∀ x, s.fieldFound? (T i).1 (T i).2.1 (T i).2.2.1 = some x → s.fieldFound? ref (T i).2.1 (T i).2.2.1 = some x) (hfin : (T i).2.2.2 = false) (hd : parseFieldDescriptor (T i).2.2.1 = some (.object nm)) (hl : i < fs.length)
    (hset : cellX g P (sR σ k i v) k = .inr (ci, fs.set i (va_rf (v.map (gL g))))) (hdg : decode cc pc = .ok (.putfield index, 3))
    (kk : ∀ (H1 : Heap) (locs1 : List Loc), tB g P (sR σ k i v) A H0 H1 locs1 → W p l e R s m args below meth c H1 locs1 cells slots Q (F0 m (pc + 3) ls rest)) : W p l e R s m args below meth c H locs cells slots Q (F0 m pc ls (va_rf (v.map (gL g)) :: .ref (gL g k) :: rest)) := by
  obtain ⟨q0, hq⟩ := wC_get (g := g) (P := P) (σ := σ) hk
  rw [hcell] at hq
  refine va_put hx hb hts hin ty0 hty hnm hown hK.1 hB.1 hB.2.1 hB.2.2 q0 hq hc i hi hlink hsame hfin hd (by cases v <;> rfl) (by cases v <;> rfl) hl hdg (fun H1 locs1 hP hD hS => kk H1 locs1 ?_)
  rw [wC_setR hk hB.2.1 hq hset] at hP hD
  exact ⟨hP, hD, hS⟩
theorem R_iald (hx : p.tables.exec = Jvm.exec) (hb : c.code = cc) {k : Nat} (hK : tK g s) (hB : tB g P σ A H0 H locs) (hk : ky k = 3) {i : Int32} (hin : vp_in i (ln k)) (hdg : decode cc pc = .ok (.iaload, 1))
    (kk : W p l e R s m args below meth c H locs cells slots Q (F0 m (pc + 1) ls (.int (hI σ k i.toNatClampNeg) :: rest))) : W p l e R s m args below meth c H locs cells slots Q (F0 m pc ls (.int i :: .ref (gL g k) :: rest)) := by
  obtain ⟨q0, hq⟩ := wC_get (g := g) (P := P) (σ := σ) (ky_in k (by rw [hk]; decide))
  rw [cell_3 hk] at hq
  exact va_iald hx hb hK.1 hB.1 q0 0 hq rfl hin hdg kk
theorem R_lald (hx : p.tables.exec = Jvm.exec) (hb : c.code = cc) {k : Nat} (hK : tK g s) (hB : tB g P σ A H0 H locs) (hk : ky k = 4) {i : Int32} (hin : vp_in i (ln k)) (hdg : decode cc pc = .ok (.laload, 1))
    (kk : W p l e R s m args below meth c H locs cells slots Q (F0 m (pc + 1) ls (.long (hJ σ k i.toNatClampNeg) :: rest))) : W p l e R s m args below meth c H locs cells slots Q (F0 m pc ls (.int i :: .ref (gL g k) :: rest)) := by
  obtain ⟨q0, hq⟩ := wC_get (g := g) (P := P) (σ := σ) (ky_in k (by rw [hk]; decide))
  rw [cell_4 hk] at hq
  exact va_lald hx hb hK.1 hB.1 q0 1 hq rfl hin hdg kk
theorem R_aald (hx : p.tables.exec = Jvm.exec) (hb : c.code = cc) {k : Nat} (hK : tK g s) (hB : tB g P σ A H0 H locs) (hk : ky k = 2) {i : Int32} (hin : vp_in i (ln k)) (hdg : decode cc pc = .ok (.aaload, 1))
    (kk : W p l e R s m args below meth c H locs cells slots Q (F0 m (pc + 1) ls (va_rf ((hR σ k i.toNatClampNeg).map P) :: rest))) : W p l e R s m args below meth c H locs cells slots Q (F0 m pc ls (.int i :: .ref (gL g k) :: rest)) := by
  obtain ⟨q0, hq⟩ := wC_get (g := g) (P := P) (σ := σ) (ky_in k (by rw [hk]; decide))
  rw [cell_2 hk] at hq
  exact va_aldq hx hb hK.1 hB.1 q0 2 hq rfl hin hdg kk
theorem R_aaldS (hx : p.tables.exec = Jvm.exec) (hb : c.code = cc) {k : Nat} (hK : tK g s) (hB : tB g P σ A H0 H locs) (hk : ky k = 5) {i : Int32} (hin : vp_in i (ln k)) (hdg : decode cc pc = .ok (.aaload, 1))
    (kk : W p l e R s m args below meth c H locs cells slots Q (F0 m (pc + 1) ls (.ref (gL g (14 + i.toNatClampNeg)) :: rest))) : W p l e R s m args below meth c H locs cells slots Q (F0 m pc ls (.int i :: .ref (gL g k) :: rest)) := by
  obtain ⟨q0, hq⟩ := wC_get (g := g) (P := P) (σ := σ) (ky_in k (by rw [hk]; decide))
  rw [cell_5 hk] at hq
  exact va_aldq hx hb hK.1 hB.1 q0 3 hq rfl hin hdg kk
theorem upd_up (f : Nat → Int32) (i : Nat) (v : Int32) : upd f i v = va_up f i v := by funext j; simp only [upd, va_up]
theorem updL_up (f : Nat → Int64) (i : Nat) (v : Int64) : vp_updL f i v = va_up f i v := by funext j; simp only [vp_updL, va_up]
theorem R_iast (hx : p.tables.exec = Jvm.exec) (hb : c.code = cc) {k : Nat} (hK : tK g s) (hB : tB g P σ A H0 H locs) (hk : ky k = 3) {i x : Int32} (hin : vp_in i (ln k)) (hdg : decode cc pc = .ok (.iastore, 1))
    (kk : ∀ (H1 : Heap) (locs1 : List Loc), tB g P (sI σ k i.toNatClampNeg x) A H0 H1 locs1 → W p l e R s m args below meth c H1 locs1 cells slots Q (F0 m (pc + 1) ls rest)) : W p l e R s m args below meth c H locs cells slots Q (F0 m pc ls (.int x :: .int i :: .ref (gL g k) :: rest)) := by
  have hkk := ky_in k (by rw [hk]; decide)
  obtain ⟨q0, hq⟩ := wC_get (g := g) (P := P) (σ := σ) hkk
  rw [cell_3 hk] at hq
  refine va_iast hx hb hK.1 hB.1 hB.2.1 hB.2.2 q0 0 hq rfl hin hdg (fun H1 locs1 hP hD hS => kk H1 locs1 ?_)
  rw [upd_up, wC_setI (f := va_up (hI σ k) i.toNatClampNeg x) hkk hB.2.1 hq (by rw [cell_3 hk, hI_rowI, if_pos rfl])] at hP hD
  exact ⟨hP, hD, hS⟩
theorem R_last (hx : p.tables.exec = Jvm.exec) (hb : c.code = cc) {k : Nat} (hK : tK g s) (hB : tB g P σ A H0 H locs) (hk : ky k = 4) {i : Int32} {x : Int64} (hin : vp_in i (ln k)) (hdg : decode cc pc = .ok (.lastore, 1))
    (kk : ∀ (H1 : Heap) (locs1 : List Loc), tB g P (sJ σ k i.toNatClampNeg x) A H0 H1 locs1 → W p l e R s m args below meth c H1 locs1 cells slots Q (F0 m (pc + 1) ls rest)) : W p l e R s m args below meth c H locs cells slots Q (F0 m pc ls (.long x :: .int i :: .ref (gL g k) :: rest)) := by
  have hkk := ky_in k (by rw [hk]; decide)
  obtain ⟨q0, hq⟩ := wC_get (g := g) (P := P) (σ := σ) hkk
  rw [cell_4 hk] at hq
  refine va_last hx hb hK.1 hB.1 hB.2.1 hB.2.2 q0 1 hq rfl hin hdg (fun H1 locs1 hP hD hS => kk H1 locs1 ?_)
  rw [updL_up, wC_setJ (f := va_up (hJ σ k) i.toNatClampNeg x) hkk hB.2.1 hq (by rw [cell_4 hk, hJ_rowJ, if_pos rfl])] at hP hD
  exact ⟨hP, hD, hS⟩
theorem R_alenI (hx : p.tables.exec = Jvm.exec) (hb : c.code = cc) {k : Nat} {v : Int32} (hK : tK g s) (hB : tB g P σ A H0 H locs) (hk : ky k = 3) (hv : Int32.ofNat (ln k) = v) (hdg : decode cc pc = .ok (.arraylength, 1))
    (kk : W p l e R s m args below meth c H locs cells slots Q (F0 m (pc + 1) ls (.int v :: rest))) : W p l e R s m args below meth c H locs cells slots Q (F0 m pc ls (.ref (gL g k) :: rest)) := by
  obtain ⟨q0, hq⟩ := wC_get (g := g) (P := P) (σ := σ) (ky_in k (by rw [hk]; decide))
  rw [cell_3 hk] at hq
  exact va_alen hx hb hK.1 hB.1 q0 0 hq rfl hv hdg kk
theorem R_alenJ (hx : p.tables.exec = Jvm.exec) (hb : c.code = cc) {k : Nat} {v : Int32} (hK : tK g s) (hB : tB g P σ A H0 H locs) (hk : ky k = 4) (hv : Int32.ofNat (ln k) = v) (hdg : decode cc pc = .ok (.arraylength, 1))
    (kk : W p l e R s m args below meth c H locs cells slots Q (F0 m (pc + 1) ls (.int v :: rest))) : W p l e R s m args below meth c H locs cells slots Q (F0 m pc ls (.ref (gL g k) :: rest)) := by
  obtain ⟨q0, hq⟩ := wC_get (g := g) (P := P) (σ := σ) (ky_in k (by rw [hk]; decide))
  rw [cell_4 hk] at hq
  exact va_alen hx hb hK.1 hB.1 q0 1 hq rfl hv hdg kk
theorem R_alenR (hx : p.tables.exec = Jvm.exec) (hb : c.code = cc) {k : Nat} {v : Int32} (hK : tK g s) (hB : tB g P σ A H0 H locs) (hk : ky k = 2) (hv : Int32.ofNat (ln k) = v) (hdg : decode cc pc = .ok (.arraylength, 1))
    (kk : W p l e R s m args below meth c H locs cells slots Q (F0 m (pc + 1) ls (.int v :: rest))) : W p l e R s m args below meth c H locs cells slots Q (F0 m pc ls (.ref (gL g k) :: rest)) := by
  obtain ⟨q0, hq⟩ := wC_get (g := g) (P := P) (σ := σ) (ky_in k (by rw [hk]; decide))
  rw [cell_2 hk] at hq
  exact va_alen hx hb hK.1 hB.1 q0 2 hq rfl hv hdg kk
theorem R_alenS (hx : p.tables.exec = Jvm.exec) (hb : c.code = cc) {k : Nat} {v : Int32} (hK : tK g s) (hB : tB g P σ A H0 H locs) (hk : ky k = 5) (hv : Int32.ofNat (ln k) = v) (hdg : decode cc pc = .ok (.arraylength, 1))
    (kk : W p l e R s m args below meth c H locs cells slots Q (F0 m (pc + 1) ls (.int v :: rest))) : W p l e R s m args below meth c H locs cells slots Q (F0 m pc ls (.ref (gL g k) :: rest)) := by
  obtain ⟨q0, hq⟩ := wC_get (g := g) (P := P) (σ := σ) (ky_in k (by rw [hk]; decide))
  rw [cell_5 hk] at hq
  exact va_alen hx hb hK.1 hB.1 q0 3 hq rfl hv hdg kk
/-- a call is back: any answer -/
theorem t_call {v : Option Value} {B : State → Prop} {A1 : Nat → Prop} {a : Array Value} {st0 st1 : List Value} {mc ms : Nat} {free : Addr → Prop} (hr : va_Run p l e R s m args below meth c H locs cells slots mc ms (F0 m pc ls st0) rest (tQ v B A1 a) free) (hS : va_S A H0 H locs) (hA : ∀ q, q < H.size → A1 q → A q) (hf : ∀ q, free q → A q) (hst : v.toList ++ rest = st1)
    (kk : ∀ (t : State) (H1 : Heap) (locs1 : List Loc), t.heap = H1 → B t → H.size ≤ H1.size → va_S A H0 H1 locs1 → W p l e R s m args below meth c H1 locs1 (cells + mc) (slots + ms) Q (F0 m (pc + 3) ls st1)) : W p l e R s m args below meth c H locs cells slots Q (F0 m pc ls st0) := by
  intro T hT X
  subst hst
  obtain ⟨v', st₀, t, T', L, h0, X', hL, e1, e2, ⟨hv, hb, hz, hk⟩, st⟩ := hr T hT X
  cases hv
  rw [h0] at hz hk
  obtain ⟨t2, a1, b1⟩ := kk t T'.heap (locs ++ L) e1.symm hb (by rw [e1]; exact hz)
    ⟨Nat.le_trans hS.1 (by rw [e1]; exact hz), fun q h1 h2 => by rw [e1, hk q (Nat.lt_of_lt_of_le h1 hS.1) (fun z => h2 (hA q (Nat.lt_of_lt_of_le h1 hS.1) z))]; exact hS.2.1 q h1 h2, fun q hq => by
      rcases List.mem_append.mp hq with h | h
      · exact hS.2.2 q h
      · exact hf _ (hL q h)⟩ T' rfl X'
  exact ⟨t2, st t2 a1, b1⟩
theorem R_call {v : Option Value} {τ : Hp} {a : Array Value} {st0 : List Value} (st1 : List Value) (hr : va_Run p l e R s m args below meth c H locs cells slots 0 0 (F0 m pc ls st0) rest (tQ v (tPost g P τ (va_A (wC g P σ) H.size)) (va_A (wC g P σ) H.size) a) (va_A (wC g P σ) H.size)) (hB : tB g P σ A H0 H locs) (hA : ∀ q, H0.size ≤ q → A q) (hst : v.toList ++ rest = st1)
    (kk : ∀ (H1 : Heap) (locs1 : List Loc), tB g P τ A H0 H1 locs1 → W p l e R s m args below meth c H1 locs1 cells slots Q (F0 m (pc + 3) ls st1)) : W p l e R s m args below meth c H locs cells slots Q (F0 m pc ls st0) := by
  have hF := tB_free hB hA
  refine t_call hr hB.2.2 (fun q _ h => hF q h) hF hst (fun t H1 locs1 ht hb hz hS => ?_)
  obtain ⟨hP1, hD1⟩ := hb
  rw [ht] at hP1
  exact kk H1 locs1 ⟨hP1, hD1.weaken (fun k q _ h => hF q.1 h), hS⟩
/-- a call that may make laws: the pool's addresses are new -/
theorem R_callN {v : Option Value} {τ : Hp} {a : Array Value} {st0 : List Value} {mc ms : Nat} (st1 : List Value) (hr : va_Run p l e R s m args below meth c H locs cells slots mc ms (F0 m pc ls st0) rest (tQ v (fun t => ∃ P1, tPost g P1 τ (va_A (wC g P σ) H.size) t) (va_A (wC g P σ) H.size) a) (va_A (wC g P σ) H.size)) (hB : tB g P σ A H0 H locs) (hA : ∀ q, H0.size ≤ q → A q) (hst : v.toList ++ rest = st1)
    (kk : ∀ (P1 : Nat → Nat) (H1 : Heap) (locs1 : List Loc), tB g P1 τ A H0 H1 locs1 → W p l e R s m args below meth c H1 locs1 (cells + mc) (slots + ms) Q (F0 m (pc + 3) ls st1)) : W p l e R s m args below meth c H locs cells slots Q (F0 m pc ls st0) := by
  have hF := tB_free hB hA
  refine t_call hr hB.2.2 (fun q _ h => hF q h) hF hst (fun t H1 locs1 ht hb hz hS => ?_)
  obtain ⟨P1, hP1, hD1⟩ := hb
  rw [ht] at hP1
  exact kk P1 H1 locs1 ⟨hP1, hD1.weaken (fun k q _ h => hF q.1 h), hS⟩
theorem R_recv (hK : tK g s) (hB : tB g P σ A H0 H locs) {k ci : Nat} {fs : List Value} {r : vw_C} (hk : k ∈ idL) (hcell : cellX g P σ k = .inr (ci, fs)) (hc : vwCl[ci]? = some r) : ∃ cell : Cell, H[gL g k]? = some cell ∧ cell.vm.isStatics = false ∧ s.vm.findClass r.1 = some cell.cls := by
  obtain ⟨q0, hq⟩ := wC_get (g := g) (P := P) (σ := σ) hk
  rw [hcell] at hq
  exact va_recv hK.1 hB.1 hc hq
theorem R_recvP (hK : tK g s) (hB : tB g P σ A H0 H locs) {j : Nat} {r : vw_C} (hj : j < hN σ) (hc : vwCl[hC σ j]? = some r) : ∃ cell : Cell, H[P j]? = some cell ∧ cell.vm.isStatics = false ∧ s.vm.findClass r.1 = some cell.cls := by
  obtain ⟨q0, hq⟩ := wC_getP (g := g) (P := P) (σ := σ) hj
  exact va_recv hK.1 hB.1 hc hq
theorem R_runS {own : String} {index nL maxL n mc ms : Nat} {y : MethodName} {bytes : ByteArray} {ret : Option FieldType} {Ts : List Cond} {rm : Room} {As st0 : List Value} {B : State → Prop} {v : Option Value} {A1 : Nat → Prop} {free : Addr → Prop} (S : CallFix p m c cc nL s args Ts own) (hG : ∀ w ∈ tblG, w ∈ Ts)
    (hK : tK g s) (hZ : tZ g A s s.heap) (hA : ∀ q, s.heap.size ≤ q → A q) (hB : tB g P σ A s.heap H locs)
    (hM : Met l y (Cond.code y bytes maxL ret :: tblG) rm (va_Pc As (tPre g P σ H.size)) (tQ v B A1) mc ms free) (hw : Cond.code y bytes maxL ret ∈ tblG) (hl : Cond.methodLink own index y ∈ tblG) (hs : Cond.static y ∈ tblG) (hi : Cond.initialized y.cls ∈ tblG)
    (hd : y.cls ≠ "java/lang/invoke/MethodHandle" ∧ y.cls ≠ "java/lang/invoke/VarHandle" ∧ (parseMethodDescriptor y.desc).map (fun d => d.parameters.length) = some n) (hrc : rm.cells = mc) (hrs : rm.slots = ms) (hR : rm.frames + 1 ≤ R.frames ∧ 8 + (maxL + 11) + rm.locals ≤ R.locals)
    (hn : As.length = n) (hsize : ls.size = nL) (hst : st0 = As.reverse ++ rest) (hW : (rest.map fun v => v.category).sum ≤ 8) (hdg : decode cc pc = .ok (.invokestatic index, 3)) (hf : cells + mc ≤ R.cells ∧ slots + ms ≤ R.slots) :
    va_Run p l e R s m args below meth c H locs cells slots mc ms (F0 m pc ls st0) rest (tQ v B A1 As.toArray) free := by
  have ok : ∀ w ∈ tblG, w.before args s = true := fun w h => S.2.2.2.2 w (hG w h)
  exact va_runS S hM ⟨callB_of n S.2.2.2.2 (tblG_good hG hw) rfl hrc hrs (ok _ hi) (ok _ hl) hd hR, ok _ hs⟩ ⟨tPre_blind, fun U hU hWu => ⟨rfl, tPre_of hK hZ hA hB U hU hWu⟩⟩ rfl hn hsize hst (lv_room hW) hdg hf
theorem R_runV {own : String} {index nL maxL n mc ms b : Nat} {y : MethodName} {bytes : ByteArray} {ret : Option FieldType} {Ts : List Cond} {rm : Room} {As st0 : List Value} {B : State → Prop} {v : Option Value} {A1 : Nat → Prop} {free : Addr → Prop} (S : CallFix p m c cc nL s args Ts own) (hG : ∀ w ∈ tblG, w ∈ Ts)
    (hK : tK g s) (hZ : tZ g A s s.heap) (hA : ∀ q, s.heap.size ≤ q → A q) (hB : tB g P σ A s.heap H locs)
    (hM : Met l y (Cond.code y bytes maxL ret :: tblG) rm (va_Pc (.ref b :: As) (tPre g P σ H.size)) (tQ v B A1) mc ms free) (hrv : ∃ cell : Cell, H[b]? = some cell ∧ cell.vm.isStatics = false ∧ s.vm.findClass y.cls = some cell.cls) (hw : Cond.code y bytes maxL ret ∈ tblG) (hl : Cond.methodLink own index y ∈ tblG) (hs : Cond.instanceMethod y ∈ tblG) (he : Cond.selects y.cls y y ∈ tblG) (hi : Cond.initialized y.cls ∈ tblG)
    (hd : y.cls ≠ "java/lang/invoke/MethodHandle" ∧ y.cls ≠ "java/lang/invoke/VarHandle" ∧ (parseMethodDescriptor y.desc).map (fun d => d.parameters.length) = some n) (hrc : rm.cells = mc) (hrs : rm.slots = ms) (hR : rm.frames + 1 ≤ R.frames ∧ 8 + (maxL + 11) + rm.locals ≤ R.locals)
    (hn : As.length = n) (hsize : ls.size = nL) (hst : st0 = As.reverse ++ .ref b :: rest) (hW : (rest.map fun v => v.category).sum ≤ 8) (hdg : decode cc pc = .ok (.invokevirtual index, 3)) (hf : cells + mc ≤ R.cells ∧ slots + ms ≤ R.slots) :
    va_Run p l e R s m args below meth c H locs cells slots mc ms (F0 m pc ls st0) rest (tQ v B A1 (Value.ref b :: As).toArray) free := by
  have ok : ∀ w ∈ tblG, w.before args s = true := fun w h => S.2.2.2.2 w (hG w h)
  exact va_runV S hM ⟨callB_of n S.2.2.2.2 (tblG_good hG hw) rfl hrc hrs (ok _ hi) (ok _ hl) hd hR, ok _ hs, ok _ he⟩ ⟨tPre_blind, hrv, fun U hU hWu => ⟨rfl, tPre_of hK hZ hA hB U hU hWu⟩⟩ rfl hn hsize hst (lv_room hW) hdg hf
/-- a constructor's call, or a superclass's constructor's -/
theorem R_runI {own : String} {index nL maxL n mc ms b : Nat} {y : MethodName} {bytes : ByteArray} {Ts : List Cond} {rm : Room} {As st0 : List Value} {B : State → Prop} {v : Option Value} {A1 : Nat → Prop} {free : Addr → Prop} (S : CallFix p m c cc nL s args Ts own) (hG : ∀ w ∈ tblG, w ∈ Ts)
    (hK : tK g s) (hZ : tZ g A s s.heap) (hA : ∀ q, s.heap.size ≤ q → A q) (hB : tB g P σ A s.heap H locs)
    (hM : Met l y (Cond.code y bytes maxL none :: tblG) rm (va_Pc (.ref b :: As) (tPre g P σ H.size)) (tQ v B A1) mc ms free) (hw : Cond.code y bytes maxL none ∈ tblG) (hl : Cond.methodLink own index y ∈ tblG) (hs : Cond.instanceMethod y ∈ tblG) (hi : Cond.initialized y.cls ∈ tblG) (hy : y.name = "<init>")
    (hd : y.cls ≠ "java/lang/invoke/MethodHandle" ∧ y.cls ≠ "java/lang/invoke/VarHandle" ∧ (parseMethodDescriptor y.desc).map (fun d => d.parameters.length) = some n) (hrc : rm.cells = mc) (hrs : rm.slots = ms) (hR : rm.frames + 1 ≤ R.frames ∧ 8 + (maxL + 11) + rm.locals ≤ R.locals)
    (hn : As.length = n) (hsize : ls.size = nL) (hst : st0 = As.reverse ++ .ref b :: rest) (hW : (rest.map fun v => v.category).sum ≤ 8) (hdg : decode cc pc = .ok (.invokespecial index, 3)) (hf : cells + mc ≤ R.cells ∧ slots + ms ≤ R.slots) :
    va_Run p l e R s m args below meth c H locs cells slots mc ms (F0 m pc ls st0) rest (tQ v B A1 (Value.ref b :: As).toArray) free := by
  have ok : ∀ w ∈ tblG, w.before args s = true := fun w h => S.2.2.2.2 w (hG w h)
  exact va_runI S hM ⟨callB_of n S.2.2.2.2 (tblG_good hG hw) rfl hrc hrs (ok _ hi) (ok _ hl) hd hR, hy, ok _ hs⟩ ⟨tPre_blind, fun U hU hWu => ⟨rfl, tPre_of hK hZ hA hB U hU hWu⟩⟩ rfl hn hsize hst (lv_room hW) hdg hf
/-- a method that the reference names through a class that may inherit it; the receiver's class selects y -/
theorem R_runU {own C owner : String} {index nL maxL n mc ms b : Nat} {x y : MethodName} {bytes b0 : ByteArray} {m0 : Nat} {r0 ret : Option FieldType} {Ts : List Cond} {rm : Room} {As st0 : List Value} {B : State → Prop} {v : Option Value} {A1 : Nat → Prop} {free : Addr → Prop} (S : CallFix p m c cc nL s args Ts own) (hG : ∀ w ∈ tblG, w ∈ Ts)
    (hK : tK g s) (hZ : tZ g A s s.heap) (hA : ∀ q, s.heap.size ≤ q → A q) (hB : tB g P σ A s.heap H locs)
    (hM : Met l y (Cond.code y bytes maxL ret :: tblG) rm (va_Pc (.ref b :: As) (tPre g P σ H.size)) (tQ v B A1) mc ms free) (hrv : ∃ cell : Cell, H[b]? = some cell ∧ cell.vm.isStatics = false ∧ s.vm.findClass C = some cell.cls) (hw : Cond.code y bytes maxL ret ∈ tblG) (hl : Cond.methodLink own index x ∈ tblG) (hsm : Cond.sameMethod x.cls owner x.name x.desc ∈ tblG) (hio : Cond.instanceMethod ⟨owner, x.name, x.desc⟩ ∈ tblG) (hco : Cond.code ⟨owner, x.name, x.desc⟩ b0 m0 r0 ∈ tblG) (hs : Cond.instanceMethod y ∈ tblG) (he : Cond.selects C x y ∈ tblG) (hi : Cond.initialized y.cls ∈ tblG)
    (hd : owner ≠ "java/lang/invoke/MethodHandle" ∧ owner ≠ "java/lang/invoke/VarHandle" ∧ (parseMethodDescriptor x.desc).map (fun d => d.parameters.length) = some n) (hrc : rm.cells = mc) (hrs : rm.slots = ms) (hR : rm.frames + 1 ≤ R.frames ∧ 8 + (maxL + 11) + rm.locals ≤ R.locals)
    (hn : As.length = n) (hsize : ls.size = nL) (hst : st0 = As.reverse ++ .ref b :: rest) (hW : (rest.map fun v => v.category).sum ≤ 8) (hdg : decode cc pc = .ok (.invokevirtual index, 3)) (hf : cells + mc ≤ R.cells ∧ slots + ms ≤ R.slots) :
    va_Run p l e R s m args below meth c H locs cells slots mc ms (F0 m pc ls st0) rest (tQ v B A1 (Value.ref b :: As).toArray) free := by
  have ok : ∀ w ∈ tblG, w.before args s = true := fun w h => S.2.2.2.2 w (hG w h)
  have hGd := tblG_good hG hw
  exact va_runU S hM ⟨⟨hrc, hrs, hR.1, hR.2, pay_in S.2.2.2.2 hGd, List.mem_cons_self⟩, ok _ hw, ok _ hi, ⟨hd.1, hd.2.1⟩, fun sig h => (by have h2 := hd.2.2; rw [h] at h2; exact (Option.some.inj h2).symm), ok _ hl, ok _ hsm, va_Decl.of (ok _ hio) (ok _ hco), ok _ he, ok _ hs⟩ ⟨tPre_blind, hrv, fun U hU hWu => ⟨rfl, tPre_of hK hZ hA hB U hU hWu⟩⟩ rfl hn hsize hst (lv_room hW) hdg hf
/-- super.m(..) on a made law -/
theorem R_runSU {own : String} {index nL maxL n mc ms j : Nat} {y : MethodName} {bytes : ByteArray} {ret : Option FieldType} {Ts : List Cond} {rm : Room} {As st0 : List Value} {B : State → Prop} {v : Option Value} {A1 : Nat → Prop} {free : Addr → Prop} {r : vw_C} (S : CallFix p m c cc nL s args Ts own) (hG : ∀ w ∈ tblG, w ∈ Ts)
    (hK : tK g s) (hZ : tZ g A s s.heap) (hA : ∀ q, s.heap.size ≤ q → A q) (hB : tB g P σ A s.heap H locs)
    (hM : Met l y (Cond.code y bytes maxL ret :: tblG) rm (va_Pc (.ref (P j) :: As) (tPre g P σ H.size)) (tQ v B A1) mc ms free) (hj : j < hN σ) (hc : vwCl[hC σ j]? = some r) (hw : Cond.code y bytes maxL ret ∈ tblG) (hl : Cond.methodLink own index y ∈ tblG) (hsm : Cond.sameMethod y.cls y.cls y.name y.desc ∈ tblG) (hsp : Cond.superclass own y.cls ∈ tblG) (hs : Cond.instanceMethod y ∈ tblG) (hi : Cond.initialized y.cls ∈ tblG)
    (hd : y.name ≠ "<init>" ∧ (parseMethodDescriptor y.desc).map (fun d => d.parameters.length) = some n) (hrc : rm.cells = mc) (hrs : rm.slots = ms) (hR : rm.frames + 1 ≤ R.frames ∧ 8 + (maxL + 11) + rm.locals ≤ R.locals)
    (hn : As.length = n) (hsize : ls.size = nL) (hst : st0 = As.reverse ++ .ref (P j) :: rest) (hW : (rest.map fun v => v.category).sum ≤ 8) (hdg : decode cc pc = .ok (.invokespecial index, 3)) (hf : cells + mc ≤ R.cells ∧ slots + ms ≤ R.slots) :
    va_Run p l e R s m args below meth c H locs cells slots mc ms (F0 m pc ls st0) rest (tQ v B A1 (Value.ref (P j) :: As).toArray) free := by
  have ok : ∀ w ∈ tblG, w.before args s = true := fun w h => S.2.2.2.2 w (hG w h)
  have hGd := tblG_good hG hw
  exact va_runSU (hK.1.1 _ _ hc).2 S hM ⟨⟨hrc, hrs, hR.1, hR.2, pay_in S.2.2.2.2 hGd, List.mem_cons_self⟩, ok _ hl, ok _ hsm, ok _ hsp, ok _ hs, ok _ hi, ok _ hw, hd.1, fun sig h => (by have h2 := hd.2; rw [h] at h2; exact (Option.some.inj h2).symm)⟩ ⟨tPre_blind, R_recvP hK hB hj hc, fun U hU hWu => ⟨rfl, tPre_of hK hZ hA hB U hU hWu⟩⟩ rfl hn hsize hst (lv_room hW) hdg hf
/-! the ends -/
theorem R_end {v : Option Value} (hB : tB g P σ A s.heap H locs) : ∀ t : State, t.heap = H → s.WarmedH t.vm → tQ v (tPost g P σ A) A args s (.returned v) t := fun t ht _ => ⟨rfl, ⟨by rw [ht]; exact hB.1, hB.2.1⟩, hB.2.2.F ht⟩
theorem R_endN {v : Option Value} (hB : tB g P σ A s.heap H locs) : ∀ t : State, t.heap = H → s.WarmedH t.vm → tQ v (fun t => ∃ P1, tPost g P1 σ A t) A args s (.returned v) t := fun t ht _ => ⟨rfl, ⟨P, by rw [ht]; exact hB.1, hB.2.1⟩, hB.2.2.F ht⟩
end TR
/-! the readings' pieces: a check, a call, a name, a loop; each with what it gives where it comes to an end -/
def ck {β : Type} (c : Prop) [Decidable c] (x : Option β) : Option β := if c then x else none
theorem ck_eq {β : Type} {c : Prop} [Decidable c] {x : Option β} {r : β} (h : ck c x = some r) : c ∧ x = some r := by
  unfold ck at h
  split at h
  · exact ⟨by assumption, h⟩
  · cases h
theorem ck_pos {β : Type} {c : Prop} [Decidable c] {x : Option β} (h : c) : ck c x = x := if_pos h
def b2 {α β : Type} (o : Option (α × Hp)) (k : α → Hp → Option β) : Option β := match o with
  | none => none
  | some (a, s) => k a s
theorem b2_eq {α β : Type} {o : Option (α × Hp)} {k : α → Hp → Option β} {r : β} (h : b2 o k = some r) : ∃ a s, o = some (a, s) ∧ k a s = some r := by
  cases o with
  | none => cases h
  | some x => obtain ⟨a, s⟩ := x; exact ⟨a, s, rfl, h⟩
theorem b2_some {α β : Type} {a : α} {s : Hp} {k : α → Hp → Option β} : b2 (some (a, s)) k = k a s := rfl
def nn {β : Type} (o : Option Nat) (k : Nat → Option β) : Option β := match o with
  | none => none
  | some a => k a
theorem nn_eq {β : Type} {o : Option Nat} {k : Nat → Option β} {r : β} (h : nn o k = some r) : ∃ a, o = some a ∧ k a = some r := by
  cases o with
  | none => cases h
  | some a => exact ⟨a, rfl, h⟩
theorem nn_some {β : Type} {a : Nat} {k : Nat → Option β} : nn (some a) k = k a := rfl
def cs {β : Type} (o : Option Nat) (x : Option β) (k : Nat → Option β) : Option β := match o with
  | none => x
  | some a => k a
theorem cs_none {β : Type} {x : Option β} {k : Nat → Option β} : cs none x k = x := rfl
theorem cs_some {β : Type} {a : Nat} {x : Option β} {k : Nat → Option β} : cs (some a) x k = k a := rfl
def ex {α β : Type} (o : Option β) : Option (α ⊕ β) := o.map Sum.inr
theorem ex_eq {α β : Type} {o : Option β} {x : α ⊕ β} (h : ex o = some x) : ∃ b, o = some b ∧ x = .inr b := by
  cases o with
  | none => cases h
  | some b => exact ⟨b, rfl, (Option.some.inj h).symm⟩
theorem ex_some {α β : Type} {b : β} : (ex (some b) : Option (α ⊕ β)) = some (.inr b) := rfl
def iter {α β : Type} (step : α → Option (α ⊕ β)) : Nat → α → Option β
  | 0, _ => none
  | k + 1, a => match step a with
    | none => none
    | some (.inl a') => iter step k a'
    | some (.inr b) => some b
def itk {α β : Type} (step : α → Option (α ⊕ β)) (k : Nat) (b : β) (x : α ⊕ β) : Prop := match x with
  | .inl a' => iter step k a' = some b
  | .inr b' => b' = b
theorem iter_eq {α β : Type} {step : α → Option (α ⊕ β)} {k : Nat} {a : α} {b : β} (h : iter step (k + 1) a = some b) : ∃ x, step a = some x ∧ itk step k b x := by
  unfold iter at h
  cases hs : step a with
  | none => rw [hs] at h; cases h
  | some x =>
    rw [hs] at h
    cases x with
    | inl a' => exact ⟨_, rfl, h⟩
    | inr b' => exact ⟨_, rfl, Option.some.inj h⟩
theorem iter_0 {α β : Type} {step : α → Option (α ⊕ β)} {a : α} {b : β} (h : iter step 0 a = some b) : False := by cases h
theorem iter_inl {α β : Type} {step : α → Option (α ⊕ β)} {k : Nat} {a a' : α} (h : step a = some (.inl a')) : iter step (k + 1) a = iter step k a' := by
  show (match step a with | none => none | some (.inl a') => iter step k a' | some (.inr b) => some b) = _
  rw [h]
theorem iter_inr {α β : Type} {step : α → Option (α ⊕ β)} {k : Nat} {a : α} {b : β} (h : step a = some (.inr b)) : iter step (k + 1) a = some b := by
  show (match step a with | none => none | some (.inl a') => iter step k a' | some (.inr b) => some b) = _
  rw [h]
/-- how many turns a loop's reading is given -/
def fuel : Nat := 20000
def isLaw (σ : Hp) (j : Nat) : Bool := decide (j < hN σ ∧ (hC σ j = 0 ∨ hC σ j = 1 ∨ hC σ j = 2 ∨ hC σ j = 5 ∨ hC σ j = 7 ∨ hC σ j = 8 ∨ hC σ j = 9))
theorem isLaw_eq {σ : Hp} {j : Nat} (h : isLaw σ j = true) : j < hN σ ∧ (hC σ j = 0 ∨ hC σ j = 1 ∨ hC σ j = 2 ∨ hC σ j = 5 ∨ hC σ j = 7 ∨ hC σ j = 8 ∨ hC σ j = 9) := of_decide_eq_true h
def inb (i : Int32) (n : Nat) : Bool := decide (0 ≤ i.toInt ∧ i.toInt < n)
theorem inb_eq {i : Int32} {n : Nat} (h : inb i n = true) : vp_in i n := vp_in_iff.mpr (of_decide_eq_true h)
