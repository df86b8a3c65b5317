/-! constructors: worlds that are lists, behind any others -/
theorem twAI : Cond.arrayClass .int ∈ tblG := tblG_t (List.mem_of_getElem? (i := 74) (by decide +kernel)) rfl
theorem twAJ : Cond.arrayClass .long ∈ tblG := tblG_t (List.mem_of_getElem? (i := 75) (by decide +kernel)) rfl
theorem ap_get {α : Type} {ws suf : List α} {j : Nat} {x : α} (h : suf[j]? = some x) : (ws ++ suf)[ws.length + j]? = some x := by
  rw [List.getElem?_append_right (by omega), show ws.length + j - ws.length = j by omega]
  exact h
theorem ap_set {α : Type} {ws suf : List α} {j : Nat} {x : α} : (ws ++ suf).set (ws.length + j) x = ws ++ suf.set j x := by
  rw [List.set_append, if_neg (by omega), show ws.length + j - ws.length = j by omega]
def tPreL (g : tG) (ws : va_W) (sz : Nat) : State → Prop := fun U => U.heap.size = sz ∧ va_P g.1 vwCl ws U.heap ∧ tK g U ∧ va_D (fun _ => True) ws
def tBL (g : tG) (ws : va_W) (A : Nat → Prop) (H0 H : Heap) (locs : List Loc) : Prop := va_P g.1 vwCl ws H ∧ va_D A ws ∧ va_S A H0 H locs
def tPostL (g : tG) (ws : va_W) (A : Nat → Prop) (t : State) : Prop := va_P g.1 vwCl ws t.heap ∧ va_D A ws
theorem tPreL_blind {g : tG} {ws : va_W} {sz : Nat} {av : List Value} : FrameBlind (va_Pc av (tPreL g ws sz)) := by
  intro a U gg mk h
  obtain ⟨h0, h1, h2, h3, h4⟩ := h
  exact ⟨h0, h1, h2, tK.same (u := U) (U := U.calling gg mk a) rfl h3, h4⟩
theorem tBL_free {g : tG} {ws : va_W} {A : Nat → Prop} {H0 H : Heap} {locs : List Loc} (hB : tBL g ws A H0 H locs) (hA : ∀ q, H0.size ≤ q → A q) : ∀ q, va_A ws H.size q → A q := by
  intro q h
  rcases h with ⟨k, e, h⟩ | h
  · exact hB.2.1.2 k _ h
  · exact hA q (Nat.le_trans hB.2.2.1 h)
theorem tPreL_of {g : tG} {ws : va_W} {A : Nat → Prop} {H0 H : Heap} {locs : List Loc} {s : State} (hK : tK g s) (hB : tBL g ws A H0 H locs) : ∀ U : State, U.heap = H → s.WarmedH U.vm → tPreL g ws H.size U := by
  intro U hU hW
  exact ⟨by rw [hU], by rw [hU]; exact hB.1, hK.warm hW, hB.2.1.weaken (fun _ _ _ _ => trivial)⟩
theorem T_startL {l : Launch} {g : tG} {ws : va_W} {sz : Nat} {y : MethodName} {bytes : ByteArray} {maxL : Nat} {ret : Option FieldType} {rm : Room} {av : List Value} {Qf : (Nat → Prop) → Array Value → State → Outcome → State → Prop} {mc ms : Nat} (hy : plainName y.cls = true) (hlen : (lg_sl av).length ≤ maxL)
    (body : ∀ (p : Program) (e : Env) (s : State) (m : MethodId) (args : Array Value) (below : List Frame) (meth : Method) (c : Code) (ls : Array Slot) (A : Nat → Prop), p.tables.exec = Jvm.exec → c.code = bytes → c.maxLocals = maxL → meth.sig.returnType = ret → s.vm.findClass y.cls = some m.cls → meth.locks = false → (∀ w ∈ tblG, w.before args s = true) → meth.name = y.name → tK g s → (∀ q, s.heap.size ≤ q → A q) → tBL g ws A s.heap s.heap [] → lv_has ls maxL (lv_args 0 av) →
      W p l e rm s m args below meth c s.heap [] 0 0 (MQ below (Qf A) args s mc ms A) (F0 m 0 ls [])) : Met l y (Cond.code y bytes maxL ret :: tblG) rm (va_Pc av (tPreL g ws sz)) (Qf (va_A ws sz)) mc ms (va_A ws sz) := by
  refine Met.ofW (cc := bytes) (maxL := maxL) (ret := ret) hy rfl ?_
  intro p e s m args below meth c s₁ Bd hml hv
  obtain ⟨rfl, hsz, hP, hK, hD0⟩ := hv
  have hts := atoms_spec (ws := Cond.code y bytes maxL ret :: tblG) Bd.pre
  have hown : s.vm.findClass y.cls = some m.cls := findClass_of_methodNamed Bd.named
  have hlocks := Bd.notSynchronized
  subst hsz
  have hD := hD0.self (sz := s.heap.size)
  generalize hAe : va_A ws s.heap.size = A at hD ⊢
  have hA : ∀ q : Nat, s.heap.size ≤ q → A q := fun q h => by rw [← hAe]; exact Or.inr h
  have hl := lv_entry av (n := maxL) hlen
  rw [lg_entry_eq]
  generalize (lg_sl av ++ List.replicate (maxL - (lg_sl av).length) Slot.unset).toArray = ls at hl ⊢
  exact body p e s m av.toArray below meth c ls A Bd.exec Bd.bytes hml Bd.returns hown hlocks (fun w h => hts w (List.mem_cons_of_mem _ h)) (name_of_methodNamed Bd.named Bd.method).1 hK hA ⟨hP, hD, va_S.rf⟩ hl
section TL
variable {p : Program} {l : Launch} {e : Env} {R : Room} {s : State} {m : MethodId} {args : Array Value} {below : List Frame} {meth : Method} {c : Code} {H : Heap} {locs : List Loc} {cells slots : Nat} {Q : State → Prop}
variable {cc : ByteArray} {pc : Nat} {ls : Array Slot} {rest : List Value} {g : tG} {ws suf : va_W} {A : Nat → Prop} {H0 : Heap} {a : Nat}
theorem L_end {v : Option Value} {B : (Nat → Prop) → State → Prop} (hB : tBL g ws A s.heap H locs) (hb : ∀ t : State, tPostL g ws A t → B A t) : ∀ t : State, t.heap = H → s.WarmedH t.vm → tQ v (B A) A args s (.returned v) t := fun t ht _ => ⟨rfl, hb t ⟨by rw [ht]; exact hB.1, hB.2.1⟩, hB.2.2.F ht⟩
theorem L_get (hx : p.tables.exec = Jvm.exec) (hb : c.code = cc) {own ref C : String} {T : u_T} {N ci index : Nat} {fs : List Value} {v : Value} (ht : ∀ w ∈ tblG, w.before args s = true) (hin : ∀ w ∈ u_ws C T N, w ∈ tblG) (hown : s.vm.findClass own = some m.cls) (hK : tK g s) (hB : tBL g (ws ++ suf) A H0 H locs)
    (j : Nat) (hj : suf[j]? = some (a, .inr (ci, fs))) (hc : vwCl[ci]? = some (C, T, N)) (i : Nat) (hi : i < N) (hlink : (Cond.fieldLink own index ref (T i).2.1 (T i).2.2.1).before args s = true) (hsame : ∀ x, s.fieldFound? (T i).1 (T i).2.1 (T i).2.2.1 = some x → s.fieldFound? ref (T i).2.1 (T i).2.2.1 = some x) (hv : fs[i]? = some v) (hdg : decode cc pc = .ok (.getfield index, 3))
    (kk : W p l e R s m args below meth c H locs cells slots Q (F0 m (pc + 3) ls (v :: rest))) : W p l e R s m args below meth c H locs cells slots Q (F0 m pc ls (.ref a :: rest)) :=
  va_get hx hb ht hin hown hK.1 hB.1 (ws.length + j) (ap_get hj) hc i hi hlink hsame hv hdg kk
theorem L_put (hx : p.tables.exec = Jvm.exec) (hb : c.code = cc) {own ref C : String} {T : u_T} {N ci index : Nat} {fs : List Value} {v : Value} {ty : FieldType} (ht : ∀ w ∈ tblG, w.before args s = true) (hin : ∀ w ∈ u_ws C T N, w ∈ tblG) (ty0 : Nat → FieldType) (hty : ∀ k, k < N → parseFieldDescriptor (T k).2.2.1 = some (ty0 k)) (hnm : ∀ a, a < N → ∀ b, b < N → a ≠ b → (T a).2.1 ≠ (T b).2.1) (hown : s.vm.findClass own = some m.cls) (hK : tK g s) (hB : tBL g (ws ++ suf) A H0 H locs)
    (j : Nat) (hj : suf[j]? = some (a, .inr (ci, fs))) (hc : vwCl[ci]? = some (C, T, N)) (i : Nat) (hi : i < N) (hlink : (Cond.fieldLink own index ref (T i).2.1 (T i).2.2.1).before args s = true) (hsame : ∀ x, s.fieldFound? (T i).1 (T i).2.1 (T i).2.2.1 = some x → s.fieldFound? ref (T i).2.1 (T i).2.2.1 = some x) (hfin : (T i).2.2.2 = false) (hd : parseFieldDescriptor (T i).2.2.1 = some ty) (hn : narrow ty v = v) (hfit : fits ty v = true) (hl : i < fs.length) (hdg : decode cc pc = .ok (.putfield index, 3))
    (kk : ∀ (H1 : Heap) (locs1 : List Loc), tBL g (ws ++ suf.set j (a, .inr (ci, fs.set i v))) A H0 H1 locs1 → W p l e R s m args below meth c H1 locs1 cells slots Q (F0 m (pc + 3) ls rest)) : W p l e R s m args below meth c H locs cells slots Q (F0 m pc ls (v :: .ref a :: rest)) := by
  refine va_put hx hb ht hin ty0 hty hnm hown hK.1 hB.1 hB.2.1 hB.2.2 (ws.length + j) (ap_get hj) hc i hi hlink hsame hfin hd hn hfit hl hdg (fun H1 locs1 hP hD hS => kk H1 locs1 ?_)
  rw [ap_set] at hP hD
  exact ⟨hP, hD, hS⟩
theorem L_putF (hx : p.tables.exec = Jvm.exec) (hb : c.code = cc) {own ref C : String} {T : u_T} {N ci index : Nat} {fs : List Value} {v : Value} {ty : FieldType} (ht : ∀ w ∈ tblG, w.before args s = true) (hin : ∀ w ∈ u_ws C T N, w ∈ tblG) (ty0 : Nat → FieldType) (hty : ∀ k, k < N → parseFieldDescriptor (T k).2.2.1 = some (ty0 k)) (hnm : ∀ a, a < N → ∀ b, b < N → a ≠ b → (T a).2.1 ≠ (T b).2.1) (hown : s.vm.findClass own = some m.cls) (hK : tK g s) (hB : tBL g (ws ++ suf) A H0 H locs)
    (j : Nat) (hj : suf[j]? = some (a, .inr (ci, fs))) (hc : vwCl[ci]? = some (C, T, N)) (i : Nat) (hi : i < N) (hlink : (Cond.fieldLink own index ref (T i).2.1 (T i).2.2.1).before args s = true) (hsame : ∀ x, s.fieldFound? (T i).1 (T i).2.1 (T i).2.2.1 = some x → s.fieldFound? ref (T i).2.1 (T i).2.2.1 = some x) (hfin : (T i).2.2.2 = true) (hin2 : meth.name = "<init>") (hdecl : (T i).1 = own) (hd : parseFieldDescriptor (T i).2.2.1 = some ty) (hn : narrow ty v = v) (hfit : fits ty v = true) (hl : i < fs.length) (hdg : decode cc pc = .ok (.putfield index, 3))
    (kk : ∀ (H1 : Heap) (locs1 : List Loc), tBL g (ws ++ suf.set j (a, .inr (ci, fs.set i v))) A H0 H1 locs1 → W p l e R s m args below meth c H1 locs1 cells slots Q (F0 m (pc + 3) ls rest)) : W p l e R s m args below meth c H locs cells slots Q (F0 m pc ls (v :: .ref a :: rest)) := by
  refine va_putF hx hb ht hin ty0 hty hnm hown hK.1 hB.1 hB.2.1 hB.2.2 (ws.length + j) (ap_get hj) hc i hi hlink hsame hfin hin2 hdecl hd hn hfit hl hdg (fun H1 locs1 hP hD hS => kk H1 locs1 ?_)
  rw [ap_set] at hP hD
  exact ⟨hP, hD, hS⟩
theorem L_new (hx : p.tables.exec = Jvm.exec) (hb : c.code = cc) {own C : String} {T : u_T} {N ci index : Nat} (ht : ∀ w ∈ tblG, w.before args s = true) (hin : ∀ w ∈ u_ws C T N, w ∈ tblG) (ty : Nat → FieldType) (hty : ∀ k, k < N → parseFieldDescriptor (T k).2.2.1 = some (ty k)) (hown : s.vm.findClass own = some m.cls) (hcl : (Cond.classLink own index C).before args s = true) (hinst : (Cond.instantiable C N).before args s = true) (hini : (Cond.initialized C).before args s = true)
    (hK : tK g s) (hB : tBL g (ws ++ suf) A H0 H locs) (hA : ∀ q, H0.size ≤ q → A q) (hc : vwCl[ci]? = some (C, T, N)) {fs : List Value} (hfs : ∀ j, j < N → defaultValue (ty j) = vp_V fs j) (hcells : cells + 1 ≤ R.cells) (hslots : slots + N ≤ R.slots) (hdg : decode cc pc = .ok (.new index, 3))
    (kk : ∀ (q : Nat) (H1 : Heap), tBL g (ws ++ (suf ++ [(q, .inr (ci, fs))])) A H0 H1 locs → W p l e R s m args below meth c H1 locs (cells + 1) (slots + N) Q (F0 m (pc + 3) ls (.ref q :: rest))) : W p l e R s m args below meth c H locs cells slots Q (F0 m pc ls rest) := by
  refine va_new hx hb ht hin ty hty hown hcl hinst hini hK.1 hB.1 hB.2.1 hB.2.2 hA hc hfs hcells hslots hdg (fun q H1 hP hD hS => kk q H1 ?_)
  rw [List.append_assoc] at hP hD
  exact ⟨hP, hD, hS⟩
theorem L_newI (hx : p.tables.exec = Jvm.exec) (hb : c.code = cc) (ht : ∀ w ∈ tblG, w.before args s = true) (hK : tK g s) (hB : tBL g (ws ++ suf) A H0 H locs) (hA : ∀ q, H0.size ≤ q → A q) {n : Int32} {N' : Nat} (hn : ¬ n < 0) (hN : n.toNatClampNeg = N') (hbytes : N' * 4 ≤ 536870912) (hcells : cells + 1 ≤ R.cells) (hslots : slots + N' ≤ R.slots) (hdg : decode cc pc = .ok (.newarray .int, 2))
    (kk : ∀ (q : Nat) (H1 : Heap), tBL g (ws ++ (suf ++ [(q, .inl (gC g 0, N', .inl (fun _ => 0)))])) A H0 H1 locs → W p l e R s m args below meth c H1 locs (cells + 1) (slots + N') Q (F0 m (pc + 2) ls (.ref q :: rest))) : W p l e R s m args below meth c H locs cells slots Q (F0 m pc ls (.int n :: rest)) := by
  refine va_newa hx hb (atype := .int) (ht _ twAI) (ty := .int) rfl hK.1 hB.1 hB.2.1 hB.2.2 hA (a0 := (N', .inl (fun _ => 0))) (fun _ => rfl) hn hN hbytes hcells hslots hdg (fun q cA H1 hK1 hP hD hS => ?_)
  have e1 : s.vm.findClass ("[" ++ (FieldType.int).toString) = some cA := (hK1.2 4 (cA, .int) rfl).2
  have e2 : s.vm.findClass ("[" ++ (FieldType.int).toString) = some (gC g 0) := (hK.1.2 0 (gC g 0, .int) rfl).2
  have e3 : cA = gC g 0 := Option.some.inj (e1.symm.trans e2)
  rw [e3, List.append_assoc] at hP hD
  exact kk q H1 ⟨hP, hD, hS⟩
theorem L_newJ (hx : p.tables.exec = Jvm.exec) (hb : c.code = cc) (ht : ∀ w ∈ tblG, w.before args s = true) (hK : tK g s) (hB : tBL g (ws ++ suf) A H0 H locs) (hA : ∀ q, H0.size ≤ q → A q) {n : Int32} {N' : Nat} (hn : ¬ n < 0) (hN : n.toNatClampNeg = N') (hbytes : N' * 8 ≤ 536870912) (hcells : cells + 1 ≤ R.cells) (hslots : slots + N' ≤ R.slots) (hdg : decode cc pc = .ok (.newarray .long, 2))
    (kk : ∀ (q : Nat) (H1 : Heap), tBL g (ws ++ (suf ++ [(q, .inl (gC g 1, N', .inr (.inl (fun _ => 0))))])) A H0 H1 locs → W p l e R s m args below meth c H1 locs (cells + 1) (slots + N') Q (F0 m (pc + 2) ls (.ref q :: rest))) : W p l e R s m args below meth c H locs cells slots Q (F0 m pc ls (.int n :: rest)) := by
  refine va_newa hx hb (atype := .long) (ht _ twAJ) (ty := .long) rfl hK.1 hB.1 hB.2.1 hB.2.2 hA (a0 := (N', .inr (.inl (fun _ => 0)))) (fun _ => rfl) hn hN hbytes hcells hslots hdg (fun q cA H1 hK1 hP hD hS => ?_)
  have e1 : s.vm.findClass ("[" ++ (FieldType.long).toString) = some cA := (hK1.2 4 (cA, .long) rfl).2
  have e2 : s.vm.findClass ("[" ++ (FieldType.long).toString) = some (gC g 1) := (hK.1.2 1 (gC g 1, .long) rfl).2
  have e3 : cA = gC g 1 := Option.some.inj (e1.symm.trans e2)
  rw [e3, List.append_assoc] at hP hD
  exact kk q H1 ⟨hP, hD, hS⟩
theorem L_newR (hx : p.tables.exec = Jvm.exec) (hb : c.code = cc) {own : String} {index : Nat} (hown : s.vm.findClass own = some m.cls) (hclink : (Cond.classLink own index "TurnedAbout$Law").before args s = true) (hK : tK g s) (hB : tBL g (ws ++ suf) A H0 H locs) (hA : ∀ q, H0.size ≤ q → A q) {n : Int32} {N' : Nat} (hn : ¬ n < 0) (hN : n.toNatClampNeg = N') (hbytes : N' * 4 ≤ 536870912) (hcells : cells + 1 ≤ R.cells) (hslots : slots + N' ≤ R.slots) (hdg : decode cc pc = .ok (.anewarray index, 3))
    (kk : ∀ (q : Nat) (H1 : Heap), tBL g (ws ++ (suf ++ [(q, .inl (gC g 2, N', .inr (.inr (.inr (.inr (fun _ => none))))))])) A H0 H1 locs → W p l e R s m args below meth c H1 locs (cells + 1) (slots + N') Q (F0 m (pc + 3) ls (.ref q :: rest))) : W p l e R s m args below meth c H locs cells slots Q (F0 m pc ls (.int n :: rest)) := by
  refine va_newq hx hb hown hclink hK.2.2.2.2.1 hK.1 hB.1 hB.2.1 hB.2.2 hA hn hN hbytes hcells hslots hdg (fun q cA H1 hK1 hP hD hS => ?_)
  obtain ⟨kA, comp, -, -, -, e1⟩ := (hK1.2 4 (cA, .object "TurnedAbout$Law") rfl).2
  obtain ⟨kA2, comp2, -, -, -, e2⟩ := (hK.1.2 2 (gC g 2, .object "TurnedAbout$Law") rfl).2
  have e3 : cA = gC g 2 := Option.some.inj (e1.symm.trans e2)
  rw [e3, List.append_assoc] at hP hD
  exact kk q H1 ⟨hP, hD, hS⟩
theorem L_newS (hx : p.tables.exec = Jvm.exec) (hb : c.code = cc) {own : String} {index : Nat} (hown : s.vm.findClass own = some m.cls) (hclink : (Cond.classLink own index "TurnedAbout$Shelf").before args s = true) (hK : tK g s) (hB : tBL g (ws ++ suf) A H0 H locs) (hA : ∀ q, H0.size ≤ q → A q) {n : Int32} {N' : Nat} (hn : ¬ n < 0) (hN : n.toNatClampNeg = N') (hbytes : N' * 4 ≤ 536870912) (hcells : cells + 1 ≤ R.cells) (hslots : slots + N' ≤ R.slots) (hdg : decode cc pc = .ok (.anewarray index, 3))
    (kk : ∀ (q : Nat) (H1 : Heap), tBL g (ws ++ (suf ++ [(q, .inl (gC g 3, N', .inr (.inr (.inr (.inr (fun _ => none))))))])) A H0 H1 locs → W p l e R s m args below meth c H1 locs (cells + 1) (slots + N') Q (F0 m (pc + 3) ls (.ref q :: rest))) : W p l e R s m args below meth c H locs cells slots Q (F0 m pc ls (.int n :: rest)) := by
  refine va_newq hx hb hown hclink hK.2.2.2.2.2 hK.1 hB.1 hB.2.1 hB.2.2 hA hn hN hbytes hcells hslots hdg (fun q cA H1 hK1 hP hD hS => ?_)
  obtain ⟨kA, comp, -, -, -, e1⟩ := (hK1.2 4 (cA, .object "TurnedAbout$Shelf") rfl).2
  obtain ⟨kA2, comp2, -, -, -, e2⟩ := (hK.1.2 3 (gC g 3, .object "TurnedAbout$Shelf") rfl).2
  have e3 : cA = gC g 3 := Option.some.inj (e1.symm.trans e2)
  rw [e3, List.append_assoc] at hP hD
  exact kk q H1 ⟨hP, hD, hS⟩
theorem L_iast (hx : p.tables.exec = Jvm.exec) (hb : c.code = cc) (hK : tK g s) (hB : tBL g (ws ++ suf) A H0 H locs) (j : Nat) {n : Nat} {f : Nat → Int32} (hj : suf[j]? = some (a, .inl (gC g 0, n, .inl f))) {i x : Int32} (hin : vp_in i n) (hdg : decode cc pc = .ok (.iastore, 1))
    (kk : ∀ (H1 : Heap) (locs1 : List Loc), tBL g (ws ++ suf.set j (a, .inl (gC g 0, n, .inl (upd f i.toNatClampNeg x)))) A H0 H1 locs1 → W p l e R s m args below meth c H1 locs1 cells slots Q (F0 m (pc + 1) ls rest)) : W p l e R s m args below meth c H locs cells slots Q (F0 m pc ls (.int x :: .int i :: .ref a :: rest)) := by
  refine va_iast hx hb hK.1 hB.1 hB.2.1 hB.2.2 (ws.length + j) 0 (ap_get hj) rfl hin hdg (fun H1 locs1 hP hD hS => kk H1 locs1 ?_)
  rw [ap_set] at hP hD
  exact ⟨hP, hD, hS⟩
theorem L_aastS (hx : p.tables.exec = Jvm.exec) (hb : c.code = cc) (hK : tK g s) (hB : tBL g (ws ++ suf) A H0 H locs) (j jv : Nat) {n v : Nat} {vs : List Value} {f : Nat → Option Nat} (hj : suf[j]? = some (a, .inl (gC g 3, n, .inr (.inr (.inr (.inr f)))))) (hv : suf[jv]? = some (v, .inr (4, vs))) {i : Int32} (hin : vp_in i n) (hdg : decode cc pc = .ok (.aastore, 1))
    (kk : ∀ (H1 : Heap) (locs1 : List Loc), tBL g (ws ++ suf.set j (a, .inl (gC g 3, n, .inr (.inr (.inr (.inr (va_up f i.toNatClampNeg (some v)))))))) A H0 H1 locs1 → W p l e R s m args below meth c H1 locs1 cells slots Q (F0 m (pc + 1) ls rest)) : W p l e R s m args below meth c H locs cells slots Q (F0 m pc ls (.ref v :: .int i :: .ref a :: rest)) := by
  refine va_astq hx hb hK.1 hB.1 hB.2.1 hB.2.2 (ws.length + j) 3 (ws.length + jv) 4 (r := (RX5, TX5, 4)) (ap_get hj) rfl (ap_get hv) rfl hin hdg (fun H1 locs1 hP hD hS => kk H1 locs1 ?_)
  rw [ap_set] at hP hD
  exact ⟨hP, hD, hS⟩
theorem L_alenS (hx : p.tables.exec = Jvm.exec) (hb : c.code = cc) (hK : tK g s) (hB : tBL g (ws ++ suf) A H0 H locs) (j : Nat) {x : vp_A} (hj : suf[j]? = some (a, .inl (gC g 3, x))) {v : Int32} (hv : Int32.ofNat x.1 = v) (hdg : decode cc pc = .ok (.arraylength, 1))
    (kk : W p l e R s m args below meth c H locs cells slots Q (F0 m (pc + 1) ls (.int v :: rest))) : W p l e R s m args below meth c H locs cells slots Q (F0 m pc ls (.ref a :: rest)) :=
  va_alen hx hb hK.1 hB.1 (ws.length + j) 3 (ap_get hj) rfl hv hdg kk
theorem L_runI {own : String} {index nL maxL n mc ms b : Nat} {y : MethodName} {bytes : ByteArray} {rm : Room} {As st0 : List Value} {Qc : Array Value → State → Outcome → State → Prop} {free : Addr → Prop} {W0 : va_W} (S : CallFix p m c cc nL s args tblG own)
    (hK : tK g s) (hB : tBL g W0 A H0 H locs)
    (hM : Met l y (Cond.code y bytes maxL none :: tblG) rm (va_Pc (.ref b :: As) (tPreL g W0 H.size)) Qc mc ms free) (hw : Cond.code y bytes maxL none ∈ tblG) (hl : Cond.methodLink own index y ∈ tblG) (hs : Cond.instanceMethod y ∈ tblG) (hi : Cond.initialized y.cls ∈ tblG) (hy : y.name = "<init>")
    (hd : y.cls ≠ "java/lang/invoke/MethodHandle" ∧ y.cls ≠ "java/lang/invoke/VarHandle" ∧ (parseMethodDescriptor y.desc).map (fun d => d.parameters.length) = some n) (hrc : rm.cells = mc) (hrs : rm.slots = ms) (hR : rm.frames + 1 ≤ R.frames ∧ 8 + (maxL + 11) + rm.locals ≤ R.locals)
    (hn : As.length = n) (hsize : ls.size = nL) (hst : st0 = As.reverse ++ .ref b :: rest) (hW : (rest.map fun v => v.category).sum ≤ 8) (hdg : decode cc pc = .ok (.invokespecial index, 3)) (hf : cells + mc ≤ R.cells ∧ slots + ms ≤ R.slots) :
    va_Run p l e R s m args below meth c H locs cells slots mc ms (F0 m pc ls st0) rest (Qc (Value.ref b :: As).toArray) free := by
  have ok : ∀ w ∈ tblG, w.before args s = true := S.2.2.2.2
  exact va_runI S hM ⟨callB_of n S.2.2.2.2 (tblG_good (fun _ h => h) hw) rfl hrc hrs (ok _ hi) (ok _ hl) hd hR, hy, ok _ hs⟩ ⟨tPreL_blind, fun U hU hWu => ⟨rfl, tPreL_of hK hB U hU hWu⟩⟩ rfl hn hsize hst (lv_room hW) hdg hf
/-- a constructor is back -/
theorem L_callI {B : State → Prop} {a' : Array Value} {st0 : List Value} {mc ms : Nat} {W0 : va_W} (hr : va_Run p l e R s m args below meth c H locs cells slots mc ms (F0 m pc ls st0) rest (tQ none B (va_A W0 H.size) a') (va_A W0 H.size)) (hB : tBL g W0 A H0 H locs) (hA : ∀ q, H0.size ≤ q → A q)
    (kk : ∀ (t : State) (H1 : Heap) (locs1 : List Loc), t.heap = H1 → B t → (∀ q, va_A W0 H.size q → A q) → va_S A H0 H1 locs1 → W p l e R s m args below meth c H1 locs1 (cells + mc) (slots + ms) Q (F0 m (pc + 3) ls rest)) : W p l e R s m args below meth c H locs cells slots Q (F0 m pc ls st0) := by
  have hF := tBL_free hB hA
  exact t_call hr hB.2.2 (fun q _ h => hF q h) hF rfl (fun t H1 locs1 ht hb _ hS => kk t H1 locs1 ht hb hF hS)
end TL
