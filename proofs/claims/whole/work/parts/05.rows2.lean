section TR2
variable {p : Program} {l : Launch} {e : Env} {R : Room} {s : State} {m : MethodId} {args : Array Value} {below : List Frame} {meth : Method} {c : Code} {H : Heap} {locs : List Loc} {cells slots : Nat} {Q : State → Prop}
variable {cc : ByteArray} {pc : Nat} {ls : Array Slot} {rest : List Value} {g : tG} {P : Nat → Nat} {σ : Hp} {A : Nat → Prop} {H0 : Heap}
theorem va_rf_cat (o : Option Nat) : (va_rf o).category = 1 := by cases o <;> rfl
theorem lv_aload_nR (hexec : p.tables.exec = Jvm.exec) (hb : c.code = cc) {k : Fin 4} {i : Nat} {o : Option Nat} (hdg : decode cc pc = .ok (.aload_n k, 1)) (hi : (k : Nat) = i) (hl : ls[i]? = some (.val (va_rf o)))
    (kk : W p l e R s m args below meth c H locs cells slots Q (F0 m (pc + 1) ls (va_rf o :: rest))) : W p l e R s m args below meth c H locs cells slots Q (F0 m pc ls rest) := by
  cases o with
  | none => exact lv_aload_nN hexec hb hdg hi hl kk
  | some a => exact lv_aload_n hexec hb hdg hi hl kk
theorem lv_aloadR (hexec : p.tables.exec = Jvm.exec) (hb : c.code = cc) {i : Nat} {o : Option Nat} (hdg : decode cc pc = .ok (.aload i, 2)) (hl : ls[i]? = some (.val (va_rf o)))
    (kk : W p l e R s m args below meth c H locs cells slots Q (F0 m (pc + 2) ls (va_rf o :: rest))) : W p l e R s m args below meth c H locs cells slots Q (F0 m pc ls rest) := by
  cases o with
  | none => exact lv_aloadN hexec hb hdg hl kk
  | some a => exact lv_aload hexec hb hdg hl kk
theorem lv_astore_nR (hexec : p.tables.exec = Jvm.exec) (hb : c.code = cc) {k : Fin 4} {i nL : Nat} {o : Option Nat} {lv lv' : List (Nat × Value)} (hdg : decode cc pc = .ok (.astore_n k, 1)) (hi : (k : Nat) = i) (h : lv_has ls nL lv) (hn : i < nL) (hl : (i, va_rf o) :: lv.filter (fun q => !(q.1 == i) && !(q.1 + 1 == i && q.2.category == 2)) = lv')
    (kk : ∀ ls' : Array Slot, lv_has ls' nL lv' → W p l e R s m args below meth c H locs cells slots Q (F0 m (pc + 1) ls' rest)) : W p l e R s m args below meth c H locs cells slots Q (F0 m pc ls (va_rf o :: rest)) := by
  cases o with
  | none => exact lv_astore_nN hexec hb hdg hi h hn hl kk
  | some a => exact lv_astore_n hexec hb hdg hi h hn hl kk
theorem lv_astoreR (hexec : p.tables.exec = Jvm.exec) (hb : c.code = cc) {i nL : Nat} {o : Option Nat} {lv lv' : List (Nat × Value)} (hdg : decode cc pc = .ok (.astore i, 2)) (h : lv_has ls nL lv) (hn : i < nL) (hl : (i, va_rf o) :: lv.filter (fun q => !(q.1 == i) && !(q.1 + 1 == i && q.2.category == 2)) = lv')
    (kk : ∀ ls' : Array Slot, lv_has ls' nL lv' → W p l e R s m args below meth c H locs cells slots Q (F0 m (pc + 2) ls' rest)) : W p l e R s m args below meth c H locs cells slots Q (F0 m pc ls (va_rf o :: rest)) := by
  cases o with
  | none => exact lv_astoreN hexec hb hdg h hn hl kk
  | some a => exact lv_astore hexec hb hdg h hn hl kk
/-- a made law's field: 0 its place, 1 its a -/
theorem R_getP0 (hx : p.tables.exec = Jvm.exec) (hb : c.code = cc) {own ref : String} {index j : Nat} (ht : ∀ w ∈ tblG, w.before args s = true) (hown : s.vm.findClass own = some m.cls) (hK : tK g s) (hB : tB g P σ A H0 H locs) (hj : isLaw σ j = true) (hlink : (Cond.fieldLink own index ref "place" "I").before args s = true) (hsame : ∀ x, s.fieldFound? "TurnedAbout$Law" "place" "I" = some x → s.fieldFound? ref "place" "I" = some x) (hdg : decode cc pc = .ok (.getfield index, 3))
    (kk : W p l e R s m args below meth c H locs cells slots Q (F0 m (pc + 3) ls (.int (hI σ (100 + j) 0) :: rest))) : W p l e R s m args below meth c H locs cells slots Q (F0 m pc ls (.ref (P j) :: rest)) := by
  obtain ⟨hlt, hc⟩ := isLaw_eq hj
  obtain ⟨q0, hq⟩ := wC_getP (g := g) (P := P) (σ := σ) hlt
  unfold poolX at hq
  rcases hc with h | h | h | h | h | h | h <;> rw [h] at hq
  · exact va_get hx hb (T := TX0) ht ui_X0 hown hK.1 hB.1 q0 hq rfl 0 (by decide) hlink hsame rfl hdg kk
  · exact va_get hx hb (T := TX2) ht ui_X2 hown hK.1 hB.1 q0 hq rfl 0 (by decide) hlink hsame rfl hdg kk
  · exact va_get hx hb (T := TX3) ht ui_X3 hown hK.1 hB.1 q0 hq rfl 0 (by decide) hlink hsame rfl hdg kk
  · exact va_get hx hb (T := TX6) ht ui_X6 hown hK.1 hB.1 q0 hq rfl 0 (by decide) hlink hsame rfl hdg kk
  · exact va_get hx hb (T := TX8) ht ui_X8 hown hK.1 hB.1 q0 hq rfl 0 (by decide) hlink hsame rfl hdg kk
  · exact va_get hx hb (T := TX9) ht ui_X9 hown hK.1 hB.1 q0 hq rfl 0 (by decide) hlink hsame rfl hdg kk
  · exact va_get hx hb (T := TX10) ht ui_X10 hown hK.1 hB.1 q0 hq rfl 0 (by decide) hlink hsame rfl hdg kk
theorem R_getP1 (hx : p.tables.exec = Jvm.exec) (hb : c.code = cc) {own ref : String} {index j : Nat} (ht : ∀ w ∈ tblG, w.before args s = true) (hown : s.vm.findClass own = some m.cls) (hK : tK g s) (hB : tB g P σ A H0 H locs) (hj : isLaw σ j = true) (hlink : (Cond.fieldLink own index ref "a" "I").before args s = true) (hsame : ∀ x, s.fieldFound? "TurnedAbout$Law" "a" "I" = some x → s.fieldFound? ref "a" "I" = some x) (hdg : decode cc pc = .ok (.getfield index, 3))
    (kk : W p l e R s m args below meth c H locs cells slots Q (F0 m (pc + 3) ls (.int (hI σ (100 + j) 1) :: rest))) : W p l e R s m args below meth c H locs cells slots Q (F0 m pc ls (.ref (P j) :: rest)) := by
  obtain ⟨hlt, hc⟩ := isLaw_eq hj
  obtain ⟨q0, hq⟩ := wC_getP (g := g) (P := P) (σ := σ) hlt
  unfold poolX at hq
  rcases hc with h | h | h | h | h | h | h <;> rw [h] at hq
  · exact va_get hx hb (T := TX0) ht ui_X0 hown hK.1 hB.1 q0 hq rfl 1 (by decide) hlink hsame rfl hdg kk
  · exact va_get hx hb (T := TX2) ht ui_X2 hown hK.1 hB.1 q0 hq rfl 1 (by decide) hlink hsame rfl hdg kk
  · exact va_get hx hb (T := TX3) ht ui_X3 hown hK.1 hB.1 q0 hq rfl 1 (by decide) hlink hsame rfl hdg kk
  · exact va_get hx hb (T := TX6) ht ui_X6 hown hK.1 hB.1 q0 hq rfl 1 (by decide) hlink hsame rfl hdg kk
  · exact va_get hx hb (T := TX8) ht ui_X8 hown hK.1 hB.1 q0 hq rfl 1 (by decide) hlink hsame rfl hdg kk
  · exact va_get hx hb (T := TX9) ht ui_X9 hown hK.1 hB.1 q0 hq rfl 1 (by decide) hlink hsame rfl hdg kk
  · exact va_get hx hb (T := TX10) ht ui_X10 hown hK.1 hB.1 q0 hq rfl 1 (by decide) hlink hsame rfl hdg kk
theorem isLaw_cl {σ : Hp} {j : Nat} (h : isLaw σ j = true) : ∃ r : vw_C, vwCl[hC σ j]? = some r := by
  obtain ⟨-, h⟩ := isLaw_eq h
  rcases h with h | h | h | h | h | h | h <;> rw [h] <;> exact ⟨_, rfl⟩
end TR2
theorem itp {β : Type} {c : Prop} [Decidable c] {a b : Option β} {r : β} (h : (if c then a else b) = some r) (hc : c) : a = some r := by rw [if_pos hc] at h; exact h
theorem itn {β : Type} {c : Prop} [Decidable c] {a b : Option β} {r : β} (h : (if c then a else b) = some r) (hc : ¬ c) : b = some r := by rw [if_neg hc] at h; exact h
/-- a contract's walk, from its entry -/
theorem T_start {l : Launch} {g : tG} {P : Nat → Nat} {σ : Hp} {sz : Nat} {y : MethodName} {bytes : ByteArray} {maxL : Nat} {ret : Option FieldType} {rm : Room} {av : List Value} {v : Option Value} {B : (Nat → Prop) → State → Prop} {mc ms : Nat} (hy : plainName y.cls = true) (hlen : (lg_sl av).length ≤ maxL)
    (body : ∀ (p : Program) (e : Env) (s : State) (m : MethodId) (args : Array Value) (below : List Frame) (meth : Method) (c : Code) (ls : Array Slot) (A : Nat → Prop), p.tables.exec = Jvm.exec → c.code = bytes → c.maxLocals = maxL → meth.sig.returnType = ret → s.vm.findClass y.cls = some m.cls → meth.locks = false → (∀ w ∈ tblG, w.before args s = true) → meth.name = y.name → tK g s → tZ g A s s.heap → (∀ q, s.heap.size ≤ q → A q) → tB g P σ A s.heap s.heap [] → lv_has ls maxL (lv_args 0 av) →
      W p l e rm s m args below meth c s.heap [] 0 0 (MQ below (tQ v (B A) A) args s mc ms A) (F0 m 0 ls [])) : Met l y (Cond.code y bytes maxL ret :: tblG) rm (va_Pc av (tPre g P σ sz)) (tQ v (B (va_A (wC g P σ) sz)) (va_A (wC g P σ) sz)) mc ms (va_A (wC g P σ) sz) := by
  refine Met.ofW (cc := bytes) (maxL := maxL) (ret := ret) hy rfl ?_
  intro p e s m args below meth c s₁ Bd hml hv
  obtain ⟨rfl, hsz, hP, hK, hD0, hZ⟩ := hv
  have hts := atoms_spec (ws := Cond.code y bytes maxL ret :: tblG) Bd.pre
  have hown : s.vm.findClass y.cls = some m.cls := findClass_of_methodNamed Bd.named
  have hlocks := Bd.notSynchronized
  subst hsz
  have hD := hD0.self (sz := s.heap.size)
  generalize hAe : va_A (wC g P σ) s.heap.size = A at hD hZ ⊢
  have hA : ∀ q : Nat, s.heap.size ≤ q → A q := fun q h => by rw [← hAe]; exact Or.inr h
  have hl := lv_entry av (n := maxL) hlen
  rw [lg_entry_eq]
  generalize (lg_sl av ++ List.replicate (maxL - (lg_sl av).length) Slot.unset).toArray = ls at hl ⊢
  exact body p e s m av.toArray below meth c ls A Bd.exec Bd.bytes hml Bd.returns hown hlocks (fun w h => hts w (List.mem_cons_of_mem _ h)) (name_of_methodNamed Bd.named Bd.method).1 hK hZ hA ⟨hP, hD, va_S.rf⟩ hl
abbrev WQ (p : Program) (l : Launch) (e : Env) (R : Room) (s : State) (m : MethodId) (args : Array Value) (below : List Frame) (meth : Method) (c : Code) (g : tG) (P : Nat → Nat) (A : Nat → Prop) (v : Option Value) (τ : Hp) (H : Heap) (locs : List Loc) (fr : JFrame) : Prop := W p l e R s m args below meth c H locs 0 0 (MQ below (tQ v (tPost g P τ A) A) args s 0 0 A) fr
