section TR
variable {p : Program} {l : Launch} {e : Env} {R : Room} {s : State} {m : MethodId} {args : Array Value} {below : List Frame} {meth : Method} {c : Code} {H : Heap} {locs : List Loc} {cells slots : Nat} {Q : State → Prop}
variable {cc : ByteArray} {pc : Nat} {ls : Array Slot} {rest : List Value} {g : tG} {P : Nat → Nat} {σ : Hp} {A : Nat → Prop} {H0 : Heap}
/-- as R_putI, where the field's place in the state isn't its place in the object -/
theorem R_putIk (hx : p.tables.exec = Jvm.exec) (hb : c.code = cc) {own ref C : String} {T : u_T} {N ci index k : Nat} {Ts : List Cond} {fs : List Value} {v : Int32} {ty : FieldType} (hts : ∀ w ∈ Ts, w.before args s = true) (hin : ∀ w ∈ u_ws C T N, w ∈ Ts) (ty0 : Nat → FieldType) (hty : ∀ k, k < N → parseFieldDescriptor (T k).2.2.1 = some (ty0 k)) (hnm : ∀ a, a < N → ∀ b, b < N → a ≠ b → (T a).2.1 ≠ (T b).2.1) (hown : s.vm.findClass own = some m.cls) (hK : tK g s) (hB : tB g P σ A H0 H locs)
    (hk : k ∈ idL) (hcell : cellX g P σ k = .inr (ci, fs)) (hc : vwCl[ci]? = some (C, T, N)) (i : Nat) {i9 : Nat} (hi : i < N) (hlink : (Cond.fieldLink own index ref (T i).2.1 (T i).2.2.1).before args s = true) (hsame : ∀ x, s.fieldFound? (T i).1 (T i).2.1 (T i).2.2.1 = some x → s.fieldFound? ref (T i).2.1 (T i).2.2.1 = some x) (hfin : (T i).2.2.2 = false) (hd : parseFieldDescriptor (T i).2.2.1 = some ty) (hn : narrow ty (.int v) = .int v) (hfit : fits ty (.int v) = true) (hl : i < fs.length)
    (hset : cellX g P (sI σ k i9 v) k = .inr (ci, fs.set i (.int v))) (hdg : decode cc pc = .ok (.putfield index, 3))
    (kk : ∀ (H1 : Heap) (locs1 : List Loc), tB g P (sI σ k i9 v) A H0 H1 locs1 → W p l e R s m args below meth c H1 locs1 cells slots Q (F0 m (pc + 3) ls rest)) : W p l e R s m args below meth c H locs cells slots Q (F0 m pc ls (.int v :: .ref (gL g k) :: rest)) := by
  obtain ⟨q0, hq⟩ := wC_get (g := g) (P := P) (σ := σ) hk
  rw [hcell] at hq
  refine va_put hx hb hts hin ty0 hty hnm hown hK.1 hB.1 hB.2.1 hB.2.2 q0 hq hc i hi hlink hsame hfin hd hn hfit hl hdg (fun H1 locs1 hP hD hS => kk H1 locs1 ?_)
  rw [wC_setI hk hB.2.1 hq hset] at hP hD
  exact ⟨hP, hD, hS⟩
end TR
