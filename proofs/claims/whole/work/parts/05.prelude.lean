/-! the words of this proof: contracts over worlds, calls, returns, loops -/
abbrev zY : Type := ClassId × ClassId × ClassId × ClassId
abbrev zTy (y : zY) : List (ClassId × FieldType) := [(y.1, .int), (y.2.1, .long), (y.2.2.1, .boolean), (y.2.2.2, .object "WaterGrid$Grid")]
def zPre (D : va_G) (y : zY) (av : List Value) (wc : va_W) (sz : Nat) : Array Value → State → Prop := va_Pc av (fun U => U.heap.size = sz ∧ va_P D vwCl wc U.heap ∧ va_K D vwCl (zTy y) U ∧ va_D (fun _ => True) wc)
def zQ (D : va_G) (y : zY) (A : Nat → Prop) (P : Option Value → va_W → Prop) : Array Value → State → Outcome → State → Prop := fun _ st oc t => (∃ (v : Option Value) (w : va_W), P v w ∧ oc = .returned v ∧ va_P D vwCl w t.heap ∧ va_K D vwCl (zTy y) t ∧ va_D A w) ∧ va_F A st t
/-- a method's contract: from the world wc, with the arguments av, it returns v and leaves the world w, where P v w -/
def zC (l : Launch) (D : va_G) (y : zY) (yn : MethodName) (cb : ByteArray) (mL : Nat) (ret : Option FieldType) (rm : Room) (av : List Value) (wc : va_W) (P : Option Value → va_W → Prop) : Prop :=
  ∀ sz : Nat, Met l yn (Cond.code yn cb mL ret :: wAll) rm (zPre D y av wc sz) (zQ D y (va_A wc sz) P) rm.cells rm.slots (va_A wc sz)
abbrev zE (v : Option Value) (w : va_W) : Option Value → va_W → Prop := fun v' w' => v' = v ∧ w' = w
/-- what stands fixed in a method's body -/
def zX (p : Program) (s : State) (m : MethodId) (args : Array Value) (meth : Method) (c : Code) (D : va_G) (y : zY) (A : Nat → Prop) (own : String) (cc : ByteArray) (mL : Nat) (ret : Option FieldType) : Prop :=
  p.tables.exec = Jvm.exec ∧ c.code = cc ∧ meth.sig.returnType = ret ∧ c.maxLocals = mL ∧ s.vm.findClass own = some m.cls ∧ (∀ w ∈ wAll, w.before args s = true) ∧ va_K D vwCl (zTy y) s ∧ (∀ q : Nat, s.heap.size ≤ q → A q) ∧ meth.locks = false
abbrev zZ (below : List Frame) (D : va_G) (y : zY) (A : Nat → Prop) (P : Option Value → va_W → Prop) (args : Array Value) (s : State) (mc ms : Nat) : State → Prop := MQ below (zQ D y A P) args s mc ms A
theorem zmk {l : Launch} {D : va_G} {y : zY} {yn : MethodName} {cb : ByteArray} {mL : Nat} {ret : Option FieldType} {rm : Room} {av : List Value} {wc : va_W} {P : Option Value → va_W → Prop} (hn : plainName yn.cls = true)
    (body : ∀ (p : Program) (e : Env) (s : State) (m : MethodId) (below : List Frame) (meth : Method) (c : Code) (A : Nat → Prop), zX p s m av.toArray meth c D y A yn.cls cb mL ret → meth.name = yn.name → va_P D vwCl wc s.heap → va_D A wc → va_S A s.heap s.heap [] →
      W p l e rm s m av.toArray below meth c s.heap [] 0 0 (zZ below D y A P av.toArray s rm.cells rm.slots) (entryFrame m av.toArray mL)) : zC l D y yn cb mL ret rm av wc P := by
  intro sz
  refine Met.ofW (cc := cb) (maxL := mL) (ret := ret) hn rfl ?_
  intro p e s m args below meth c s₁ B hml hv
  obtain ⟨rfl, hsz, hP, hK, hD0⟩ := hv
  subst hsz
  have hts := atoms_spec (ws := Cond.code yn cb mL ret :: wAll) B.pre
  exact body p e s m below meth c (va_A wc s.heap.size) ⟨B.exec, B.bytes, B.returns, hml, findClass_of_methodNamed B.named, fun w h => hts w (List.mem_cons_of_mem _ h), hK, fun q h => Or.inr h, B.notSynchronized⟩ (name_of_methodNamed B.named B.method).1 hP (hD0.self (sz := s.heap.size)) va_S.rf
section ZW
variable {p : Program} {l : Launch} {e : Env} {R : Room} {s : State} {m : MethodId} {args : Array Value} {below : List Frame} {meth : Method} {c : Code} {H : Heap} {locs : List Loc} {cells slots : Nat} {Q : State → Prop} {D : va_G} {y : zY} {A : Nat → Prop} {own : String} {cc : ByteArray} {mL : Nat} {ret : Option FieldType} {pc : Nat} {ls : Array Slot} {rest : List Value} {ws : va_W} {a : Nat}
theorem zreti {v : Int32} {ty : FieldType} {w : va_W} {P : Option Value → va_W → Prop} {mc ms : Nat} (X : zX p s m args meth c D y A own cc mL (some ty)) (hP : va_P D vwCl w H) (hD : va_D A w) (hS : va_S A s.heap H locs) (hp : P (some (.int v)) w) (hn : narrow ty (.int v) = .int v) (hd : decode cc pc = .ok (.ireturn, 1)) (hc : cells ≤ mc) (hs : slots ≤ ms) :
    W p l e R s m args below meth c H locs cells slots (zZ below D y A P args s mc ms) (F0 m pc ls [.int v]) := by
  obtain ⟨hx, hb, hr, -, -, -, hK, -, hlocks⟩ := X
  exact W.widen hc hs (W.zret hx hb hr hn (fun t ht hW => ⟨⟨_, w, hp, rfl, by rw [ht]; exact hP, va_K.moved hW.alike hK, hD⟩, hS.F ht⟩) hS.2.2 hd hlocks)
theorem zretl {v : Int64} {w : va_W} {P : Option Value → va_W → Prop} {mc ms : Nat} (X : zX p s m args meth c D y A own cc mL (some .long)) (hP : va_P D vwCl w H) (hD : va_D A w) (hS : va_S A s.heap H locs) (hp : P (some (.long v)) w) (hd : decode cc pc = .ok (.lreturn, 1)) (hc : cells ≤ mc) (hs : slots ≤ ms) :
    W p l e R s m args below meth c H locs cells slots (zZ below D y A P args s mc ms) (F0 m pc ls [.long v]) := by
  obtain ⟨hx, hb, hr, -, -, -, hK, -, hlocks⟩ := X
  exact W.widen hc hs (W.lret hx hb hr (fun t ht hW => ⟨⟨_, w, hp, rfl, by rw [ht]; exact hP, va_K.moved hW.alike hK, hD⟩, hS.F ht⟩) hS.2.2 hd (hlocks := hlocks))
theorem zretv {w : va_W} {P : Option Value → va_W → Prop} {mc ms : Nat} (X : zX p s m args meth c D y A own cc mL none) (hP : va_P D vwCl w H) (hD : va_D A w) (hS : va_S A s.heap H locs) (hp : P none w) (hd : decode cc pc = .ok (.return_, 1)) (hc : cells ≤ mc) (hs : slots ≤ ms) :
    W p l e R s m args below meth c H locs cells slots (zZ below D y A P args s mc ms) (F0 m pc ls []) := by
  obtain ⟨hx, hb, hr, -, -, -, hK, -, hlocks⟩ := X
  exact W.widen hc hs (W.vret hx hb hr (fun t ht hW => ⟨⟨_, w, hp, rfl, by rw [ht]; exact hP, va_K.moved hW.alike hK, hD⟩, hS.F ht⟩) hS.2.2 hd hlocks)
theorem zreta {v : Value} {rt : FieldType} {w : va_W} {P : Option Value → va_W → Prop} {mc ms : Nat} (X : zX p s m args meth c D y A own cc mL (some rt)) (hrt : (∃ n, rt = .object n) ∨ ∃ t, rt = .array t) (hv : v = .null ∨ ∃ a, v = .ref a) (hP : va_P D vwCl w H) (hD : va_D A w) (hS : va_S A s.heap H locs) (hp : P (some v) w) (hd : decode cc pc = .ok (.areturn, 1)) (hc : cells ≤ mc) (hs : slots ≤ ms) :
    W p l e R s m args below meth c H locs cells slots (zZ below D y A P args s mc ms) (F0 m pc ls [v]) := by
  obtain ⟨hx, hb, hr, -, -, -, hK, -, hlocks⟩ := X
  exact W.widen hc hs (W.aret hx hb hr hrt hv (fun t ht hW => ⟨⟨_, w, hp, rfl, by rw [ht]; exact hP, va_K.moved hW.alike hK, hD⟩, hS.F ht⟩) hS.2.2 hd hlocks)
theorem zget (X : zX p s m args meth c D y A own cc mL ret) (hP : va_P D vwCl ws H) (q0 : Nat) {ci idx N : Nat} {C : String} {T : u_T} {fs : List Value} {v : Value} (he : ws[q0]? = some (a, .inr (ci, fs))) (hc : vwCl[ci]? = some (C, T, N)) (hin : ∀ w ∈ u_ws C T N, w ∈ wAll) (k : Nat) (hk : k < N)
    (hl : Cond.fieldLink own idx (T k).1 (T k).2.1 (T k).2.2.1 ∈ wAll) (hv : fs[k]? = some v) (hd : decode cc pc = .ok (.getfield idx, 3)) (kk : W p l e R s m args below meth c H locs cells slots Q (F0 m (pc + 3) ls (v :: rest))) : W p l e R s m args below meth c H locs cells slots Q (F0 m pc ls (.ref a :: rest)) := by
  obtain ⟨hx, hb, hr, hml, hown, hts, hK, hA, hlocks⟩ := X
  exact va_get hx hb hts hin hown hK hP q0 he hc k hk (hts _ hl) (fun _ h => h) hv hd kk
theorem zput (X : zX p s m args meth c D y A own cc mL ret) (hP : va_P D vwCl ws H) (hD : va_D A ws) (hS : va_S A s.heap H locs) (q0 : Nat) {ci idx N : Nat} {C : String} {T : u_T} {fs : List Value} {v : Value} {ty : FieldType} {ty0 : Nat → FieldType} (he : ws[q0]? = some (a, .inr (ci, fs))) (hc : vwCl[ci]? = some (C, T, N)) (hin : ∀ w ∈ u_ws C T N, w ∈ wAll)
    (hty : ∀ k, k < N → parseFieldDescriptor (T k).2.2.1 = some (ty0 k)) (hnm : ∀ a, a < N → ∀ b, b < N → a ≠ b → (T a).2.1 ≠ (T b).2.1) (k : Nat) (hk : k < N) (hl : Cond.fieldLink own idx (T k).1 (T k).2.1 (T k).2.2.1 ∈ wAll) (hfin : (T k).2.2.2 = false) (hd0 : ty0 k = ty) (hn : narrow ty v = v) (hfit : fits ty v = true) (hlen : k < fs.length) (hd : decode cc pc = .ok (.putfield idx, 3))
    (kk : ∀ (H' : Heap) (locs' : List Loc), va_P D vwCl (ws.set q0 (a, .inr (ci, fs.set k v))) H' → va_D A (ws.set q0 (a, .inr (ci, fs.set k v))) → va_S A s.heap H' locs' → W p l e R s m args below meth c H' locs' cells slots Q (F0 m (pc + 3) ls rest)) : W p l e R s m args below meth c H locs cells slots Q (F0 m pc ls (v :: .ref a :: rest)) := by
  obtain ⟨hx, hb, hr, hml, hown, hts, hK, hA, hlocks⟩ := X
  exact va_put hx hb hts hin ty0 hty hnm hown hK hP hD hS q0 he hc k hk (hts _ hl) (fun _ h => h) hfin (hd := by rw [hty k hk, hd0]) hn hfit hlen hd (fun H' locs' h1 h2 h3 => kk H' locs' h1 h2 h3)
end ZW
