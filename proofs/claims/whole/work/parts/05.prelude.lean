/-! the words of this proof: contracts over worlds, calls, returns, loops -/
abbrev zY : Type := ClassId × ClassId × ClassId × ClassId
abbrev zTy (y : zY) : List (ClassId × FieldType) := [(y.1, .int), (y.2.1, .long), (y.2.2.1, .boolean), (y.2.2.2, .object "WaterGrid$Grid")]
def zPre (D : va_G) (y : zY) (av : List Value) (wc : va_W) (sz : Nat) : Array Value → State → Prop := va_Pc av (fun U => U.heap.size = sz ∧ va_P D vwCl wc U.heap ∧ va_K D vwCl (zTy y) U ∧ va_D (fun _ => True) wc ∧ zN (va_A wc sz) U U.heap)
def zQ (D : va_G) (y : zY) (A : Nat → Prop) (P : Option Value → va_W → Prop) : Array Value → State → Outcome → State → Prop := fun _ st oc t => (∃ (v : Option Value) (w : va_W), P v w ∧ oc = .returned v ∧ va_P D vwCl w t.heap ∧ va_K D vwCl (zTy y) t ∧ va_D A w) ∧ va_F A st t
/-- a method's contract: from the world wc, with the arguments av, it returns v and leaves the world w, where P v w -/
def zC (l : Launch) (D : va_G) (y : zY) (yn : MethodName) (cb : ByteArray) (mL : Nat) (ret : Option FieldType) (rm : Room) (av : List Value) (wc : va_W) (P : Option Value → va_W → Prop) : Prop :=
  ∀ sz : Nat, Met l yn (Cond.code yn cb mL ret :: wAll) rm (zPre D y av wc sz) (zQ D y (va_A wc sz) P) rm.cells rm.slots (va_A wc sz)
abbrev zE (v : Option Value) (w : va_W) : Option Value → va_W → Prop := fun v' w' => v' = v ∧ w' = w
/-- what stands fixed in a method's body -/
def zX (p : Program) (s : State) (m : MethodId) (args : Array Value) (meth : Method) (c : Code) (D : va_G) (y : zY) (A : Nat → Prop) (own : String) (cc : ByteArray) (mL : Nat) (ret : Option FieldType) : Prop :=
  p.tables.exec = Jvm.exec ∧ c.code = cc ∧ meth.sig.returnType = ret ∧ c.maxLocals = mL ∧ s.vm.findClass own = some m.cls ∧ (∀ w ∈ wAll, w.before args s = true) ∧ va_K D vwCl (zTy y) s ∧ (∀ q : Nat, s.heap.size ≤ q → A q) ∧ meth.locks = false ∧ zN A s s.heap
abbrev zZ (below : List Frame) (D : va_G) (y : zY) (A : Nat → Prop) (P : Option Value → va_W → Prop) (args : Array Value) (s : State) (mc ms : Nat) : State → Prop := MQ below (zQ D y A P) args s mc ms A
theorem zmk {l : Launch} {D : va_G} {y : zY} {yn : MethodName} {cb : ByteArray} {mL : Nat} {ret : Option FieldType} {rm : Room} {av : List Value} {wc : va_W} {P : Option Value → va_W → Prop} (hn : plainName yn.cls = true) (hav : (lg_sl av).length ≤ mL)
    (body : ∀ (p : Program) (e : Env) (s : State) (m : MethodId) (args : Array Value) (below : List Frame) (meth : Method) (c : Code) (A : Nat → Prop) (Q : State → Prop) (ls : Array Slot), zX p s m args meth c D y A yn.cls cb mL ret → Q = zZ below D y A P args s rm.cells rm.slots → meth.name = yn.name → va_P D vwCl wc s.heap → va_D A wc → va_S A s.heap s.heap [] → lv_has ls mL (lv_args 0 av) →
      W p l e rm s m args below meth c s.heap [] 0 0 Q (F0 m 0 ls [])) : zC l D y yn cb mL ret rm av wc P := by
  intro sz
  refine Met.ofW (cc := cb) (maxL := mL) (ret := ret) hn rfl ?_
  intro p e s m args below meth c s₁ B hml hv
  obtain ⟨rfl, hsz, hP, hK, hD0, hN⟩ := hv
  subst hsz
  have hts := atoms_spec (ws := Cond.code yn cb mL ret :: wAll) B.pre
  rw [lg_entry_eq]
  exact body p e s m av.toArray below meth c (va_A wc s.heap.size) _ _ ⟨B.exec, B.bytes, B.returns, hml, findClass_of_methodNamed B.named, fun w h => hts w (List.mem_cons_of_mem _ h), hK, fun q h => Or.inr h, B.notSynchronized, hN⟩ rfl (name_of_methodNamed B.named B.method).1 hP (hD0.self (sz := s.heap.size)) va_S.rf (lv_entry av hav)
section ZW
variable {p : Program} {l : Launch} {e : Env} {R : Room} {s : State} {m : MethodId} {args : Array Value} {below : List Frame} {meth : Method} {c : Code} {H : Heap} {locs : List Loc} {cells slots : Nat} {Q : State → Prop} {D : va_G} {y : zY} {A : Nat → Prop} {own : String} {cc : ByteArray} {mL : Nat} {ret : Option FieldType} {pc : Nat} {ls : Array Slot} {rest : List Value} {ws : va_W} {a : Nat}
theorem zreti {v : Int32} {ty : FieldType} {w : va_W} {P : Option Value → va_W → Prop} {mc ms : Nat} (X : zX p s m args meth c D y A own cc mL (some ty)) (hQ : Q = zZ below D y A P args s mc ms) (hP : va_P D vwCl w H) (hD : va_D A w) (hS : va_S A s.heap H locs) (hp : P (some (.int v)) w) (hn : narrow ty (.int v) = .int v) (hd : decode cc pc = .ok (.ireturn, 1)) (hc : cells ≤ mc) (hs : slots ≤ ms) :
    W p l e R s m args below meth c H locs cells slots Q (F0 m pc ls [.int v]) := by
  obtain ⟨hx, hb, hr, -, -, -, hK, -, hlocks, -⟩ := X
  subst hQ
  exact W.widen hc hs (W.zret hx hb hr hn (fun t ht hW => ⟨⟨_, w, hp, rfl, by rw [ht]; exact hP, va_K.moved hW.alike hK, hD⟩, hS.F ht⟩) hS.2.2 hd hlocks)
theorem zretl {v : Int64} {w : va_W} {P : Option Value → va_W → Prop} {mc ms : Nat} (X : zX p s m args meth c D y A own cc mL (some .long)) (hQ : Q = zZ below D y A P args s mc ms) (hP : va_P D vwCl w H) (hD : va_D A w) (hS : va_S A s.heap H locs) (hp : P (some (.long v)) w) (hd : decode cc pc = .ok (.lreturn, 1)) (hc : cells ≤ mc) (hs : slots ≤ ms) :
    W p l e R s m args below meth c H locs cells slots Q (F0 m pc ls [.long v]) := by
  obtain ⟨hx, hb, hr, -, -, -, hK, -, hlocks, -⟩ := X
  subst hQ
  exact W.widen hc hs (W.lret hx hb hr (fun t ht hW => ⟨⟨_, w, hp, rfl, by rw [ht]; exact hP, va_K.moved hW.alike hK, hD⟩, hS.F ht⟩) hS.2.2 hd (hlocks := hlocks))
theorem zretv {w : va_W} {P : Option Value → va_W → Prop} {mc ms : Nat} (X : zX p s m args meth c D y A own cc mL none) (hQ : Q = zZ below D y A P args s mc ms) (hP : va_P D vwCl w H) (hD : va_D A w) (hS : va_S A s.heap H locs) (hp : P none w) (hd : decode cc pc = .ok (.return_, 1)) (hc : cells ≤ mc) (hs : slots ≤ ms) :
    W p l e R s m args below meth c H locs cells slots Q (F0 m pc ls []) := by
  obtain ⟨hx, hb, hr, -, -, -, hK, -, hlocks, -⟩ := X
  subst hQ
  exact W.widen hc hs (W.vret hx hb hr (fun t ht hW => ⟨⟨_, w, hp, rfl, by rw [ht]; exact hP, va_K.moved hW.alike hK, hD⟩, hS.F ht⟩) hS.2.2 hd hlocks)
theorem zreta {v : Value} {rt : FieldType} {w : va_W} {P : Option Value → va_W → Prop} {mc ms : Nat} (X : zX p s m args meth c D y A own cc mL (some rt)) (hrt : (∃ n, rt = .object n) ∨ ∃ t, rt = .array t) (hv : v = .null ∨ ∃ a, v = .ref a) (hQ : Q = zZ below D y A P args s mc ms) (hP : va_P D vwCl w H) (hD : va_D A w) (hS : va_S A s.heap H locs) (hp : P (some v) w) (hd : decode cc pc = .ok (.areturn, 1)) (hc : cells ≤ mc) (hs : slots ≤ ms) :
    W p l e R s m args below meth c H locs cells slots Q (F0 m pc ls [v]) := by
  obtain ⟨hx, hb, hr, -, -, -, hK, -, hlocks, -⟩ := X
  subst hQ
  exact W.widen hc hs (W.aret hx hb hr hrt hv (fun t ht hW => ⟨⟨_, w, hp, rfl, by rw [ht]; exact hP, va_K.moved hW.alike hK, hD⟩, hS.F ht⟩) hS.2.2 hd hlocks)
theorem zget (X : zX p s m args meth c D y A own cc mL ret) (hP : va_P D vwCl ws H) (q0 : Nat) {ci idx N : Nat} {C : String} {T : u_T} {fs : List Value} {v : Value} (he : ws[q0]? = some (a, .inr (ci, fs))) (hc : vwCl[ci]? = some (C, T, N)) (hin : ∀ w ∈ u_ws C T N, w ∈ wAll) (k : Nat) (hk : k < N)
    (hl : Cond.fieldLink own idx (T k).1 (T k).2.1 (T k).2.2.1 ∈ wAll) (hv : fs[k]? = some v) (hd : decode cc pc = .ok (.getfield idx, 3)) (kk : W p l e R s m args below meth c H locs cells slots Q (F0 m (pc + 3) ls (v :: rest))) : W p l e R s m args below meth c H locs cells slots Q (F0 m pc ls (.ref a :: rest)) := by
  obtain ⟨hx, hb, hr, hml, hown, hts, hK, hA, hlocks, hN⟩ := X
  exact va_get hx hb hts hin hown hK hP q0 he hc k hk (hts _ hl) (fun _ h => h) hv hd kk
theorem zput (X : zX p s m args meth c D y A own cc mL ret) (hP : va_P D vwCl ws H) (hD : va_D A ws) (hS : va_S A s.heap H locs) (q0 : Nat) {ci idx N : Nat} {C : String} {T : u_T} {fs : List Value} {v : Value} {ty : FieldType} {ty0 : Nat → FieldType} (he : ws[q0]? = some (a, .inr (ci, fs))) (hc : vwCl[ci]? = some (C, T, N)) (hin : ∀ w ∈ u_ws C T N, w ∈ wAll)
    (hty : ∀ k, k < N → parseFieldDescriptor (T k).2.2.1 = some (ty0 k)) (hnm : ∀ a, a < N → ∀ b, b < N → a ≠ b → (T a).2.1 ≠ (T b).2.1) (k : Nat) (hk : k < N) (hl : Cond.fieldLink own idx (T k).1 (T k).2.1 (T k).2.2.1 ∈ wAll) (hfin : (T k).2.2.2 = false) (hd0 : ty0 k = ty) (hn : narrow ty v = v) (hfit : fits ty v = true) (hlen : k < fs.length) (hd : decode cc pc = .ok (.putfield idx, 3))
    (kk : ∀ (H' : Heap) (locs' : List Loc), va_P D vwCl (ws.set q0 (a, .inr (ci, fs.set k v))) H' → va_D A (ws.set q0 (a, .inr (ci, fs.set k v))) → va_S A s.heap H' locs' → W p l e R s m args below meth c H' locs' cells slots Q (F0 m (pc + 3) ls rest)) : W p l e R s m args below meth c H locs cells slots Q (F0 m pc ls (v :: .ref a :: rest)) := by
  obtain ⟨hx, hb, hr, hml, hown, hts, hK, hA, hlocks, hN⟩ := X
  exact va_put hx hb hts hin ty0 hty hnm hown hK hP hD hS q0 he hc k hk (hts _ hl) (fun _ h => h) hfin (hd := by rw [hty k hk, hd0]) hn hfit hlen hd (fun H' locs' h1 h2 h3 => kk H' locs' h1 h2 h3)
end ZW
/-! calls -/
def zCB (own : String) (idx : Nat) (yn : MethodName) (cb : ByteArray) (mL : Nat) (ret : Option FieldType) (n : Nat) : Prop :=
  Cond.code yn cb mL ret ∈ wAll ∧ Cond.initialized yn.cls ∈ wAll ∧ Cond.methodLink own idx yn ∈ wAll ∧ (yn.cls ≠ "java/lang/invoke/MethodHandle" ∧ yn.cls ≠ "java/lang/invoke/VarHandle" ∧ (parseMethodDescriptor yn.desc).map (fun d => d.parameters.length) = some n)
theorem zblind {D : va_G} {y : zY} {av : List Value} {wc : va_W} {sz : Nat} : FrameBlind (zPre D y av wc sz) := fun a U g mk q => by
  obtain ⟨q0, q1, qP, qK, qD, qN⟩ := q
  exact ⟨q0, q1, qP, va_K.moved (u := U) (U := U.calling g mk a) (Vm.Alike.refl U.vm) qK, qD, zN.same (u := U) (U := U.calling g mk a) qN rfl⟩
section ZC
variable {p : Program} {l : Launch} {e : Env} {R : Room} {s : State} {m : MethodId} {args : Array Value} {below : List Frame} {meth : Method} {c : Code} {H : Heap} {locs : List Loc} {cells slots : Nat} {Q : State → Prop} {D : va_G} {y : zY} {A : Nat → Prop} {own : String} {cc : ByteArray} {mL : Nat} {ret : Option FieldType} {pc : Nat} {ls : Array Slot} {rest : List Value} {ws wc wr : va_W} {b : Nat}
variable {yn : MethodName} {cb : ByteArray} {mL' idx n : Nat} {ret' : Option FieldType} {rm : Room} {av : List Value} {P : Option Value → va_W → Prop} {st : List Value}
theorem zcb (X : zX p s m args meth c D y A own cc mL ret) (cf : zCB own idx yn cb mL' ret' n) (hR : rm.frames + 1 ≤ R.frames ∧ 8 + (mL' + 11) + rm.locals ≤ R.locals) : CallB R s args own idx yn cb mL' ret' (Cond.code yn cb mL' ret' :: wAll) rm rm.cells rm.slots n := by
  obtain ⟨hx, hb, hr, hml, hown, hts, hK, hA, hlocks, hN⟩ := X
  obtain ⟨c1, c2, c3, c4⟩ := cf
  exact callB_of n hts (fun w h => (List.mem_cons.mp h).elim (fun e => e ▸ wAll_good _ c1) (fun h => wAll_good _ h)) rfl rfl rfl (hts _ c2) (hts _ c3) c4 hR
theorem zpre (X : zX p s m args meth c D y A own cc mL ret) (hP : va_P D vwCl wc H) (hD : va_D A wc) (hS : va_S A s.heap H locs) (hF : ∀ q, va_A wc H.size q → A q) : PreS s H (zPre D y av wc H.size) av := by
  obtain ⟨hx, hb, hr, hml, hown, hts, hK, hA, hlocks, hN⟩ := X
  exact ⟨zblind, fun U hU hW => ⟨rfl, by rw [hU], by rw [hU]; exact hP, va_K.moved hW.alike hK, hD.weaken (fun _ _ _ _ => trivial), by rw [hU]; exact hN.go hS.2.1 hF hW⟩⟩
theorem zPsub {ws' : va_W} {is : List Nat} (h : va_P D vwCl ws H) (hs : is.map (fun i => ws[i]?) = ws'.map some) : va_P D vwCl ws' H := h.sub is (by
  have h1 : ∀ (is : List Nat) (w : va_W), is.map (fun i => ws[i]?) = w.map some → is.filterMap (fun i => ws[i]?) = w := by
    intro is
    induction is with
    | nil => intro w h; cases w with
      | nil => rfl
      | cons a t => simp at h
    | cons i is ih => intro w h; cases w with
      | nil => simp at h
      | cons a t =>
        simp only [List.map_cons, List.cons.injEq] at h
        rw [List.filterMap_cons, h.1]
        exact congrArg _ (ih t h.2)
  exact h1 is ws' hs)
/-- behind a call: the callee's cells as it left them, beside the rest -/
theorem zafter {mc ms : Nat} (X : zX p s m args meth c D y A own cc mL ret) (hP : va_P D vwCl ws H) (hD : va_D A ws) (hS : va_S A s.heap H locs) (isC isR : List Nat) (hc : isC.map (fun i => ws[i]?) = wc.map some) (hr : isR.map (fun i => ws[i]?) = wr.map some) (hn : va_nd isR = true) (hdis : ∀ i ∈ isR, i ∉ isC)
    (hrun : va_Run p l e R s m args below meth c H locs cells slots mc ms (F0 m pc ls st) rest (zQ D y (va_A wc H.size) P av.toArray) (va_A wc H.size))
    (k : ∀ (v : Option Value) (w : va_W), P v w → ∀ (H' : Heap) (locs' : List Loc), va_P D vwCl (wr ++ w) H' → va_D A (wr ++ w) → va_S A s.heap H' locs' → W p l e R s m args below meth c H' locs' (cells + mc) (slots + ms) Q (F0 m (pc + 3) ls (v.toList ++ rest))) : W p l e R s m args below meth c H locs cells slots Q (F0 m pc ls st) := by
  obtain ⟨hx, hb, hr', hml, hown, hts, hK, hA, hlocks, hN⟩ := X
  have hF := va_free (wc := wc) hD hS hA isC hc
  intro T hT X0
  obtain ⟨v, st₀, t, T', L, h0, X', hL, e1, e2, ⟨⟨v', w, hp, hv, hPw, hKw, hDw⟩, hz, hk⟩, st⟩ := hrun T hT X0
  cases hv
  rw [h0] at hz hk
  rw [← e1] at hPw hz hk
  obtain ⟨hP', hD'⟩ := va_join hP hD isC isR hc hr hn hdis hk hF hPw hDw
  obtain ⟨t2, a1, b1⟩ := k v w hp T'.heap (locs ++ L) hP' hD' ⟨Nat.le_trans hS.1 hz, fun q h1 h2 => by rw [hk q (Nat.lt_of_lt_of_le h1 hS.1) (fun z => h2 (hF q z))]; exact hS.2.1 q h1 h2, fun q hq => by
      rcases List.mem_append.mp hq with h | h
      · exact hS.2.2 q h
      · exact hF _ (hL q h)⟩ T' rfl X'
  exact ⟨t2, st t2 a1, b1⟩
theorem zcS (X : zX p s m args meth c D y A own cc mL ret) (hC : zC l D y yn cb mL' ret' rm av wc P) (cf : zCB own idx yn cb mL' ret' n ∧ Cond.static yn ∈ wAll) (hR : rm.frames + 1 ≤ R.frames ∧ 8 + (mL' + 11) + rm.locals ≤ R.locals) (hP : va_P D vwCl ws H) (hD : va_D A ws) (hS : va_S A s.heap H locs) (isC isR : List Nat) (hc : isC.map (fun i => ws[i]?) = wc.map some) (hr : isR.map (fun i => ws[i]?) = wr.map some) (hn : va_nd isR = true) (hnC : va_nd isC = true) (hdis : ∀ i ∈ isR, i ∉ isC)
    (hst : st = av.reverse ++ rest) (hlen : av.length = n) (hls : ls.size = mL) (hW : (rest.map fun v => v.category).sum ≤ 8) (hd : decode cc pc = .ok (.invokestatic idx, 3)) (hcl : cells + rm.cells ≤ R.cells ∧ slots + rm.slots ≤ R.slots)
    (k : ∀ (v : Option Value) (w : va_W), P v w → ∀ (H' : Heap) (locs' : List Loc), va_P D vwCl (wr ++ w) H' → va_D A (wr ++ w) → va_S A s.heap H' locs' → W p l e R s m args below meth c H' locs' (cells + rm.cells) (slots + rm.slots) Q (F0 m (pc + 3) ls (v.toList ++ rest))) : W p l e R s m args below meth c H locs cells slots Q (F0 m pc ls st) := by
  obtain ⟨hx, hb, hr', hml, hown, hts, hK, hA, hlocks, hN⟩ := id X
  exact zafter X hP hD hS isC isR hc hr hn hdis (va_runS (As := av) (rest := rest) ⟨hx, hb, hml, hown, hts⟩ (hC H.size) ⟨zcb X cf.1 hR, hts _ cf.2⟩ (zpre X (zPsub hP hc) (hD.sub isC hnC hc) hS (va_free hD hS hA isC hc)) rfl hlen hls hst (lv_room hW) hd hcl) k
theorem zcV (X : zX p s m args meth c D y A own cc mL ret) (hC : zC l D y yn cb mL' ret' rm (.ref b :: av) wc P) (cf : zCB own idx yn cb mL' ret' n ∧ Cond.instanceMethod yn ∈ wAll ∧ Cond.selects yn.cls yn yn ∈ wAll) (hR : rm.frames + 1 ≤ R.frames ∧ 8 + (mL' + 11) + rm.locals ≤ R.locals) (hP : va_P D vwCl ws H) (hD : va_D A ws) (hS : va_S A s.heap H locs) (isC isR : List Nat) (hc : isC.map (fun i => ws[i]?) = wc.map some) (hr : isR.map (fun i => ws[i]?) = wr.map some) (hn : va_nd isR = true) (hnC : va_nd isC = true) (hdis : ∀ i ∈ isR, i ∉ isC)
    (q0 : Nat) {ci : Nat} {fs : List Value} {T : u_T} {N : Nat} (hci : vwCl[ci]? = some (yn.cls, T, N)) (hb0 : ws[q0]? = some (b, .inr (ci, fs))) (hst : st = av.reverse ++ .ref b :: rest) (hlen : av.length = n) (hls : ls.size = mL) (hW : (rest.map fun v => v.category).sum ≤ 8) (hd : decode cc pc = .ok (.invokevirtual idx, 3)) (hcl : cells + rm.cells ≤ R.cells ∧ slots + rm.slots ≤ R.slots)
    (k : ∀ (v : Option Value) (w : va_W), P v w → ∀ (H' : Heap) (locs' : List Loc), va_P D vwCl (wr ++ w) H' → va_D A (wr ++ w) → va_S A s.heap H' locs' → W p l e R s m args below meth c H' locs' (cells + rm.cells) (slots + rm.slots) Q (F0 m (pc + 3) ls (v.toList ++ rest))) : W p l e R s m args below meth c H locs cells slots Q (F0 m pc ls st) := by
  obtain ⟨hx, hb, hr', hml, hown, hts, hK, hA, hlocks, hN⟩ := id X
  have hpre := zpre (av := .ref b :: av) X (zPsub hP hc) (hD.sub isC hnC hc) hS (va_free hD hS hA isC hc)
  exact zafter X hP hD hS isC isR hc hr hn hdis (va_runV (As := av) (rest := rest) ⟨hx, hb, hml, hown, hts⟩ (hC H.size) ⟨zcb X cf.1 hR, hts _ cf.2.1, hts _ cf.2.2⟩ ⟨hpre.1, va_recv hK hP hci hb0, hpre.2⟩ rfl hlen hls hst (lv_room hW) hd hcl) k
theorem zcI (X : zX p s m args meth c D y A own cc mL ret) (hC : zC l D y yn cb mL' none rm (.ref b :: av) wc P) (cf : zCB own idx yn cb mL' none n ∧ Cond.instanceMethod yn ∈ wAll ∧ yn.name = "<init>") (hR : rm.frames + 1 ≤ R.frames ∧ 8 + (mL' + 11) + rm.locals ≤ R.locals) (hP : va_P D vwCl ws H) (hD : va_D A ws) (hS : va_S A s.heap H locs) (isC isR : List Nat) (hc : isC.map (fun i => ws[i]?) = wc.map some) (hr : isR.map (fun i => ws[i]?) = wr.map some) (hn : va_nd isR = true) (hnC : va_nd isC = true) (hdis : ∀ i ∈ isR, i ∉ isC)
    (hst : st = av.reverse ++ .ref b :: rest) (hlen : av.length = n) (hls : ls.size = mL) (hW : (rest.map fun v => v.category).sum ≤ 8) (hd : decode cc pc = .ok (.invokespecial idx, 3)) (hcl : cells + rm.cells ≤ R.cells ∧ slots + rm.slots ≤ R.slots)
    (k : ∀ (v : Option Value) (w : va_W), P v w → ∀ (H' : Heap) (locs' : List Loc), va_P D vwCl (wr ++ w) H' → va_D A (wr ++ w) → va_S A s.heap H' locs' → W p l e R s m args below meth c H' locs' (cells + rm.cells) (slots + rm.slots) Q (F0 m (pc + 3) ls (v.toList ++ rest))) : W p l e R s m args below meth c H locs cells slots Q (F0 m pc ls st) := by
  obtain ⟨hx, hb, hr', hml, hown, hts, hK, hA, hlocks, hN⟩ := id X
  exact zafter X hP hD hS isC isR hc hr hn hdis (va_runI (As := av) (rest := rest) ⟨hx, hb, hml, hown, hts⟩ (hC H.size) ⟨zcb X cf.1 hR, cf.2.2, hts _ cf.2.1⟩ (zpre X (zPsub hP hc) (hD.sub isC hnC hc) hS (va_free hD hS hA isC hc)) rfl hlen hls hst (lv_room hW) hd hcl) k
theorem zcS1 {val : Value} {w : va_W} (X : zX p s m args meth c D y A own cc mL ret) (hC : zC l D y yn cb mL' ret' rm av wc (zE (some val) w)) (cf : zCB own idx yn cb mL' ret' n ∧ Cond.static yn ∈ wAll) (hR : rm.frames + 1 ≤ R.frames ∧ 8 + (mL' + 11) + rm.locals ≤ R.locals) (hP : va_P D vwCl ws H) (hD : va_D A ws) (hS : va_S A s.heap H locs) (isC isR : List Nat) (hc : isC.map (fun i => ws[i]?) = wc.map some) (hr : isR.map (fun i => ws[i]?) = wr.map some) (hn : va_nd isR = true) (hnC : va_nd isC = true) (hdis : ∀ i ∈ isR, i ∉ isC)
    (hst : st = av.reverse ++ rest) (hlen : av.length = n) (hls : ls.size = mL) (hW : (rest.map fun v => v.category).sum ≤ 8) (hd : decode cc pc = .ok (.invokestatic idx, 3)) (hcl : cells + rm.cells ≤ R.cells ∧ slots + rm.slots ≤ R.slots) (k : ∀ (H' : Heap) (locs' : List Loc), va_P D vwCl (wr ++ w) H' → va_D A (wr ++ w) → va_S A s.heap H' locs' → W p l e R s m args below meth c H' locs' (cells + rm.cells) (slots + rm.slots) Q (F0 m (pc + 3) ls (val :: rest))) : W p l e R s m args below meth c H locs cells slots Q (F0 m pc ls st) :=
  zcS X hC cf hR hP hD hS isC isR hc hr hn hnC hdis hst hlen hls hW hd hcl (fun v' w' hp H' locs' h1 h2 h3 => by
    obtain ⟨rfl, rfl⟩ := hp
    exact k H' locs' h1 h2 h3)
theorem zcS0 {w : va_W} (X : zX p s m args meth c D y A own cc mL ret) (hC : zC l D y yn cb mL' ret' rm av wc (zE none w)) (cf : zCB own idx yn cb mL' ret' n ∧ Cond.static yn ∈ wAll) (hR : rm.frames + 1 ≤ R.frames ∧ 8 + (mL' + 11) + rm.locals ≤ R.locals) (hP : va_P D vwCl ws H) (hD : va_D A ws) (hS : va_S A s.heap H locs) (isC isR : List Nat) (hc : isC.map (fun i => ws[i]?) = wc.map some) (hr : isR.map (fun i => ws[i]?) = wr.map some) (hn : va_nd isR = true) (hnC : va_nd isC = true) (hdis : ∀ i ∈ isR, i ∉ isC)
    (hst : st = av.reverse ++ rest) (hlen : av.length = n) (hls : ls.size = mL) (hW : (rest.map fun v => v.category).sum ≤ 8) (hd : decode cc pc = .ok (.invokestatic idx, 3)) (hcl : cells + rm.cells ≤ R.cells ∧ slots + rm.slots ≤ R.slots) (k : ∀ (H' : Heap) (locs' : List Loc), va_P D vwCl (wr ++ w) H' → va_D A (wr ++ w) → va_S A s.heap H' locs' → W p l e R s m args below meth c H' locs' (cells + rm.cells) (slots + rm.slots) Q (F0 m (pc + 3) ls rest)) : W p l e R s m args below meth c H locs cells slots Q (F0 m pc ls st) :=
  zcS X hC cf hR hP hD hS isC isR hc hr hn hnC hdis hst hlen hls hW hd hcl (fun v' w' hp H' locs' h1 h2 h3 => by
    obtain ⟨rfl, rfl⟩ := hp
    exact k H' locs' h1 h2 h3)
theorem zcV1 {val : Value} {w : va_W} (X : zX p s m args meth c D y A own cc mL ret) (hC : zC l D y yn cb mL' ret' rm (.ref b :: av) wc (zE (some val) w)) (cf : zCB own idx yn cb mL' ret' n ∧ Cond.instanceMethod yn ∈ wAll ∧ Cond.selects yn.cls yn yn ∈ wAll) (hR : rm.frames + 1 ≤ R.frames ∧ 8 + (mL' + 11) + rm.locals ≤ R.locals) (hP : va_P D vwCl ws H) (hD : va_D A ws) (hS : va_S A s.heap H locs) (isC isR : List Nat) (hc : isC.map (fun i => ws[i]?) = wc.map some) (hr : isR.map (fun i => ws[i]?) = wr.map some) (hn : va_nd isR = true) (hnC : va_nd isC = true) (hdis : ∀ i ∈ isR, i ∉ isC)
    (q0 : Nat) {ci : Nat} {fs : List Value} {T : u_T} {N : Nat} (hci : vwCl[ci]? = some (yn.cls, T, N)) (hb0 : ws[q0]? = some (b, .inr (ci, fs))) (hst : st = av.reverse ++ .ref b :: rest) (hlen : av.length = n) (hls : ls.size = mL) (hW : (rest.map fun v => v.category).sum ≤ 8) (hd : decode cc pc = .ok (.invokevirtual idx, 3)) (hcl : cells + rm.cells ≤ R.cells ∧ slots + rm.slots ≤ R.slots) (k : ∀ (H' : Heap) (locs' : List Loc), va_P D vwCl (wr ++ w) H' → va_D A (wr ++ w) → va_S A s.heap H' locs' → W p l e R s m args below meth c H' locs' (cells + rm.cells) (slots + rm.slots) Q (F0 m (pc + 3) ls (val :: rest))) : W p l e R s m args below meth c H locs cells slots Q (F0 m pc ls st) :=
  zcV X hC cf hR hP hD hS isC isR hc hr hn hnC hdis q0 hci hb0 hst hlen hls hW hd hcl (fun v' w' hp H' locs' h1 h2 h3 => by
    obtain ⟨rfl, rfl⟩ := hp
    exact k H' locs' h1 h2 h3)
theorem zcV0 {w : va_W} (X : zX p s m args meth c D y A own cc mL ret) (hC : zC l D y yn cb mL' ret' rm (.ref b :: av) wc (zE none w)) (cf : zCB own idx yn cb mL' ret' n ∧ Cond.instanceMethod yn ∈ wAll ∧ Cond.selects yn.cls yn yn ∈ wAll) (hR : rm.frames + 1 ≤ R.frames ∧ 8 + (mL' + 11) + rm.locals ≤ R.locals) (hP : va_P D vwCl ws H) (hD : va_D A ws) (hS : va_S A s.heap H locs) (isC isR : List Nat) (hc : isC.map (fun i => ws[i]?) = wc.map some) (hr : isR.map (fun i => ws[i]?) = wr.map some) (hn : va_nd isR = true) (hnC : va_nd isC = true) (hdis : ∀ i ∈ isR, i ∉ isC)
    (q0 : Nat) {ci : Nat} {fs : List Value} {T : u_T} {N : Nat} (hci : vwCl[ci]? = some (yn.cls, T, N)) (hb0 : ws[q0]? = some (b, .inr (ci, fs))) (hst : st = av.reverse ++ .ref b :: rest) (hlen : av.length = n) (hls : ls.size = mL) (hW : (rest.map fun v => v.category).sum ≤ 8) (hd : decode cc pc = .ok (.invokevirtual idx, 3)) (hcl : cells + rm.cells ≤ R.cells ∧ slots + rm.slots ≤ R.slots) (k : ∀ (H' : Heap) (locs' : List Loc), va_P D vwCl (wr ++ w) H' → va_D A (wr ++ w) → va_S A s.heap H' locs' → W p l e R s m args below meth c H' locs' (cells + rm.cells) (slots + rm.slots) Q (F0 m (pc + 3) ls rest)) : W p l e R s m args below meth c H locs cells slots Q (F0 m pc ls st) :=
  zcV X hC cf hR hP hD hS isC isR hc hr hn hnC hdis q0 hci hb0 hst hlen hls hW hd hcl (fun v' w' hp H' locs' h1 h2 h3 => by
    obtain ⟨rfl, rfl⟩ := hp
    exact k H' locs' h1 h2 h3)
theorem zcI0 {w : va_W} (X : zX p s m args meth c D y A own cc mL ret) (hC : zC l D y yn cb mL' none rm (.ref b :: av) wc (zE none w)) (cf : zCB own idx yn cb mL' none n ∧ Cond.instanceMethod yn ∈ wAll ∧ yn.name = "<init>") (hR : rm.frames + 1 ≤ R.frames ∧ 8 + (mL' + 11) + rm.locals ≤ R.locals) (hP : va_P D vwCl ws H) (hD : va_D A ws) (hS : va_S A s.heap H locs) (isC isR : List Nat) (hc : isC.map (fun i => ws[i]?) = wc.map some) (hr : isR.map (fun i => ws[i]?) = wr.map some) (hn : va_nd isR = true) (hnC : va_nd isC = true) (hdis : ∀ i ∈ isR, i ∉ isC)
    (hst : st = av.reverse ++ .ref b :: rest) (hlen : av.length = n) (hls : ls.size = mL) (hW : (rest.map fun v => v.category).sum ≤ 8) (hd : decode cc pc = .ok (.invokespecial idx, 3)) (hcl : cells + rm.cells ≤ R.cells ∧ slots + rm.slots ≤ R.slots) (k : ∀ (H' : Heap) (locs' : List Loc), va_P D vwCl (wr ++ w) H' → va_D A (wr ++ w) → va_S A s.heap H' locs' → W p l e R s m args below meth c H' locs' (cells + rm.cells) (slots + rm.slots) Q (F0 m (pc + 3) ls rest)) : W p l e R s m args below meth c H locs cells slots Q (F0 m pc ls st) :=
  zcI X hC cf hR hP hD hS isC isR hc hr hn hnC hdis hst hlen hls hW hd hcl (fun v' w' hp H' locs' h1 h2 h3 => by
    obtain ⟨rfl, rfl⟩ := hp
    exact k H' locs' h1 h2 h3)
end ZC
/-! the pure side: guards, choices, loops -/
def zgd (i : Int32) (n : Nat) : Bool := decide (¬ (i < 0 ∨ n ≤ i.toNatClampNeg))
def zbit (x : Int32) : Bool := decide (x = 0 ∨ x = 1)
theorem zg {α : Type} {i : Int32} {n : Nat} {a : Option α} {z : α} (e : (if zgd i n = true then a else none) = some z) : vp_in i n ∧ a = some z := by
  by_cases h : zgd i n = true
  · rw [if_pos h] at e
    exact ⟨of_decide_eq_true (p := ¬ (i < 0 ∨ n ≤ i.toNatClampNeg)) h, e⟩
  · rw [if_neg h] at e
    cases e
theorem zt {α : Type} {q : Prop} [Decidable q] {a b : Option α} {z : α} (h : q) (e : (if q then a else b) = some z) : a = some z := by rwa [if_pos h] at e
theorem ze {α : Type} {q : Prop} [Decidable q] {a b : Option α} {z : α} (h : ¬ q) (e : (if q then a else b) = some z) : b = some z := by rwa [if_neg h] at e
/-- a divisor that isn't 0 -/
theorem zn {α : Type} {q : Prop} [Decidable q] {b : Option α} {z : α} (e : (if q then none else b) = some z) : ¬ q ∧ b = some z := by
  by_cases h : q
  · rw [if_pos h] at e
    cases e
  · rw [if_neg h] at e
    exact ⟨h, e⟩
theorem zbt {α : Type} {x : Int32} {a : Option α} {z : α} (e : (if zbit x = true then a else none) = some z) : (narrow .boolean (.int x) = .int x ∧ fits .boolean (.int x) = true) ∧ a = some z := by
  by_cases h : zbit x = true
  · rw [if_pos h] at e
    refine ⟨?_, e⟩
    rcases of_decide_eq_true h with rfl | rfl <;> decide
  · rw [if_neg h] at e
    cases e
theorem zb {α β : Type} {x : Option α} {f : α → Option β} {z : β} (e : x.bind f = some z) : ∃ o, x = some o ∧ f o = some z := by
  cases x with
  | none => cases e
  | some o => exact ⟨o, rfl, e⟩
/-- a loop: its body answers the next round's values, or those behind the loop -/
def zit {α β : Type} (f : α → Option (α ⊕ β)) : Nat → α → Option β
  | 0, _ => none
  | n + 1, a => (f a).bind fun r => match r with
    | .inl a' => zit f n a'
    | .inr b => some b
def zik {α β : Type} (f : α → Option (α ⊕ β)) (n : Nat) (r : α ⊕ β) : Option β := match r with
  | .inl a' => zit f n a'
  | .inr b => some b
theorem zis {α β : Type} {f : α → Option (α ⊕ β)} {n : Nat} {a : α} {b : β} (e : zit f (n + 1) a = some b) : ∃ r, f a = some r ∧ zik f n r = some b := by
  obtain ⟨r, h1, h2⟩ := zb e
  exact ⟨r, h1, h2⟩
theorem zi0 {α β : Type} {f : α → Option (α ⊕ β)} {a : α} {b : β} (e : zit f 0 a = some b) : False := by cases e
abbrev zrem (x z : Int32) : Int32 := x - x / z * z
abbrev zlrem (x z : Int64) : Int64 := x - x / z * z
abbrev zushr (x z : Int32) : Int32 := (x.toUInt32 >>> (z.toUInt32 &&& Int32.toUInt32 31)).toInt32
abbrev zlushr (x : Int64) (z : Int32) : Int64 := (x.toUInt64 >>> (z.toInt64.toUInt64 &&& Int64.toUInt64 63)).toInt64
abbrev zshl (x z : Int32) : Int32 := x <<< (z &&& 31)
abbrev zshr (x z : Int32) : Int32 := x >>> (z &&& 31)
abbrev zlshl (x : Int64) (z : Int32) : Int64 := x <<< (z.toInt64 &&& 63)
abbrev zi2c (x : Int32) : Int32 := (x.toUInt32 % 65536).toInt32
def zfu : Nat := 1000000
theorem zsl {α β γ : Type} {f : α → Option γ} {g : β → Option γ} {a : α} {z : γ} (e : Sum.elim f g (.inl a) = some z) : f a = some z := e
theorem zsr {α β γ : Type} {f : α → Option γ} {g : β → Option γ} {b : β} {z : γ} (e : Sum.elim f g (.inr b) = some z) : g b = some z := e
def zcg (sp dp n : Int32) (n0 n1 : Nat) : Bool := decide (¬ sp < 0 ∧ ¬ dp < 0 ∧ ¬ n < 0 ∧ sp.toNatClampNeg + n.toNatClampNeg ≤ n0 ∧ dp.toNatClampNeg + n.toNatClampNeg ≤ n1)
theorem zcp {α : Type} {sp dp n : Int32} {n0 n1 : Nat} {a : Option α} {z : α} (e : (if zcg sp dp n n0 n1 = true then a else none) = some z) : (¬ sp < 0 ∧ ¬ dp < 0 ∧ ¬ n < 0 ∧ sp.toNatClampNeg + n.toNatClampNeg ≤ n0 ∧ dp.toNatClampNeg + n.toNatClampNeg ≤ n1) ∧ a = some z := by
  by_cases h : zcg sp dp n n0 n1 = true
  · rw [if_pos h] at e
    exact ⟨of_decide_eq_true h, e⟩
  · rw [if_neg h] at e
    cases e
