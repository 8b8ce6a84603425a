/-! methods that throw; calls over a pool -/
def zQX (D : va_G) (y : zY) (A : Nat → Prop) (PX : String → va_W → Prop) : String → State → State → Prop := fun E st t => (∃ w : va_W, PX E w ∧ va_P D vwCl w t.heap ∧ va_K D vwCl (zTy y) t ∧ va_D A w) ∧ va_F A st t
/-- a contract of a method that returns (P) or throws (PX) -/
def zCx (l : Launch) (D : va_G) (y : zY) (yn : MethodName) (cb : ByteArray) (mL : Nat) (ret : Option FieldType) (rm : Room) (av : List Value) (wc : va_W) (P : Option Value → va_W → Prop) (PX : String → va_W → Prop) : Prop :=
  ∀ sz : Nat, vx_Met l yn (Cond.code yn cb mL ret :: wAll) rm (zPre D y av wc sz) (zQ D y (va_A wc sz) P) (zQX D y (va_A wc sz) PX) rm.cells rm.slots (va_A wc sz)
abbrev zZx (below : List Frame) (D : va_G) (y : zY) (A : Nat → Prop) (P : Option Value → va_W → Prop) (PX : String → va_W → Prop) (args : Array Value) (s : State) (mc ms : Nat) : State → Prop := vx_MQ below (zQ D y A P) (zQX D y A PX) args s mc ms A
theorem zmkx {l : Launch} {D : va_G} {y : zY} {yn : MethodName} {cb : ByteArray} {mL : Nat} {ret : Option FieldType} {rm : Room} {av : List Value} {wc : va_W} {P : Option Value → va_W → Prop} {PX : String → va_W → Prop} (hn : plainName yn.cls = true) (hav : (lg_sl av).length ≤ mL)
    (body : ∀ (p : Program) (e : Env) (s : State) (m : MethodId) (args : Array Value) (below : List Frame) (meth : Method) (c : Code) (A : Nat → Prop) (Q : State → Prop) (ls : Array Slot), zX p s m args meth c D y A yn.cls cb mL ret → Q = zZx below D y A P PX args s rm.cells rm.slots → (∀ x ∈ c.exceptionTable.toList, False) → va_P D vwCl wc s.heap → va_D A wc → va_S A s.heap s.heap [] → lv_has ls mL (lv_args 0 av) →
      W p l e rm s m args below meth c s.heap [] 0 0 Q (F0 m 0 ls [])) : zCx l D y yn cb mL ret rm av wc P PX := by
  intro sz
  refine vx_ofW (cc := cb) (maxL := mL) (ret := ret) hn rfl ?_
  intro p e s m args below meth c s₁ B hml htab hv
  obtain ⟨rfl, hsz, hP, hK, hD0, hN⟩ := hv
  subst hsz
  have hts := atoms_spec (ws := Cond.code yn cb mL ret :: wAll) B.pre
  rw [lg_entry_eq]
  exact body p e s m av.toArray below meth c (va_A wc s.heap.size) _ _ ⟨B.exec, B.bytes, B.returns, hml, findClass_of_methodNamed B.named, fun w h => hts w (List.mem_cons_of_mem _ h), hK, fun q h => Or.inr h, B.notSynchronized, hN⟩ rfl htab hP (hD0.self (sz := s.heap.size)) va_S.rf (lv_entry av hav)
section ZR
variable {p : Program} {l : Launch} {e : Env} {R : Room} {s : State} {m : MethodId} {args : Array Value} {below : List Frame} {meth : Method} {c : Code} {H : Heap} {locs : List Loc} {cells slots : Nat} {Q : State → Prop} {D : va_G} {y : zY} {A : Nat → Prop} {own : String} {cc : ByteArray} {mL : Nat} {ret : Option FieldType} {pc : Nat} {ls : Array Slot} {rest : List Value} {ws wc wr cx pl Xs ro : va_W} {a b : Nat}
variable {yn : MethodName} {cb : ByteArray} {mL' idx n : Nat} {ret' : Option FieldType} {rm : Room} {av : List Value} {P P' : Option Value → va_W → Prop} {PX PX' : String → va_W → Prop} {st : List Value}
theorem zretix {v : Int32} {ty : FieldType} {w : va_W} {mc ms : Nat} (X : zX p s m args meth c D y A own cc mL (some ty)) (hQ : Q = zZx below D y A P PX args s mc ms) (hP : va_P D vwCl w H) (hD : va_D A w) (hS : va_S A s.heap H locs) (hp : P (some (.int v)) w) (hn : narrow ty (.int v) = .int v) (hd : decode cc pc = .ok (.ireturn, 1)) (hc : cells ≤ mc) (hs : slots ≤ ms) :
    W p l e R s m args below meth c H locs cells slots Q (F0 m pc ls [.int v]) := by
  subst hQ
  exact vx_ret (zreti X rfl hP hD hS hp hn hd hc hs)
theorem zretlx {v : Int64} {w : va_W} {mc ms : Nat} (X : zX p s m args meth c D y A own cc mL (some .long)) (hQ : Q = zZx below D y A P PX args s mc ms) (hP : va_P D vwCl w H) (hD : va_D A w) (hS : va_S A s.heap H locs) (hp : P (some (.long v)) w) (hd : decode cc pc = .ok (.lreturn, 1)) (hc : cells ≤ mc) (hs : slots ≤ ms) :
    W p l e R s m args below meth c H locs cells slots Q (F0 m pc ls [.long v]) := by
  subst hQ
  exact vx_ret (zretl X rfl hP hD hS hp hd hc hs)
theorem zretvx {w : va_W} {mc ms : Nat} (X : zX p s m args meth c D y A own cc mL none) (hQ : Q = zZx below D y A P PX args s mc ms) (hP : va_P D vwCl w H) (hD : va_D A w) (hS : va_S A s.heap H locs) (hp : P none w) (hd : decode cc pc = .ok (.return_, 1)) (hc : cells ≤ mc) (hs : slots ≤ ms) :
    W p l e R s m args below meth c H locs cells slots Q (F0 m pc ls []) := by
  subst hQ
  exact vx_ret (zretv X rfl hP hD hS hp hd hc hs)
theorem zretax {v : Value} {rt : FieldType} {w : va_W} {mc ms : Nat} (X : zX p s m args meth c D y A own cc mL (some rt)) (hrt : (∃ n, rt = .object n) ∨ ∃ t, rt = .array t) (hv : v = .null ∨ ∃ a, v = .ref a) (hQ : Q = zZx below D y A P PX args s mc ms) (hP : va_P D vwCl w H) (hD : va_D A w) (hS : va_S A s.heap H locs) (hp : P (some v) w) (hd : decode cc pc = .ok (.areturn, 1)) (hc : cells ≤ mc) (hs : slots ≤ ms) :
    W p l e R s m args below meth c H locs cells slots Q (F0 m pc ls [v]) := by
  subst hQ
  exact vx_ret (zreta X hrt hv rfl hP hD hS hp hd hc hs)
/-! runs -/
theorem zrunS (X : zX p s m args meth c D y A own cc mL ret) (hC : zC l D y yn cb mL' ret' rm av wc P) (cf : zCB own idx yn cb mL' ret' n ∧ Cond.static yn ∈ wAll) (hR : rm.frames + 1 ≤ R.frames ∧ 8 + (mL' + 11) + rm.locals ≤ R.locals) (hP : va_P D vwCl wc H) (hD : va_D A wc) (hS : va_S A s.heap H locs) (hF : ∀ q, va_A wc H.size q → A q)
    (hst : st = av.reverse ++ rest) (hlen : av.length = n) (hls : ls.size = mL) (hW : (rest.map fun v => v.category).sum ≤ 8) (hd : decode cc pc = .ok (.invokestatic idx, 3)) (hcl : cells + rm.cells ≤ R.cells ∧ slots + rm.slots ≤ R.slots) :
    va_Run p l e R s m args below meth c H locs cells slots rm.cells rm.slots (F0 m pc ls st) rest (zQ D y (va_A wc H.size) P av.toArray) (va_A wc H.size) := by
  obtain ⟨hx, hb, hr', hml, hown, hts, hK, hA, hlocks, hN⟩ := id X
  exact va_runS (As := av) (rest := rest) ⟨hx, hb, hml, hown, hts⟩ (hC H.size) ⟨zcb X cf.1 hR, hts _ cf.2⟩ (zpre X hP hD hS hF) rfl hlen hls hst (lv_room hW) hd hcl
theorem zrecv {ci : Nat} {fs : List Value} {T : u_T} {N : Nat} {C : String} (hK : va_K D vwCl (zTy y) s) (hP0 : va_P D vwCl ws H) (hci : vwCl[ci]? = some (C, T, N)) (hb0 : (b, .inr (ci, fs)) ∈ ws) : ∃ cell : Cell, H[b]? = some cell ∧ cell.vm.isStatics = false ∧ s.vm.findClass C = some cell.cls := by
  obtain ⟨i, hi⟩ := List.getElem?_of_mem hb0
  exact va_recv hK hP0 hci hi
theorem zrunV (X : zX p s m args meth c D y A own cc mL ret) (hC : zC l D y yn cb mL' ret' rm (.ref b :: av) wc P) (cf : zCB own idx yn cb mL' ret' n ∧ Cond.instanceMethod yn ∈ wAll ∧ Cond.selects yn.cls yn yn ∈ wAll) (hR : rm.frames + 1 ≤ R.frames ∧ 8 + (mL' + 11) + rm.locals ≤ R.locals) (hP : va_P D vwCl wc H) (hD : va_D A wc) (hS : va_S A s.heap H locs) (hF : ∀ q, va_A wc H.size q → A q)
    {ci : Nat} {fs : List Value} {T : u_T} {N : Nat} (hci : vwCl[ci]? = some (yn.cls, T, N)) (hP0 : va_P D vwCl ws H) (hb0 : (b, .inr (ci, fs)) ∈ ws) (hst : st = av.reverse ++ .ref b :: rest) (hlen : av.length = n) (hls : ls.size = mL) (hW : (rest.map fun v => v.category).sum ≤ 8) (hd : decode cc pc = .ok (.invokevirtual idx, 3)) (hcl : cells + rm.cells ≤ R.cells ∧ slots + rm.slots ≤ R.slots) :
    va_Run p l e R s m args below meth c H locs cells slots rm.cells rm.slots (F0 m pc ls st) rest (zQ D y (va_A wc H.size) P (Value.ref b :: av).toArray) (va_A wc H.size) := by
  obtain ⟨hx, hb, hr', hml, hown, hts, hK, hA, hlocks, hN⟩ := id X
  have hpre := zpre (av := .ref b :: av) X hP hD hS hF
  exact va_runV (As := av) (rest := rest) ⟨hx, hb, hml, hown, hts⟩ (hC H.size) ⟨zcb X cf.1 hR, hts _ cf.2.1, hts _ cf.2.2⟩ ⟨hpre.1, zrecv hK hP0 hci hb0, hpre.2⟩ rfl hlen hls hst (lv_room hW) hd hcl
theorem zxrunS (X : zX p s m args meth c D y A own cc mL ret) (hC : zCx l D y yn cb mL' ret' rm av wc P PX) (cf : zCB own idx yn cb mL' ret' n ∧ Cond.static yn ∈ wAll) (hR : rm.frames + 1 ≤ R.frames ∧ 8 + (mL' + 11) + rm.locals ≤ R.locals) (hP : va_P D vwCl wc H) (hD : va_D A wc) (hS : va_S A s.heap H locs) (hF : ∀ q, va_A wc H.size q → A q)
    (hst : st = av.reverse ++ rest) (hlen : av.length = n) (hls : ls.size = mL) (hW : (rest.map fun v => v.category).sum ≤ 8) (hd : decode cc pc = .ok (.invokestatic idx, 3)) (hcl : cells + rm.cells ≤ R.cells ∧ slots + rm.slots ≤ R.slots) :
    vx_Run p l e R s m args below meth c H locs cells slots rm.cells rm.slots (F0 m pc ls st) rest (zQ D y (va_A wc H.size) P av.toArray) (zQX D y (va_A wc H.size) PX) (va_A wc H.size) := by
  obtain ⟨hx, hb, hr', hml, hown, hts, hK, hA, hlocks, hN⟩ := id X
  exact vx_runS (As := av) (rest := rest) ⟨hx, hb, hml, hown, hts⟩ (hC H.size) ⟨zcb X cf.1 hR, hts _ cf.2⟩ (zpre X hP hD hS hF) rfl hlen hls hst (lv_room hW) hd hcl
theorem zxrunV (X : zX p s m args meth c D y A own cc mL ret) (hC : zCx l D y yn cb mL' ret' rm (.ref b :: av) wc P PX) (cf : zCB own idx yn cb mL' ret' n ∧ Cond.instanceMethod yn ∈ wAll ∧ Cond.selects yn.cls yn yn ∈ wAll) (hR : rm.frames + 1 ≤ R.frames ∧ 8 + (mL' + 11) + rm.locals ≤ R.locals) (hP : va_P D vwCl wc H) (hD : va_D A wc) (hS : va_S A s.heap H locs) (hF : ∀ q, va_A wc H.size q → A q)
    {ci : Nat} {fs : List Value} {T : u_T} {N : Nat} (hci : vwCl[ci]? = some (yn.cls, T, N)) (hP0 : va_P D vwCl ws H) (hb0 : (b, .inr (ci, fs)) ∈ ws) (hst : st = av.reverse ++ .ref b :: rest) (hlen : av.length = n) (hls : ls.size = mL) (hW : (rest.map fun v => v.category).sum ≤ 8) (hd : decode cc pc = .ok (.invokevirtual idx, 3)) (hcl : cells + rm.cells ≤ R.cells ∧ slots + rm.slots ≤ R.slots) :
    vx_Run p l e R s m args below meth c H locs cells slots rm.cells rm.slots (F0 m pc ls st) rest (zQ D y (va_A wc H.size) P (Value.ref b :: av).toArray) (zQX D y (va_A wc H.size) PX) (va_A wc H.size) := by
  obtain ⟨hx, hb, hr', hml, hown, hts, hK, hA, hlocks, hN⟩ := id X
  have hpre := zpre (av := .ref b :: av) X hP hD hS hF
  exact vx_runV (As := av) (rest := rest) ⟨hx, hb, hml, hown, hts⟩ (hC H.size) ⟨zcb X cf.1 hR, hts _ cf.2.1, hts _ cf.2.2⟩ ⟨hpre.1, zrecv hK hP0 hci hb0, hpre.2⟩ rfl hlen hls hst (lv_room hW) hd hcl
/-- the callee's cells lie in the caller's part -/
theorem zfree {hS0 : Heap} (X : zX p s m args meth c D y A own cc mL ret) (hD : va_D A ws) (hS : va_S A s.heap H locs) (hsub : ∀ q ∈ wc, q ∈ ws) : ∀ q, va_A wc H.size q → A q := by
  obtain ⟨hx, hb, hr', hml, hown, hts, hK, hA, hlocks, hN⟩ := X
  intro q hq
  rcases zA_iff.mp hq with ⟨e, he⟩ | h
  · exact zD_A hD (hsub _ he)
  · exact hA q (Nat.le_trans hS.1 h)
/-- what a caller over a pool knows ahead of a call: explicit cells cx by their places, cells ro of the pool -/
theorem zsee (X : zX p s m args meth c D y A own cc mL ret) (hP : va_P D vwCl (Xs ++ pl) H) (hD : va_D A (Xs ++ pl)) (hS : va_S A s.heap H locs) (isC isR : List Nat) (hc : isC.map (fun i => Xs[i]?) = cx.map some) (hr : isR.map (fun i => Xs[i]?) = wr.map some) (hn : va_nd (isR ++ isC) = true) (hro : ∀ q ∈ ro, q ∈ pl) (hnr : (ro.map (·.1)).Nodup) :
    va_P D vwCl (cx ++ ro) H ∧ va_D A (cx ++ ro) ∧ ∀ q, va_A (cx ++ ro) H.size q → A q := by
  obtain ⟨hP2, hD2⟩ := zparts hP hD isC isR hc hr hn
  have hsub : ∀ q ∈ cx ++ ro, q ∈ (wr ++ cx) ++ pl := fun q hq => by
    rcases List.mem_append.mp hq with h | h
    · exact List.mem_append_left _ (List.mem_append_right _ h)
    · exact List.mem_append_right _ (hro q h)
  have hnd := zD_nd hD2
  simp only [List.map_append] at hnd
  refine ⟨zP_of fun q hq => zP_at hP2 (hsub q hq), zD_of ?_ fun q hq => zD_A hD2 (hsub q hq), zfree (hS0 := H) X hD2 hS hsub⟩
  rw [List.map_append]
  refine List.nodup_append.mpr ⟨(List.nodup_append.mp (List.nodup_append.mp hnd).1).2.1, hnr, fun a ha b hb e => ?_⟩
  subst e
  obtain ⟨r, hr2, er⟩ := List.mem_map.mp hb
  exact (List.nodup_append.mp hnd).2.2 a (List.mem_append_right _ ha) a (by rw [← er]; exact List.mem_map_of_mem (hro r hr2)) rfl
theorem zaft (hP : va_P D vwCl (Xs ++ pl) H) (hD : va_D A (Xs ++ pl)) (hS : va_S A s.heap H locs) (isC isR : List Nat) (hc : isC.map (fun i => Xs[i]?) = cx.map some) (hr : isR.map (fun i => Xs[i]?) = wr.map some) (hn : va_nd (isR ++ isC) = true) (hro : ∀ q ∈ ro, q ∈ pl) (hF : ∀ q, va_A (cx ++ ro) H.size q → A q) {aa : Array Value} {mc ms : Nat}
    (hrun : va_Run p l e R s m args below meth c H locs cells slots mc ms (F0 m pc ls st) rest (zQ D y (va_A (cx ++ ro) H.size) P aa) (va_A (cx ++ ro) H.size))
    (k : ∀ (v : Option Value) (w : va_W), P v w → ∃ w1, w = w1 ++ ro ∧ ∀ (H' : Heap) (locs' : List Loc), va_P D vwCl ((wr ++ w1) ++ pl) H' → va_D A ((wr ++ w1) ++ pl) → va_S A s.heap H' locs' → W p l e R s m args below meth c H' locs' (cells + mc) (slots + ms) Q (F0 m (pc + 3) ls (v.toList ++ rest))) : W p l e R s m args below meth c H locs cells slots Q (F0 m pc ls st) := by
  obtain ⟨hP2, hD2⟩ := zparts hP hD isC isR hc hr hn
  intro T hT X0
  obtain ⟨v, st₀, t, T', L, h0, X', hL, e1, e2, ⟨⟨v', w, hp, hv, hPw, hKw, hDw⟩, hz, hk⟩, st⟩ := hrun T hT X0
  cases hv
  rw [h0] at hz hk
  rw [← e1] at hPw hz hk
  obtain ⟨w1, rfl, kk⟩ := k v w hp
  obtain ⟨hP', hD'⟩ := zjoin hP2 hD2 hro hk hF hPw hDw
  obtain ⟨t2, a1, b1⟩ := kk T'.heap (locs ++ L) hP' hD' ⟨Nat.le_trans hS.1 hz, fun q h1 h2 => by rw [hk q (Nat.lt_of_lt_of_le h1 hS.1) (fun z => h2 (hF q z))]; exact hS.2.1 q h1 h2, fun q hq => by
      rcases List.mem_append.mp hq with h | h
      · exact hS.2.2 q h
      · exact hF _ (hL q h)⟩ T' rfl X'
  exact ⟨t2, st t2 a1, b1⟩
theorem zxaft (X : zX p s m args meth c D y A own cc mL ret) {mc' ms' : Nat} (hQ : Q = zZx below D y A P' PX' args s mc' ms') (hct : ∀ x ∈ c.exceptionTable.toList, False) (hP : va_P D vwCl (Xs ++ pl) H) (hD : va_D A (Xs ++ pl)) (hS : va_S A s.heap H locs) (isC isR : List Nat) (hc : isC.map (fun i => Xs[i]?) = cx.map some) (hr : isR.map (fun i => Xs[i]?) = wr.map some) (hn : va_nd (isR ++ isC) = true) (hro : ∀ q ∈ ro, q ∈ pl) (hF : ∀ q, va_A (cx ++ ro) H.size q → A q) {aa : Array Value} {mc ms : Nat}
    (hrun : vx_Run p l e R s m args below meth c H locs cells slots mc ms (F0 m pc ls st) rest (zQ D y (va_A (cx ++ ro) H.size) P aa) (zQX D y (va_A (cx ++ ro) H.size) PX) (va_A (cx ++ ro) H.size)) (hmc : cells + mc ≤ mc') (hms : slots + ms ≤ ms') (isP : List Nat) (hnP : va_nd isP = true)
    (kx : ∀ (E : String) (w : va_W), PX E w → ∃ w1 X1, w = w1 ++ ro ∧ PX' E (X1 ++ pl) ∧ isP.map (fun i => (wr ++ w1)[i]?) = X1.map some)
    (k : ∀ (v : Option Value) (w : va_W), P v w → ∃ w1, w = w1 ++ ro ∧ ∀ (H' : Heap) (locs' : List Loc), va_P D vwCl ((wr ++ w1) ++ pl) H' → va_D A ((wr ++ w1) ++ pl) → va_S A s.heap H' locs' → W p l e R s m args below meth c H' locs' (cells + mc) (slots + ms) Q (F0 m (pc + 3) ls (v.toList ++ rest))) : W p l e R s m args below meth c H locs cells slots Q (F0 m pc ls st) := by
  obtain ⟨hP2, hD2⟩ := zparts hP hD isC isR hc hr hn
  obtain ⟨-, -, -, -, -, -, hK, -, hlocks, -⟩ := X
  intro T hT X0
  rcases hrun T hT X0 with ⟨v, st₀, t, T', L, h0, X', hL, e1, e2, ⟨⟨v', w, hp, hv, hPw, hKw, hDw⟩, hFr⟩, st⟩ | ⟨q, st₀, t, T', L, E, ce, h0, X', hL, e1, e2, ⟨⟨w, hp, hPw, hKw, hDw⟩, hFr⟩, hce, hcv, hcl, st⟩
  · cases hv
    obtain ⟨k1, k2, k3⟩ := vx_keep h0 e1 hS (fun q _ h => hF q h) hF hL hFr
    rw [← e1] at hPw
    obtain ⟨w1, rfl, kk⟩ := k v w hp
    obtain ⟨hP', hD'⟩ := zjoin hP2 hD2 hro k2 hF hPw hDw
    obtain ⟨t2, a1, b1⟩ := kk T'.heap (locs ++ L) hP' hD' k3 T' rfl X'
    exact ⟨t2, st t2 a1, b1⟩
  · obtain ⟨k1, k2, k3⟩ := vx_keep h0 e1 hS (fun q _ h => hF q h) hF hL hFr
    rw [← e1] at hPw hce
    obtain ⟨w1, X1, rfl, hpx, hper⟩ := kx E w hp
    obtain ⟨hP', hD'⟩ := zjoin hP2 hD2 hro k2 hF hPw hDw
    subst hQ
    obtain ⟨t2, a1, b1⟩ := vx_out (rest := rest) (pc := pc) (ls := ls) (XC := zQX D y A PX') (Qc := zQ D y A P') (free := A) (fun x hx => (hct x hx).elim) hlocks hce hcv hcl (fun t ht hvm => ⟨⟨X1 ++ pl, hpx, by rw [ht]; exact hP'.part isP hper, va_K.moved hvm hK, hD'.part isP hnP hper⟩, k3.F ht⟩) k3.2.2 hmc hms T' rfl X'
    exact ⟨t2, st.trans a1, b1⟩
/-- a field of a grid of the pool -/
theorem zgetg (X : zX p s m args meth c D y A own cc mL ret) {L : List Nat} {G : Nat → zGD} (hP : va_P D vwCl (Xs ++ zpl L G) H) (hg : a ∈ L) (k : Nat) (hk : k < 8) {idx : Nat} {v : Value} (hl : Cond.fieldLink own idx (TX2 k).1 (TX2 k).2.1 (TX2 k).2.2.1 ∈ wAll)
    (hv : [.int (G a).1, .int (G a).2.1, .long (G a).2.2.1, .long (G a).2.2.2.1, .long (G a).2.2.2.2.1, .long (G a).2.2.2.2.2.1, .long (G a).2.2.2.2.2.2.1, .long (G a).2.2.2.2.2.2.2][k]? = some v) (hd : decode cc pc = .ok (.getfield idx, 3)) (kk : W p l e R s m args below meth c H locs cells slots Q (F0 m (pc + 3) ls (v :: rest))) : W p l e R s m args below meth c H locs cells slots Q (F0 m pc ls (.ref a :: rest)) := by
  obtain ⟨i, hi⟩ := List.getElem?_of_mem (List.mem_append_right Xs (zpl_mem (G := G) hg))
  exact zget X hP i hi rfl inF2 k hk hl hv hd kk
end ZR
