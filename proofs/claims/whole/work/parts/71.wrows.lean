/-! methods with handlers: the contract, its body, its call, the catch -/
def zCw (l : Launch) (D : va_G) (y : zY) (yn : MethodName) (cb : ByteArray) (mL : Nat) (ret : Option FieldType) (hh : List (Nat × Nat × Nat × Nat)) (rm : Room) (av : List Value) (wc : va_W) (P : Option Value → va_W → Prop) : Prop :=
  ∀ sz : Nat, Met l yn (Cond.codeWith yn cb mL ret hh :: wAll) rm (zPre D y av wc sz) (zQ D y (va_A wc sz) P) rm.cells rm.slots (va_A wc sz)
theorem zmkw {l : Launch} {D : va_G} {y : zY} {yn : MethodName} {cb : ByteArray} {mL : Nat} {ret : Option FieldType} {hh : List (Nat × Nat × Nat × Nat)} {rm : Room} {av : List Value} {wc : va_W} {P : Option Value → va_W → Prop} (hn : plainName yn.cls = true) (hav : (lg_sl av).length ≤ mL)
    (body : ∀ (p : Program) (e : Env) (s : State) (m : MethodId) (args : Array Value) (below : List Frame) (meth : Method) (c : Code) (A : Nat → Prop) (Q : State → Prop) (ls : Array Slot), zX p s m args meth c D y A yn.cls cb mL ret → Q = zZ below D y A P args s rm.cells rm.slots → c.exceptionTable.toList = tableOf hh → va_P D vwCl wc s.heap → va_D A wc → va_S A s.heap s.heap [] → lv_has ls mL (lv_args 0 av) →
      W p l e rm s m args below meth c s.heap [] 0 0 Q (F0 m 0 ls [])) : zCw l D y yn cb mL ret hh rm av wc P := by
  intro sz
  refine va_MetW (cc := cb) (maxL := mL) (ret := ret) (hh := hh) hn rfl ?_
  intro p e s m args below meth c s₁ B hml hv
  obtain ⟨rfl, hsz, hP, hK, hD0, hN⟩ := hv
  subst hsz
  have hts := atoms_spec (ws := Cond.codeWith yn cb mL ret hh :: wAll) B.pre
  have htab := vx_table (x := yn) B (hts _ List.mem_cons_self)
  rw [lg_entry_eq]
  exact body p e s m av.toArray below meth c (va_A wc s.heap.size) _ _ ⟨B.exec, B.bytes, B.returns, hml, findClass_of_methodNamed B.named, fun w h => hts w (List.mem_cons_of_mem _ h), hK, fun q h => Or.inr h, B.notSynchronized, hN⟩ rfl htab hP (hD0.self (sz := s.heap.size)) va_S.rf (lv_entry av hav)
def zCW (own : String) (idx : Nat) (yn : MethodName) (cb : ByteArray) (mL : Nat) (ret : Option FieldType) (hh : List (Nat × Nat × Nat × Nat)) (n : Nat) : Prop :=
  Cond.codeWith yn cb mL ret hh ∈ wAll ∧ Cond.initialized yn.cls ∈ wAll ∧ Cond.methodLink own idx yn ∈ wAll ∧ Cond.static yn ∈ wAll ∧ (yn.cls ≠ "java/lang/invoke/MethodHandle" ∧ yn.cls ≠ "java/lang/invoke/VarHandle" ∧ (parseMethodDescriptor yn.desc).map (fun d => d.parameters.length) = some n)
section ZWR
variable {p : Program} {l : Launch} {e : Env} {R : Room} {s : State} {m : MethodId} {args : Array Value} {below : List Frame} {meth : Method} {c : Code} {H : Heap} {locs : List Loc} {cells slots : Nat} {Q : State → Prop} {D : va_G} {y : zY} {A : Nat → Prop} {own : String} {cc : ByteArray} {mL : Nat} {ret : Option FieldType} {pc : Nat} {ls : Array Slot} {rest : List Value} {ws wc wr : va_W} {a b : Nat}
variable {yn : MethodName} {cb : ByteArray} {mL' idx n : Nat} {ret' : Option FieldType} {hh : List (Nat × Nat × Nat × Nat)} {rm : Room} {av : List Value} {P : Option Value → va_W → Prop} {PX : String → va_W → Prop} {st : List Value}
theorem zSw (X : zX p s m args meth c D y A own cc mL ret) (hC : zCw l D y yn cb mL' ret' hh rm av wc P) (cf : zCW own idx yn cb mL' ret' hh n) (hR : rm.frames + 1 ≤ R.frames ∧ 8 + (mL' + 11) + rm.locals ≤ R.locals) (hP : va_P D vwCl (wr ++ wc) H) (hD : va_D A (wr ++ wc)) (hS : va_S A s.heap H locs)
    (hst : st = av.reverse ++ rest) (hlen : av.length = n) (hls : ls.size = mL) (hW : (rest.map fun v => v.category).sum ≤ 8) (hd : decode cc pc = .ok (.invokestatic idx, 3)) (hcl : cells + rm.cells ≤ R.cells ∧ slots + rm.slots ≤ R.slots)
    (k : ∀ (v : Option Value) (w : va_W), P v w → ∀ (H' : Heap) (locs' : List Loc), va_P D vwCl (wr ++ w) H' → va_D A (wr ++ w) → va_S A s.heap H' locs' → W p l e R s m args below meth c H' locs' (cells + rm.cells) (slots + rm.slots) Q (F0 m (pc + 3) ls (v.toList ++ rest))) : W p l e R s m args below meth c H locs cells slots Q (F0 m pc ls st) := by
  have hP0 : va_P D vwCl ((wr ++ wc) ++ []) H := by rw [List.append_nil]; exact hP
  have hD0 : va_D A ((wr ++ wc) ++ []) := by rw [List.append_nil]; exact hD
  have hro : ∀ q ∈ ([] : va_W), q ∈ ([] : va_W) := fun _ h => h
  obtain ⟨hP9, hD9, hF9⟩ := zsee (cx := wc) (wr := wr) (ro := []) X hP0 hD0 hS ((List.range wc.length).map (fun i => wr.length + i)) (List.range wr.length) (zidxC wr wc) (zidxR wr wc) (zidxN _ _) hro zn0
  have hC' : zCw l D y yn cb mL' ret' hh rm av (wc ++ []) P := by rw [List.append_nil]; exact hC
  obtain ⟨hx, hb, hr', hml, hown, hts, hK, hA, hlocks, hN⟩ := id X
  obtain ⟨c1, c2, c3, c4, c5⟩ := cf
  have hG : GoodIn wAll (va_wsS own idx yn (Cond.codeWith yn cb mL' ret' hh :: wAll)) := fun w h => by
    unfold va_wsS at h
    rcases List.mem_append.mp h with h | h
    · simp only [List.mem_cons, List.not_mem_nil, or_false] at h
      rcases h with rfl | rfl | rfl
      · exact wAll_good _ c3
      · exact wAll_good _ c4
      · exact wAll_good _ c2
    · rcases List.mem_cons.mp h with rfl | h
      · exact wAll_good _ c1
      · exact wAll_good _ h
  refine zaft (p := p) (e := e) (below := below) (P := P) hP0 hD0 hS ((List.range wc.length).map (fun i => wr.length + i)) (List.range wr.length) (zidxC wr wc) (zidxR wr wc) (zidxN _ _) hro hF9 (vx_runSW (As := av) (rest := rest) ⟨hx, hb, hml, hown, hts⟩ (hC' H.size) (vx_cwSW n hts hG rfl rfl rfl c5 hR) (zpre X hP9 hD9 hS hF9) rfl hlen hls hst (lv_room hW) hd hcl) (fun v w hp => ⟨w, (List.append_nil _).symm, fun H' locs' h1 h2 h3 => ?_⟩)
  rw [List.append_nil] at h1 h2
  exact k v w hp H' locs' h1 h2 h3
theorem zcat {p1 p2 : List (Nat × Nat × Nat × Nat)} {h : Nat × Nat × Nat × Nat} {E name : String} {ce : Cell} {q : Nat} (X : zX p s m args meth c D y A own cc mL ret) (htab : c.exceptionTable.toList = tableOf hh) (hs : hh = p1 ++ h :: p2) (hpass : ∀ z ∈ p1, z.2.2.2 ≠ 0 ∧ ∃ nm : String, Cond.classLink own z.2.2.2 nm ∈ wAll ∧ (E, nm) ∈ zncs) (hcov : covers ⟨h.1, h.2.1, h.2.2.1, h.2.2.2⟩ pc = true) (h0 : h.2.2.2 ≠ 0) (hlink : Cond.classLink own h.2.2.2 name ∈ wAll) (hcast : (E, name) ∈ zcasts) (hcell : H[q]? = some ce) (hv : ce.vm = .none) (hcl : s.vm.findClass E = some ce.cls)
    (kk : W p l e R s m args below meth c H locs cells slots Q (F0 m h.2.2.1 ls [.ref q])) : vx_W p l e R s m args below meth c H locs cells slots Q (F0 m pc ls rest) q := by
  obtain ⟨hx, hb, hr', hml, hown, hts, hK, hA, hlocks, hN⟩ := id X
  subst hs
  refine vx_catch (name := name) (E := E) hown (tableOf p1) ⟨h.1, h.2.1, h.2.2.1, h.2.2.2⟩ (tableOf p2) (by rw [htab]; simp [tableOf]) (fun z hz => ?_) hcov h0 (hts _ hlink) (va_Nw.use rfl (hN.2.2.2.2.2.1 _ hcast)) hcell hv hcl kk
  unfold tableOf at hz
  obtain ⟨z0, hz0, rfl⟩ := List.mem_map.mp hz
  obtain ⟨h1, nm, h2, h3⟩ := hpass z0 hz0
  exact Or.inr ⟨h1, nm, hts _ h2, hN.2.2.2.2.2.2.1 _ h3⟩
end ZWR
