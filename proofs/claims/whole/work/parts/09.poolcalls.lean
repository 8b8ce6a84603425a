/-! calls over a pool, in one row -/
section ZP
variable {p : Program} {l : Launch} {e : Env} {R : Room} {s : State} {m : MethodId} {args : Array Value} {below : List Frame} {meth : Method} {c : Code} {H : Heap} {locs : List Loc} {cells slots : Nat} {Q : State → Prop} {D : va_G} {y : zY} {A : Nat → Prop} {own : String} {cc : ByteArray} {mL : Nat} {ret : Option FieldType} {pc : Nat} {ls : Array Slot} {rest : List Value} {ws wc wr cx pl Xs ro w w1 : va_W} {a b : Nat}
variable {yn : MethodName} {cb : ByteArray} {mL' idx n : Nat} {ret' : Option FieldType} {rm : Room} {av : List Value} {P P' : Option Value → va_W → Prop} {PX PX' : String → va_W → Prop} {st : List Value}
theorem zro1 {L : List Nat} {G : Nat → zGD} (h : a ∈ L) : ∀ q ∈ [(a, zgE (G a))], q ∈ zpl L G := fun q hq => by
  rw [List.mem_singleton.mp hq]
  exact zpl_mem h
theorem zn0 : (([] : va_W).map (·.1)).Nodup := List.nodup_nil
theorem zn1 {q : Nat × va_E} : ([q].map (·.1)).Nodup := by simp
theorem znp (hD : va_D A (Xs ++ pl)) : (pl.map (·.1)).Nodup := by
  have h := zD_nd hD
  rw [List.map_append] at h
  exact (List.nodup_append.mp h).2.1
theorem zme {q0 : Nat} {q : Nat × va_E} (h : Xs[q0]? = some q) : q ∈ Xs ++ pl := List.mem_append_left _ (List.mem_of_getElem? h)
theorem zmg {L : List Nat} {G : Nat → zGD} (h : a ∈ L) : (a, zgE (G a)) ∈ Xs ++ zpl L G := List.mem_append_right _ (zpl_mem h)
theorem zVr1 {val : Value} (X : zX p s m args meth c D y A own cc mL ret) (hC : zC l D y yn cb mL' ret' rm (.ref b :: av) wc (zE (some val) w)) (cf : zCB own idx yn cb mL' ret' n ∧ Cond.instanceMethod yn ∈ wAll ∧ Cond.selects yn.cls yn yn ∈ wAll) (hR : rm.frames + 1 ≤ R.frames ∧ 8 + (mL' + 11) + rm.locals ≤ R.locals) (hP : va_P D vwCl (Xs ++ pl) H) (hD : va_D A (Xs ++ pl)) (hS : va_S A s.heap H locs) (isC isR : List Nat) (hc : isC.map (fun i => Xs[i]?) = cx.map some) (hr : isR.map (fun i => Xs[i]?) = wr.map some) (hn : va_nd (isR ++ isC) = true) (hro : ∀ q ∈ ro, q ∈ pl) (hnr : (ro.map (·.1)).Nodup) (hwc : wc = cx ++ ro) (hw : w = w1 ++ ro) {ci : Nat} {fs : List Value} {T : u_T} {N : Nat} (hci : vwCl[ci]? = some (yn.cls, T, N)) (hb0 : (b, .inr (ci, fs)) ∈ Xs ++ pl) (hst : st = av.reverse ++ .ref b :: rest) (hlen : av.length = n) (hls : ls.size = mL) (hW : (rest.map fun v => v.category).sum ≤ 8) (hd : decode cc pc = .ok (.invokevirtual idx, 3)) (hcl : cells + rm.cells ≤ R.cells ∧ slots + rm.slots ≤ R.slots) (k : ∀ (H' : Heap) (locs' : List Loc), va_P D vwCl ((wr ++ w1) ++ pl) H' → va_D A ((wr ++ w1) ++ pl) → va_S A s.heap H' locs' → W p l e R s m args below meth c H' locs' (cells + rm.cells) (slots + rm.slots) Q (F0 m (pc + 3) ls (val :: rest))) : W p l e R s m args below meth c H locs cells slots Q (F0 m pc ls st) := by
  obtain ⟨hP9, hD9, hF9⟩ := zsee X hP hD hS isC isR hc hr hn hro hnr
  subst hwc
  exact zaft hP hD hS isC isR hc hr hn hro hF9 (zrunV X hC cf hR hP9 hD9 hS hF9 hci hP hb0 hst hlen hls hW hd hcl) (fun v' w' hp => by
    obtain ⟨rfl, rfl⟩ := hp
    exact ⟨w1, hw, k⟩)
theorem zVr0 (X : zX p s m args meth c D y A own cc mL ret) (hC : zC l D y yn cb mL' ret' rm (.ref b :: av) wc (zE none w)) (cf : zCB own idx yn cb mL' ret' n ∧ Cond.instanceMethod yn ∈ wAll ∧ Cond.selects yn.cls yn yn ∈ wAll) (hR : rm.frames + 1 ≤ R.frames ∧ 8 + (mL' + 11) + rm.locals ≤ R.locals) (hP : va_P D vwCl (Xs ++ pl) H) (hD : va_D A (Xs ++ pl)) (hS : va_S A s.heap H locs) (isC isR : List Nat) (hc : isC.map (fun i => Xs[i]?) = cx.map some) (hr : isR.map (fun i => Xs[i]?) = wr.map some) (hn : va_nd (isR ++ isC) = true) (hro : ∀ q ∈ ro, q ∈ pl) (hnr : (ro.map (·.1)).Nodup) (hwc : wc = cx ++ ro) (hw : w = w1 ++ ro) {ci : Nat} {fs : List Value} {T : u_T} {N : Nat} (hci : vwCl[ci]? = some (yn.cls, T, N)) (hb0 : (b, .inr (ci, fs)) ∈ Xs ++ pl) (hst : st = av.reverse ++ .ref b :: rest) (hlen : av.length = n) (hls : ls.size = mL) (hW : (rest.map fun v => v.category).sum ≤ 8) (hd : decode cc pc = .ok (.invokevirtual idx, 3)) (hcl : cells + rm.cells ≤ R.cells ∧ slots + rm.slots ≤ R.slots) (k : ∀ (H' : Heap) (locs' : List Loc), va_P D vwCl ((wr ++ w1) ++ pl) H' → va_D A ((wr ++ w1) ++ pl) → va_S A s.heap H' locs' → W p l e R s m args below meth c H' locs' (cells + rm.cells) (slots + rm.slots) Q (F0 m (pc + 3) ls rest)) : W p l e R s m args below meth c H locs cells slots Q (F0 m pc ls st) := by
  obtain ⟨hP9, hD9, hF9⟩ := zsee X hP hD hS isC isR hc hr hn hro hnr
  subst hwc
  exact zaft hP hD hS isC isR hc hr hn hro hF9 (zrunV X hC cf hR hP9 hD9 hS hF9 hci hP hb0 hst hlen hls hW hd hcl) (fun v' w' hp => by
    obtain ⟨rfl, rfl⟩ := hp
    exact ⟨w1, hw, k⟩)
theorem zVrg (X : zX p s m args meth c D y A own cc mL ret) (hC : zC l D y yn cb mL' ret' rm (.ref b :: av) wc P) (cf : zCB own idx yn cb mL' ret' n ∧ Cond.instanceMethod yn ∈ wAll ∧ Cond.selects yn.cls yn yn ∈ wAll) (hR : rm.frames + 1 ≤ R.frames ∧ 8 + (mL' + 11) + rm.locals ≤ R.locals) (hP : va_P D vwCl (Xs ++ pl) H) (hD : va_D A (Xs ++ pl)) (hS : va_S A s.heap H locs) (isC isR : List Nat) (hc : isC.map (fun i => Xs[i]?) = cx.map some) (hr : isR.map (fun i => Xs[i]?) = wr.map some) (hn : va_nd (isR ++ isC) = true) (hro : ∀ q ∈ ro, q ∈ pl) (hnr : (ro.map (·.1)).Nodup) (hwc : wc = cx ++ ro) {ci : Nat} {fs : List Value} {T : u_T} {N : Nat} (hci : vwCl[ci]? = some (yn.cls, T, N)) (hb0 : (b, .inr (ci, fs)) ∈ Xs ++ pl) (hst : st = av.reverse ++ .ref b :: rest) (hlen : av.length = n) (hls : ls.size = mL) (hW : (rest.map fun v => v.category).sum ≤ 8) (hd : decode cc pc = .ok (.invokevirtual idx, 3)) (hcl : cells + rm.cells ≤ R.cells ∧ slots + rm.slots ≤ R.slots) (k : ∀ (v : Option Value) (w : va_W), P v w → ∃ w1, w = w1 ++ ro ∧ ∀ (H' : Heap) (locs' : List Loc), va_P D vwCl ((wr ++ w1) ++ pl) H' → va_D A ((wr ++ w1) ++ pl) → va_S A s.heap H' locs' → W p l e R s m args below meth c H' locs' (cells + rm.cells) (slots + rm.slots) Q (F0 m (pc + 3) ls (v.toList ++ rest))) : W p l e R s m args below meth c H locs cells slots Q (F0 m pc ls st) := by
  obtain ⟨hP9, hD9, hF9⟩ := zsee X hP hD hS isC isR hc hr hn hro hnr
  subst hwc
  exact zaft hP hD hS isC isR hc hr hn hro hF9 (zrunV X hC cf hR hP9 hD9 hS hF9 hci hP hb0 hst hlen hls hW hd hcl) k
theorem zxVr (X : zX p s m args meth c D y A own cc mL ret) {mc' ms' : Nat} (hQ : Q = zZx below D y A P' PX' args s mc' ms') (hct : ∀ x ∈ c.exceptionTable.toList, False) (hC : zCx l D y yn cb mL' ret' rm (.ref b :: av) wc P PX) (cf : zCB own idx yn cb mL' ret' n ∧ Cond.instanceMethod yn ∈ wAll ∧ Cond.selects yn.cls yn yn ∈ wAll) (hR : rm.frames + 1 ≤ R.frames ∧ 8 + (mL' + 11) + rm.locals ≤ R.locals) (hP : va_P D vwCl (Xs ++ pl) H) (hD : va_D A (Xs ++ pl)) (hS : va_S A s.heap H locs) (isC isR : List Nat) (hc : isC.map (fun i => Xs[i]?) = cx.map some) (hr : isR.map (fun i => Xs[i]?) = wr.map some) (hn : va_nd (isR ++ isC) = true) (hro : ∀ q ∈ ro, q ∈ pl) (hnr : (ro.map (·.1)).Nodup) (hwc : wc = cx ++ ro) {ci : Nat} {fs : List Value} {T : u_T} {N : Nat} (hci : vwCl[ci]? = some (yn.cls, T, N)) (hb0 : (b, .inr (ci, fs)) ∈ Xs ++ pl) (hst : st = av.reverse ++ .ref b :: rest) (hlen : av.length = n) (hls : ls.size = mL) (hW : (rest.map fun v => v.category).sum ≤ 8) (hd : decode cc pc = .ok (.invokevirtual idx, 3)) (hcl : cells + rm.cells ≤ R.cells ∧ slots + rm.slots ≤ R.slots) (hmc : cells + rm.cells ≤ mc') (hms : slots + rm.slots ≤ ms') (isP : List Nat) (hnP : va_nd isP = true)
    (kx : ∀ (E : String) (w : va_W), PX E w → ∃ w1 X1, w = w1 ++ ro ∧ PX' E (X1 ++ pl) ∧ isP.map (fun i => (wr ++ w1)[i]?) = X1.map some)
    (k : ∀ (v : Option Value) (w : va_W), P v w → ∃ w1, w = w1 ++ ro ∧ ∀ (H' : Heap) (locs' : List Loc), va_P D vwCl ((wr ++ w1) ++ pl) H' → va_D A ((wr ++ w1) ++ pl) → va_S A s.heap H' locs' → W p l e R s m args below meth c H' locs' (cells + rm.cells) (slots + rm.slots) Q (F0 m (pc + 3) ls (v.toList ++ rest))) : W p l e R s m args below meth c H locs cells slots Q (F0 m pc ls st) := by
  obtain ⟨hP9, hD9, hF9⟩ := zsee X hP hD hS isC isR hc hr hn hro hnr
  subst hwc
  exact zxaft X hQ hct hP hD hS isC isR hc hr hn hro hF9 (zxrunV X hC cf hR hP9 hD9 hS hF9 hci hP hb0 hst hlen hls hW hd hcl) hmc hms isP hnP kx k
theorem zSr1 {val : Value} (X : zX p s m args meth c D y A own cc mL ret) (hC : zC l D y yn cb mL' ret' rm av wc (zE (some val) w)) (cf : zCB own idx yn cb mL' ret' n ∧ Cond.static yn ∈ wAll) (hR : rm.frames + 1 ≤ R.frames ∧ 8 + (mL' + 11) + rm.locals ≤ R.locals) (hP : va_P D vwCl (Xs ++ pl) H) (hD : va_D A (Xs ++ pl)) (hS : va_S A s.heap H locs) (isC isR : List Nat) (hc : isC.map (fun i => Xs[i]?) = cx.map some) (hr : isR.map (fun i => Xs[i]?) = wr.map some) (hn : va_nd (isR ++ isC) = true) (hro : ∀ q ∈ ro, q ∈ pl) (hnr : (ro.map (·.1)).Nodup) (hwc : wc = cx ++ ro) (hw : w = w1 ++ ro) (hst : st = av.reverse ++ rest) (hlen : av.length = n) (hls : ls.size = mL) (hW : (rest.map fun v => v.category).sum ≤ 8) (hd : decode cc pc = .ok (.invokestatic idx, 3)) (hcl : cells + rm.cells ≤ R.cells ∧ slots + rm.slots ≤ R.slots) (k : ∀ (H' : Heap) (locs' : List Loc), va_P D vwCl ((wr ++ w1) ++ pl) H' → va_D A ((wr ++ w1) ++ pl) → va_S A s.heap H' locs' → W p l e R s m args below meth c H' locs' (cells + rm.cells) (slots + rm.slots) Q (F0 m (pc + 3) ls (val :: rest))) : W p l e R s m args below meth c H locs cells slots Q (F0 m pc ls st) := by
  obtain ⟨hP9, hD9, hF9⟩ := zsee X hP hD hS isC isR hc hr hn hro hnr
  subst hwc
  exact zaft hP hD hS isC isR hc hr hn hro hF9 (zrunS X hC cf hR hP9 hD9 hS hF9 hst hlen hls hW hd hcl) (fun v' w' hp => by
    obtain ⟨rfl, rfl⟩ := hp
    exact ⟨w1, hw, k⟩)
theorem zSr0 (X : zX p s m args meth c D y A own cc mL ret) (hC : zC l D y yn cb mL' ret' rm av wc (zE none w)) (cf : zCB own idx yn cb mL' ret' n ∧ Cond.static yn ∈ wAll) (hR : rm.frames + 1 ≤ R.frames ∧ 8 + (mL' + 11) + rm.locals ≤ R.locals) (hP : va_P D vwCl (Xs ++ pl) H) (hD : va_D A (Xs ++ pl)) (hS : va_S A s.heap H locs) (isC isR : List Nat) (hc : isC.map (fun i => Xs[i]?) = cx.map some) (hr : isR.map (fun i => Xs[i]?) = wr.map some) (hn : va_nd (isR ++ isC) = true) (hro : ∀ q ∈ ro, q ∈ pl) (hnr : (ro.map (·.1)).Nodup) (hwc : wc = cx ++ ro) (hw : w = w1 ++ ro) (hst : st = av.reverse ++ rest) (hlen : av.length = n) (hls : ls.size = mL) (hW : (rest.map fun v => v.category).sum ≤ 8) (hd : decode cc pc = .ok (.invokestatic idx, 3)) (hcl : cells + rm.cells ≤ R.cells ∧ slots + rm.slots ≤ R.slots) (k : ∀ (H' : Heap) (locs' : List Loc), va_P D vwCl ((wr ++ w1) ++ pl) H' → va_D A ((wr ++ w1) ++ pl) → va_S A s.heap H' locs' → W p l e R s m args below meth c H' locs' (cells + rm.cells) (slots + rm.slots) Q (F0 m (pc + 3) ls rest)) : W p l e R s m args below meth c H locs cells slots Q (F0 m pc ls st) := by
  obtain ⟨hP9, hD9, hF9⟩ := zsee X hP hD hS isC isR hc hr hn hro hnr
  subst hwc
  exact zaft hP hD hS isC isR hc hr hn hro hF9 (zrunS X hC cf hR hP9 hD9 hS hF9 hst hlen hls hW hd hcl) (fun v' w' hp => by
    obtain ⟨rfl, rfl⟩ := hp
    exact ⟨w1, hw, k⟩)
theorem zSrg (X : zX p s m args meth c D y A own cc mL ret) (hC : zC l D y yn cb mL' ret' rm av wc P) (cf : zCB own idx yn cb mL' ret' n ∧ Cond.static yn ∈ wAll) (hR : rm.frames + 1 ≤ R.frames ∧ 8 + (mL' + 11) + rm.locals ≤ R.locals) (hP : va_P D vwCl (Xs ++ pl) H) (hD : va_D A (Xs ++ pl)) (hS : va_S A s.heap H locs) (isC isR : List Nat) (hc : isC.map (fun i => Xs[i]?) = cx.map some) (hr : isR.map (fun i => Xs[i]?) = wr.map some) (hn : va_nd (isR ++ isC) = true) (hro : ∀ q ∈ ro, q ∈ pl) (hnr : (ro.map (·.1)).Nodup) (hwc : wc = cx ++ ro) (hst : st = av.reverse ++ rest) (hlen : av.length = n) (hls : ls.size = mL) (hW : (rest.map fun v => v.category).sum ≤ 8) (hd : decode cc pc = .ok (.invokestatic idx, 3)) (hcl : cells + rm.cells ≤ R.cells ∧ slots + rm.slots ≤ R.slots) (k : ∀ (v : Option Value) (w : va_W), P v w → ∃ w1, w = w1 ++ ro ∧ ∀ (H' : Heap) (locs' : List Loc), va_P D vwCl ((wr ++ w1) ++ pl) H' → va_D A ((wr ++ w1) ++ pl) → va_S A s.heap H' locs' → W p l e R s m args below meth c H' locs' (cells + rm.cells) (slots + rm.slots) Q (F0 m (pc + 3) ls (v.toList ++ rest))) : W p l e R s m args below meth c H locs cells slots Q (F0 m pc ls st) := by
  obtain ⟨hP9, hD9, hF9⟩ := zsee X hP hD hS isC isR hc hr hn hro hnr
  subst hwc
  exact zaft hP hD hS isC isR hc hr hn hro hF9 (zrunS X hC cf hR hP9 hD9 hS hF9 hst hlen hls hW hd hcl) k
theorem zxSr (X : zX p s m args meth c D y A own cc mL ret) {mc' ms' : Nat} (hQ : Q = zZx below D y A P' PX' args s mc' ms') (hct : ∀ x ∈ c.exceptionTable.toList, False) (hC : zCx l D y yn cb mL' ret' rm av wc P PX) (cf : zCB own idx yn cb mL' ret' n ∧ Cond.static yn ∈ wAll) (hR : rm.frames + 1 ≤ R.frames ∧ 8 + (mL' + 11) + rm.locals ≤ R.locals) (hP : va_P D vwCl (Xs ++ pl) H) (hD : va_D A (Xs ++ pl)) (hS : va_S A s.heap H locs) (isC isR : List Nat) (hc : isC.map (fun i => Xs[i]?) = cx.map some) (hr : isR.map (fun i => Xs[i]?) = wr.map some) (hn : va_nd (isR ++ isC) = true) (hro : ∀ q ∈ ro, q ∈ pl) (hnr : (ro.map (·.1)).Nodup) (hwc : wc = cx ++ ro) (hst : st = av.reverse ++ rest) (hlen : av.length = n) (hls : ls.size = mL) (hW : (rest.map fun v => v.category).sum ≤ 8) (hd : decode cc pc = .ok (.invokestatic idx, 3)) (hcl : cells + rm.cells ≤ R.cells ∧ slots + rm.slots ≤ R.slots) (hmc : cells + rm.cells ≤ mc') (hms : slots + rm.slots ≤ ms') (isP : List Nat) (hnP : va_nd isP = true)
    (kx : ∀ (E : String) (w : va_W), PX E w → ∃ w1 X1, w = w1 ++ ro ∧ PX' E (X1 ++ pl) ∧ isP.map (fun i => (wr ++ w1)[i]?) = X1.map some)
    (k : ∀ (v : Option Value) (w : va_W), P v w → ∃ w1, w = w1 ++ ro ∧ ∀ (H' : Heap) (locs' : List Loc), va_P D vwCl ((wr ++ w1) ++ pl) H' → va_D A ((wr ++ w1) ++ pl) → va_S A s.heap H' locs' → W p l e R s m args below meth c H' locs' (cells + rm.cells) (slots + rm.slots) Q (F0 m (pc + 3) ls (v.toList ++ rest))) : W p l e R s m args below meth c H locs cells slots Q (F0 m pc ls st) := by
  obtain ⟨hP9, hD9, hF9⟩ := zsee X hP hD hS isC isR hc hr hn hro hnr
  subst hwc
  exact zxaft X hQ hct hP hD hS isC isR hc hr hn hro hF9 (zxrunS X hC cf hR hP9 hD9 hS hF9 hst hlen hls hW hd hcl) hmc hms isP hnP kx k
end ZP
def zex : Nat → String
  | 1 => "java/lang/IndexOutOfBoundsException"
  | 2 => "java/lang/IllegalArgumentException"
  | 3 => "java/lang/IllegalStateException"
  | _ => "java/util/NoSuchElementException"
def zchk (x : Int32) : Bool := decide (zi2c x = x)
theorem zct {α : Type} {x : Int32} {a : Option α} {z : α} (e : (if zchk x = true then a else none) = some z) : (narrow .char (.int x) = .int x ∧ fits .char (.int x) = true) ∧ a = some z := by
  by_cases h : zchk x = true
  · rw [if_pos h] at e
    refine ⟨?_, e⟩
    have h2 := of_decide_eq_true (p := zi2c x = x) h
    exact ⟨by rw [← h2]; exact pk_nc x, by rw [← h2]; exact pk_fc x⟩
  · rw [if_neg h] at e
    cases e
