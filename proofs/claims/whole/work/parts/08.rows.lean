/-! rows: what is made, final fields, what is thrown -/
theorem zKeq {D : va_G} {cl : List vw_C} {tys : List (ClassId × FieldType)} {s : State} {cA c0 : ClassId} {ty : FieldType} {t0 : Nat} (h : va_K D cl (tys ++ [(cA, ty)]) s) (h0 : tys[t0]? = some (c0, ty)) : cA = c0 := by
  have h1 := (h.2 tys.length (cA, ty) (by simp)).2
  have h2 := (h.2 t0 (c0, ty) (by rw [List.getElem?_append_left (List.getElem?_eq_some_iff.mp h0).1]; exact h0)).2
  cases ty with
  | object C =>
    obtain ⟨k1, q1, -, -, -, e1⟩ := h1
    obtain ⟨k2, q2, -, -, -, e2⟩ := h2
    exact Option.some.inj (e1.symm.trans e2)
  | _ => exact Option.some.inj (h1.symm.trans h2)
section ZN
variable {p : Program} {l : Launch} {e : Env} {R : Room} {s : State} {m : MethodId} {args : Array Value} {below : List Frame} {meth : Method} {c : Code} {H : Heap} {locs : List Loc} {cells slots : Nat} {Q : State → Prop} {D : va_G} {y : zY} {A : Nat → Prop} {own : String} {cc : ByteArray} {mL : Nat} {ret : Option FieldType} {pc : Nat} {ls : Array Slot} {rest : List Value} {ws : va_W} {a : Nat}
theorem znewI (X : zX p s m args meth c D y A own cc mL ret) (hw : Cond.arrayClass .int ∈ wAll) (hP : va_P D vwCl ws H) (hD : va_D A ws) (hS : va_S A s.heap H locs) {n : Int32} {N : Nat} (hn : ¬ n < 0) (hN : n.toNatClampNeg = N) (hB : N * 4 ≤ 536870912) (hc : cells + 1 ≤ R.cells) (hs : slots + N ≤ R.slots) (hd : decode cc pc = .ok (.newarray .int, 2))
    (k : ∀ (q : Nat) (H' : Heap), va_P D vwCl (ws ++ [(q, .inl (y.1, N, .inl (fun _ => 0)))]) H' → va_D A (ws ++ [(q, .inl (y.1, N, .inl (fun _ => 0)))]) → va_S A s.heap H' locs → W p l e R s m args below meth c H' locs (cells + 1) (slots + N) Q (F0 m (pc + 2) ls (.ref q :: rest))) : W p l e R s m args below meth c H locs cells slots Q (F0 m pc ls (.int n :: rest)) := by
  obtain ⟨hx, hb, hr, hml, hown, hts, hK, hA, hlocks, hN'⟩ := X
  refine va_newa (atype := .int) (ty := .int) (a0 := (N, .inl (fun _ => 0))) hx hb (hts _ hw) rfl hK hP hD hS hA (fun _ => rfl) hn hN hB hc hs hd (fun q cA H1 hK1 hP1 hD1 hS1 => ?_)
  have ec := zKeq (t0 := 0) (c0 := y.1) hK1 rfl
  subst ec
  exact k q H1 hP1 hD1 hS1
theorem znewL (X : zX p s m args meth c D y A own cc mL ret) (hw : Cond.arrayClass .long ∈ wAll) (hP : va_P D vwCl ws H) (hD : va_D A ws) (hS : va_S A s.heap H locs) {n : Int32} {N : Nat} (hn : ¬ n < 0) (hN : n.toNatClampNeg = N) (hB : N * 8 ≤ 536870912) (hc : cells + 1 ≤ R.cells) (hs : slots + N ≤ R.slots) (hd : decode cc pc = .ok (.newarray .long, 2))
    (k : ∀ (q : Nat) (H' : Heap), va_P D vwCl (ws ++ [(q, .inl (y.2.1, N, .inr (.inl (fun _ => 0))))]) H' → va_D A (ws ++ [(q, .inl (y.2.1, N, .inr (.inl (fun _ => 0))))]) → va_S A s.heap H' locs → W p l e R s m args below meth c H' locs (cells + 1) (slots + N) Q (F0 m (pc + 2) ls (.ref q :: rest))) : W p l e R s m args below meth c H locs cells slots Q (F0 m pc ls (.int n :: rest)) := by
  obtain ⟨hx, hb, hr, hml, hown, hts, hK, hA, hlocks, hN'⟩ := X
  refine va_newa (atype := .long) (ty := .long) (a0 := (N, .inr (.inl (fun _ => 0)))) hx hb (hts _ hw) rfl hK hP hD hS hA (fun _ => rfl) hn hN hB hc hs hd (fun q cA H1 hK1 hP1 hD1 hS1 => ?_)
  have ec := zKeq (t0 := 1) (c0 := y.2.1) hK1 rfl
  subst ec
  exact k q H1 hP1 hD1 hS1
theorem znewZ (X : zX p s m args meth c D y A own cc mL ret) (hw : Cond.arrayClass .boolean ∈ wAll) (hP : va_P D vwCl ws H) (hD : va_D A ws) (hS : va_S A s.heap H locs) {n : Int32} {N : Nat} (hn : ¬ n < 0) (hN : n.toNatClampNeg = N) (hB : N * 1 ≤ 536870912) (hc : cells + 1 ≤ R.cells) (hs : slots + N ≤ R.slots) (hd : decode cc pc = .ok (.newarray .boolean, 2))
    (k : ∀ (q : Nat) (H' : Heap), va_P D vwCl (ws ++ [(q, .inl (y.2.2.1, N, .inl (fun _ => 0)))]) H' → va_D A (ws ++ [(q, .inl (y.2.2.1, N, .inl (fun _ => 0)))]) → va_S A s.heap H' locs → W p l e R s m args below meth c H' locs (cells + 1) (slots + N) Q (F0 m (pc + 2) ls (.ref q :: rest))) : W p l e R s m args below meth c H locs cells slots Q (F0 m pc ls (.int n :: rest)) := by
  obtain ⟨hx, hb, hr, hml, hown, hts, hK, hA, hlocks, hN'⟩ := X
  refine va_newa (atype := .boolean) (ty := .boolean) (a0 := (N, .inl (fun _ => 0))) hx hb (hts _ hw) rfl hK hP hD hS hA (fun _ => rfl) hn hN hB hc hs hd (fun q cA H1 hK1 hP1 hD1 hS1 => ?_)
  have ec := zKeq (t0 := 2) (c0 := y.2.2.1) hK1 rfl
  subst ec
  exact k q H1 hP1 hD1 hS1
theorem znewG (X : zX p s m args meth c D y A own cc mL ret) {idx : Nat} (hw : Cond.classLink own idx "WaterGrid$Grid" ∈ wAll) (hP : va_P D vwCl ws H) (hD : va_D A ws) (hS : va_S A s.heap H locs) {n : Int32} {N : Nat} (hn : ¬ n < 0) (hN : n.toNatClampNeg = N) (hB : N * 4 ≤ 536870912) (hc : cells + 1 ≤ R.cells) (hs : slots + N ≤ R.slots) (hd : decode cc pc = .ok (.anewarray idx, 3))
    (k : ∀ (q : Nat) (H' : Heap), va_P D vwCl (ws ++ [(q, .inl (y.2.2.2, N, .inr (.inr (.inr (.inr (fun _ => none))))))]) H' → va_D A (ws ++ [(q, .inl (y.2.2.2, N, .inr (.inr (.inr (.inr (fun _ => none))))))]) → va_S A s.heap H' locs → W p l e R s m args below meth c H' locs (cells + 1) (slots + N) Q (F0 m (pc + 3) ls (.ref q :: rest))) : W p l e R s m args below meth c H locs cells slots Q (F0 m pc ls (.int n :: rest)) := by
  obtain ⟨hx, hb, hr, hml, hown, hts, hK, hA, hlocks, hN'⟩ := X
  refine va_newq hx hb hown (hts _ hw) hN'.2.2.2.2.2.2.2.2.2 hK hP hD hS hA hn hN hB hc hs hd (fun q cA H1 hK1 hP1 hD1 hS1 => ?_)
  have ec := zKeq (t0 := 3) (c0 := y.2.2.2) hK1 rfl
  subst ec
  exact k q H1 hP1 hD1 hS1
theorem znew (X : zX p s m args meth c D y A own cc mL ret) {ci idx N : Nat} {C : String} {T : u_T} {fs : List Value} {ty : Nat → FieldType} (hci : vwCl[ci]? = some (C, T, N)) (hin : ∀ w ∈ u_ws C T N, w ∈ wAll) (hty : ∀ k, k < N → parseFieldDescriptor (T k).2.2.1 = some (ty k)) (hl : Cond.classLink own idx C ∈ wAll) (hi : Cond.instantiable C N ∈ wAll) (hini : Cond.initialized C ∈ wAll)
    (hP : va_P D vwCl ws H) (hD : va_D A ws) (hS : va_S A s.heap H locs) (hf : ∀ j, j < N → fs[j]? = some (defaultValue (ty j))) (hc : cells + 1 ≤ R.cells) (hs : slots + N ≤ R.slots) (hd : decode cc pc = .ok (.new idx, 3))
    (k : ∀ (q : Nat) (H' : Heap), va_P D vwCl (ws ++ [(q, .inr (ci, fs))]) H' → va_D A (ws ++ [(q, .inr (ci, fs))]) → va_S A s.heap H' locs → W p l e R s m args below meth c H' locs (cells + 1) (slots + N) Q (F0 m (pc + 3) ls (.ref q :: rest))) : W p l e R s m args below meth c H locs cells slots Q (F0 m pc ls rest) := by
  obtain ⟨hx, hb, hr, hml, hown, hts, hK, hA, hlocks, hN'⟩ := X
  exact va_new hx hb hts hin ty hty hown (hts _ hl) (hts _ hi) (hts _ hini) hK hP hD hS hA hci (by intro j hj; unfold vp_V; rw [List.getD_eq_getElem?_getD, hf j hj]; rfl) hc hs hd (fun q H' h1 h2 h3 => k q H' h1 h2 h3)
theorem zputF (X : zX p s m args meth c D y A own cc mL ret) (hin2 : meth.name = "<init>") (hP : va_P D vwCl ws H) (hD : va_D A ws) (hS : va_S A s.heap H locs) (q0 : Nat) {ci idx N : Nat} {C : String} {T : u_T} {fs : List Value} {v : Value} {ty : FieldType} {ty0 : Nat → FieldType} (he : ws[q0]? = some (a, .inr (ci, fs))) (hc : vwCl[ci]? = some (C, T, N)) (hin : ∀ w ∈ u_ws C T N, w ∈ wAll)
    (hty : ∀ k, k < N → parseFieldDescriptor (T k).2.2.1 = some (ty0 k)) (hnm : ∀ a, a < N → ∀ b, b < N → a ≠ b → (T a).2.1 ≠ (T b).2.1) (k : Nat) (hk : k < N) (hl : Cond.fieldLink own idx (T k).1 (T k).2.1 (T k).2.2.1 ∈ wAll) (hfin : (T k).2.2.2 = true) (hdecl : (T k).1 = own) (hd0 : ty0 k = ty) (hn : narrow ty v = v) (hfit : fits ty v = true) (hlen : k < fs.length) (hd : decode cc pc = .ok (.putfield idx, 3))
    (kk : ∀ (H' : Heap) (locs' : List Loc), va_P D vwCl (ws.set q0 (a, .inr (ci, fs.set k v))) H' → va_D A (ws.set q0 (a, .inr (ci, fs.set k v))) → va_S A s.heap H' locs' → W p l e R s m args below meth c H' locs' cells slots Q (F0 m (pc + 3) ls rest)) : W p l e R s m args below meth c H locs cells slots Q (F0 m pc ls (v :: .ref a :: rest)) := by
  obtain ⟨hx, hb, hr, hml, hown, hts, hK, hA, hlocks, hN'⟩ := X
  exact va_putF hx hb hts hin ty0 hty hnm hown hK hP hD hS q0 he hc k hk (hts _ hl) (fun _ h => h) hfin hin2 hdecl (hd := by rw [hty k hk, hd0]) hn hfit hlen hd (fun H' locs' h1 h2 h3 => kk H' locs' h1 h2 h3)
theorem zobj (X : zX p s m args meth c D y A own cc mL ret) {idx : Nat} (h1 : Cond.methodLink own idx objectInit ∈ wAll) (h2 : Cond.instanceMethod objectInit ∈ wAll) (h3 : Cond.code objectInit ⟨#[0xb1]⟩ 1 none ∈ wAll) (hls : ls.size = mL) (hf : 1 ≤ R.frames) (hl : (rest.map fun v => v.category).sum + 12 ≤ R.locals) (hd : decode cc pc = .ok (.invokespecial idx, 3))
    (k : W p l e R s m args below meth c H locs cells slots Q (F0 m (pc + 3) ls rest)) : W p l e R s m args below meth c H locs cells slots Q (F0 m pc ls (.ref a :: rest)) := by
  obtain ⟨hx, hb, hr, hml, hown, hts, hK, hA, hlocks, hN'⟩ := X
  refine W.objInit hx hb hown (hts _ h1) (hts _ h2) (hts _ h3) rfl (by rw [hml]; exact hls) rfl hd hf (by show 2 * 0 + _ + 12 ≤ _; omega) ?_
  exact k
/-- the words of an exception's making, among the tables' -/
def zatOK (own : String) (ic : Nat) (cls : String) (names : List String) : Prop := (∀ w ∈ vx_atS own ic cls names, w ∈ wAll ∨ (∃ q ∈ zcasts, w = .castable q.1 q.2) ∨ ∃ q ∈ zdecls, w = .declares q) ∧ (∀ w ∈ vx_atS own ic cls names, vx_ot w = true)
theorem zat_of {own : String} {ic : Nat} {cls : String} {names : List String} (h : (vx_atS own ic cls names).all (fun w => ((decide (w ∈ lw_tbl) && goodWord w) || ((zcasts.any fun q => decide (w = .castable q.1 q.2)) || (zdecls.any fun q => decide (w = .declares q)))) && vx_ot w) = true) : zatOK own ic cls names := by
  refine ⟨fun w hw => ?_, fun w hw => ?_⟩
  · have h1 := List.all_eq_true.mp h w hw
    simp only [Bool.and_eq_true, Bool.or_eq_true, decide_eq_true_eq, List.any_eq_true] at h1
    rcases h1.1 with h2 | ⟨q, hq, e⟩ | ⟨q, hq, e⟩
    · exact Or.inl (List.mem_filter.mpr h2)
    · exact Or.inr (Or.inl ⟨q, hq, e⟩)
    · exact Or.inr (Or.inr ⟨q, hq, e⟩)
  · have h1 := List.all_eq_true.mp h w hw
    simp only [Bool.and_eq_true] at h1
    exact h1.2
theorem zthS {P : Option Value → va_W → Prop} {PX : String → va_W → Prop} {cls text : String} {names : List String} {ik is ic mc ms : Nat} {w : va_W} (X : zX p s m args meth c D y A own cc mL ret) (hst : l.stackTraces = false) (hQ : Q = zZx below D y A P PX args s mc ms) (hct : ∀ x ∈ c.exceptionTable.toList, False) (hcls : Bundle.fit cls = true) (hnames : ∀ n ∈ names, Bundle.fit n = true)
    (hk : Cond.classLink own ik cls ∈ wAll) (hko : vx_ot (Cond.classLink own ik cls) = true) (hini : Cond.initialized cls ∈ wAll) (hio : vx_ot (Cond.initialized cls) = true) (hstr : (own, is, text) ∈ zstrs) (hat : zatOK own ic cls names) (hP : va_P D vwCl w H) (hD : va_D A w) (hS : va_S A s.heap H locs) (hls : ls.size = mL)
    (d0 : decode cc pc = .ok (.new ik, 3)) (d3 : decode cc (pc + 3) = .ok (.dup, 1)) (d4 : (decode cc (pc + 4) = .ok (.ldc is, 2) ∧ decode cc (pc + 6) = .ok (.invokespecial ic, 3) ∧ decode cc (pc + 9) = .ok (.athrow, 1)) ∨ (decode cc (pc + 4) = .ok (.ldc_w is, 3) ∧ decode cc (pc + 7) = .ok (.invokespecial ic, 3) ∧ decode cc (pc + 10) = .ok (.athrow, 1)))
    (hRf : names.length + 3 < R.frames) (hRl : (rest.map fun v => v.category).sum + (13 * (names.length + 1) + 43) ≤ R.locals) (hRc : cells + 1 ≤ R.cells) (hRs : slots + 6 ≤ R.slots) (hc : cells + 1 ≤ mc) (hs : slots + 6 ≤ ms) (hp : PX cls w) : W p l e R s m args below meth c H locs cells slots Q (F0 m pc ls rest) := by
  obtain ⟨hx, hb, hr, hml, hown, hts, hK, hA, hlocks, hN⟩ := X
  obtain ⟨n1, n2, -, -, n4, n5, -, -, n8, -⟩ := hN
  obtain ⟨sa, hsa, -⟩ := n4 _ hstr
  subst hQ
  have hatw : ∀ w ∈ vx_atS own ic cls names, w.before args s = true := fun w hw => by
    rcases hat.1 w hw with h | ⟨q, hq, rfl⟩ | ⟨q, hq, rfl⟩
    · exact hts _ h
    · exact va_Nw.use rfl (n5 q hq)
    · exact va_Nw.use rfl (n8 q hq)
  have hgood : ∀ w ∈ Cond.classLink own ik cls :: Cond.initialized cls :: vx_atS own ic cls names, vx_ot w = true := List.forall_mem_cons.mpr ⟨hko, List.forall_mem_cons.mpr ⟨hio, hat.2⟩⟩
  have hxc : ∀ t : State, s.vm.Alike t.vm → H.size ≤ t.heap.size → (∀ q : Nat, q < H.size → t.heap[q]? = H[q]?) → zQX D y A PX cls s t := fun t hvm hz hq => ⟨⟨w, hp, zP_of (fun q hq2 => (zP_at hP hq2).kept (hq q.1 (zP_at hP hq2).lt)), va_K.moved hvm hK, hD⟩, Nat.le_trans hS.1 hz, fun q h1 h2 => by rw [hq q (Nat.lt_of_lt_of_le h1 hS.1)]; exact hS.2.1 q h1 h2⟩
  rcases d4 with ⟨e4, e6, e9⟩ | ⟨e4, e6, e9⟩
  · exact vx_throwS hx hb hst hown hcls hnames (hts _ hk) (hts _ hini) hsa hatw hgood n1 n2 hS (by rw [hml]; exact hls) d0 d3 e4 e6 e9 (fun x h => (hct x h).elim) hRf hRl hRc hRs hlocks hxc hS.2.2 hc hs
  · exact vx_throwSW hx hb hst hown hcls hnames (hts _ hk) (hts _ hini) hsa hatw hgood n1 n2 hS (by rw [hml]; exact hls) d0 d3 e4 e6 e9 (fun x h => (hct x h).elim) hRf hRl hRc hRs hlocks hxc hS.2.2 hc hs
end ZN
set_option maxRecDepth 100000 in
theorem zat_IllegalArgumentException : zatOK "WaterGrid" 103 "java/lang/IllegalArgumentException" ["java/lang/RuntimeException", "java/lang/Exception"] := zat_of (by decide +kernel)
set_option maxRecDepth 100000 in
theorem zat_IndexOutOfBoundsException : zatOK "WaterGrid" 260 "java/lang/IndexOutOfBoundsException" ["java/lang/RuntimeException", "java/lang/Exception"] := zat_of (by decide +kernel)
set_option maxRecDepth 100000 in
theorem zat_IllegalStateException : zatOK "WaterGrid" 351 "java/lang/IllegalStateException" ["java/lang/RuntimeException", "java/lang/Exception"] := zat_of (by decide +kernel)
