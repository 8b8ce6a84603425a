/-! calls whose callee takes a whole tail of the world; and calls under handlers -/
theorem zidxR {α : Type} (a b : List α) : (List.range a.length).map (fun i => (a ++ b)[i]?) = a.map some := by
  apply List.ext_getElem?
  intro i
  by_cases h : i < a.length
  · simp [h, List.getElem?_append_left h]
  · simp [h]
theorem zidxC {α : Type} (a b : List α) : ((List.range b.length).map (fun i => a.length + i)).map (fun i => (a ++ b)[i]?) = b.map some := by
  apply List.ext_getElem?
  intro i
  by_cases h : i < b.length
  · simp [h]
  · simp [h]
theorem zidxN (a b : Nat) : va_nd (List.range a ++ (List.range b).map (fun i => a + i)) = true := znd_of (by
  rw [← List.range_add]
  exact List.nodup_range)
section ZHV
variable {p : Program} {l : Launch} {e : Env} {R : Room} {s : State} {m : MethodId} {args : Array Value} {below : List Frame} {meth : Method} {c : Code} {H : Heap} {locs : List Loc} {cells slots : Nat} {Q : State → Prop} {D : va_G} {y : zY} {A : Nat → Prop} {own : String} {cc : ByteArray} {mL : Nat} {ret : Option FieldType} {pc : Nat} {ls : Array Slot} {rest : List Value} {ws wc wr : va_W} {a b : Nat}
variable {yn : MethodName} {cb : ByteArray} {mL' idx n : Nat} {ret' : Option FieldType} {rm : Room} {av : List Value} {P : Option Value → va_W → Prop} {PX : String → va_W → Prop} {st : List Value}
/-- a call that returns, its callee having the tail wc -/
theorem zVs (X : zX p s m args meth c D y A own cc mL ret) (hC : zC l D y yn cb mL' ret' rm (.ref b :: av) wc P) (cf : zCB own idx yn cb mL' ret' n ∧ Cond.instanceMethod yn ∈ wAll ∧ Cond.selects yn.cls yn yn ∈ wAll) (hR : rm.frames + 1 ≤ R.frames ∧ 8 + (mL' + 11) + rm.locals ≤ R.locals) (hP : va_P D vwCl (wr ++ wc) H) (hD : va_D A (wr ++ wc)) (hS : va_S A s.heap H locs)
    (q0 : Nat) {ci : Nat} {fs : List Value} {T : u_T} {N : Nat} (hci : vwCl[ci]? = some (yn.cls, T, N)) (hb0 : wc[q0]? = some (b, .inr (ci, fs))) (hst : st = av.reverse ++ .ref b :: rest) (hlen : av.length = n) (hls : ls.size = mL) (hW : (rest.map fun v => v.category).sum ≤ 8) (hd : decode cc pc = .ok (.invokevirtual idx, 3)) (hcl : cells + rm.cells ≤ R.cells ∧ slots + rm.slots ≤ R.slots)
    (k : ∀ (v : Option Value) (w : va_W), P v w → ∀ (H' : Heap) (locs' : List Loc), va_P D vwCl (wr ++ w) H' → va_D A (wr ++ w) → va_S A s.heap H' locs' → W p l e R s m args below meth c H' locs' (cells + rm.cells) (slots + rm.slots) Q (F0 m (pc + 3) ls (v.toList ++ rest))) : W p l e R s m args below meth c H locs cells slots Q (F0 m pc ls st) := by
  refine zVrg (Xs := wr ++ wc) (pl := []) (cx := wc) (wr := wr) (ro := []) (rest := rest) X hC cf hR (by rw [List.append_nil]; exact hP) (by rw [List.append_nil]; exact hD) hS ((List.range wc.length).map (fun i => wr.length + i)) (List.range wr.length) (zidxC wr wc) (zidxR wr wc) (zidxN _ _) (fun _ h => absurd h List.not_mem_nil) zn0 (List.append_nil _).symm hci (by rw [List.append_nil]; exact List.mem_append_right _ (List.mem_of_getElem? hb0)) hst hlen hls hW hd hcl (fun v w hp => ⟨w, (List.append_nil _).symm, fun H' locs' h1 h2 h3 => ?_⟩)
  rw [List.append_nil] at h1 h2
  exact k v w hp H' locs' h1 h2 h3
/-- a call under handlers, its callee having the tail wc -/
theorem zhVs (X : zX p s m args meth c D y A own cc mL ret) (hC : zCx l D y yn cb mL' ret' rm (.ref b :: av) wc P PX) (cf : zCB own idx yn cb mL' ret' n ∧ Cond.instanceMethod yn ∈ wAll ∧ Cond.selects yn.cls yn yn ∈ wAll) (hR : rm.frames + 1 ≤ R.frames ∧ 8 + (mL' + 11) + rm.locals ≤ R.locals) (hP : va_P D vwCl (wr ++ wc) H) (hD : va_D A (wr ++ wc)) (hS : va_S A s.heap H locs)
    (q0 : Nat) {ci : Nat} {fs : List Value} {T : u_T} {N : Nat} (hci : vwCl[ci]? = some (yn.cls, T, N)) (hb0 : wc[q0]? = some (b, .inr (ci, fs))) (hst : st = av.reverse ++ .ref b :: rest) (hlen : av.length = n) (hls : ls.size = mL) (hW : (rest.map fun v => v.category).sum ≤ 8) (hd : decode cc pc = .ok (.invokevirtual idx, 3)) (hcl : cells + rm.cells ≤ R.cells ∧ slots + rm.slots ≤ R.slots)
    (kx : ∀ (E : String) (w : va_W), PX E w → ∀ (q : Nat) (ce : Cell) (H' : Heap) (locs' : List Loc), va_P D vwCl (wr ++ w) H' → va_D A (wr ++ w) → va_S A s.heap H' locs' → H'[q]? = some ce → ce.vm = .none → s.vm.findClass E = some ce.cls → vx_W p l e R s m args below meth c H' locs' (cells + rm.cells) (slots + rm.slots) Q (F0 m pc ls rest) q)
    (k : ∀ (v : Option Value) (w : va_W), P v w → ∀ (H' : Heap) (locs' : List Loc), va_P D vwCl (wr ++ w) H' → va_D A (wr ++ w) → va_S A s.heap H' locs' → W p l e R s m args below meth c H' locs' (cells + rm.cells) (slots + rm.slots) Q (F0 m (pc + 3) ls (v.toList ++ rest))) : W p l e R s m args below meth c H locs cells slots Q (F0 m pc ls st) := by
  have hP0 : va_P D vwCl ((wr ++ wc) ++ []) H := by rw [List.append_nil]; exact hP
  have hD0 : va_D A ((wr ++ wc) ++ []) := by rw [List.append_nil]; exact hD
  have hro : ∀ q ∈ ([] : va_W), q ∈ ([] : va_W) := fun _ h => h
  obtain ⟨hP9, hD9, hF9⟩ := zsee (cx := wc) (wr := wr) (ro := []) X hP0 hD0 hS ((List.range wc.length).map (fun i => wr.length + i)) (List.range wr.length) (zidxC wr wc) (zidxR wr wc) (zidxN _ _) hro zn0
  obtain ⟨hP2, hD2⟩ := zparts hP0 hD0 ((List.range wc.length).map (fun i => wr.length + i)) (List.range wr.length) (zidxC wr wc) (zidxR wr wc) (zidxN _ _)
  have hC' : zCx l D y yn cb mL' ret' rm (.ref b :: av) (wc ++ []) P PX := by rw [List.append_nil]; exact hC
  have hrun := zxrunV (p := p) (e := e) (below := below) (locs := locs) (rest := rest) X hC' cf hR hP9 hD9 hS hF9 hci hP (List.mem_append_right _ (List.mem_of_getElem? hb0)) hst hlen hls hW hd hcl
  intro T9 hT X0
  rcases hrun T9 hT X0 with ⟨v, st₀, t, T', L, h0, X', hL, e1, e2, ⟨⟨v', w, hp, hv, hPw, hKw, hDw⟩, hFr⟩, st⟩ | ⟨q, st₀, t, T', L, E, ce, h0, X', hL, e1, e2, ⟨⟨w, hp, hPw, hKw, hDw⟩, hFr⟩, hce, hcv, hcl, st⟩
  · cases hv
    obtain ⟨k1, k2, k3⟩ := vx_keep h0 e1 hS (fun q _ h => hF9 q h) hF9 hL hFr
    rw [← e1] at hPw
    have hPw' : va_P D vwCl (w ++ []) T'.heap := by rw [List.append_nil]; exact hPw
    have hDw' : va_D (va_A (wc ++ []) H.size) (w ++ []) := by rw [List.append_nil w]; exact hDw
    obtain ⟨hP', hD'⟩ := zjoin hP2 hD2 hro k2 hF9 hPw' hDw'
    rw [List.append_nil] at hP' hD'
    obtain ⟨t2, a1, b1⟩ := k v w hp T'.heap (locs ++ L) hP' hD' k3 T' rfl X'
    exact ⟨t2, st t2 a1, b1⟩
  · obtain ⟨k1, k2, k3⟩ := vx_keep h0 e1 hS (fun q _ h => hF9 q h) hF9 hL hFr
    rw [← e1] at hPw hce
    have hPw' : va_P D vwCl (w ++ []) T'.heap := by rw [List.append_nil]; exact hPw
    have hDw' : va_D (va_A (wc ++ []) H.size) (w ++ []) := by rw [List.append_nil w]; exact hDw
    obtain ⟨hP', hD'⟩ := zjoin hP2 hD2 hro k2 hF9 hPw' hDw'
    rw [List.append_nil] at hP' hD'
    obtain ⟨t2, a1, b1⟩ := kx E w hp q ce T'.heap (locs ++ L) hP' hD' k3 hce hcv hcl T' rfl X'
    exact ⟨t2, st.trans a1, b1⟩
end ZHV
