/-! rows for the law's body: worlds up to order, the script's ints, truths, calls of class and reference, the ends of the cases -/
theorem zPp {D : va_G} {a b : va_W} {H : Heap} (e : a.Perm b) (h : va_P D vwCl a H) : va_P D vwCl b H := fun k q hk => by
  obtain ⟨j, hj⟩ := List.mem_iff_getElem?.mp ((e.mem_iff).mpr (List.mem_of_getElem? hk))
  exact h j q hj
theorem zDn {ws : va_W} (h : ∀ (i j : Nat) (p q : Nat × va_E), ws[i]? = some p → ws[j]? = some q → p.1 = q.1 → i = j) : (ws.map (·.1)).Nodup := by
  rw [List.nodup_iff_pairwise_ne, List.pairwise_iff_getElem]
  intro i j hi hj hij e
  rw [List.length_map] at hi hj
  rw [List.getElem_map, List.getElem_map] at e
  exact absurd (h i j _ _ (List.getElem?_eq_getElem hi) (List.getElem?_eq_getElem hj) e) (Nat.ne_of_lt hij)
theorem zDm {ws : va_W} (h : (ws.map (·.1)).Nodup) : ∀ (i j : Nat) (p q : Nat × va_E), ws[i]? = some p → ws[j]? = some q → p.1 = q.1 → i = j := by
  rw [List.nodup_iff_pairwise_ne, List.pairwise_iff_getElem] at h
  intro i j p q hi hj e
  obtain ⟨hi1, hi2⟩ := List.getElem?_eq_some_iff.mp hi
  obtain ⟨hj1, hj2⟩ := List.getElem?_eq_some_iff.mp hj
  rcases Nat.lt_trichotomy i j with hij | hij | hij
  · exact absurd (by rw [List.getElem_map, List.getElem_map, hi2, hj2, e]) (h i j (by rw [List.length_map]; exact hi1) (by rw [List.length_map]; exact hj1) hij)
  · exact hij
  · exact absurd (by rw [List.getElem_map, List.getElem_map, hi2, hj2, e]) (h j i (by rw [List.length_map]; exact hj1) (by rw [List.length_map]; exact hi1) hij)
theorem zDp {A : Nat → Prop} {a b : va_W} (e : a.Perm b) (h : va_D A a) : va_D A b := ⟨zDm ((e.map (·.1)).nodup_iff.mp (zDn h.1)), fun k q hk => by
  obtain ⟨j, hj⟩ := List.mem_iff_getElem?.mp ((e.mem_iff).mpr (List.mem_of_getElem? hk))
  exact h.2 j q hj⟩
theorem zp1 {wX wM rX cX : va_W} {x : Nat × va_E} (h : wX.Perm (rX ++ cX)) : (wM ++ (x :: wX)).Perm ((wM ++ rX) ++ ([x] ++ cX)) := by
  rw [List.append_assoc]
  refine List.Perm.append_left wM ?_
  refine ((List.Perm.cons x h).trans ?_)
  exact (List.perm_middle (a := x) (l₁ := rX) (l₂ := cX)).symm
theorem zp2 {wM rX w1 : va_W} {x : Nat × va_E} : ((wM ++ rX) ++ ([x] ++ w1)).Perm (wM ++ (x :: (rX ++ w1))) := (zp1 (List.Perm.refl _)).symm
theorem zp3 {wX wM rM cM : va_W} (h : wM.Perm (rM ++ cM)) : (wM ++ wX).Perm ((wX ++ rM) ++ cM) := by
  refine (List.perm_append_comm).trans ?_
  rw [List.append_assoc]
  exact List.Perm.append_left wX h
theorem zp4 {wX rM wm : va_W} : ((wX ++ rM) ++ wm).Perm ((rM ++ wm) ++ wX) := by
  rw [List.append_assoc]
  exact List.perm_append_comm
theorem zp5 {wX wM rX cX : va_W} {x : Nat × va_E} (h : wX.Perm (rX ++ cX)) : (wM ++ (x :: wX)).Perm ((wM ++ (x :: rX)) ++ cX) := by
  rw [List.append_assoc]
  exact List.Perm.append_left wM (List.Perm.cons x h)
theorem zp6 {wM rX w1 : va_W} {x : Nat × va_E} : ((wM ++ (x :: rX)) ++ w1).Perm (wM ++ (x :: (rX ++ w1))) := (zp5 (List.Perm.refl _)).symm
theorem zlv {ls : Array Slot} {n : Nat} {x : Nat × Value} {lv : List (Nat × Value)} (h : lv_has ls n (x :: lv)) : lv_has ls n lv := ⟨h.1, h.2.1, fun q hq => h.2.2 q (List.mem_cons_of_mem _ hq)⟩
def zbl (x : Int32) : Int32 := if x = 0 then 0 else 1
theorem zbl01 (x : Int32) : zbl x = 0 ∨ zbl x = 1 := by
  unfold zbl
  by_cases h : x = 0
  · exact Or.inl (if_pos h)
  · exact Or.inr (if_neg h)
theorem zlcE (v : Int64) : lg_cmp v v = 0 := by
  unfold lg_cmp
  have h : ¬ v > v := fun h => by
    rw [gt_iff_lt, Int64.lt_iff_toInt_lt] at h
    exact Int.lt_irrefl _ h
  rw [if_neg h, if_pos rfl]
abbrev zbx (y : zY) (ab : Nat) (cb : Nat → Int64) : Nat × va_E := (ab, .inl (y.2.1, 1, .inr (.inl cb)))
section ZLB
variable {p : Program} {l : Launch} {e : Env} {R : Room} {s : State} {m : MethodId} {args : Array Value} {below : List Frame} {meth : Method} {c : Code} {H : Heap} {locs : List Loc} {cells slots : Nat} {Q : State → Prop} {D : va_G} {y : zY} {A : Nat → Prop} {own : String} {cc : ByteArray} {mL : Nat} {ret : Option FieldType} {pc : Nat} {ls : Array Slot} {rest : List Value} {wX wM rX cX rM cM : va_W} {ab b bm sb L : Nat} {bx : Nat × va_E} {xs : Nat → Int32}
variable {yn : MethodName} {cb : ByteArray} {mL' idx n : Nat} {ret' : Option FieldType} {hh : List (Nat × Nat × Nat × Nat)} {rm : Room} {av : List Value} {P : Option Value → va_W → Prop} {st : List Value}
/-- an int of the script: aload_0, iload 4, iconst k, iadd, iaload -/
theorem zsc (X : zX p s m args meth c D y A own cc mL ret) (hX : va_X sb L xs s s.heap) (hbl : sb < s.heap.size) (hbA : ¬ A sb) (hS : va_S A s.heap H locs) {i k : Int32} {kn : Int} (d0 : decode cc pc = .ok (.aload_n 0, 1)) (d1 : decode cc (pc + 1) = .ok (.iload 4, 2)) (d3 : decode cc (pc + 3) = .ok (.iconst kn, 1)) (hk : Int32.ofInt kn = k) (d4 : decode cc (pc + 4) = .ok (.iadd, 1)) (d5 : decode cc (pc + 5) = .ok (.iaload, 1)) (h0 : ls[0]? = some (.val (.ref sb))) (h4 : ls[4]? = some (.val (.int i))) (hin : vp_in (i + k) L)
    (kk : W p l e R s m args below meth c H locs cells slots Q (F0 m (pc + 6) ls (.int (xs (i + k).toNatClampNeg) :: rest))) : W p l e R s m args below meth c H locs cells slots Q (F0 m pc ls rest) := by
  obtain ⟨hx, hb, -⟩ := id X
  refine lv_aload_n hx hb d0 rfl h0 ?_
  refine lv_iload hx hb d1 h4 ?_
  refine lv_iconst hx hb d3 hk ?_
  refine lv_iadd hx hb d4 ?_
  exact va_sld hx hb hX hbl hbA hS hin d5 kk
theorem zscb (X : zX p s m args meth c D y A own cc mL ret) (hX : va_X sb L xs s s.heap) (hbl : sb < s.heap.size) (hbA : ¬ A sb) (hS : va_S A s.heap H locs) {i k : Int32} {kn : Int} (d0 : decode cc pc = .ok (.aload_n 0, 1)) (d1 : decode cc (pc + 1) = .ok (.iload 4, 2)) (d3 : decode cc (pc + 3) = .ok (.bipush kn, 2)) (hk : (Int8.ofInt kn).toInt32 = k) (d4 : decode cc (pc + 5) = .ok (.iadd, 1)) (d5 : decode cc (pc + 6) = .ok (.iaload, 1)) (h0 : ls[0]? = some (.val (.ref sb))) (h4 : ls[4]? = some (.val (.int i))) (hin : vp_in (i + k) L)
    (kk : W p l e R s m args below meth c H locs cells slots Q (F0 m (pc + 7) ls (.int (xs (i + k).toNatClampNeg) :: rest))) : W p l e R s m args below meth c H locs cells slots Q (F0 m pc ls rest) := by
  obtain ⟨hx, hb, -⟩ := id X
  refine lv_aload_n hx hb d0 rfl h0 ?_
  refine lv_iload hx hb d1 h4 ?_
  refine lv_bipush hx hb d3 hk ?_
  refine lv_iadd hx hb d4 ?_
  exact va_sld hx hb hX hbl hbA hS hin d5 kk
/-- an int that isn't 0, as a truth: ifeq, iconst_1, goto, iconst_0 -/
theorem zbo (X : zX p s m args meth c D y A own cc mL ret) {x : Int32} {o1 o2 : Int} (d0 : decode cc pc = .ok (.ifCond .eq o1, 3)) (h0 : (pc : Int) + o1 = ((pc + 7 : Nat) : Int)) (d3 : decode cc (pc + 3) = .ok (.iconst 1, 1)) (d4 : decode cc (pc + 4) = .ok (.goto o2, 3)) (h4 : ((pc + 4 : Nat) : Int) + o2 = ((pc + 8 : Nat) : Int)) (d7 : decode cc (pc + 7) = .ok (.iconst 0, 1))
    (kk : W p l e R s m args below meth c H locs cells slots Q (F0 m (pc + 8) ls (.int (zbl x) :: rest))) : W p l e R s m args below meth c H locs cells slots Q (F0 m pc ls (.int x :: rest)) := by
  obtain ⟨hx, hb, -⟩ := id X
  refine lv_if_eq hx hb d0 h0 (fun cz => ?_) (fun cz => ?_)
  · refine lv_iconst (v := 0) hx hb d7 (by decide) ?_
    unfold zbl at kk
    rw [if_pos cz] at kk
    exact kk
  · refine lv_iconst (v := 1) hx hb d3 (by decide) ?_
    refine lv_goto (tgt := pc + 8) hx hb d4 h4 ?_
    unfold zbl at kk
    rw [if_neg cz] at kk
    exact kk
/-- a call of the reference -/
theorem zLm (X : zX p s m args meth c D y A own cc mL ret) (hM : wM.Perm (rM ++ cM)) (hC : zC l D y yn cb mL' ret' rm (.ref bm :: av) cM P) (cf : zCB own idx yn cb mL' ret' n ∧ Cond.instanceMethod yn ∈ wAll ∧ Cond.selects yn.cls yn yn ∈ wAll) (hR : rm.frames + 1 ≤ R.frames ∧ 8 + (mL' + 11) + rm.locals ≤ R.locals) (hP : va_P D vwCl (wM ++ wX) H) (hD : va_D A (wM ++ wX)) (hS : va_S A s.heap H locs)
    {ci : Nat} {fs : List Value} {T : u_T} {N : Nat} (hci : vwCl[ci]? = some (yn.cls, T, N)) (hb0 : cM[0]? = some (bm, .inr (ci, fs))) (hst : st = av.reverse ++ .ref bm :: rest) (hlen : av.length = n) (hls : ls.size = mL) (hW : (rest.map fun v => v.category).sum ≤ 8) (hd : decode cc pc = .ok (.invokevirtual idx, 3)) (hcl : cells + rm.cells ≤ R.cells ∧ slots + rm.slots ≤ R.slots)
    (k : ∀ (v : Option Value) (w : va_W), P v w → ∀ (H' : Heap) (locs' : List Loc), va_P D vwCl ((rM ++ w) ++ wX) H' → va_D A ((rM ++ w) ++ wX) → va_S A s.heap H' locs' → W p l e R s m args below meth c H' locs' (cells + rm.cells) (slots + rm.slots) Q (F0 m (pc + 3) ls (v.toList ++ rest))) : W p l e R s m args below meth c H locs cells slots Q (F0 m pc ls st) :=
  zVs (wr := wX ++ rM) X hC cf hR (zPp (zp3 hM) hP) (zDp (zp3 hM) hD) hS 0 hci hb0 hst hlen hls hW hd hcl (fun v w hp H' locs' h1 h2 h3 => k v w hp H' locs' (zPp zp4 h1) (zDp zp4 h2) h3)
/-- a call of the class, of a method that does not throw -/
theorem zLx (X : zX p s m args meth c D y A own cc mL ret) (hX : wX.Perm (rX ++ cX)) (hC : zC l D y yn cb mL' ret' rm (.ref b :: av) cX P) (cf : zCB own idx yn cb mL' ret' n ∧ Cond.instanceMethod yn ∈ wAll ∧ Cond.selects yn.cls yn yn ∈ wAll) (hR : rm.frames + 1 ≤ R.frames ∧ 8 + (mL' + 11) + rm.locals ≤ R.locals) (hP : va_P D vwCl (wM ++ (bx :: wX)) H) (hD : va_D A (wM ++ (bx :: wX))) (hS : va_S A s.heap H locs)
    {ci : Nat} {fs : List Value} {T : u_T} {N : Nat} (hci : vwCl[ci]? = some (yn.cls, T, N)) (hb0 : cX[0]? = some (b, .inr (ci, fs))) (hst : st = av.reverse ++ .ref b :: rest) (hlen : av.length = n) (hls : ls.size = mL) (hW : (rest.map fun v => v.category).sum ≤ 8) (hd : decode cc pc = .ok (.invokevirtual idx, 3)) (hcl : cells + rm.cells ≤ R.cells ∧ slots + rm.slots ≤ R.slots)
    (k : ∀ (v : Option Value) (w : va_W), P v w → ∀ (H' : Heap) (locs' : List Loc), va_P D vwCl (wM ++ (bx :: (rX ++ w))) H' → va_D A (wM ++ (bx :: (rX ++ w))) → va_S A s.heap H' locs' → W p l e R s m args below meth c H' locs' (cells + rm.cells) (slots + rm.slots) Q (F0 m (pc + 3) ls (v.toList ++ rest))) : W p l e R s m args below meth c H locs cells slots Q (F0 m pc ls st) :=
  zVs (wr := wM ++ (bx :: rX)) X hC cf hR (zPp (zp5 hX) hP) (zDp (zp5 hX) hD) hS 0 hci hb0 hst hlen hls hW hd hcl (fun v w hp H' locs' h1 h2 h3 => k v w hp H' locs' (zPp zp6 h1) (zDp zp6 h2) h3)
/-- a call of a wrapper with the box -/
theorem zLw (X : zX p s m args meth c D y A own cc mL ret) (hX : wX.Perm (rX ++ cX)) (hC : zCw l D y yn cb mL' ret' hh rm av ([bx] ++ cX) P) (cf : zCW own idx yn cb mL' ret' hh n) (hR : rm.frames + 1 ≤ R.frames ∧ 8 + (mL' + 11) + rm.locals ≤ R.locals) (hP : va_P D vwCl (wM ++ (bx :: wX)) H) (hD : va_D A (wM ++ (bx :: wX))) (hS : va_S A s.heap H locs)
    (hst : st = av.reverse ++ rest) (hlen : av.length = n) (hls : ls.size = mL) (hW : (rest.map fun v => v.category).sum ≤ 8) (hd : decode cc pc = .ok (.invokestatic idx, 3)) (hcl : cells + rm.cells ≤ R.cells ∧ slots + rm.slots ≤ R.slots)
    (hp0 : ∀ v w, P v w → ∃ (bx1 : Nat × va_E) (w1 : va_W), w = [bx1] ++ w1)
    (k : ∀ (v : Option Value) (bx1 : Nat × va_E) (w1 : va_W), P v ([bx1] ++ w1) → ∀ (H' : Heap) (locs' : List Loc), va_P D vwCl (wM ++ (bx1 :: (rX ++ w1))) H' → va_D A (wM ++ (bx1 :: (rX ++ w1))) → va_S A s.heap H' locs' → W p l e R s m args below meth c H' locs' (cells + rm.cells) (slots + rm.slots) Q (F0 m (pc + 3) ls (v.toList ++ rest))) : W p l e R s m args below meth c H locs cells slots Q (F0 m pc ls st) :=
  zSw (wr := wM ++ rX) X hC cf hR (zPp (zp1 hX) hP) (zDp (zp1 hX) hD) hS hst hlen hls hW hd hcl (fun v w hp H' locs' h1 h2 h3 => by
    obtain ⟨bx1, w1, rfl⟩ := hp0 v w hp
    exact k v bx1 w1 hp H' locs' (zPp zp2 h1) (zDp zp2 h2) h3)
/-- a call of a wrapper without a box -/
theorem zLv (X : zX p s m args meth c D y A own cc mL ret) (hX : wX.Perm (rX ++ cX)) (hC : zCw l D y yn cb mL' ret' hh rm av cX P) (cf : zCW own idx yn cb mL' ret' hh n) (hR : rm.frames + 1 ≤ R.frames ∧ 8 + (mL' + 11) + rm.locals ≤ R.locals) (hP : va_P D vwCl (wM ++ (bx :: wX)) H) (hD : va_D A (wM ++ (bx :: wX))) (hS : va_S A s.heap H locs)
    (hst : st = av.reverse ++ rest) (hlen : av.length = n) (hls : ls.size = mL) (hW : (rest.map fun v => v.category).sum ≤ 8) (hd : decode cc pc = .ok (.invokestatic idx, 3)) (hcl : cells + rm.cells ≤ R.cells ∧ slots + rm.slots ≤ R.slots)
    (k : ∀ (v : Option Value) (w1 : va_W), P v w1 → ∀ (H' : Heap) (locs' : List Loc), va_P D vwCl (wM ++ (bx :: (rX ++ w1))) H' → va_D A (wM ++ (bx :: (rX ++ w1))) → va_S A s.heap H' locs' → W p l e R s m args below meth c H' locs' (cells + rm.cells) (slots + rm.slots) Q (F0 m (pc + 3) ls (v.toList ++ rest))) : W p l e R s m args below meth c H locs cells slots Q (F0 m pc ls st) :=
  zSw (wr := wM ++ (bx :: rX)) X hC cf hR (zPp (zp5 hX) hP) (zDp (zp5 hX) hD) hS hst hlen hls hW hd hcl (fun v w hp H' locs' h1 h2 h3 => k v w hp H' locs' (zPp zp6 h1) (zDp zp6 h2) h3)
end ZLB
