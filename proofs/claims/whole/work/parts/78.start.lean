/-! what holds at the law's entry: what stands outside the worlds, the classes, the array classes -/
def zreq (q : String × Nat × String) : List Cond :=
  [.exactly (.string q.1 q.2.1) "java/lang/String", .eq (.field (.string q.1 q.2.1) "java/lang/String" "coder" "B") (.int 0), .arrayOf (.field (.string q.1 q.2.1) "java/lang/String" "value" "[B") .byte, .eq (.length (.field (.string q.1 q.2.1) "java/lang/String" "value" "[B")) (.int (Int32.ofNat q.2.2.toList.length))] ++ (List.range q.2.2.toList.length).map (fun j => .eq (.elem (.field (.string q.1 q.2.1) "java/lang/String" "value" "[B") (.int (Int32.ofNat j))) (.int (zchr q.2.2 j)))
def zoffs : List Nat := [63, 71, 79, 88, 96, 104, 113, 134, 159, 184, 221, 253, 278, 300, 324, 350, 369, 396, 438, 462, 486, 511, 530, 568, 577, 586, 595, 605, 614]
theorem zreq_at : ∀ qo ∈ zstrs.zip zoffs, ((flatC (Jvm.Cond.and given_1 narrow_1)).drop qo.2).take (zreq qo.1).length = zreq qo.1 := by decide +kernel
theorem zoffs_n : zstrs.length = zoffs.length := by decide +kernel
theorem zreq_in (q : String × Nat × String) (hq : q ∈ zstrs) (w : Cond) (hw : w ∈ zreq q) : w ∈ flatC (Jvm.Cond.and given_1 narrow_1) := by
  obtain ⟨i, hi⟩ := List.mem_iff_getElem?.mp hq
  have hl : i < zoffs.length := by rw [← zoffs_n]; exact (List.getElem?_eq_some_iff.mp hi).1
  have h := zreq_at (q, zoffs[i]) (List.mem_iff_getElem?.mpr ⟨i, by rw [List.getElem?_zip_eq_some]; exact ⟨hi, List.getElem?_eq_getElem hl⟩⟩)
  rw [← h] at hw
  exact List.mem_of_mem_drop (List.mem_of_mem_take hw)
theorem zsref_in : ∀ q ∈ zstrs, Cond.stringRef q.1 q.2.1 q.2.2 ∈ lw_tbl ∧ q.2.2.toList.length < 2 ^ 31 := by decide +kernel
theorem zcst_in : ∀ q ∈ zcasts, Cond.castable q.1 q.2 ∈ lw_tbl := by decide +kernel
theorem znc_in : ∀ q ∈ zncs, Cond.not (.castable q.1 q.2) ∈ flatC (Jvm.Cond.and given_1 narrow_1) := by decide +kernel
theorem znest_in : ∀ q ∈ znests, Cond.methodLinkNest q.1 q.2.1 q.2.2.1 q.2.2.2 ∈ lw_tbl := by decide +kernel
theorem zdecl_in : ∀ x ∈ zdecls, Cond.declares x ∈ lw_tbl := by decide +kernel
theorem zNs {s : State} {args : Array Value} (hts : ∀ w ∈ lw_tbl, w.before args s = true) (hgv : (Jvm.Cond.and given_1 narrow_1).before args s = true) : zN (fun q : Nat => s.heap.size ≤ q) s s.heap := by
  have hs := flat_of_before _ hgv
  have hA : ∀ a : Nat, a < s.heap.size → ¬ (fun q : Nat => s.heap.size ≤ q) a := fun a h => Nat.not_le.mpr h
  refine ⟨vx_Zqof (hts (.laysStatic Bundle.tN "UNASSIGNED_STACK" Bundle.steD) (by decide +kernel)) (hts (.initialized Bundle.tN) (by decide +kernel)) (hs (.isRef (.static Bundle.tN "UNASSIGNED_STACK" Bundle.steD)) (by decide +kernel)) hA, vx_Zqof (hts (.laysStatic Bundle.tN "SUPPRESSED_SENTINEL" Bundle.listD) (by decide +kernel)) (hts (.initialized Bundle.tN) (by decide +kernel)) (hs (.isRef (.static Bundle.tN "SUPPRESSED_SENTINEL" Bundle.listD)) (by decide +kernel)) hA, va_Zof (hts (.laysStatic "java/lang/String" "COMPACT_STRINGS" "Z") (by decide +kernel)) (hts (.initialized "java/lang/String") (by decide +kernel)) (va_eqt (hs (.eq (.static "java/lang/String" "COMPACT_STRINGS" "Z") (.int 1)) (by decide +kernel))) hA, va_Zqof (hts (.laysStatic "jdk/internal/util/Preconditions" "SIOOBE_FORMATTER" "Ljava/util/function/BiFunction;") (by decide +kernel)) (hts (.initialized "jdk/internal/util/Preconditions") (by decide +kernel)) (hs (.isRef (.static "jdk/internal/util/Preconditions" "SIOOBE_FORMATTER" "Ljava/util/function/BiFunction;")) (by decide +kernel)) hA, fun q hq => ?_, fun q hq => va_Nw.of rfl (hts _ (zcst_in q hq)), fun q hq => va_Nc.of (hs _ (znc_in q hq)), fun q hq => va_Nw.of rfl (hts _ (znest_in q hq)), fun x hx => va_Nw.of rfl (hts _ (zdecl_in x hx)), va_AO.of (hts (.arrayOver (.object "WaterGrid$Grid")) (by decide +kernel))⟩
  obtain ⟨hr, hn⟩ := zsref_in q hq
  have hw : ∀ w ∈ zreq q, w.before args s = true := fun w h => hs w (zreq_in q hq w h)
  have h1 := hw (.exactly (.string q.1 q.2.1) "java/lang/String") (by unfold zreq; simp)
  have h2 := hw (.eq (.field (.string q.1 q.2.1) "java/lang/String" "coder" "B") (.int 0)) (by unfold zreq; simp)
  have h3 := hw (.arrayOf (.field (.string q.1 q.2.1) "java/lang/String" "value" "[B") .byte) (by unfold zreq; simp)
  have h4 := hw (.eq (.length (.field (.string q.1 q.2.1) "java/lang/String" "value" "[B")) (.int (Int32.ofNat q.2.2.toList.length))) (by unfold zreq; simp)
  have h5 : ∀ j : Nat, j < q.2.2.toList.length → (Cond.eq (.elem (.field (.string q.1 q.2.1) "java/lang/String" "value" "[B") (.int (Int32.ofNat j))) (.int (zchr q.2.2 j))).before args s = true := fun j hj => hw _ (by
    unfold zreq
    exact List.mem_append_right _ (List.mem_map.mpr ⟨j, List.mem_range.mpr hj, rfl⟩))
  obtain ⟨a, c, cA, kA, q1, q2, q3, q4, q5, q6, -⟩ := Cond.exactly_spec (args := args) (first := s) (o := none) (s := s) (idx := []) (t := .string q.1 q.2.1) (cls := "java/lang/String") h1
  obtain ⟨t, ht, hT⟩ := va_Tof (f := fun j => .int (zchr q.2.2 j)) (A := fun q : Nat => s.heap.size ≤ q) hn h3 (va_eqt h4) (fun j hj => va_eqt (h5 j hj)) hA
  exact ⟨a, vk_R.of (hts _ hr) q1, t, va_Oof h1 q1 hA, vk_OFof q1 (va_eqt h2) hA, vk_OFof q1 ht hA, hT⟩
theorem zAr {s : State} {args : Array Value} {ty : FieldType} (h : (Cond.arrayClass ty).before args s = true) : ∃ c : ClassId, ArrOfT s c ty ∧ s.vm.findClass ("[" ++ ty.toString) = some c := by
  obtain ⟨c, k, comp, h1, h2, h3⟩ := Cond.arrayClass_spec h
  exact ⟨c, fun n z => ⟨fun k h => (by cases h), k, h2, comp, h3⟩, h1⟩
theorem zKs {s : State} {args : Array Value} (hts : ∀ w ∈ lw_tbl, w.before args s = true) : ∃ (D : va_G) (y : zY), va_K D vwCl (zTy y) s := by
  have hts' : ∀ w ∈ wAll, w.before args s = true := fun w h => hts w ((List.mem_filter.mp h).1)
  obtain ⟨c1, a1, b1⟩ := zAr (hts (.arrayClass .int) (by decide +kernel))
  obtain ⟨c2, a2, b2⟩ := zAr (hts (.arrayClass .long) (by decide +kernel))
  obtain ⟨c3, a3, b3⟩ := zAr (hts (.arrayClass .boolean) (by decide +kernel))
  obtain ⟨comp, c4, k4, e1, e2, e3, e4, e5⟩ := Cond.arrayOver_spec (hts (.arrayOver (.object "WaterGrid$Grid")) (by decide +kernel))
  have hc : ∀ ci : Nat, ∃ q : ClassId × (Nat → Nat), ∀ x : vw_C, vwCl[ci]? = some x → u_Kn s x.1 x.2.1 x.2.2 q.1 q.2 := by
    intro ci
    by_cases hci : ci < 10
    · rcases (show ci = 0 ∨ ci = 1 ∨ ci = 2 ∨ ci = 3 ∨ ci = 4 ∨ ci = 5 ∨ ci = 6 ∨ ci = 7 ∨ ci = 8 ∨ ci = 9 by omega) with rfl | rfl | rfl | rfl | rfl | rfl | rfl | rfl | rfl | rfl
      · obtain ⟨c0, i0, h0⟩ := u_known (n := 7) hts' inF0 (hts' _ q_151)
        exact ⟨(c0, i0), fun x hx => by cases hx; exact h0⟩
      · obtain ⟨c0, i0, h0⟩ := u_known (n := 8) hts' inF1 (hts' _ q_118)
        exact ⟨(c0, i0), fun x hx => by cases hx; exact h0⟩
      · obtain ⟨c0, i0, h0⟩ := u_known (n := 8) hts' inF2 (hts' _ q_223)
        exact ⟨(c0, i0), fun x hx => by cases hx; exact h0⟩
      · obtain ⟨c0, i0, h0⟩ := u_known (n := 4) hts' inF3 (hts' _ q_199)
        exact ⟨(c0, i0), fun x hx => by cases hx; exact h0⟩
      · obtain ⟨c0, i0, h0⟩ := u_known (n := 11) hts' inF4 (hts' _ q_62)
        exact ⟨(c0, i0), fun x hx => by cases hx; exact h0⟩
      · obtain ⟨c0, i0, h0⟩ := u_known (n := 6) hts' inF5 (hts' _ q_620)
        exact ⟨(c0, i0), fun x hx => by cases hx; exact h0⟩
      · obtain ⟨c0, i0, h0⟩ := u_known (n := 5) hts' inF6 (hts' _ q_35)
        exact ⟨(c0, i0), fun x hx => by cases hx; exact h0⟩
      · obtain ⟨c0, i0, h0⟩ := u_known (n := 4) hts' inF7 (hts' _ q_180)
        exact ⟨(c0, i0), fun x hx => by cases hx; exact h0⟩
      · obtain ⟨c0, i0, h0⟩ := u_known (n := 16) hts' inF8 (hts' _ q_27)
        exact ⟨(c0, i0), fun x hx => by cases hx; exact h0⟩
      · obtain ⟨c0, i0, h0⟩ := u_known (n := 42) hts' inF9 (hts' _ q_1325)
        exact ⟨(c0, i0), fun x hx => by cases hx; exact h0⟩
    · exact ⟨(0, fun _ => 0), fun x hx => absurd (List.getElem?_eq_some_iff.mp hx).1 hci⟩
  refine ⟨(fun ci => (hc ci).choose.1, fun ci => (hc ci).choose.2), (c1, c2, c3, c4), fun ci x hx => (hc ci).choose_spec x hx, fun k x hx => ?_⟩
  have hk : k < 4 := (List.getElem?_eq_some_iff.mp hx).1
  rcases (show k = 0 ∨ k = 1 ∨ k = 2 ∨ k = 3 by omega) with rfl | rfl | rfl | rfl
  · cases hx; exact ⟨a1, b1⟩
  · cases hx; exact ⟨a2, b2⟩
  · cases hx; exact ⟨a3, b3⟩
  · cases hx; exact ⟨fun n z => ⟨fun k h => (by cases h), k4, e3, comp, e4⟩, k4, comp, e3, e4, e1, e5⟩
