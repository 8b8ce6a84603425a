/-! the law's loop: printed by law.py -/
def zKall (l : Launch) (D : va_G) (y : zY) (b bm : Nat) (I : Int32 → va_W → va_W → Prop) : Prop :=
  zKT l D y bm I ∧ zK0 l D y b bm I ∧ zK1 l D y b bm I ∧ zK2 l D y b bm I ∧ zK3 l D y b bm I ∧ zK4 l D y b bm I ∧ zK5 l D y b bm I ∧ zK6 l D y b bm I ∧ zK7 l D y b bm I ∧ zK8 l D y b bm I ∧ zK9 l D y b bm I ∧ zK10 l D y b bm I ∧ zK11 l D y b bm I ∧ zK12 l D y b bm I ∧ zK13 l D y b bm I ∧ zK14 l D y b bm I ∧ zK15 l D y b bm I ∧ zK16 l D y b bm I ∧ zK17 l D y b bm I ∧ zK18 l D y b bm I ∧ zK19 l D y b bm I ∧ zK20 l D y b bm I ∧ zK21 l D y b bm I ∧ zK22 l D y b bm I ∧ zK23 l D y b bm I ∧ zK24 l D y b bm I ∧ zK25 l D y b bm I ∧ zK26 l D y b bm I ∧ zK27 l D y b bm I ∧ zK28 l D y b bm I ∧ zK29 l D y b bm I ∧ zK30 l D y b bm I ∧ zK31 l D y b bm I ∧ zK32 l D y b bm I ∧ zK33 l D y b bm I ∧ zK34 l D y b bm I ∧ zK35 l D y b bm I ∧ zK36 l D y b bm I ∧ zK37 l D y b bm I ∧ zK38 l D y b bm I ∧ zK39 l D y b bm I ∧ zK40 l D y b bm I ∧ zK41 l D y b bm I ∧ zK42 l D y b bm I ∧ zK43 l D y b bm I ∧ zK44 l D y b bm I ∧ zK45 l D y b bm I ∧ zK46 l D y b bm I
theorem zlI {i L : Nat} (hi : i ≤ 512) (hL : L ≤ 4096) (h : ¬ nI (8 * i) > Int32.ofNat L - 8) : 8 * i + 8 ≤ L := by
  have e1 : (nI (8 * i)).toInt = ((8 * i : Nat) : Int) := nI_toInt (by omega)
  have e2 : (Int32.ofNat L).toInt = (L : Int) := nI_toInt (n := L) (by omega)
  have e3 : (Int32.ofNat L - 8).toInt = (L : Int) - 8 := by
    rw [Int32.toInt_sub, e2, show (8 : Int32).toInt = 8 from rfl]
    exact Int.bmod_eq_of_le (by omega) (by omega)
  rw [gt_iff_lt, Int32.lt_iff_toInt_lt, e1, e3] at h
  omega
theorem zlJ {i L : Nat} (hL : L ≤ 4096) (h : 8 * i + 8 ≤ L) (k : Int32) (hk : 0 ≤ k.toInt ∧ k.toInt < 8) : vp_in (nI (8 * i) + k) L := by
  rw [vp_in_iff]
  have e1 : (nI (8 * i)).toInt = ((8 * i : Nat) : Int) := nI_toInt (by omega)
  have e3 : (nI (8 * i) + k).toInt = ((8 * i : Nat) : Int) + k.toInt := by
    rw [Int32.toInt_add, e1]
    exact Int.bmod_eq_of_le (by omega) (by omega)
  rw [e3]
  omega
set_option maxHeartbeats 8000000 in
set_option maxRecDepth 100000 in
theorem zloop {p : Program} {l : Launch} {e : Env} {s : State} {m : MethodId} {args : Array Value} {below : List Frame} {meth : Method} {c : Code} {Q : State → Prop} {D : va_G} {y : zY} {A : Nat → Prop} {ab b bm sb L c0 s0 : Nat} {xs : Nat → Int32} {I : Int32 → va_W → va_W → Prop} (X : zX p s m args meth c D y A RL cL_law 8 (some .boolean)) (hK : zKall l D y b bm I) (hX : va_X sb L xs s s.heap) (hbl : sb < s.heap.size) (hbA : ¬ A sb) (hL : L ≤ 4096) (hc0 : c0 + 8 * 513 ≤ room_1.cells) (hs0 : s0 + 64 * 513 ≤ room_1.slots)
    (fin : ∀ (H : Heap) (locs : List Loc) (cells slots : Nat) (ls : Array Slot), cells ≤ room_1.cells → slots ≤ room_1.slots → va_S A s.heap H locs → W p l e room_1 s m args below meth c H locs cells slots Q (F0 m 3109 ls [.int 1])) :
    ∀ (n i : Nat), i ≤ 512 → 513 ≤ i + n → ∀ (t : Int32) (wX wM : va_W) (cbx : Nat → Int64) (H : Heap) (locs : List Loc) (ls : Array Slot), I t wX wM → va_P D vwCl (wM ++ (zbx y ab cbx :: wX)) H → va_D A (wM ++ (zbx y ab cbx :: wX)) → va_S A s.heap H locs → lv_has ls 8 [(4, .int (nI (8 * i))), (3, .ref ab), (2, .ref bm), (1, .ref b), (0, .ref sb)] → W p l e room_1 s m args below meth c H locs (c0 + 8 * i) (s0 + 64 * i) Q (F0 m 23 ls []) := by
  obtain ⟨hx, hb, -⟩ := id X
  obtain ⟨hT, hk0, hk1, hk2, hk3, hk4, hk5, hk6, hk7, hk8, hk9, hk10, hk11, hk12, hk13, hk14, hk15, hk16, hk17, hk18, hk19, hk20, hk21, hk22, hk23, hk24, hk25, hk26, hk27, hk28, hk29, hk30, hk31, hk32, hk33, hk34, hk35, hk36, hk37, hk38, hk39, hk40, hk41, hk42, hk43, hk44, hk45, hk46⟩ := hK
  intro n
  induction n with
  | zero => intro i h1 h2; omega
  | succ n ih =>
    intro i hi hin t wX wM cbx H locs ls hI hP hD hS hl
    refine lv_iload hx hb dL_law_23 (lv_at hl 0 rfl) ?_
    refine lv_aload_n hx hb dL_law_25 rfl (lv_at hl 4 rfl) ?_
    refine va_slen hx hb hX hbl hbA hS dL_law_26 ?_
    refine lv_bipush (v := 8) hx hb dL_law_27 (by decide) ?_
    refine lv_isub hx hb dL_law_29 ?_
    refine lv_icmp_gt (tgt := 3108) hx hb dL_law_30 (by decide) (fun _ => ?_) (fun hgt => ?_)
    · refine lv_iconst (v := 1) hx hb dL_law_3108 (by decide) ?_
      exact fin H locs _ _ ls (by omega) (by omega) hS
    have h8 := zlI hi hL hgt
    have hin8 := zlJ (i := i) hL h8
    have next : ∀ (t : Int32) (wX wM : va_W) (cbx : Nat → Int64) (H : Heap) (locs : List Loc) (ls : Array Slot), I t wX wM → va_P D vwCl (wM ++ (zbx y ab cbx :: wX)) H → va_D A (wM ++ (zbx y ab cbx :: wX)) → va_S A s.heap H locs → lv_has ls 8 [(4, .int (nI (8 * i))), (3, .ref ab), (2, .ref bm), (1, .ref b), (0, .ref sb)] → W p l e room_1 s m args below meth c H locs (c0 + 8 * i + 8) (s0 + 64 * i + 64) Q (F0 m 3102 ls []) := by
      intro t wX wM cbx H locs ls hI hP hD hS hl
      refine lv_iinc (v := nI (8 * (i + 1))) (lv' := [(4, .int (nI (8 * (i + 1)))), (3, .ref ab), (2, .ref bm), (1, .ref b), (0, .ref sb)]) hx hb dL_law_3102 hl (k := 0) rfl (nI_add (8 * i) 8) (by decide) rfl (fun ls hl => ?_)
      refine lv_goto (tgt := 23) hx hb dL_law_3105 (by decide) ?_
      exact ih (i + 1) (by omega) (by omega) t wX wM cbx H locs ls hI hP hD hS hl
    have hcl : c0 + 8 * i + 8 ≤ room_1.cells ∧ s0 + 64 * i + 64 ≤ room_1.slots := ⟨by omega, by omega⟩
    refine lv_aload_n hx hb dL_law_33 rfl (lv_at hl 4 rfl) ?_
    refine lv_iload hx hb dL_law_34 (lv_at hl 0 rfl) ?_
    refine va_sld hx hb hX hbl hbA hS (vp_in_nI (by omega) (by omega)) dL_law_36 ?_
    refine lv_bipush (v := 63) hx hb dL_law_37 (by decide) ?_
    refine lv_iand hx hb dL_law_39 ?_
    generalize (xs (nI (8 * i)).toNatClampNeg &&& 63) = v
    by_cases cq0 : v = nI 0
    · refine lv_tableIn (off := 204) (tgt := 244) hx hb dL_law_40 (by rw [cq0]; decide) (by rw [cq0]; decide) (by rw [cq0]; decide) (by decide) ?_
      exact zlk_0 X hT hk0 hX hbl hbA hin8 hI hP hD hS hl hcl next
    by_cases cq1 : v = nI 1
    · refine lv_tableIn (off := 277) (tgt := 317) hx hb dL_law_40 (by rw [cq1]; decide) (by rw [cq1]; decide) (by rw [cq1]; decide) (by decide) ?_
      exact zlk_1 X hT hk1 hX hbl hbA hin8 hI hP hD hS hl hcl next
    by_cases cq2 : v = nI 2
    · refine lv_tableIn (off := 302) (tgt := 342) hx hb dL_law_40 (by rw [cq2]; decide) (by rw [cq2]; decide) (by rw [cq2]; decide) (by decide) ?_
      exact zlk_2 X hT hk2 hX hbl hbA hin8 hI hP hD hS hl hcl next
    by_cases cq3 : v = nI 3
    · refine lv_tableIn (off := 346) (tgt := 386) hx hb dL_law_40 (by rw [cq3]; decide) (by rw [cq3]; decide) (by rw [cq3]; decide) (by decide) ?_
      exact zlk_3 X hT hk3 hX hbl hbA hin8 hI hP hD hS hl hcl next
    by_cases cq4 : v = nI 4
    · refine lv_tableIn (off := 359) (tgt := 399) hx hb dL_law_40 (by rw [cq4]; decide) (by rw [cq4]; decide) (by rw [cq4]; decide) (by decide) ?_
      exact zlk_4 X hT hk4 hX hbl hbA hin8 hI hP hD hS hl hcl next
    by_cases cq5 : v = nI 5
    · refine lv_tableIn (off := 455) (tgt := 495) hx hb dL_law_40 (by rw [cq5]; decide) (by rw [cq5]; decide) (by rw [cq5]; decide) (by decide) ?_
      exact zlk_5 X hT hk5 hX hbl hbA hin8 hI hP hD hS hl hcl next
    by_cases cq6 : v = nI 6
    · refine lv_tableIn (off := 530) (tgt := 570) hx hb dL_law_40 (by rw [cq6]; decide) (by rw [cq6]; decide) (by rw [cq6]; decide) (by decide) ?_
      exact zlk_6 X hT hk6 hX hbl hbA hin8 hI hP hD hS hl hcl next
    by_cases cq7 : v = nI 7
    · refine lv_tableIn (off := 638) (tgt := 678) hx hb dL_law_40 (by rw [cq7]; decide) (by rw [cq7]; decide) (by rw [cq7]; decide) (by decide) ?_
      exact zlk_7 X hT hk7 hX hbl hbA hin8 hI hP hD hS hl hcl next
    by_cases cq8 : v = nI 8
    · refine lv_tableIn (off := 741) (tgt := 781) hx hb dL_law_40 (by rw [cq8]; decide) (by rw [cq8]; decide) (by rw [cq8]; decide) (by decide) ?_
      exact zlk_8 X hT hk8 hX hbl hbA hin8 hI hP hD hS hl hcl next
    by_cases cq9 : v = nI 9
    · refine lv_tableIn (off := 777) (tgt := 817) hx hb dL_law_40 (by rw [cq9]; decide) (by rw [cq9]; decide) (by rw [cq9]; decide) (by decide) ?_
      exact zlk_9 X hT hk9 hX hbl hbA hin8 hI hP hD hS hl hcl next
    by_cases cq10 : v = nI 10
    · refine lv_tableIn (off := 864) (tgt := 904) hx hb dL_law_40 (by rw [cq10]; decide) (by rw [cq10]; decide) (by rw [cq10]; decide) (by decide) ?_
      exact zlk_10 X hT hk10 hX hbl hbA hin8 hI hP hD hS hl hcl next
    by_cases cq11 : v = nI 11
    · refine lv_tableIn (off := 877) (tgt := 917) hx hb dL_law_40 (by rw [cq11]; decide) (by rw [cq11]; decide) (by rw [cq11]; decide) (by decide) ?_
      exact zlk_11 X hT hk11 hX hbl hbA hin8 hI hP hD hS hl hcl next
    by_cases cq12 : v = nI 12
    · refine lv_tableIn (off := 903) (tgt := 943) hx hb dL_law_40 (by rw [cq12]; decide) (by rw [cq12]; decide) (by rw [cq12]; decide) (by decide) ?_
      exact zlk_12 X hT hk12 hX hbl hbA hin8 hI hP hD hS hl hcl next
    by_cases cq13 : v = nI 13
    · refine lv_tableIn (off := 929) (tgt := 969) hx hb dL_law_40 (by rw [cq13]; decide) (by rw [cq13]; decide) (by rw [cq13]; decide) (by decide) ?_
      exact zlk_13 X hT hk13 hX hbl hbA hin8 hI hP hD hS hl hcl next
    by_cases cq14 : v = nI 14
    · refine lv_tableIn (off := 955) (tgt := 995) hx hb dL_law_40 (by rw [cq14]; decide) (by rw [cq14]; decide) (by rw [cq14]; decide) (by decide) ?_
      exact zlk_14 X hT hk14 hX hbl hbA hin8 hI hP hD hS hl hcl next
    by_cases cq15 : v = nI 15
    · refine lv_tableIn (off := 1011) (tgt := 1051) hx hb dL_law_40 (by rw [cq15]; decide) (by rw [cq15]; decide) (by rw [cq15]; decide) (by decide) ?_
      exact zlk_15 X hT hk15 hX hbl hbA hin8 hI hP hD hS hl hcl next
    by_cases cq16 : v = nI 16
    · refine lv_tableIn (off := 1091) (tgt := 1131) hx hb dL_law_40 (by rw [cq16]; decide) (by rw [cq16]; decide) (by rw [cq16]; decide) (by decide) ?_
      exact zlk_16 X hT hk16 hX hbl hbA hin8 hI hP hD hS hl hcl next
    by_cases cq17 : v = nI 17
    · refine lv_tableIn (off := 1170) (tgt := 1210) hx hb dL_law_40 (by rw [cq17]; decide) (by rw [cq17]; decide) (by rw [cq17]; decide) (by decide) ?_
      exact zlk_17 X hT hk17 hX hbl hbA hin8 hI hP hD hS hl hcl next
    by_cases cq18 : v = nI 18
    · refine lv_tableIn (off := 1237) (tgt := 1277) hx hb dL_law_40 (by rw [cq18]; decide) (by rw [cq18]; decide) (by rw [cq18]; decide) (by decide) ?_
      exact zlk_18 X hT hk18 hX hbl hbA hin8 hI hP hD hS hl hcl next
    by_cases cq19 : v = nI 19
    · refine lv_tableIn (off := 1304) (tgt := 1344) hx hb dL_law_40 (by rw [cq19]; decide) (by rw [cq19]; decide) (by rw [cq19]; decide) (by decide) ?_
      exact zlk_19 X hT hk19 hX hbl hbA hin8 hI hP hD hS hl hcl next
    by_cases cq20 : v = nI 20
    · refine lv_tableIn (off := 1371) (tgt := 1411) hx hb dL_law_40 (by rw [cq20]; decide) (by rw [cq20]; decide) (by rw [cq20]; decide) (by decide) ?_
      exact zlk_20 X hT hk20 hX hbl hbA hin8 hI hP hD hS hl hcl next
    by_cases cq21 : v = nI 21
    · refine lv_tableIn (off := 1450) (tgt := 1490) hx hb dL_law_40 (by rw [cq21]; decide) (by rw [cq21]; decide) (by rw [cq21]; decide) (by decide) ?_
      exact zlk_21 X hT hk21 hX hbl hbA hin8 hI hP hD hS hl hcl next
    by_cases cq22 : v = nI 22
    · refine lv_tableIn (off := 1518) (tgt := 1558) hx hb dL_law_40 (by rw [cq22]; decide) (by rw [cq22]; decide) (by rw [cq22]; decide) (by decide) ?_
      exact zlk_22 X hT hk22 hX hbl hbA hin8 hI hP hD hS hl hcl next
    by_cases cq23 : v = nI 23
    · refine lv_tableIn (off := 1574) (tgt := 1614) hx hb dL_law_40 (by rw [cq23]; decide) (by rw [cq23]; decide) (by rw [cq23]; decide) (by decide) ?_
      exact zlk_23 X hT hk23 hX hbl hbA hin8 hI hP hD hS hl hcl next
    by_cases cq24 : v = nI 24
    · refine lv_tableIn (off := 1657) (tgt := 1697) hx hb dL_law_40 (by rw [cq24]; decide) (by rw [cq24]; decide) (by rw [cq24]; decide) (by decide) ?_
      exact zlk_24 X hT hk24 hX hbl hbA hin8 hI hP hD hS hl hcl next
    by_cases cq25 : v = nI 25
    · refine lv_tableIn (off := 1753) (tgt := 1793) hx hb dL_law_40 (by rw [cq25]; decide) (by rw [cq25]; decide) (by rw [cq25]; decide) (by decide) ?_
      exact zlk_25 X hT hk25 hX hbl hbA hin8 hI hP hD hS hl hcl next
    by_cases cq26 : v = nI 26
    · refine lv_tableIn (off := 1766) (tgt := 1806) hx hb dL_law_40 (by rw [cq26]; decide) (by rw [cq26]; decide) (by rw [cq26]; decide) (by decide) ?_
      exact zlk_26 X hT hk26 hX hbl hbA hin8 hI hP hD hS hl hcl next
    by_cases cq27 : v = nI 27
    · refine lv_tableIn (off := 1861) (tgt := 1901) hx hb dL_law_40 (by rw [cq27]; decide) (by rw [cq27]; decide) (by rw [cq27]; decide) (by decide) ?_
      exact zlk_27 X hT hk27 hX hbl hbA hin8 hI hP hD hS hl hcl next
    by_cases cq28 : v = nI 28
    · refine lv_tableIn (off := 1956) (tgt := 1996) hx hb dL_law_40 (by rw [cq28]; decide) (by rw [cq28]; decide) (by rw [cq28]; decide) (by decide) ?_
      exact zlk_28 X hT hk28 hX hbl hbA hin8 hI hP hD hS hl hcl next
    by_cases cq29 : v = nI 29
    · refine lv_tableIn (off := 2119) (tgt := 2159) hx hb dL_law_40 (by rw [cq29]; decide) (by rw [cq29]; decide) (by rw [cq29]; decide) (by decide) ?_
      exact zlk_29 X hT hk29 hX hbl hbA hin8 hI hP hD hS hl hcl next
    by_cases cq30 : v = nI 30
    · refine lv_tableIn (off := 2214) (tgt := 2254) hx hb dL_law_40 (by rw [cq30]; decide) (by rw [cq30]; decide) (by rw [cq30]; decide) (by decide) ?_
      exact zlk_30 X hT hk30 hX hbl hbA hin8 hI hP hD hS hl hcl next
    by_cases cq31 : v = nI 31
    · refine lv_tableIn (off := 2309) (tgt := 2349) hx hb dL_law_40 (by rw [cq31]; decide) (by rw [cq31]; decide) (by rw [cq31]; decide) (by decide) ?_
      exact zlk_31 X hT hk31 hX hbl hbA hin8 hI hP hD hS hl hcl next
    by_cases cq32 : v = nI 32
    · refine lv_tableIn (off := 2377) (tgt := 2417) hx hb dL_law_40 (by rw [cq32]; decide) (by rw [cq32]; decide) (by rw [cq32]; decide) (by decide) ?_
      exact zlk_32 X hT hk32 hX hbl hbA hin8 hI hP hD hS hl hcl next
    by_cases cq33 : v = nI 33
    · refine lv_tableIn (off := 2419) (tgt := 2459) hx hb dL_law_40 (by rw [cq33]; decide) (by rw [cq33]; decide) (by rw [cq33]; decide) (by decide) ?_
      exact zlk_33 X hT hk33 hX hbl hbA hin8 hI hP hD hS hl hcl next
    by_cases cq34 : v = nI 34
    · refine lv_tableIn (off := 2432) (tgt := 2472) hx hb dL_law_40 (by rw [cq34]; decide) (by rw [cq34]; decide) (by rw [cq34]; decide) (by decide) ?_
      exact zlk_34 X hT hk34 hX hbl hbA hin8 hI hP hD hS hl hcl next
    by_cases cq35 : v = nI 35
    · refine lv_tableIn (off := 2539) (tgt := 2579) hx hb dL_law_40 (by rw [cq35]; decide) (by rw [cq35]; decide) (by rw [cq35]; decide) (by decide) ?_
      exact zlk_35 X hT hk35 hX hbl hbA hin8 hI hP hD hS hl hcl next
    by_cases cq36 : v = nI 36
    · refine lv_tableIn (off := 2607) (tgt := 2647) hx hb dL_law_40 (by rw [cq36]; decide) (by rw [cq36]; decide) (by rw [cq36]; decide) (by decide) ?_
      exact zlk_36 X hT hk36 hX hbl hbA hin8 hI hP hD hS hl hcl next
    by_cases cq37 : v = nI 37
    · refine lv_tableIn (off := 2727) (tgt := 2767) hx hb dL_law_40 (by rw [cq37]; decide) (by rw [cq37]; decide) (by rw [cq37]; decide) (by decide) ?_
      exact zlk_37 X hT hk37 hX hbl hbA hin8 hI hP hD hS hl hcl next
    by_cases cq38 : v = nI 38
    · refine lv_tableIn (off := 2740) (tgt := 2780) hx hb dL_law_40 (by rw [cq38]; decide) (by rw [cq38]; decide) (by rw [cq38]; decide) (by decide) ?_
      exact zlk_38 X hT hk38 hX hbl hbA hin8 hI hP hD hS hl hcl next
    by_cases cq39 : v = nI 39
    · refine lv_tableIn (off := 2753) (tgt := 2793) hx hb dL_law_40 (by rw [cq39]; decide) (by rw [cq39]; decide) (by rw [cq39]; decide) (by decide) ?_
      exact zlk_39 X hT hk39 hX hbl hbA hin8 hI hP hD hS hl hcl next
    by_cases cq40 : v = nI 40
    · refine lv_tableIn (off := 2845) (tgt := 2885) hx hb dL_law_40 (by rw [cq40]; decide) (by rw [cq40]; decide) (by rw [cq40]; decide) (by decide) ?_
      exact zlk_40 X hT hk40 hX hbl hbA hin8 hI hP hD hS hl hcl next
    by_cases cq41 : v = nI 41
    · refine lv_tableIn (off := 2898) (tgt := 2938) hx hb dL_law_40 (by rw [cq41]; decide) (by rw [cq41]; decide) (by rw [cq41]; decide) (by decide) ?_
      exact zlk_41 X hT hk41 hX hbl hbA hin8 hI hP hD hS hl hcl next
    by_cases cq42 : v = nI 42
    · refine lv_tableIn (off := 2911) (tgt := 2951) hx hb dL_law_40 (by rw [cq42]; decide) (by rw [cq42]; decide) (by rw [cq42]; decide) (by decide) ?_
      exact zlk_42 X hT hk42 hX hbl hbA hin8 hI hP hD hS hl hcl next
    by_cases cq43 : v = nI 43
    · refine lv_tableIn (off := 2955) (tgt := 2995) hx hb dL_law_40 (by rw [cq43]; decide) (by rw [cq43]; decide) (by rw [cq43]; decide) (by decide) ?_
      exact zlk_43 X hT hk43 hX hbl hbA hin8 hI hP hD hS hl hcl next
    by_cases cq44 : v = nI 44
    · refine lv_tableIn (off := 2999) (tgt := 3039) hx hb dL_law_40 (by rw [cq44]; decide) (by rw [cq44]; decide) (by rw [cq44]; decide) (by decide) ?_
      exact zlk_44 X hT hk44 hX hbl hbA hin8 hI hP hD hS hl hcl next
    by_cases cq45 : v = nI 45
    · refine lv_tableIn (off := 3012) (tgt := 3052) hx hb dL_law_40 (by rw [cq45]; decide) (by rw [cq45]; decide) (by rw [cq45]; decide) (by decide) ?_
      exact zlk_45 X hT hk45 hX hbl hbA hin8 hI hP hD hS hl hcl next
    by_cases cq46 : v = nI 46
    · refine lv_tableIn (off := 3037) (tgt := 3077) hx hb dL_law_40 (by rw [cq46]; decide) (by rw [cq46]; decide) (by rw [cq46]; decide) (by decide) ?_
      exact zlk_46 X hT hk46 hX hbl hbA hin8 hI hP hD hS hl hcl next
    refine lv_tableOut (tgt := 3102) hx hb dL_law_40 (ztsO (n := 46) (by decide) (fun k hk => by
      rcases (show k = 0 ∨ k = 1 ∨ k = 2 ∨ k = 3 ∨ k = 4 ∨ k = 5 ∨ k = 6 ∨ k = 7 ∨ k = 8 ∨ k = 9 ∨ k = 10 ∨ k = 11 ∨ k = 12 ∨ k = 13 ∨ k = 14 ∨ k = 15 ∨ k = 16 ∨ k = 17 ∨ k = 18 ∨ k = 19 ∨ k = 20 ∨ k = 21 ∨ k = 22 ∨ k = 23 ∨ k = 24 ∨ k = 25 ∨ k = 26 ∨ k = 27 ∨ k = 28 ∨ k = 29 ∨ k = 30 ∨ k = 31 ∨ k = 32 ∨ k = 33 ∨ k = 34 ∨ k = 35 ∨ k = 36 ∨ k = 37 ∨ k = 38 ∨ k = 39 ∨ k = 40 ∨ k = 41 ∨ k = 42 ∨ k = 43 ∨ k = 44 ∨ k = 45 ∨ k = 46 by omega) with rfl | rfl | rfl | rfl | rfl | rfl | rfl | rfl | rfl | rfl | rfl | rfl | rfl | rfl | rfl | rfl | rfl | rfl | rfl | rfl | rfl | rfl | rfl | rfl | rfl | rfl | rfl | rfl | rfl | rfl | rfl | rfl | rfl | rfl | rfl | rfl | rfl | rfl | rfl | rfl | rfl | rfl | rfl | rfl | rfl | rfl | rfl
      · exact cq0
      · exact cq1
      · exact cq2
      · exact cq3
      · exact cq4
      · exact cq5
      · exact cq6
      · exact cq7
      · exact cq8
      · exact cq9
      · exact cq10
      · exact cq11
      · exact cq12
      · exact cq13
      · exact cq14
      · exact cq15
      · exact cq16
      · exact cq17
      · exact cq18
      · exact cq19
      · exact cq20
      · exact cq21
      · exact cq22
      · exact cq23
      · exact cq24
      · exact cq25
      · exact cq26
      · exact cq27
      · exact cq28
      · exact cq29
      · exact cq30
      · exact cq31
      · exact cq32
      · exact cq33
      · exact cq34
      · exact cq35
      · exact cq36
      · exact cq37
      · exact cq38
      · exact cq39
      · exact cq40
      · exact cq41
      · exact cq42
      · exact cq43
      · exact cq44
      · exact cq45
      · exact cq46
      )) (by decide) ?_
    refine W.widen (k := c0 + 8 * i + 8) (n := s0 + 64 * i + 64) (by omega) (by omega) ?_
    exact next t wX wM cbx H locs ls hI hP hD hS hl
