theorem kf_RL_255 : zCB RL 255 yX9_mean cX9_mean 16 (some .long) 1 ∧ Cond.instanceMethod yX9_mean ∈ wAll ∧ Cond.selects yX9_mean.cls yX9_mean yX9_mean ∈ wAll := ⟨⟨q_1759, q_9, q_1756, by decide +kernel⟩, q_1757, q_1758⟩
theorem kf_RL_251 : zCB RL 251 yX8_mean cX8_mean 15 (some .long) 1 ∧ Cond.instanceMethod yX8_mean ∈ wAll ∧ Cond.selects yX8_mean.cls yX8_mean yX8_mean ∈ wAll := ⟨⟨q_524, q_1, q_521, by decide +kernel⟩, q_522, q_523⟩
def zK32 (l : Launch) (D : va_G) (y : zY) (b bm : Nat) (I : Int32 → va_W → va_W → Prop) : Prop :=
  ∀ (t : Int32) (wX wM : va_W), I t wX wM → ∀ (x1 : Int32), (x1 = 0 ∨ x1 = 1) → ∃ (rX cX rM cM : va_W) (fX fM : List Value) (P : Option Value → va_W → Prop) (PM : Option Value → va_W → Prop), wX.Perm (rX ++ cX) ∧ wM.Perm (rM ++ cM) ∧ cX[0]? = some (b, .inr (8, fX)) ∧ cM[0]? = some (bm, .inr (9, fM)) ∧ zC l D y yX8_mean cX8_mean 15 (some .long) rm_X8_mean [.ref b, .int x1] cX P ∧ zC l D y yX9_mean cX9_mean 16 (some .long) rm_X9_mean [.ref bm, .int x1] cM PM ∧ (∀ v w, P v w → ∃ r : Int64, v = some (.long r) ∧ ∀ vm wm, PM vm wm → vm = some (.long r) ∧ ∃ t2 : Int32, I t2 (rX ++ w) (rM ++ wm))
set_option maxHeartbeats 4000000 in
theorem zlk_32 {p : Program} {l : Launch} {e : Env} {s : State} {m : MethodId} {args : Array Value} {below : List Frame} {meth : Method} {c : Code} {H : Heap} {locs : List Loc} {cells slots : Nat} {Q : State → Prop} {D : va_G} {y : zY} {A : Nat → Prop} {ls : Array Slot} {wX wM : va_W} {ab b bm sb L : Nat} {cbx : Nat → Int64} {xs : Nat → Int32} {I : Int32 → va_W → va_W → Prop} {t i : Int32} (X : zX p s m args meth c D y A RL cL_law 8 (some .boolean)) (hT : zKT l D y bm I) (hk : zK32 l D y b bm I) (hX : va_X sb L xs s s.heap) (hbl : sb < s.heap.size) (hbA : ¬ A sb) (hin : ∀ k : Int32, 0 ≤ k.toInt ∧ k.toInt < 8 → vp_in (i + k) L) (hI : I t wX wM) (hP : va_P D vwCl (wM ++ (zbx y ab cbx :: wX)) H) (hD : va_D A (wM ++ (zbx y ab cbx :: wX))) (hS : va_S A s.heap H locs) (hl : lv_has ls 8 [(4, .int i), (3, .ref ab), (2, .ref bm), (1, .ref b), (0, .ref sb)]) (hcl : cells + 8 ≤ room_1.cells ∧ slots + 64 ≤ room_1.slots)
    (kk : ∀ (t : Int32) (wX wM : va_W) (cbx : Nat → Int64) (H : Heap) (locs : List Loc) (ls : Array Slot), I t wX wM → va_P D vwCl (wM ++ (zbx y ab cbx :: wX)) H → va_D A (wM ++ (zbx y ab cbx :: wX)) → va_S A s.heap H locs → lv_has ls 8 [(4, .int i), (3, .ref ab), (2, .ref bm), (1, .ref b), (0, .ref sb)] → W p l e room_1 s m args below meth c H locs (cells + 8) (slots + 64) Q (F0 m 3102 ls [])) : W p l e room_1 s m args below meth c H locs cells slots Q (F0 m 2417 ls []) := by
  obtain ⟨hx, hb, hr9, hml, hown, hts, hK, hA, hlocks⟩ := id X
  refine lv_aload_n hx hb dL_law_2417 rfl (lv_at hl 3 rfl) ?_
  refine zsc (k := 1) X hX hbl hbA hS dL_law_2418 dL_law_2419 dL_law_2421 (by decide) dL_law_2422 dL_law_2423 (lv_at hl 4 rfl) (lv_at hl 0 rfl) (hin 1 (by decide)) ?_
  refine zbo X dL_law_2424 (by decide) dL_law_2427 dL_law_2428 (by decide) dL_law_2431 ?_
  obtain ⟨rX, cX, rM, cM, fX, fM, P, PM, e1, e2, b1, b2, hC, hM, hn⟩ := hk t wX wM hI (zbl (xs (i + 1).toNatClampNeg)) (zbl01 _)
  refine zLx (rest := []) X e1 hC kf_RL_251 ⟨(Nat.le_of_ble_eq_true rfl), (Nat.le_of_ble_eq_true rfl)⟩ hP hD hS rfl b1 rfl rfl hl.1 (Nat.le_of_ble_eq_true rfl) dL_law_2432 ⟨Nat.le_trans (Nat.add_le_add_left (Nat.le_of_ble_eq_true rfl) _) hcl.1, Nat.le_trans (Nat.add_le_add_left (Nat.le_of_ble_eq_true rfl) _) hcl.2⟩ (fun v w1 hp H locs hP hD hS => ?_)
  obtain ⟨r, rfl, hn⟩ := hn v w1 hp
  refine lv_aload_n hx hb dL_law_2435 rfl (lv_at hl 2 rfl) ?_
  refine zsc (k := 1) X hX hbl hbA hS dL_law_2436 dL_law_2437 dL_law_2439 (by decide) dL_law_2440 dL_law_2441 (lv_at hl 4 rfl) (lv_at hl 0 rfl) (hin 1 (by decide)) ?_
  refine zbo X dL_law_2442 (by decide) dL_law_2445 dL_law_2446 (by decide) dL_law_2449 ?_
  refine zLm (rest := [.long r]) X e2 hM kf_RL_255 ⟨(Nat.le_of_ble_eq_true rfl), (Nat.le_of_ble_eq_true rfl)⟩ hP hD hS rfl b2 rfl rfl hl.1 (Nat.le_of_ble_eq_true rfl) dL_law_2450 ⟨?_, ?_⟩ (fun v wm hp H locs hP hD hS => ?_)
  · exact Nat.le_trans (Nat.add_le_add_left (Nat.le_of_ble_eq_true rfl) cells) hcl.1
  · exact Nat.le_trans (Nat.add_le_add_left (Nat.le_of_ble_eq_true rfl) slots) hcl.2
  obtain ⟨rfl, t2, hI⟩ := hn v wm hp
  refine W.lcmp hx hb dL_law_2453 ?_
  refine lv_if_eq (tgt := 3102) hx hb dL_law_2454 (by decide) (fun _ => ?_) (fun h => absurd (zlcE _) h)
  refine W.widen (k := cells + 8) (n := slots + 64) (Nat.add_le_add_left (Nat.le_of_ble_eq_true rfl) cells) (Nat.add_le_add_left (Nat.le_of_ble_eq_true rfl) slots) ?_
  exact kk _ _ _ _ _ _ _ hI hP hD hS hl
theorem kf_RL_259 : zCB RL 259 yX9_half cX9_half 1 (some .int) 0 ∧ Cond.instanceMethod yX9_half ∈ wAll ∧ Cond.selects yX9_half.cls yX9_half yX9_half ∈ wAll := ⟨⟨q_1764, q_9, q_1761, by decide +kernel⟩, q_1762, q_1763⟩
theorem kf_RL_256 : zCB RL 256 yX8_half cX8_half 1 (some .int) 0 ∧ Cond.instanceMethod yX8_half ∈ wAll ∧ Cond.selects yX8_half.cls yX8_half yX8_half ∈ wAll := ⟨⟨q_532, q_1, q_529, by decide +kernel⟩, q_530, q_531⟩
def zK33 (l : Launch) (D : va_G) (y : zY) (b bm : Nat) (I : Int32 → va_W → va_W → Prop) : Prop :=
  ∀ (t : Int32) (wX wM : va_W), I t wX wM → ∃ (rX cX rM cM : va_W) (fX fM : List Value) (P : Option Value → va_W → Prop) (PM : Option Value → va_W → Prop), wX.Perm (rX ++ cX) ∧ wM.Perm (rM ++ cM) ∧ cX[0]? = some (b, .inr (8, fX)) ∧ cM[0]? = some (bm, .inr (9, fM)) ∧ zC l D y yX8_half cX8_half 1 (some .int) rm_X8_half [.ref b] cX P ∧ zC l D y yX9_half cX9_half 1 (some .int) rm_X9_half [.ref bm] cM PM ∧ (∀ v w, P v w → ∃ r : Int32, v = some (.int r) ∧ ∀ vm wm, PM vm wm → vm = some (.int r) ∧ ∃ t2 : Int32, I t2 (rX ++ w) (rM ++ wm))
set_option maxHeartbeats 4000000 in
theorem zlk_33 {p : Program} {l : Launch} {e : Env} {s : State} {m : MethodId} {args : Array Value} {below : List Frame} {meth : Method} {c : Code} {H : Heap} {locs : List Loc} {cells slots : Nat} {Q : State → Prop} {D : va_G} {y : zY} {A : Nat → Prop} {ls : Array Slot} {wX wM : va_W} {ab b bm sb L : Nat} {cbx : Nat → Int64} {xs : Nat → Int32} {I : Int32 → va_W → va_W → Prop} {t i : Int32} (X : zX p s m args meth c D y A RL cL_law 8 (some .boolean)) (hT : zKT l D y bm I) (hk : zK33 l D y b bm I) (hX : va_X sb L xs s s.heap) (hbl : sb < s.heap.size) (hbA : ¬ A sb) (hin : ∀ k : Int32, 0 ≤ k.toInt ∧ k.toInt < 8 → vp_in (i + k) L) (hI : I t wX wM) (hP : va_P D vwCl (wM ++ (zbx y ab cbx :: wX)) H) (hD : va_D A (wM ++ (zbx y ab cbx :: wX))) (hS : va_S A s.heap H locs) (hl : lv_has ls 8 [(4, .int i), (3, .ref ab), (2, .ref bm), (1, .ref b), (0, .ref sb)]) (hcl : cells + 8 ≤ room_1.cells ∧ slots + 64 ≤ room_1.slots)
    (kk : ∀ (t : Int32) (wX wM : va_W) (cbx : Nat → Int64) (H : Heap) (locs : List Loc) (ls : Array Slot), I t wX wM → va_P D vwCl (wM ++ (zbx y ab cbx :: wX)) H → va_D A (wM ++ (zbx y ab cbx :: wX)) → va_S A s.heap H locs → lv_has ls 8 [(4, .int i), (3, .ref ab), (2, .ref bm), (1, .ref b), (0, .ref sb)] → W p l e room_1 s m args below meth c H locs (cells + 8) (slots + 64) Q (F0 m 3102 ls [])) : W p l e room_1 s m args below meth c H locs cells slots Q (F0 m 2459 ls []) := by
  obtain ⟨hx, hb, hr9, hml, hown, hts, hK, hA, hlocks⟩ := id X
  refine lv_aload_n hx hb dL_law_2459 rfl (lv_at hl 3 rfl) ?_
  obtain ⟨rX, cX, rM, cM, fX, fM, P, PM, e1, e2, b1, b2, hC, hM, hn⟩ := hk t wX wM hI  
  refine zLx (rest := []) X e1 hC kf_RL_256 ⟨(Nat.le_of_ble_eq_true rfl), (Nat.le_of_ble_eq_true rfl)⟩ hP hD hS rfl b1 rfl rfl hl.1 (Nat.le_of_ble_eq_true rfl) dL_law_2460 ⟨Nat.le_trans (Nat.add_le_add_left (Nat.le_of_ble_eq_true rfl) _) hcl.1, Nat.le_trans (Nat.add_le_add_left (Nat.le_of_ble_eq_true rfl) _) hcl.2⟩ (fun v w1 hp H locs hP hD hS => ?_)
  obtain ⟨r, rfl, hn⟩ := hn v w1 hp
  refine lv_aload_n hx hb dL_law_2463 rfl (lv_at hl 2 rfl) ?_
  refine zLm (rest := [.int r]) X e2 hM kf_RL_259 ⟨(Nat.le_of_ble_eq_true rfl), (Nat.le_of_ble_eq_true rfl)⟩ hP hD hS rfl b2 rfl rfl hl.1 (Nat.le_of_ble_eq_true rfl) dL_law_2464 ⟨?_, ?_⟩ (fun v wm hp H locs hP hD hS => ?_)
  · exact Nat.le_trans (Nat.add_le_add_left (Nat.le_of_ble_eq_true rfl) cells) hcl.1
  · exact Nat.le_trans (Nat.add_le_add_left (Nat.le_of_ble_eq_true rfl) slots) hcl.2
  obtain ⟨rfl, t2, hI⟩ := hn v wm hp
  refine lv_icmp_eq (tgt := 3102) hx hb dL_law_2467 (by decide) (fun _ => ?_) (fun h => absurd rfl h)
  refine W.widen (k := cells + 8) (n := slots + 64) (Nat.add_le_add_left (Nat.le_of_ble_eq_true rfl) cells) (Nat.add_le_add_left (Nat.le_of_ble_eq_true rfl) slots) ?_
  exact kk _ _ _ _ _ _ _ hI hP hD hS hl
theorem kf_RL_262 : zCB RL 262 yX9_decides cX9_decides 6 (some .long) 4 ∧ Cond.instanceMethod yX9_decides ∈ wAll ∧ Cond.selects yX9_decides.cls yX9_decides yX9_decides ∈ wAll := ⟨⟨q_1768, q_9, q_1765, by decide +kernel⟩, q_1766, q_1767⟩
theorem kw_RL_260 : zCW RL 260 yL_decides cL_decides 7 (some .int) [(0, 13, 16, 19), (0, 13, 20, 29)] 6 := ⟨q_1222, q_0, q_1220, q_1221, by decide +kernel⟩
def zK34 (l : Launch) (D : va_G) (y : zY) (b bm : Nat) (I : Int32 → va_W → va_W → Prop) : Prop :=
  ∀ (t : Int32) (wX wM : va_W), I t wX wM → ∀ (x1 : Int32) (x2 : Int32) (x3 : Int32) (x4 : Int32), (x3 = 0 ∨ x3 = 1) → ∃ (rX cX rM cM : va_W) (fX fM : List Value) (P : Option Value → va_W → Prop) (PX : String → va_W → Prop) (PM : Option Value → va_W → Prop), wX.Perm (rX ++ cX) ∧ wM.Perm (rM ++ cM) ∧ cX[0]? = some (b, .inr (8, fX)) ∧ cM[0]? = some (bm, .inr (9, fM)) ∧ zCx l D y yX8_decides cX8_decides 8 (some .long) rm_X8_decides [.ref b, .int x1, .int x2, .int x3, .int x4] cX P PX ∧ zC l D y yX9_decides cX9_decides 6 (some .long) rm_X9_decides [.ref bm, .int x1, .int x2, .int x3, .int x4] cM PM ∧ (∀ v w, P v w → ∃ r : Int64, v = some (.long r) ∧ ∀ vm wm, PM vm wm → vm = some (.long r) ∧ I 0 (rX ++ w) (rM ++ wm)) ∧ (∀ E w, PX E w → (E = "java/lang/IndexOutOfBoundsException" ∧ ∀ vm wm, PM vm wm → (∃ r : Int64, vm = some (.long r)) ∧ I 1 (rX ++ w) (rM ++ wm)) ∨ (E = "java/lang/IllegalStateException" ∧ ∀ vm wm, PM vm wm → (∃ r : Int64, vm = some (.long r)) ∧ I 2 (rX ++ w) (rM ++ wm)))
set_option maxHeartbeats 4000000 in
theorem zlk_34 {p : Program} {l : Launch} {e : Env} {s : State} {m : MethodId} {args : Array Value} {below : List Frame} {meth : Method} {c : Code} {H : Heap} {locs : List Loc} {cells slots : Nat} {Q : State → Prop} {D : va_G} {y : zY} {A : Nat → Prop} {ls : Array Slot} {wX wM : va_W} {ab b bm sb L : Nat} {cbx : Nat → Int64} {xs : Nat → Int32} {I : Int32 → va_W → va_W → Prop} {t i : Int32} (X : zX p s m args meth c D y A RL cL_law 8 (some .boolean)) (hT : zKT l D y bm I) (hk : zK34 l D y b bm I) (hX : va_X sb L xs s s.heap) (hbl : sb < s.heap.size) (hbA : ¬ A sb) (hin : ∀ k : Int32, 0 ≤ k.toInt ∧ k.toInt < 8 → vp_in (i + k) L) (hI : I t wX wM) (hP : va_P D vwCl (wM ++ (zbx y ab cbx :: wX)) H) (hD : va_D A (wM ++ (zbx y ab cbx :: wX))) (hS : va_S A s.heap H locs) (hl : lv_has ls 8 [(4, .int i), (3, .ref ab), (2, .ref bm), (1, .ref b), (0, .ref sb)]) (hcl : cells + 8 ≤ room_1.cells ∧ slots + 64 ≤ room_1.slots)
    (kk : ∀ (t : Int32) (wX wM : va_W) (cbx : Nat → Int64) (H : Heap) (locs : List Loc) (ls : Array Slot), I t wX wM → va_P D vwCl (wM ++ (zbx y ab cbx :: wX)) H → va_D A (wM ++ (zbx y ab cbx :: wX)) → va_S A s.heap H locs → lv_has ls 8 [(4, .int i), (3, .ref ab), (2, .ref bm), (1, .ref b), (0, .ref sb)] → W p l e room_1 s m args below meth c H locs (cells + 8) (slots + 64) Q (F0 m 3102 ls [])) : W p l e room_1 s m args below meth c H locs cells slots Q (F0 m 2472 ls []) := by
  obtain ⟨hx, hb, hr9, hml, hown, hts, hK, hA, hlocks⟩ := id X
  refine lv_aload_n hx hb dL_law_2472 rfl (lv_at hl 3 rfl) ?_
  refine zsc (k := 1) X hX hbl hbA hS dL_law_2473 dL_law_2474 dL_law_2476 (by decide) dL_law_2477 dL_law_2478 (lv_at hl 4 rfl) (lv_at hl 0 rfl) (hin 1 (by decide)) ?_
  refine zsc (k := 2) X hX hbl hbA hS dL_law_2479 dL_law_2480 dL_law_2482 (by decide) dL_law_2483 dL_law_2484 (lv_at hl 4 rfl) (lv_at hl 0 rfl) (hin 2 (by decide)) ?_
  refine zsc (k := 3) X hX hbl hbA hS dL_law_2485 dL_law_2486 dL_law_2488 (by decide) dL_law_2489 dL_law_2490 (lv_at hl 4 rfl) (lv_at hl 0 rfl) (hin 3 (by decide)) ?_
  refine zbo X dL_law_2491 (by decide) dL_law_2494 dL_law_2495 (by decide) dL_law_2498 ?_
  refine zsc (k := 4) X hX hbl hbA hS dL_law_2499 dL_law_2500 dL_law_2502 (by decide) dL_law_2503 dL_law_2504 (lv_at hl 4 rfl) (lv_at hl 0 rfl) (hin 4 (by decide)) ?_
  obtain ⟨rX, cX, rM, cM, fX, fM, P, PX, PM, e1, e2, b1, b2, hC, hM, hn, hE⟩ := hk t wX wM hI (xs (i + 1).toNatClampNeg) (xs (i + 2).toNatClampNeg) (zbl (xs (i + 3).toNatClampNeg)) (xs (i + 4).toNatClampNeg) (zbl01 _)
  refine lv_aload_n hx hb dL_law_2505 rfl (lv_at hl 1 rfl) ?_
  have hw := zw_L_decides l D y b ab cbx (xs (i + 1).toNatClampNeg) (xs (i + 2).toNatClampNeg) (zbl (xs (i + 3).toNatClampNeg)) (xs (i + 4).toNatClampNeg) cX fX 0 b1 P PX hC (fun v w h => (hn v w h).imp fun _ z => z.1) (fun E w h => (hE E w h).elim (fun z => Or.inl z.1) (fun z => Or.inr z.1))
  refine zLw (rest := []) X e1 hw kw_RL_260 ⟨(Nat.le_of_ble_eq_true rfl), (Nat.le_of_ble_eq_true rfl)⟩ hP hD hS rfl rfl hl.1 (Nat.le_of_ble_eq_true rfl) dL_law_2506 ⟨Nat.le_trans (Nat.add_le_add_left (Nat.le_of_ble_eq_true rfl) _) hcl.1, Nat.le_trans (Nat.add_le_add_left (Nat.le_of_ble_eq_true rfl) _) hcl.2⟩ (fun v w h => ?_) (fun v bx1 w1 hp H locs hP hD hS => ?_)
  · rcases h with ⟨_, w1, _, _, h⟩ | ⟨_, w1, _, _, h⟩
    · exact ⟨_, w1, h⟩
    · exact ⟨_, w1, h⟩
  have key : ∃ (kv : Int32) (c1 : Nat → Int64), v = some (.int kv) ∧ bx1 = zbx y ab c1 ∧ ∀ vm wm, PM vm wm → (∃ r : Int64, vm = some (.long r) ∧ (kv = 0 → c1 0 = r)) ∧ I kv (rX ++ w1) (rM ++ wm) := by
    rcases hp with ⟨r, w2, hp, rfl, hw2⟩ | ⟨E, w2, hp, hv, hw2⟩
    · obtain ⟨rfl, rfl⟩ := List.cons.inj hw2
      obtain ⟨r1, er, hn⟩ := hn _ _ hp
      obtain rfl : r = r1 := by injection er with er; injection er
      refine ⟨0, _, rfl, rfl, fun vm wm hm => ?_⟩
      obtain ⟨rfl, hi⟩ := hn vm wm hm
      exact ⟨⟨r, rfl, fun _ => rfl⟩, hi⟩
    · obtain ⟨rfl, rfl⟩ := List.cons.inj hw2
      rcases hv with ⟨rfl, hv⟩ | ⟨rfl, hv⟩
      · rcases hE _ _ hp with ⟨h0, hn⟩ | ⟨h0, hn⟩
        · refine ⟨1, _, hv, rfl, fun vm wm hm => ?_⟩
          obtain ⟨⟨r, rfl⟩, hi⟩ := hn vm wm hm
          exact ⟨⟨r, rfl, fun h => absurd h (by decide)⟩, hi⟩
        · exact absurd h0 (by decide)
      · rcases hE _ _ hp with ⟨h0, hn⟩ | ⟨h0, hn⟩
        · exact absurd h0 (by decide)
        · refine ⟨2, _, hv, rfl, fun vm wm hm => ?_⟩
          obtain ⟨⟨r, rfl⟩, hi⟩ := hn vm wm hm
          exact ⟨⟨r, rfl, fun h => absurd h (by decide)⟩, hi⟩
  obtain ⟨kv, c1, rfl, rfl, key⟩ := key
  refine lv_istore (lv' := [(5, .int kv), (4, .int i), (3, .ref ab), (2, .ref bm), (1, .ref b), (0, .ref sb)]) hx hb dL_law_2509 hl (by decide) rfl (fun ls hl => ?_)
  refine lv_aload_n hx hb dL_law_2511 rfl (lv_at hl 3 rfl) ?_
  refine zsc (k := 1) X hX hbl hbA hS dL_law_2512 dL_law_2513 dL_law_2515 (by decide) dL_law_2516 dL_law_2517 (lv_at hl 5 rfl) (lv_at hl 1 rfl) (hin 1 (by decide)) ?_
  refine zsc (k := 2) X hX hbl hbA hS dL_law_2518 dL_law_2519 dL_law_2521 (by decide) dL_law_2522 dL_law_2523 (lv_at hl 5 rfl) (lv_at hl 1 rfl) (hin 2 (by decide)) ?_
  refine zsc (k := 3) X hX hbl hbA hS dL_law_2524 dL_law_2525 dL_law_2527 (by decide) dL_law_2528 dL_law_2529 (lv_at hl 5 rfl) (lv_at hl 1 rfl) (hin 3 (by decide)) ?_
  refine zbo X dL_law_2530 (by decide) dL_law_2533 dL_law_2534 (by decide) dL_law_2537 ?_
  refine zsc (k := 4) X hX hbl hbA hS dL_law_2538 dL_law_2539 dL_law_2541 (by decide) dL_law_2542 dL_law_2543 (lv_at hl 5 rfl) (lv_at hl 1 rfl) (hin 4 (by decide)) ?_
  refine zLm (rest := []) X e2 hM kf_RL_262 ⟨(Nat.le_of_ble_eq_true rfl), (Nat.le_of_ble_eq_true rfl)⟩ hP hD hS rfl b2 rfl rfl hl.1 (Nat.le_of_ble_eq_true rfl) dL_law_2544 ⟨?_, ?_⟩ (fun v wm hp H locs hP hD hS => ?_)
  · exact Nat.le_trans (Nat.add_le_add_left (Nat.le_of_ble_eq_true rfl) cells) hcl.1
  · exact Nat.le_trans (Nat.add_le_add_left (Nat.le_of_ble_eq_true rfl) slots) hcl.2
  obtain ⟨⟨r, rfl, hc⟩, hI⟩ := key v wm hp
  refine lv_lstore (lv' := [(6, .long r), (5, .int kv), (4, .int i), (3, .ref ab), (2, .ref bm), (1, .ref b), (0, .ref sb)]) hx hb dL_law_2547 hl (by decide) rfl (fun ls hl => ?_)
  obtain ⟨r3, c3, f3, e3, b3, hC3⟩ := hT _ _ _ hI
  refine lv_aload_n hx hb dL_law_2549 rfl (lv_at hl 4 rfl) ?_
  refine zLm (rest := []) X e3 hC3 kf_RL_145 ⟨(Nat.le_of_ble_eq_true rfl), (Nat.le_of_ble_eq_true rfl)⟩ hP hD hS rfl b3 rfl rfl hl.1 (Nat.le_of_ble_eq_true rfl) dL_law_2550 ⟨?_, ?_⟩ (fun v w3 hp H locs hP hD hS => ?_)
  · exact Nat.le_trans (Nat.add_le_add_left (Nat.le_of_ble_eq_true rfl) cells) hcl.1
  · exact Nat.le_trans (Nat.add_le_add_left (Nat.le_of_ble_eq_true rfl) slots) hcl.2
  obtain ⟨rfl, rfl⟩ := hp
  replace hP := zPp (List.Perm.append_right _ e3.symm) hP
  replace hD := zDp (List.Perm.append_right _ e3.symm) hD
  refine lv_iload hx hb dL_law_2553 (lv_at hl 1 rfl) ?_
  refine lv_icmp_eq (tgt := 2560) hx hb dL_law_2555 (by decide) (fun _ => ?_) (fun h => absurd rfl h)
  refine lv_iload hx hb dL_law_2560 (lv_at hl 1 rfl) ?_
  have hend : ∀ (H : Heap) (locs : List Loc), va_P D vwCl ((rM ++ wm) ++ (zbx y ab c1 :: (rX ++ w1))) H → va_D A ((rM ++ wm) ++ (zbx y ab c1 :: (rX ++ w1))) → va_S A s.heap H locs → W p l e room_1 s m args below meth c H locs (cells + 4 + 0 + 0) (slots + 28 + 0 + 0) Q (F0 m 2576 ls []) := by
    intro H locs hP hD hS
    refine lv_goto (tgt := 3102) hx hb dL_law_2576 (by decide) ?_
    refine W.widen (k := cells + 8) (n := slots + 64) (Nat.add_le_add_left (Nat.le_of_ble_eq_true rfl) cells) (Nat.add_le_add_left (Nat.le_of_ble_eq_true rfl) slots) ?_
    exact kk _ _ _ _ _ _ _ hI hP hD hS (zlv (zlv hl))
  refine lv_if_ne (tgt := 2576) hx hb dL_law_2562 (by decide) (fun _ => hend H locs hP hD hS) (fun hz => ?_)
  refine lv_aload_n hx hb dL_law_2565 rfl (lv_at hl 3 rfl) ?_
  refine lv_iconst (v := 0) hx hb dL_law_2566 (by decide) ?_
  refine va_lald hx hb hK (zPp List.perm_append_comm hP) 0 1 rfl rfl (by unfold vp_in; decide) dL_law_2567 ?_
  rw [show c1 (0 : Int32).toNatClampNeg = _ from hc hz]
  refine lv_lload hx hb dL_law_2568 (lv_at hl 0 rfl) ?_
  refine W.lcmp hx hb dL_law_2570 ?_
  refine lv_if_eq (tgt := 2576) hx hb dL_law_2571 (by decide) (fun _ => hend H locs hP hD hS) (fun h => absurd (zlcE _) h)
theorem kf_RL_265 : zCB RL 265 yX9_leader cX9_leader 9 (some .int) 2 ∧ Cond.instanceMethod yX9_leader ∈ wAll ∧ Cond.selects yX9_leader.cls yX9_leader yX9_leader ∈ wAll := ⟨⟨q_1776, q_9, q_1773, by decide +kernel⟩, q_1774, q_1775⟩
theorem kw_RL_263 : zCW RL 263 yL_leader cL_leader 5 (some .int) [(0, 10, 13, 13)] 4 := ⟨q_1229, q_0, q_1227, q_1228, by decide +kernel⟩
def zK35 (l : Launch) (D : va_G) (y : zY) (b bm : Nat) (I : Int32 → va_W → va_W → Prop) : Prop :=
  ∀ (t : Int32) (wX wM : va_W), I t wX wM → ∀ (x1 : Int32) (x2 : Int32), ∃ (rX cX rM cM : va_W) (fX fM : List Value) (P : Option Value → va_W → Prop) (PX : String → va_W → Prop) (PM : Option Value → va_W → Prop), wX.Perm (rX ++ cX) ∧ wM.Perm (rM ++ cM) ∧ cX[0]? = some (b, .inr (8, fX)) ∧ cM[0]? = some (bm, .inr (9, fM)) ∧ zCx l D y yX8_leader cX8_leader 6 (some .int) rm_X8_leader [.ref b, .int x1, .int x2] cX P PX ∧ zC l D y yX9_leader cX9_leader 9 (some .int) rm_X9_leader [.ref bm, .int x1, .int x2] cM PM ∧ (∀ v w, P v w → ∃ r : Int32, v = some (.int r) ∧ ∀ vm wm, PM vm wm → vm = some (.int r) ∧ I 0 (rX ++ w) (rM ++ wm)) ∧ (∀ E w, PX E w → (E = "java/lang/IllegalArgumentException" ∧ ∀ vm wm, PM vm wm → (∃ r : Int32, vm = some (.int r)) ∧ I 1 (rX ++ w) (rM ++ wm)))
set_option maxHeartbeats 4000000 in
theorem zlk_35 {p : Program} {l : Launch} {e : Env} {s : State} {m : MethodId} {args : Array Value} {below : List Frame} {meth : Method} {c : Code} {H : Heap} {locs : List Loc} {cells slots : Nat} {Q : State → Prop} {D : va_G} {y : zY} {A : Nat → Prop} {ls : Array Slot} {wX wM : va_W} {ab b bm sb L : Nat} {cbx : Nat → Int64} {xs : Nat → Int32} {I : Int32 → va_W → va_W → Prop} {t i : Int32} (X : zX p s m args meth c D y A RL cL_law 8 (some .boolean)) (hT : zKT l D y bm I) (hk : zK35 l D y b bm I) (hX : va_X sb L xs s s.heap) (hbl : sb < s.heap.size) (hbA : ¬ A sb) (hin : ∀ k : Int32, 0 ≤ k.toInt ∧ k.toInt < 8 → vp_in (i + k) L) (hI : I t wX wM) (hP : va_P D vwCl (wM ++ (zbx y ab cbx :: wX)) H) (hD : va_D A (wM ++ (zbx y ab cbx :: wX))) (hS : va_S A s.heap H locs) (hl : lv_has ls 8 [(4, .int i), (3, .ref ab), (2, .ref bm), (1, .ref b), (0, .ref sb)]) (hcl : cells + 8 ≤ room_1.cells ∧ slots + 64 ≤ room_1.slots)
    (kk : ∀ (t : Int32) (wX wM : va_W) (cbx : Nat → Int64) (H : Heap) (locs : List Loc) (ls : Array Slot), I t wX wM → va_P D vwCl (wM ++ (zbx y ab cbx :: wX)) H → va_D A (wM ++ (zbx y ab cbx :: wX)) → va_S A s.heap H locs → lv_has ls 8 [(4, .int i), (3, .ref ab), (2, .ref bm), (1, .ref b), (0, .ref sb)] → W p l e room_1 s m args below meth c H locs (cells + 8) (slots + 64) Q (F0 m 3102 ls [])) : W p l e room_1 s m args below meth c H locs cells slots Q (F0 m 2579 ls []) := by
  obtain ⟨hx, hb, hr9, hml, hown, hts, hK, hA, hlocks⟩ := id X
  refine lv_aload_n hx hb dL_law_2579 rfl (lv_at hl 3 rfl) ?_
  refine zsc (k := 1) X hX hbl hbA hS dL_law_2580 dL_law_2581 dL_law_2583 (by decide) dL_law_2584 dL_law_2585 (lv_at hl 4 rfl) (lv_at hl 0 rfl) (hin 1 (by decide)) ?_
  refine zsc (k := 2) X hX hbl hbA hS dL_law_2586 dL_law_2587 dL_law_2589 (by decide) dL_law_2590 dL_law_2591 (lv_at hl 4 rfl) (lv_at hl 0 rfl) (hin 2 (by decide)) ?_
  obtain ⟨rX, cX, rM, cM, fX, fM, P, PX, PM, e1, e2, b1, b2, hC, hM, hn, hE⟩ := hk t wX wM hI (xs (i + 1).toNatClampNeg) (xs (i + 2).toNatClampNeg) 
  refine lv_aload_n hx hb dL_law_2592 rfl (lv_at hl 1 rfl) ?_
  have hw := zw_L_leader l D y b ab cbx (xs (i + 1).toNatClampNeg) (xs (i + 2).toNatClampNeg) cX fX 0 b1 P PX hC (fun v w h => (hn v w h).imp fun _ z => z.1) (fun E w h => (hE E w h).1)
  refine zLw (rest := []) X e1 hw kw_RL_263 ⟨(Nat.le_of_ble_eq_true rfl), (Nat.le_of_ble_eq_true rfl)⟩ hP hD hS rfl rfl hl.1 (Nat.le_of_ble_eq_true rfl) dL_law_2593 ⟨Nat.le_trans (Nat.add_le_add_left (Nat.le_of_ble_eq_true rfl) _) hcl.1, Nat.le_trans (Nat.add_le_add_left (Nat.le_of_ble_eq_true rfl) _) hcl.2⟩ (fun v w h => ?_) (fun v bx1 w1 hp H locs hP hD hS => ?_)
  · rcases h with ⟨_, w1, _, _, h⟩ | ⟨_, w1, _, _, h⟩
    · exact ⟨_, w1, h⟩
    · exact ⟨_, w1, h⟩
  have key : ∃ (kv : Int32) (c1 : Nat → Int64), v = some (.int kv) ∧ bx1 = zbx y ab c1 ∧ ∀ vm wm, PM vm wm → (∃ r : Int32, vm = some (.int r) ∧ (kv = 0 → c1 0 = r.toInt64)) ∧ I kv (rX ++ w1) (rM ++ wm) := by
    rcases hp with ⟨r, w2, hp, rfl, hw2⟩ | ⟨E, w2, hp, hv, hw2⟩
    · obtain ⟨rfl, rfl⟩ := List.cons.inj hw2
      obtain ⟨r1, er, hn⟩ := hn _ _ hp
      obtain rfl : r = r1 := by injection er with er; injection er
      refine ⟨0, _, rfl, rfl, fun vm wm hm => ?_⟩
      obtain ⟨rfl, hi⟩ := hn vm wm hm
      exact ⟨⟨r, rfl, fun _ => rfl⟩, hi⟩
    · obtain ⟨rfl, rfl⟩ := List.cons.inj hw2
      obtain ⟨rfl, hv⟩ := hv
      obtain ⟨-, hn⟩ := hE _ _ hp
      refine ⟨1, _, hv, rfl, fun vm wm hm => ?_⟩
      obtain ⟨⟨r, rfl⟩, hi⟩ := hn vm wm hm
      exact ⟨⟨r, rfl, fun h => absurd h (by decide)⟩, hi⟩
  obtain ⟨kv, c1, rfl, rfl, key⟩ := key
  refine lv_istore (lv' := [(5, .int kv), (4, .int i), (3, .ref ab), (2, .ref bm), (1, .ref b), (0, .ref sb)]) hx hb dL_law_2596 hl (by decide) rfl (fun ls hl => ?_)
  refine lv_aload_n hx hb dL_law_2598 rfl (lv_at hl 3 rfl) ?_
  refine zsc (k := 1) X hX hbl hbA hS dL_law_2599 dL_law_2600 dL_law_2602 (by decide) dL_law_2603 dL_law_2604 (lv_at hl 5 rfl) (lv_at hl 1 rfl) (hin 1 (by decide)) ?_
  refine zsc (k := 2) X hX hbl hbA hS dL_law_2605 dL_law_2606 dL_law_2608 (by decide) dL_law_2609 dL_law_2610 (lv_at hl 5 rfl) (lv_at hl 1 rfl) (hin 2 (by decide)) ?_
  refine zLm (rest := []) X e2 hM kf_RL_265 ⟨(Nat.le_of_ble_eq_true rfl), (Nat.le_of_ble_eq_true rfl)⟩ hP hD hS rfl b2 rfl rfl hl.1 (Nat.le_of_ble_eq_true rfl) dL_law_2611 ⟨?_, ?_⟩ (fun v wm hp H locs hP hD hS => ?_)
  · exact Nat.le_trans (Nat.add_le_add_left (Nat.le_of_ble_eq_true rfl) cells) hcl.1
  · exact Nat.le_trans (Nat.add_le_add_left (Nat.le_of_ble_eq_true rfl) slots) hcl.2
  obtain ⟨⟨r, rfl, hc⟩, hI⟩ := key v wm hp
  refine lv_istore (lv' := [(6, .int r), (5, .int kv), (4, .int i), (3, .ref ab), (2, .ref bm), (1, .ref b), (0, .ref sb)]) hx hb dL_law_2614 hl (by decide) rfl (fun ls hl => ?_)
  obtain ⟨r3, c3, f3, e3, b3, hC3⟩ := hT _ _ _ hI
  refine lv_aload_n hx hb dL_law_2616 rfl (lv_at hl 4 rfl) ?_
  refine zLm (rest := []) X e3 hC3 kf_RL_145 ⟨(Nat.le_of_ble_eq_true rfl), (Nat.le_of_ble_eq_true rfl)⟩ hP hD hS rfl b3 rfl rfl hl.1 (Nat.le_of_ble_eq_true rfl) dL_law_2617 ⟨?_, ?_⟩ (fun v w3 hp H locs hP hD hS => ?_)
  · exact Nat.le_trans (Nat.add_le_add_left (Nat.le_of_ble_eq_true rfl) cells) hcl.1
  · exact Nat.le_trans (Nat.add_le_add_left (Nat.le_of_ble_eq_true rfl) slots) hcl.2
  obtain ⟨rfl, rfl⟩ := hp
  replace hP := zPp (List.Perm.append_right _ e3.symm) hP
  replace hD := zDp (List.Perm.append_right _ e3.symm) hD
  refine lv_iload hx hb dL_law_2620 (lv_at hl 1 rfl) ?_
  refine lv_icmp_eq (tgt := 2627) hx hb dL_law_2622 (by decide) (fun _ => ?_) (fun h => absurd rfl h)
  refine lv_iload hx hb dL_law_2627 (lv_at hl 1 rfl) ?_
  have hend : ∀ (H : Heap) (locs : List Loc), va_P D vwCl ((rM ++ wm) ++ (zbx y ab c1 :: (rX ++ w1))) H → va_D A ((rM ++ wm) ++ (zbx y ab c1 :: (rX ++ w1))) → va_S A s.heap H locs → W p l e room_1 s m args below meth c H locs (cells + 1 + 0 + 0) (slots + 6 + 0 + 0) Q (F0 m 2644 ls []) := by
    intro H locs hP hD hS
    refine lv_goto (tgt := 3102) hx hb dL_law_2644 (by decide) ?_
    refine W.widen (k := cells + 8) (n := slots + 64) (Nat.add_le_add_left (Nat.le_of_ble_eq_true rfl) cells) (Nat.add_le_add_left (Nat.le_of_ble_eq_true rfl) slots) ?_
    exact kk _ _ _ _ _ _ _ hI hP hD hS (zlv (zlv hl))
  refine lv_if_ne (tgt := 2644) hx hb dL_law_2629 (by decide) (fun _ => hend H locs hP hD hS) (fun hz => ?_)
  refine lv_aload_n hx hb dL_law_2632 rfl (lv_at hl 3 rfl) ?_
  refine lv_iconst (v := 0) hx hb dL_law_2633 (by decide) ?_
  refine va_lald hx hb hK (zPp List.perm_append_comm hP) 0 1 rfl rfl (by unfold vp_in; decide) dL_law_2634 ?_
  rw [show c1 (0 : Int32).toNatClampNeg = _ from hc hz]
  refine lv_iload hx hb dL_law_2635 (lv_at hl 0 rfl) ?_
  refine lv_i2l (v := r.toInt64) hx hb dL_law_2637 rfl ?_
  refine W.lcmp hx hb dL_law_2638 ?_
  refine lv_if_eq (tgt := 2644) hx hb dL_law_2639 (by decide) (fun _ => hend H locs hP hD hS) (fun h => absurd (zlcE _) h)
theorem kf_RL_269 : zCB RL 269 yX9_rank cX9_rank 11 (some .int) 5 ∧ Cond.instanceMethod yX9_rank ∈ wAll ∧ Cond.selects yX9_rank.cls yX9_rank yX9_rank ∈ wAll := ⟨⟨q_1784, q_9, q_1781, by decide +kernel⟩, q_1782, q_1783⟩
theorem kw_RL_266 : zCW RL 266 yL_rank cL_rank 8 (some .int) [(0, 16, 19, 19), (0, 16, 23, 13), (0, 16, 27, 29)] 7 := ⟨q_1280, q_0, q_1278, q_1279, by decide +kernel⟩
def zK36 (l : Launch) (D : va_G) (y : zY) (b bm : Nat) (I : Int32 → va_W → va_W → Prop) : Prop :=
  ∀ (t : Int32) (wX wM : va_W), I t wX wM → ∀ (x1 : Int32) (x2 : Int32) (x3 : Int32) (x4 : Int32) (x5 : Int32), (x3 = 0 ∨ x3 = 1) → ∃ (rX cX rM cM : va_W) (fX fM : List Value) (P : Option Value → va_W → Prop) (PX : String → va_W → Prop) (PM : Option Value → va_W → Prop), wX.Perm (rX ++ cX) ∧ wM.Perm (rM ++ cM) ∧ cX[0]? = some (b, .inr (8, fX)) ∧ cM[0]? = some (bm, .inr (9, fM)) ∧ zCx l D y yX8_rank cX8_rank 10 (some .int) rm_X8_rank [.ref b, .int x1, .int x2, .int x3, .int x4, .int x5] cX P PX ∧ zC l D y yX9_rank cX9_rank 11 (some .int) rm_X9_rank [.ref bm, .int x1, .int x2, .int x3, .int x4, .int x5] cM PM ∧ (∀ v w, P v w → ∃ r : Int32, v = some (.int r) ∧ ∀ vm wm, PM vm wm → vm = some (.int r) ∧ I 0 (rX ++ w) (rM ++ wm)) ∧ (∀ E w, PX E w → (E = "java/lang/IndexOutOfBoundsException" ∧ ∀ vm wm, PM vm wm → (∃ r : Int32, vm = some (.int r)) ∧ I 1 (rX ++ w) (rM ++ wm)) ∨ (E = "java/lang/IllegalArgumentException" ∧ ∀ vm wm, PM vm wm → (∃ r : Int32, vm = some (.int r)) ∧ I 2 (rX ++ w) (rM ++ wm)) ∨ (E = "java/lang/IllegalStateException" ∧ ∀ vm wm, PM vm wm → (∃ r : Int32, vm = some (.int r)) ∧ I 3 (rX ++ w) (rM ++ wm)))
set_option maxHeartbeats 4000000 in
theorem zlk_36 {p : Program} {l : Launch} {e : Env} {s : State} {m : MethodId} {args : Array Value} {below : List Frame} {meth : Method} {c : Code} {H : Heap} {locs : List Loc} {cells slots : Nat} {Q : State → Prop} {D : va_G} {y : zY} {A : Nat → Prop} {ls : Array Slot} {wX wM : va_W} {ab b bm sb L : Nat} {cbx : Nat → Int64} {xs : Nat → Int32} {I : Int32 → va_W → va_W → Prop} {t i : Int32} (X : zX p s m args meth c D y A RL cL_law 8 (some .boolean)) (hT : zKT l D y bm I) (hk : zK36 l D y b bm I) (hX : va_X sb L xs s s.heap) (hbl : sb < s.heap.size) (hbA : ¬ A sb) (hin : ∀ k : Int32, 0 ≤ k.toInt ∧ k.toInt < 8 → vp_in (i + k) L) (hI : I t wX wM) (hP : va_P D vwCl (wM ++ (zbx y ab cbx :: wX)) H) (hD : va_D A (wM ++ (zbx y ab cbx :: wX))) (hS : va_S A s.heap H locs) (hl : lv_has ls 8 [(4, .int i), (3, .ref ab), (2, .ref bm), (1, .ref b), (0, .ref sb)]) (hcl : cells + 8 ≤ room_1.cells ∧ slots + 64 ≤ room_1.slots)
    (kk : ∀ (t : Int32) (wX wM : va_W) (cbx : Nat → Int64) (H : Heap) (locs : List Loc) (ls : Array Slot), I t wX wM → va_P D vwCl (wM ++ (zbx y ab cbx :: wX)) H → va_D A (wM ++ (zbx y ab cbx :: wX)) → va_S A s.heap H locs → lv_has ls 8 [(4, .int i), (3, .ref ab), (2, .ref bm), (1, .ref b), (0, .ref sb)] → W p l e room_1 s m args below meth c H locs (cells + 8) (slots + 64) Q (F0 m 3102 ls [])) : W p l e room_1 s m args below meth c H locs cells slots Q (F0 m 2647 ls []) := by
  obtain ⟨hx, hb, hr9, hml, hown, hts, hK, hA, hlocks⟩ := id X
  refine lv_aload_n hx hb dL_law_2647 rfl (lv_at hl 3 rfl) ?_
  refine zsc (k := 1) X hX hbl hbA hS dL_law_2648 dL_law_2649 dL_law_2651 (by decide) dL_law_2652 dL_law_2653 (lv_at hl 4 rfl) (lv_at hl 0 rfl) (hin 1 (by decide)) ?_
  refine zsc (k := 2) X hX hbl hbA hS dL_law_2654 dL_law_2655 dL_law_2657 (by decide) dL_law_2658 dL_law_2659 (lv_at hl 4 rfl) (lv_at hl 0 rfl) (hin 2 (by decide)) ?_
  refine zsc (k := 3) X hX hbl hbA hS dL_law_2660 dL_law_2661 dL_law_2663 (by decide) dL_law_2664 dL_law_2665 (lv_at hl 4 rfl) (lv_at hl 0 rfl) (hin 3 (by decide)) ?_
  refine zbo X dL_law_2666 (by decide) dL_law_2669 dL_law_2670 (by decide) dL_law_2673 ?_
  refine zsc (k := 4) X hX hbl hbA hS dL_law_2674 dL_law_2675 dL_law_2677 (by decide) dL_law_2678 dL_law_2679 (lv_at hl 4 rfl) (lv_at hl 0 rfl) (hin 4 (by decide)) ?_
  refine zsc (k := 5) X hX hbl hbA hS dL_law_2680 dL_law_2681 dL_law_2683 (by decide) dL_law_2684 dL_law_2685 (lv_at hl 4 rfl) (lv_at hl 0 rfl) (hin 5 (by decide)) ?_
  obtain ⟨rX, cX, rM, cM, fX, fM, P, PX, PM, e1, e2, b1, b2, hC, hM, hn, hE⟩ := hk t wX wM hI (xs (i + 1).toNatClampNeg) (xs (i + 2).toNatClampNeg) (zbl (xs (i + 3).toNatClampNeg)) (xs (i + 4).toNatClampNeg) (xs (i + 5).toNatClampNeg) (zbl01 _)
  refine lv_aload_n hx hb dL_law_2686 rfl (lv_at hl 1 rfl) ?_
  have hw := zw_L_rank l D y b ab cbx (xs (i + 1).toNatClampNeg) (xs (i + 2).toNatClampNeg) (zbl (xs (i + 3).toNatClampNeg)) (xs (i + 4).toNatClampNeg) (xs (i + 5).toNatClampNeg) cX fX 0 b1 P PX hC (fun v w h => (hn v w h).imp fun _ z => z.1) (fun E w h => (hE E w h).elim (fun z => Or.inl z.1) (fun z => z.elim (fun z => Or.inr (Or.inl z.1)) (fun z => Or.inr (Or.inr z.1))))
  refine zLw (rest := []) X e1 hw kw_RL_266 ⟨(Nat.le_of_ble_eq_true rfl), (Nat.le_of_ble_eq_true rfl)⟩ hP hD hS rfl rfl hl.1 (Nat.le_of_ble_eq_true rfl) dL_law_2687 ⟨Nat.le_trans (Nat.add_le_add_left (Nat.le_of_ble_eq_true rfl) _) hcl.1, Nat.le_trans (Nat.add_le_add_left (Nat.le_of_ble_eq_true rfl) _) hcl.2⟩ (fun v w h => ?_) (fun v bx1 w1 hp H locs hP hD hS => ?_)
  · rcases h with ⟨_, w1, _, _, h⟩ | ⟨_, w1, _, _, h⟩
    · exact ⟨_, w1, h⟩
    · exact ⟨_, w1, h⟩
  have key : ∃ (kv : Int32) (c1 : Nat → Int64), v = some (.int kv) ∧ bx1 = zbx y ab c1 ∧ ∀ vm wm, PM vm wm → (∃ r : Int32, vm = some (.int r) ∧ (kv = 0 → c1 0 = r.toInt64)) ∧ I kv (rX ++ w1) (rM ++ wm) := by
    rcases hp with ⟨r, w2, hp, rfl, hw2⟩ | ⟨E, w2, hp, hv, hw2⟩
    · obtain ⟨rfl, rfl⟩ := List.cons.inj hw2
      obtain ⟨r1, er, hn⟩ := hn _ _ hp
      obtain rfl : r = r1 := by injection er with er; injection er
      refine ⟨0, _, rfl, rfl, fun vm wm hm => ?_⟩
      obtain ⟨rfl, hi⟩ := hn vm wm hm
      exact ⟨⟨r, rfl, fun _ => rfl⟩, hi⟩
    · obtain ⟨rfl, rfl⟩ := List.cons.inj hw2
      rcases hv with ⟨rfl, hv⟩ | ⟨rfl, hv⟩ | ⟨rfl, hv⟩
      · rcases hE _ _ hp with ⟨h0, hn⟩ | ⟨h0, hn⟩ | ⟨h0, hn⟩
        · refine ⟨1, _, hv, rfl, fun vm wm hm => ?_⟩
          obtain ⟨⟨r, rfl⟩, hi⟩ := hn vm wm hm
          exact ⟨⟨r, rfl, fun h => absurd h (by decide)⟩, hi⟩
        · exact absurd h0 (by decide)
        · exact absurd h0 (by decide)
      · rcases hE _ _ hp with ⟨h0, hn⟩ | ⟨h0, hn⟩ | ⟨h0, hn⟩
        · exact absurd h0 (by decide)
        · refine ⟨2, _, hv, rfl, fun vm wm hm => ?_⟩
          obtain ⟨⟨r, rfl⟩, hi⟩ := hn vm wm hm
          exact ⟨⟨r, rfl, fun h => absurd h (by decide)⟩, hi⟩
        · exact absurd h0 (by decide)
      · rcases hE _ _ hp with ⟨h0, hn⟩ | ⟨h0, hn⟩ | ⟨h0, hn⟩
        · exact absurd h0 (by decide)
        · exact absurd h0 (by decide)
        · refine ⟨3, _, hv, rfl, fun vm wm hm => ?_⟩
          obtain ⟨⟨r, rfl⟩, hi⟩ := hn vm wm hm
          exact ⟨⟨r, rfl, fun h => absurd h (by decide)⟩, hi⟩
  obtain ⟨kv, c1, rfl, rfl, key⟩ := key
  refine lv_istore (lv' := [(5, .int kv), (4, .int i), (3, .ref ab), (2, .ref bm), (1, .ref b), (0, .ref sb)]) hx hb dL_law_2690 hl (by decide) rfl (fun ls hl => ?_)
  refine lv_aload_n hx hb dL_law_2692 rfl (lv_at hl 3 rfl) ?_
  refine zsc (k := 1) X hX hbl hbA hS dL_law_2693 dL_law_2694 dL_law_2696 (by decide) dL_law_2697 dL_law_2698 (lv_at hl 5 rfl) (lv_at hl 1 rfl) (hin 1 (by decide)) ?_
  refine zsc (k := 2) X hX hbl hbA hS dL_law_2699 dL_law_2700 dL_law_2702 (by decide) dL_law_2703 dL_law_2704 (lv_at hl 5 rfl) (lv_at hl 1 rfl) (hin 2 (by decide)) ?_
  refine zsc (k := 3) X hX hbl hbA hS dL_law_2705 dL_law_2706 dL_law_2708 (by decide) dL_law_2709 dL_law_2710 (lv_at hl 5 rfl) (lv_at hl 1 rfl) (hin 3 (by decide)) ?_
  refine zbo X dL_law_2711 (by decide) dL_law_2714 dL_law_2715 (by decide) dL_law_2718 ?_
  refine zsc (k := 4) X hX hbl hbA hS dL_law_2719 dL_law_2720 dL_law_2722 (by decide) dL_law_2723 dL_law_2724 (lv_at hl 5 rfl) (lv_at hl 1 rfl) (hin 4 (by decide)) ?_
  refine zsc (k := 5) X hX hbl hbA hS dL_law_2725 dL_law_2726 dL_law_2728 (by decide) dL_law_2729 dL_law_2730 (lv_at hl 5 rfl) (lv_at hl 1 rfl) (hin 5 (by decide)) ?_
  refine zLm (rest := []) X e2 hM kf_RL_269 ⟨(Nat.le_of_ble_eq_true rfl), (Nat.le_of_ble_eq_true rfl)⟩ hP hD hS rfl b2 rfl rfl hl.1 (Nat.le_of_ble_eq_true rfl) dL_law_2731 ⟨?_, ?_⟩ (fun v wm hp H locs hP hD hS => ?_)
  · exact Nat.le_trans (Nat.add_le_add_left (Nat.le_of_ble_eq_true rfl) cells) hcl.1
  · exact Nat.le_trans (Nat.add_le_add_left (Nat.le_of_ble_eq_true rfl) slots) hcl.2
  obtain ⟨⟨r, rfl, hc⟩, hI⟩ := key v wm hp
  refine lv_istore (lv' := [(6, .int r), (5, .int kv), (4, .int i), (3, .ref ab), (2, .ref bm), (1, .ref b), (0, .ref sb)]) hx hb dL_law_2734 hl (by decide) rfl (fun ls hl => ?_)
  obtain ⟨r3, c3, f3, e3, b3, hC3⟩ := hT _ _ _ hI
  refine lv_aload_n hx hb dL_law_2736 rfl (lv_at hl 4 rfl) ?_
  refine zLm (rest := []) X e3 hC3 kf_RL_145 ⟨(Nat.le_of_ble_eq_true rfl), (Nat.le_of_ble_eq_true rfl)⟩ hP hD hS rfl b3 rfl rfl hl.1 (Nat.le_of_ble_eq_true rfl) dL_law_2737 ⟨?_, ?_⟩ (fun v w3 hp H locs hP hD hS => ?_)
  · exact Nat.le_trans (Nat.add_le_add_left (Nat.le_of_ble_eq_true rfl) cells) hcl.1
  · exact Nat.le_trans (Nat.add_le_add_left (Nat.le_of_ble_eq_true rfl) slots) hcl.2
  obtain ⟨rfl, rfl⟩ := hp
  replace hP := zPp (List.Perm.append_right _ e3.symm) hP
  replace hD := zDp (List.Perm.append_right _ e3.symm) hD
  refine lv_iload hx hb dL_law_2740 (lv_at hl 1 rfl) ?_
  refine lv_icmp_eq (tgt := 2747) hx hb dL_law_2742 (by decide) (fun _ => ?_) (fun h => absurd rfl h)
  refine lv_iload hx hb dL_law_2747 (lv_at hl 1 rfl) ?_
  have hend : ∀ (H : Heap) (locs : List Loc), va_P D vwCl ((rM ++ wm) ++ (zbx y ab c1 :: (rX ++ w1))) H → va_D A ((rM ++ wm) ++ (zbx y ab c1 :: (rX ++ w1))) → va_S A s.heap H locs → W p l e room_1 s m args below meth c H locs (cells + 3 + 0 + 0) (slots + 18 + 0 + 0) Q (F0 m 2764 ls []) := by
    intro H locs hP hD hS
    refine lv_goto (tgt := 3102) hx hb dL_law_2764 (by decide) ?_
    refine W.widen (k := cells + 8) (n := slots + 64) (Nat.add_le_add_left (Nat.le_of_ble_eq_true rfl) cells) (Nat.add_le_add_left (Nat.le_of_ble_eq_true rfl) slots) ?_
    exact kk _ _ _ _ _ _ _ hI hP hD hS (zlv (zlv hl))
  refine lv_if_ne (tgt := 2764) hx hb dL_law_2749 (by decide) (fun _ => hend H locs hP hD hS) (fun hz => ?_)
  refine lv_aload_n hx hb dL_law_2752 rfl (lv_at hl 3 rfl) ?_
  refine lv_iconst (v := 0) hx hb dL_law_2753 (by decide) ?_
  refine va_lald hx hb hK (zPp List.perm_append_comm hP) 0 1 rfl rfl (by unfold vp_in; decide) dL_law_2754 ?_
  rw [show c1 (0 : Int32).toNatClampNeg = _ from hc hz]
  refine lv_iload hx hb dL_law_2755 (lv_at hl 0 rfl) ?_
  refine lv_i2l (v := r.toInt64) hx hb dL_law_2757 rfl ?_
  refine W.lcmp hx hb dL_law_2758 ?_
  refine lv_if_eq (tgt := 2764) hx hb dL_law_2759 (by decide) (fun _ => hend H locs hP hD hS) (fun h => absurd (zlcE _) h)
theorem kf_RL_273 : zCB RL 273 yX9_toOpen cX9_toOpen 2 (some .int) 0 ∧ Cond.instanceMethod yX9_toOpen ∈ wAll ∧ Cond.selects yX9_toOpen.cls yX9_toOpen yX9_toOpen ∈ wAll := ⟨⟨q_1788, q_9, q_1785, by decide +kernel⟩, q_1786, q_1787⟩
theorem kf_RL_270 : zCB RL 270 yX8_toOpen cX8_toOpen 3 (some .int) 0 ∧ Cond.instanceMethod yX8_toOpen ∈ wAll ∧ Cond.selects yX8_toOpen.cls yX8_toOpen yX8_toOpen ∈ wAll := ⟨⟨q_540, q_1, q_537, by decide +kernel⟩, q_538, q_539⟩
def zK37 (l : Launch) (D : va_G) (y : zY) (b bm : Nat) (I : Int32 → va_W → va_W → Prop) : Prop :=
  ∀ (t : Int32) (wX wM : va_W), I t wX wM → ∃ (rX cX rM cM : va_W) (fX fM : List Value) (P : Option Value → va_W → Prop) (PM : Option Value → va_W → Prop), wX.Perm (rX ++ cX) ∧ wM.Perm (rM ++ cM) ∧ cX[0]? = some (b, .inr (8, fX)) ∧ cM[0]? = some (bm, .inr (9, fM)) ∧ zC l D y yX8_toOpen cX8_toOpen 3 (some .int) rm_X8_toOpen [.ref b] cX P ∧ zC l D y yX9_toOpen cX9_toOpen 2 (some .int) rm_X9_toOpen [.ref bm] cM PM ∧ (∀ v w, P v w → ∃ r : Int32, v = some (.int r) ∧ ∀ vm wm, PM vm wm → vm = some (.int r) ∧ ∃ t2 : Int32, I t2 (rX ++ w) (rM ++ wm))
set_option maxHeartbeats 4000000 in
theorem zlk_37 {p : Program} {l : Launch} {e : Env} {s : State} {m : MethodId} {args : Array Value} {below : List Frame} {meth : Method} {c : Code} {H : Heap} {locs : List Loc} {cells slots : Nat} {Q : State → Prop} {D : va_G} {y : zY} {A : Nat → Prop} {ls : Array Slot} {wX wM : va_W} {ab b bm sb L : Nat} {cbx : Nat → Int64} {xs : Nat → Int32} {I : Int32 → va_W → va_W → Prop} {t i : Int32} (X : zX p s m args meth c D y A RL cL_law 8 (some .boolean)) (hT : zKT l D y bm I) (hk : zK37 l D y b bm I) (hX : va_X sb L xs s s.heap) (hbl : sb < s.heap.size) (hbA : ¬ A sb) (hin : ∀ k : Int32, 0 ≤ k.toInt ∧ k.toInt < 8 → vp_in (i + k) L) (hI : I t wX wM) (hP : va_P D vwCl (wM ++ (zbx y ab cbx :: wX)) H) (hD : va_D A (wM ++ (zbx y ab cbx :: wX))) (hS : va_S A s.heap H locs) (hl : lv_has ls 8 [(4, .int i), (3, .ref ab), (2, .ref bm), (1, .ref b), (0, .ref sb)]) (hcl : cells + 8 ≤ room_1.cells ∧ slots + 64 ≤ room_1.slots)
    (kk : ∀ (t : Int32) (wX wM : va_W) (cbx : Nat → Int64) (H : Heap) (locs : List Loc) (ls : Array Slot), I t wX wM → va_P D vwCl (wM ++ (zbx y ab cbx :: wX)) H → va_D A (wM ++ (zbx y ab cbx :: wX)) → va_S A s.heap H locs → lv_has ls 8 [(4, .int i), (3, .ref ab), (2, .ref bm), (1, .ref b), (0, .ref sb)] → W p l e room_1 s m args below meth c H locs (cells + 8) (slots + 64) Q (F0 m 3102 ls [])) : W p l e room_1 s m args below meth c H locs cells slots Q (F0 m 2767 ls []) := by
  obtain ⟨hx, hb, hr9, hml, hown, hts, hK, hA, hlocks⟩ := id X
  refine lv_aload_n hx hb dL_law_2767 rfl (lv_at hl 3 rfl) ?_
  obtain ⟨rX, cX, rM, cM, fX, fM, P, PM, e1, e2, b1, b2, hC, hM, hn⟩ := hk t wX wM hI  
  refine zLx (rest := []) X e1 hC kf_RL_270 ⟨(Nat.le_of_ble_eq_true rfl), (Nat.le_of_ble_eq_true rfl)⟩ hP hD hS rfl b1 rfl rfl hl.1 (Nat.le_of_ble_eq_true rfl) dL_law_2768 ⟨Nat.le_trans (Nat.add_le_add_left (Nat.le_of_ble_eq_true rfl) _) hcl.1, Nat.le_trans (Nat.add_le_add_left (Nat.le_of_ble_eq_true rfl) _) hcl.2⟩ (fun v w1 hp H locs hP hD hS => ?_)
  obtain ⟨r, rfl, hn⟩ := hn v w1 hp
  refine lv_aload_n hx hb dL_law_2771 rfl (lv_at hl 2 rfl) ?_
  refine zLm (rest := [.int r]) X e2 hM kf_RL_273 ⟨(Nat.le_of_ble_eq_true rfl), (Nat.le_of_ble_eq_true rfl)⟩ hP hD hS rfl b2 rfl rfl hl.1 (Nat.le_of_ble_eq_true rfl) dL_law_2772 ⟨?_, ?_⟩ (fun v wm hp H locs hP hD hS => ?_)
  · exact Nat.le_trans (Nat.add_le_add_left (Nat.le_of_ble_eq_true rfl) cells) hcl.1
  · exact Nat.le_trans (Nat.add_le_add_left (Nat.le_of_ble_eq_true rfl) slots) hcl.2
  obtain ⟨rfl, t2, hI⟩ := hn v wm hp
  refine lv_icmp_eq (tgt := 3102) hx hb dL_law_2775 (by decide) (fun _ => ?_) (fun h => absurd rfl h)
  refine W.widen (k := cells + 8) (n := slots + 64) (Nat.add_le_add_left (Nat.le_of_ble_eq_true rfl) cells) (Nat.add_le_add_left (Nat.le_of_ble_eq_true rfl) slots) ?_
  exact kk _ _ _ _ _ _ _ hI hP hD hS hl
theorem kf_RL_277 : zCB RL 277 yX9_toShut cX9_toShut 3 (some .int) 0 ∧ Cond.instanceMethod yX9_toShut ∈ wAll ∧ Cond.selects yX9_toShut.cls yX9_toShut yX9_toShut ∈ wAll := ⟨⟨q_1792, q_9, q_1789, by decide +kernel⟩, q_1790, q_1791⟩
theorem kf_RL_274 : zCB RL 274 yX8_toShut cX8_toShut 4 (some .int) 0 ∧ Cond.instanceMethod yX8_toShut ∈ wAll ∧ Cond.selects yX8_toShut.cls yX8_toShut yX8_toShut ∈ wAll := ⟨⟨q_544, q_1, q_541, by decide +kernel⟩, q_542, q_543⟩
def zK38 (l : Launch) (D : va_G) (y : zY) (b bm : Nat) (I : Int32 → va_W → va_W → Prop) : Prop :=
  ∀ (t : Int32) (wX wM : va_W), I t wX wM → ∃ (rX cX rM cM : va_W) (fX fM : List Value) (P : Option Value → va_W → Prop) (PM : Option Value → va_W → Prop), wX.Perm (rX ++ cX) ∧ wM.Perm (rM ++ cM) ∧ cX[0]? = some (b, .inr (8, fX)) ∧ cM[0]? = some (bm, .inr (9, fM)) ∧ zC l D y yX8_toShut cX8_toShut 4 (some .int) rm_X8_toShut [.ref b] cX P ∧ zC l D y yX9_toShut cX9_toShut 3 (some .int) rm_X9_toShut [.ref bm] cM PM ∧ (∀ v w, P v w → ∃ r : Int32, v = some (.int r) ∧ ∀ vm wm, PM vm wm → vm = some (.int r) ∧ ∃ t2 : Int32, I t2 (rX ++ w) (rM ++ wm))
set_option maxHeartbeats 4000000 in
theorem zlk_38 {p : Program} {l : Launch} {e : Env} {s : State} {m : MethodId} {args : Array Value} {below : List Frame} {meth : Method} {c : Code} {H : Heap} {locs : List Loc} {cells slots : Nat} {Q : State → Prop} {D : va_G} {y : zY} {A : Nat → Prop} {ls : Array Slot} {wX wM : va_W} {ab b bm sb L : Nat} {cbx : Nat → Int64} {xs : Nat → Int32} {I : Int32 → va_W → va_W → Prop} {t i : Int32} (X : zX p s m args meth c D y A RL cL_law 8 (some .boolean)) (hT : zKT l D y bm I) (hk : zK38 l D y b bm I) (hX : va_X sb L xs s s.heap) (hbl : sb < s.heap.size) (hbA : ¬ A sb) (hin : ∀ k : Int32, 0 ≤ k.toInt ∧ k.toInt < 8 → vp_in (i + k) L) (hI : I t wX wM) (hP : va_P D vwCl (wM ++ (zbx y ab cbx :: wX)) H) (hD : va_D A (wM ++ (zbx y ab cbx :: wX))) (hS : va_S A s.heap H locs) (hl : lv_has ls 8 [(4, .int i), (3, .ref ab), (2, .ref bm), (1, .ref b), (0, .ref sb)]) (hcl : cells + 8 ≤ room_1.cells ∧ slots + 64 ≤ room_1.slots)
    (kk : ∀ (t : Int32) (wX wM : va_W) (cbx : Nat → Int64) (H : Heap) (locs : List Loc) (ls : Array Slot), I t wX wM → va_P D vwCl (wM ++ (zbx y ab cbx :: wX)) H → va_D A (wM ++ (zbx y ab cbx :: wX)) → va_S A s.heap H locs → lv_has ls 8 [(4, .int i), (3, .ref ab), (2, .ref bm), (1, .ref b), (0, .ref sb)] → W p l e room_1 s m args below meth c H locs (cells + 8) (slots + 64) Q (F0 m 3102 ls [])) : W p l e room_1 s m args below meth c H locs cells slots Q (F0 m 2780 ls []) := by
  obtain ⟨hx, hb, hr9, hml, hown, hts, hK, hA, hlocks⟩ := id X
  refine lv_aload_n hx hb dL_law_2780 rfl (lv_at hl 3 rfl) ?_
  obtain ⟨rX, cX, rM, cM, fX, fM, P, PM, e1, e2, b1, b2, hC, hM, hn⟩ := hk t wX wM hI  
  refine zLx (rest := []) X e1 hC kf_RL_274 ⟨(Nat.le_of_ble_eq_true rfl), (Nat.le_of_ble_eq_true rfl)⟩ hP hD hS rfl b1 rfl rfl hl.1 (Nat.le_of_ble_eq_true rfl) dL_law_2781 ⟨Nat.le_trans (Nat.add_le_add_left (Nat.le_of_ble_eq_true rfl) _) hcl.1, Nat.le_trans (Nat.add_le_add_left (Nat.le_of_ble_eq_true rfl) _) hcl.2⟩ (fun v w1 hp H locs hP hD hS => ?_)
  obtain ⟨r, rfl, hn⟩ := hn v w1 hp
  refine lv_aload_n hx hb dL_law_2784 rfl (lv_at hl 2 rfl) ?_
  refine zLm (rest := [.int r]) X e2 hM kf_RL_277 ⟨(Nat.le_of_ble_eq_true rfl), (Nat.le_of_ble_eq_true rfl)⟩ hP hD hS rfl b2 rfl rfl hl.1 (Nat.le_of_ble_eq_true rfl) dL_law_2785 ⟨?_, ?_⟩ (fun v wm hp H locs hP hD hS => ?_)
  · exact Nat.le_trans (Nat.add_le_add_left (Nat.le_of_ble_eq_true rfl) cells) hcl.1
  · exact Nat.le_trans (Nat.add_le_add_left (Nat.le_of_ble_eq_true rfl) slots) hcl.2
  obtain ⟨rfl, t2, hI⟩ := hn v wm hp
  refine lv_icmp_eq (tgt := 3102) hx hb dL_law_2788 (by decide) (fun _ => ?_) (fun h => absurd rfl h)
  refine W.widen (k := cells + 8) (n := slots + 64) (Nat.add_le_add_left (Nat.le_of_ble_eq_true rfl) cells) (Nat.add_le_add_left (Nat.le_of_ble_eq_true rfl) slots) ?_
  exact kk _ _ _ _ _ _ _ hI hP hD hS hl
theorem kf_RL_281 : zCB RL 281 yX9_drawn cX9_drawn 10 (some .int) 4 ∧ Cond.instanceMethod yX9_drawn ∈ wAll ∧ Cond.selects yX9_drawn.cls yX9_drawn yX9_drawn ∈ wAll := ⟨⟨q_1796, q_9, q_1793, by decide +kernel⟩, q_1794, q_1795⟩
theorem kw_RL_278 : zCW RL 278 yL_drawn cL_drawn 7 (some .int) [(0, 14, 17, 13), (0, 14, 21, 51)] 6 := ⟨q_1287, q_0, q_1285, q_1286, by decide +kernel⟩
def zK39 (l : Launch) (D : va_G) (y : zY) (b bm : Nat) (I : Int32 → va_W → va_W → Prop) : Prop :=
  ∀ (t : Int32) (wX wM : va_W), I t wX wM → ∀ (x1 : Int32) (x2 : Int32) (x3 : Int32) (x4 : Int32), ∃ (rX cX rM cM : va_W) (fX fM : List Value) (P : Option Value → va_W → Prop) (PX : String → va_W → Prop) (PM : Option Value → va_W → Prop), wX.Perm (rX ++ cX) ∧ wM.Perm (rM ++ cM) ∧ cX[0]? = some (b, .inr (8, fX)) ∧ cM[0]? = some (bm, .inr (9, fM)) ∧ zCx l D y yX8_drawn cX8_drawn 10 (some .int) rm_X8_drawn [.ref b, .int x1, .int x2, .int x3, .int x4] cX P PX ∧ zC l D y yX9_drawn cX9_drawn 10 (some .int) rm_X9_drawn [.ref bm, .int x1, .int x2, .int x3, .int x4] cM PM ∧ (∀ v w, P v w → ∃ r : Int32, v = some (.int r) ∧ ∀ vm wm, PM vm wm → vm = some (.int r) ∧ I 0 (rX ++ w) (rM ++ wm)) ∧ (∀ E w, PX E w → (E = "java/lang/IllegalArgumentException" ∧ ∀ vm wm, PM vm wm → (∃ r : Int32, vm = some (.int r)) ∧ I 1 (rX ++ w) (rM ++ wm)) ∨ (E = "java/util/NoSuchElementException" ∧ ∀ vm wm, PM vm wm → (∃ r : Int32, vm = some (.int r)) ∧ I 2 (rX ++ w) (rM ++ wm)))
set_option maxHeartbeats 4000000 in
theorem zlk_39 {p : Program} {l : Launch} {e : Env} {s : State} {m : MethodId} {args : Array Value} {below : List Frame} {meth : Method} {c : Code} {H : Heap} {locs : List Loc} {cells slots : Nat} {Q : State → Prop} {D : va_G} {y : zY} {A : Nat → Prop} {ls : Array Slot} {wX wM : va_W} {ab b bm sb L : Nat} {cbx : Nat → Int64} {xs : Nat → Int32} {I : Int32 → va_W → va_W → Prop} {t i : Int32} (X : zX p s m args meth c D y A RL cL_law 8 (some .boolean)) (hT : zKT l D y bm I) (hk : zK39 l D y b bm I) (hX : va_X sb L xs s s.heap) (hbl : sb < s.heap.size) (hbA : ¬ A sb) (hin : ∀ k : Int32, 0 ≤ k.toInt ∧ k.toInt < 8 → vp_in (i + k) L) (hI : I t wX wM) (hP : va_P D vwCl (wM ++ (zbx y ab cbx :: wX)) H) (hD : va_D A (wM ++ (zbx y ab cbx :: wX))) (hS : va_S A s.heap H locs) (hl : lv_has ls 8 [(4, .int i), (3, .ref ab), (2, .ref bm), (1, .ref b), (0, .ref sb)]) (hcl : cells + 8 ≤ room_1.cells ∧ slots + 64 ≤ room_1.slots)
    (kk : ∀ (t : Int32) (wX wM : va_W) (cbx : Nat → Int64) (H : Heap) (locs : List Loc) (ls : Array Slot), I t wX wM → va_P D vwCl (wM ++ (zbx y ab cbx :: wX)) H → va_D A (wM ++ (zbx y ab cbx :: wX)) → va_S A s.heap H locs → lv_has ls 8 [(4, .int i), (3, .ref ab), (2, .ref bm), (1, .ref b), (0, .ref sb)] → W p l e room_1 s m args below meth c H locs (cells + 8) (slots + 64) Q (F0 m 3102 ls [])) : W p l e room_1 s m args below meth c H locs cells slots Q (F0 m 2793 ls []) := by
  obtain ⟨hx, hb, hr9, hml, hown, hts, hK, hA, hlocks⟩ := id X
  refine lv_aload_n hx hb dL_law_2793 rfl (lv_at hl 3 rfl) ?_
  refine zsc (k := 1) X hX hbl hbA hS dL_law_2794 dL_law_2795 dL_law_2797 (by decide) dL_law_2798 dL_law_2799 (lv_at hl 4 rfl) (lv_at hl 0 rfl) (hin 1 (by decide)) ?_
  refine zsc (k := 2) X hX hbl hbA hS dL_law_2800 dL_law_2801 dL_law_2803 (by decide) dL_law_2804 dL_law_2805 (lv_at hl 4 rfl) (lv_at hl 0 rfl) (hin 2 (by decide)) ?_
  refine zsc (k := 3) X hX hbl hbA hS dL_law_2806 dL_law_2807 dL_law_2809 (by decide) dL_law_2810 dL_law_2811 (lv_at hl 4 rfl) (lv_at hl 0 rfl) (hin 3 (by decide)) ?_
  refine zsc (k := 4) X hX hbl hbA hS dL_law_2812 dL_law_2813 dL_law_2815 (by decide) dL_law_2816 dL_law_2817 (lv_at hl 4 rfl) (lv_at hl 0 rfl) (hin 4 (by decide)) ?_
  obtain ⟨rX, cX, rM, cM, fX, fM, P, PX, PM, e1, e2, b1, b2, hC, hM, hn, hE⟩ := hk t wX wM hI (xs (i + 1).toNatClampNeg) (xs (i + 2).toNatClampNeg) (xs (i + 3).toNatClampNeg) (xs (i + 4).toNatClampNeg) 
  refine lv_aload_n hx hb dL_law_2818 rfl (lv_at hl 1 rfl) ?_
  have hw := zw_L_drawn l D y b ab cbx (xs (i + 1).toNatClampNeg) (xs (i + 2).toNatClampNeg) (xs (i + 3).toNatClampNeg) (xs (i + 4).toNatClampNeg) cX fX 0 b1 P PX hC (fun v w h => (hn v w h).imp fun _ z => z.1) (fun E w h => (hE E w h).elim (fun z => Or.inl z.1) (fun z => Or.inr z.1))
  refine zLw (rest := []) X e1 hw kw_RL_278 ⟨(Nat.le_of_ble_eq_true rfl), (Nat.le_of_ble_eq_true rfl)⟩ hP hD hS rfl rfl hl.1 (Nat.le_of_ble_eq_true rfl) dL_law_2819 ⟨Nat.le_trans (Nat.add_le_add_left (Nat.le_of_ble_eq_true rfl) _) hcl.1, Nat.le_trans (Nat.add_le_add_left (Nat.le_of_ble_eq_true rfl) _) hcl.2⟩ (fun v w h => ?_) (fun v bx1 w1 hp H locs hP hD hS => ?_)
  · rcases h with ⟨_, w1, _, _, h⟩ | ⟨_, w1, _, _, h⟩
    · exact ⟨_, w1, h⟩
    · exact ⟨_, w1, h⟩
  have key : ∃ (kv : Int32) (c1 : Nat → Int64), v = some (.int kv) ∧ bx1 = zbx y ab c1 ∧ ∀ vm wm, PM vm wm → (∃ r : Int32, vm = some (.int r) ∧ (kv = 0 → c1 0 = r.toInt64)) ∧ I kv (rX ++ w1) (rM ++ wm) := by
    rcases hp with ⟨r, w2, hp, rfl, hw2⟩ | ⟨E, w2, hp, hv, hw2⟩
    · obtain ⟨rfl, rfl⟩ := List.cons.inj hw2
      obtain ⟨r1, er, hn⟩ := hn _ _ hp
      obtain rfl : r = r1 := by injection er with er; injection er
      refine ⟨0, _, rfl, rfl, fun vm wm hm => ?_⟩
      obtain ⟨rfl, hi⟩ := hn vm wm hm
      exact ⟨⟨r, rfl, fun _ => rfl⟩, hi⟩
    · obtain ⟨rfl, rfl⟩ := List.cons.inj hw2
      rcases hv with ⟨rfl, hv⟩ | ⟨rfl, hv⟩
      · rcases hE _ _ hp with ⟨h0, hn⟩ | ⟨h0, hn⟩
        · refine ⟨1, _, hv, rfl, fun vm wm hm => ?_⟩
          obtain ⟨⟨r, rfl⟩, hi⟩ := hn vm wm hm
          exact ⟨⟨r, rfl, fun h => absurd h (by decide)⟩, hi⟩
        · exact absurd h0 (by decide)
      · rcases hE _ _ hp with ⟨h0, hn⟩ | ⟨h0, hn⟩
        · exact absurd h0 (by decide)
        · refine ⟨2, _, hv, rfl, fun vm wm hm => ?_⟩
          obtain ⟨⟨r, rfl⟩, hi⟩ := hn vm wm hm
          exact ⟨⟨r, rfl, fun h => absurd h (by decide)⟩, hi⟩
  obtain ⟨kv, c1, rfl, rfl, key⟩ := key
  refine lv_istore (lv' := [(5, .int kv), (4, .int i), (3, .ref ab), (2, .ref bm), (1, .ref b), (0, .ref sb)]) hx hb dL_law_2822 hl (by decide) rfl (fun ls hl => ?_)
  refine lv_aload_n hx hb dL_law_2824 rfl (lv_at hl 3 rfl) ?_
  refine zsc (k := 1) X hX hbl hbA hS dL_law_2825 dL_law_2826 dL_law_2828 (by decide) dL_law_2829 dL_law_2830 (lv_at hl 5 rfl) (lv_at hl 1 rfl) (hin 1 (by decide)) ?_
  refine zsc (k := 2) X hX hbl hbA hS dL_law_2831 dL_law_2832 dL_law_2834 (by decide) dL_law_2835 dL_law_2836 (lv_at hl 5 rfl) (lv_at hl 1 rfl) (hin 2 (by decide)) ?_
  refine zsc (k := 3) X hX hbl hbA hS dL_law_2837 dL_law_2838 dL_law_2840 (by decide) dL_law_2841 dL_law_2842 (lv_at hl 5 rfl) (lv_at hl 1 rfl) (hin 3 (by decide)) ?_
  refine zsc (k := 4) X hX hbl hbA hS dL_law_2843 dL_law_2844 dL_law_2846 (by decide) dL_law_2847 dL_law_2848 (lv_at hl 5 rfl) (lv_at hl 1 rfl) (hin 4 (by decide)) ?_
  refine zLm (rest := []) X e2 hM kf_RL_281 ⟨(Nat.le_of_ble_eq_true rfl), (Nat.le_of_ble_eq_true rfl)⟩ hP hD hS rfl b2 rfl rfl hl.1 (Nat.le_of_ble_eq_true rfl) dL_law_2849 ⟨?_, ?_⟩ (fun v wm hp H locs hP hD hS => ?_)
  · exact Nat.le_trans (Nat.add_le_add_left (Nat.le_of_ble_eq_true rfl) cells) hcl.1
  · exact Nat.le_trans (Nat.add_le_add_left (Nat.le_of_ble_eq_true rfl) slots) hcl.2
  obtain ⟨⟨r, rfl, hc⟩, hI⟩ := key v wm hp
  refine lv_istore (lv' := [(6, .int r), (5, .int kv), (4, .int i), (3, .ref ab), (2, .ref bm), (1, .ref b), (0, .ref sb)]) hx hb dL_law_2852 hl (by decide) rfl (fun ls hl => ?_)
  obtain ⟨r3, c3, f3, e3, b3, hC3⟩ := hT _ _ _ hI
  refine lv_aload_n hx hb dL_law_2854 rfl (lv_at hl 4 rfl) ?_
  refine zLm (rest := []) X e3 hC3 kf_RL_145 ⟨(Nat.le_of_ble_eq_true rfl), (Nat.le_of_ble_eq_true rfl)⟩ hP hD hS rfl b3 rfl rfl hl.1 (Nat.le_of_ble_eq_true rfl) dL_law_2855 ⟨?_, ?_⟩ (fun v w3 hp H locs hP hD hS => ?_)
  · exact Nat.le_trans (Nat.add_le_add_left (Nat.le_of_ble_eq_true rfl) cells) hcl.1
  · exact Nat.le_trans (Nat.add_le_add_left (Nat.le_of_ble_eq_true rfl) slots) hcl.2
  obtain ⟨rfl, rfl⟩ := hp
  replace hP := zPp (List.Perm.append_right _ e3.symm) hP
  replace hD := zDp (List.Perm.append_right _ e3.symm) hD
  refine lv_iload hx hb dL_law_2858 (lv_at hl 1 rfl) ?_
  refine lv_icmp_eq (tgt := 2865) hx hb dL_law_2860 (by decide) (fun _ => ?_) (fun h => absurd rfl h)
  refine lv_iload hx hb dL_law_2865 (lv_at hl 1 rfl) ?_
  have hend : ∀ (H : Heap) (locs : List Loc), va_P D vwCl ((rM ++ wm) ++ (zbx y ab c1 :: (rX ++ w1))) H → va_D A ((rM ++ wm) ++ (zbx y ab c1 :: (rX ++ w1))) → va_S A s.heap H locs → W p l e room_1 s m args below meth c H locs (cells + 2 + 0 + 0) (slots + 12 + 0 + 0) Q (F0 m 2882 ls []) := by
    intro H locs hP hD hS
    refine lv_goto (tgt := 3102) hx hb dL_law_2882 (by decide) ?_
    refine W.widen (k := cells + 8) (n := slots + 64) (Nat.add_le_add_left (Nat.le_of_ble_eq_true rfl) cells) (Nat.add_le_add_left (Nat.le_of_ble_eq_true rfl) slots) ?_
    exact kk _ _ _ _ _ _ _ hI hP hD hS (zlv (zlv hl))
  refine lv_if_ne (tgt := 2882) hx hb dL_law_2867 (by decide) (fun _ => hend H locs hP hD hS) (fun hz => ?_)
  refine lv_aload_n hx hb dL_law_2870 rfl (lv_at hl 3 rfl) ?_
  refine lv_iconst (v := 0) hx hb dL_law_2871 (by decide) ?_
  refine va_lald hx hb hK (zPp List.perm_append_comm hP) 0 1 rfl rfl (by unfold vp_in; decide) dL_law_2872 ?_
  rw [show c1 (0 : Int32).toNatClampNeg = _ from hc hz]
  refine lv_iload hx hb dL_law_2873 (lv_at hl 0 rfl) ?_
  refine lv_i2l (v := r.toInt64) hx hb dL_law_2875 rfl ?_
  refine W.lcmp hx hb dL_law_2876 ?_
  refine lv_if_eq (tgt := 2882) hx hb dL_law_2877 (by decide) (fun _ => hend H locs hP hD hS) (fun h => absurd (zlcE _) h)
