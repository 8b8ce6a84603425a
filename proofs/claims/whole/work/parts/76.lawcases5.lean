theorem kf_RL_286 : zCB RL 286 yX9_oneByOne cX9_oneByOne 7 (some .int) 2 ∧ Cond.instanceMethod yX9_oneByOne ∈ wAll ∧ Cond.selects yX9_oneByOne.cls yX9_oneByOne yX9_oneByOne ∈ wAll := ⟨⟨q_1840, q_9, q_1837, by decide +kernel⟩, q_1838, q_1839⟩
theorem kf_RL_282 : zCB RL 282 yX8_oneByOne cX8_oneByOne 7 (some .int) 2 ∧ Cond.instanceMethod yX8_oneByOne ∈ wAll ∧ Cond.selects yX8_oneByOne.cls yX8_oneByOne yX8_oneByOne ∈ wAll := ⟨⟨q_548, q_1, q_545, by decide +kernel⟩, q_546, q_547⟩
def zK40 (l : Launch) (D : va_G) (y : zY) (b bm : Nat) (I : Int32 → va_W → va_W → Prop) : Prop :=
  ∀ (t : Int32) (wX wM : va_W), I t wX wM → ∀ (x1 : Int32) (x2 : Int32), (x2 = 0 ∨ x2 = 1) → ∃ (rX cX rM cM : va_W) (fX fM : List Value) (P : Option Value → va_W → Prop) (PM : Option Value → va_W → Prop), wX.Perm (rX ++ cX) ∧ wM.Perm (rM ++ cM) ∧ cX[0]? = some (b, .inr (8, fX)) ∧ cM[0]? = some (bm, .inr (9, fM)) ∧ zC l D y yX8_oneByOne cX8_oneByOne 7 (some .int) rm_X8_oneByOne [.ref b, .int x1, .int x2] cX P ∧ zC l D y yX9_oneByOne cX9_oneByOne 7 (some .int) rm_X9_oneByOne [.ref bm, .int x1, .int x2] cM PM ∧ (∀ v w, P v w → ∃ r : Int32, v = some (.int r) ∧ ∀ vm wm, PM vm wm → vm = some (.int r) ∧ ∃ t2 : Int32, I t2 (rX ++ w) (rM ++ wm))
set_option maxHeartbeats 4000000 in
theorem zlk_40 {p : Program} {l : Launch} {e : Env} {s : State} {m : MethodId} {args : Array Value} {below : List Frame} {meth : Method} {c : Code} {H : Heap} {locs : List Loc} {cells slots : Nat} {Q : State → Prop} {D : va_G} {y : zY} {A : Nat → Prop} {ls : Array Slot} {wX wM : va_W} {ab b bm sb L : Nat} {cbx : Nat → Int64} {xs : Nat → Int32} {I : Int32 → va_W → va_W → Prop} {t i : Int32} (X : zX p s m args meth c D y A RL cL_law 8 (some .boolean)) (hT : zKT l D y bm I) (hk : zK40 l D y b bm I) (hX : va_X sb L xs s s.heap) (hbl : sb < s.heap.size) (hbA : ¬ A sb) (hin : ∀ k : Int32, 0 ≤ k.toInt ∧ k.toInt < 8 → vp_in (i + k) L) (hI : I t wX wM) (hP : va_P D vwCl (wM ++ (zbx y ab cbx :: wX)) H) (hD : va_D A (wM ++ (zbx y ab cbx :: wX))) (hS : va_S A s.heap H locs) (hl : lv_has ls 8 [(4, .int i), (3, .ref ab), (2, .ref bm), (1, .ref b), (0, .ref sb)]) (hcl : cells + 8 ≤ room_1.cells ∧ slots + 64 ≤ room_1.slots)
    (kk : ∀ (t : Int32) (wX wM : va_W) (cbx : Nat → Int64) (H : Heap) (locs : List Loc) (ls : Array Slot), I t wX wM → va_P D vwCl (wM ++ (zbx y ab cbx :: wX)) H → va_D A (wM ++ (zbx y ab cbx :: wX)) → va_S A s.heap H locs → lv_has ls 8 [(4, .int i), (3, .ref ab), (2, .ref bm), (1, .ref b), (0, .ref sb)] → W p l e room_1 s m args below meth c H locs (cells + 8) (slots + 64) Q (F0 m 3102 ls [])) : W p l e room_1 s m args below meth c H locs cells slots Q (F0 m 2885 ls []) := by
  obtain ⟨hx, hb, hr9, hml, hown, hts, hK, hA, hlocks⟩ := id X
  refine lv_aload_n hx hb dL_law_2885 rfl (lv_at hl 3 rfl) ?_
  refine zsc (k := 1) X hX hbl hbA hS dL_law_2886 dL_law_2887 dL_law_2889 (by decide) dL_law_2890 dL_law_2891 (lv_at hl 4 rfl) (lv_at hl 0 rfl) (hin 1 (by decide)) ?_
  refine zsc (k := 2) X hX hbl hbA hS dL_law_2892 dL_law_2893 dL_law_2895 (by decide) dL_law_2896 dL_law_2897 (lv_at hl 4 rfl) (lv_at hl 0 rfl) (hin 2 (by decide)) ?_
  refine zbo X dL_law_2898 (by decide) dL_law_2901 dL_law_2902 (by decide) dL_law_2905 ?_
  obtain ⟨rX, cX, rM, cM, fX, fM, P, PM, e1, e2, b1, b2, hC, hM, hn⟩ := hk t wX wM hI (xs (i + 1).toNatClampNeg) (zbl (xs (i + 2).toNatClampNeg)) (zbl01 _)
  refine zLx (rest := []) X e1 hC kf_RL_282 ⟨(Nat.le_of_ble_eq_true rfl), (Nat.le_of_ble_eq_true rfl)⟩ hP hD hS rfl b1 rfl rfl hl.1 (Nat.le_of_ble_eq_true rfl) dL_law_2906 ⟨Nat.le_trans (Nat.add_le_add_left (Nat.le_of_ble_eq_true rfl) _) hcl.1, Nat.le_trans (Nat.add_le_add_left (Nat.le_of_ble_eq_true rfl) _) hcl.2⟩ (fun v w1 hp H locs hP hD hS => ?_)
  obtain ⟨r, rfl, hn⟩ := hn v w1 hp
  refine lv_aload_n hx hb dL_law_2909 rfl (lv_at hl 2 rfl) ?_
  refine zsc (k := 1) X hX hbl hbA hS dL_law_2910 dL_law_2911 dL_law_2913 (by decide) dL_law_2914 dL_law_2915 (lv_at hl 4 rfl) (lv_at hl 0 rfl) (hin 1 (by decide)) ?_
  refine zsc (k := 2) X hX hbl hbA hS dL_law_2916 dL_law_2917 dL_law_2919 (by decide) dL_law_2920 dL_law_2921 (lv_at hl 4 rfl) (lv_at hl 0 rfl) (hin 2 (by decide)) ?_
  refine zbo X dL_law_2922 (by decide) dL_law_2925 dL_law_2926 (by decide) dL_law_2929 ?_
  refine zLm (rest := [.int r]) X e2 hM kf_RL_286 ⟨(Nat.le_of_ble_eq_true rfl), (Nat.le_of_ble_eq_true rfl)⟩ hP hD hS rfl b2 rfl rfl hl.1 (Nat.le_of_ble_eq_true rfl) dL_law_2930 ⟨?_, ?_⟩ (fun v wm hp H locs hP hD hS => ?_)
  · exact Nat.le_trans (Nat.add_le_add_left (Nat.le_of_ble_eq_true rfl) cells) hcl.1
  · exact Nat.le_trans (Nat.add_le_add_left (Nat.le_of_ble_eq_true rfl) slots) hcl.2
  obtain ⟨rfl, t2, hI⟩ := hn v wm hp
  refine lv_icmp_eq (tgt := 3102) hx hb dL_law_2933 (by decide) (fun _ => ?_) (fun h => absurd rfl h)
  refine W.widen (k := cells + 8) (n := slots + 64) (Nat.add_le_add_left (Nat.le_of_ble_eq_true rfl) cells) (Nat.add_le_add_left (Nat.le_of_ble_eq_true rfl) slots) ?_
  exact kk _ _ _ _ _ _ _ hI hP hD hS hl
theorem kf_RL_290 : zCB RL 290 yX9_keep cX9_keep 2 (some .int) 0 ∧ Cond.instanceMethod yX9_keep ∈ wAll ∧ Cond.selects yX9_keep.cls yX9_keep yX9_keep ∈ wAll := ⟨⟨q_1844, q_9, q_1841, by decide +kernel⟩, q_1842, q_1843⟩
theorem kf_RL_287 : zCB RL 287 yX8_keep cX8_keep 1 (some .int) 0 ∧ Cond.instanceMethod yX8_keep ∈ wAll ∧ Cond.selects yX8_keep.cls yX8_keep yX8_keep ∈ wAll := ⟨⟨q_574, q_1, q_571, by decide +kernel⟩, q_572, q_573⟩
def zK41 (l : Launch) (D : va_G) (y : zY) (b bm : Nat) (I : Int32 → va_W → va_W → Prop) : Prop :=
  ∀ (t : Int32) (wX wM : va_W), I t wX wM → ∃ (rX cX rM cM : va_W) (fX fM : List Value) (P : Option Value → va_W → Prop) (PM : Option Value → va_W → Prop), wX.Perm (rX ++ cX) ∧ wM.Perm (rM ++ cM) ∧ cX[0]? = some (b, .inr (8, fX)) ∧ cM[0]? = some (bm, .inr (9, fM)) ∧ zC l D y yX8_keep cX8_keep 1 (some .int) rm_X8_keep [.ref b] cX P ∧ zC l D y yX9_keep cX9_keep 2 (some .int) rm_X9_keep [.ref bm] cM PM ∧ (∀ v w, P v w → ∃ r : Int32, v = some (.int r) ∧ ∀ vm wm, PM vm wm → vm = some (.int r) ∧ ∃ t2 : Int32, I t2 (rX ++ w) (rM ++ wm))
set_option maxHeartbeats 4000000 in
theorem zlk_41 {p : Program} {l : Launch} {e : Env} {s : State} {m : MethodId} {args : Array Value} {below : List Frame} {meth : Method} {c : Code} {H : Heap} {locs : List Loc} {cells slots : Nat} {Q : State → Prop} {D : va_G} {y : zY} {A : Nat → Prop} {ls : Array Slot} {wX wM : va_W} {ab b bm sb L : Nat} {cbx : Nat → Int64} {xs : Nat → Int32} {I : Int32 → va_W → va_W → Prop} {t i : Int32} (X : zX p s m args meth c D y A RL cL_law 8 (some .boolean)) (hT : zKT l D y bm I) (hk : zK41 l D y b bm I) (hX : va_X sb L xs s s.heap) (hbl : sb < s.heap.size) (hbA : ¬ A sb) (hin : ∀ k : Int32, 0 ≤ k.toInt ∧ k.toInt < 8 → vp_in (i + k) L) (hI : I t wX wM) (hP : va_P D vwCl (wM ++ (zbx y ab cbx :: wX)) H) (hD : va_D A (wM ++ (zbx y ab cbx :: wX))) (hS : va_S A s.heap H locs) (hl : lv_has ls 8 [(4, .int i), (3, .ref ab), (2, .ref bm), (1, .ref b), (0, .ref sb)]) (hcl : cells + 8 ≤ room_1.cells ∧ slots + 64 ≤ room_1.slots)
    (kk : ∀ (t : Int32) (wX wM : va_W) (cbx : Nat → Int64) (H : Heap) (locs : List Loc) (ls : Array Slot), I t wX wM → va_P D vwCl (wM ++ (zbx y ab cbx :: wX)) H → va_D A (wM ++ (zbx y ab cbx :: wX)) → va_S A s.heap H locs → lv_has ls 8 [(4, .int i), (3, .ref ab), (2, .ref bm), (1, .ref b), (0, .ref sb)] → W p l e room_1 s m args below meth c H locs (cells + 8) (slots + 64) Q (F0 m 3102 ls [])) : W p l e room_1 s m args below meth c H locs cells slots Q (F0 m 2938 ls []) := by
  obtain ⟨hx, hb, hr9, hml, hown, hts, hK, hA, hlocks⟩ := id X
  refine lv_aload_n hx hb dL_law_2938 rfl (lv_at hl 3 rfl) ?_
  obtain ⟨rX, cX, rM, cM, fX, fM, P, PM, e1, e2, b1, b2, hC, hM, hn⟩ := hk t wX wM hI  
  refine zLx (rest := []) X e1 hC kf_RL_287 ⟨(Nat.le_of_ble_eq_true rfl), (Nat.le_of_ble_eq_true rfl)⟩ hP hD hS rfl b1 rfl rfl hl.1 (Nat.le_of_ble_eq_true rfl) dL_law_2939 ⟨Nat.le_trans (Nat.add_le_add_left (Nat.le_of_ble_eq_true rfl) _) hcl.1, Nat.le_trans (Nat.add_le_add_left (Nat.le_of_ble_eq_true rfl) _) hcl.2⟩ (fun v w1 hp H locs hP hD hS => ?_)
  obtain ⟨r, rfl, hn⟩ := hn v w1 hp
  refine lv_aload_n hx hb dL_law_2942 rfl (lv_at hl 2 rfl) ?_
  refine zLm (rest := [.int r]) X e2 hM kf_RL_290 ⟨(Nat.le_of_ble_eq_true rfl), (Nat.le_of_ble_eq_true rfl)⟩ hP hD hS rfl b2 rfl rfl hl.1 (Nat.le_of_ble_eq_true rfl) dL_law_2943 ⟨?_, ?_⟩ (fun v wm hp H locs hP hD hS => ?_)
  · exact Nat.le_trans (Nat.add_le_add_left (Nat.le_of_ble_eq_true rfl) cells) hcl.1
  · exact Nat.le_trans (Nat.add_le_add_left (Nat.le_of_ble_eq_true rfl) slots) hcl.2
  obtain ⟨rfl, t2, hI⟩ := hn v wm hp
  refine lv_icmp_eq (tgt := 3102) hx hb dL_law_2946 (by decide) (fun _ => ?_) (fun h => absurd rfl h)
  refine W.widen (k := cells + 8) (n := slots + 64) (Nat.add_le_add_left (Nat.le_of_ble_eq_true rfl) cells) (Nat.add_le_add_left (Nat.le_of_ble_eq_true rfl) slots) ?_
  exact kk _ _ _ _ _ _ _ hI hP hD hS hl
theorem kf_RL_293 : zCB RL 293 yX9_compare cX9_compare 8 (some .int) 0 ∧ Cond.instanceMethod yX9_compare ∈ wAll ∧ Cond.selects yX9_compare.cls yX9_compare yX9_compare ∈ wAll := ⟨⟨q_1848, q_9, q_1845, by decide +kernel⟩, q_1846, q_1847⟩
theorem kw_RL_291 : zCW RL 291 yL_compare cL_compare 3 (some .int) [(0, 8, 11, 51)] 2 := ⟨q_1300, q_0, q_1298, q_1299, by decide +kernel⟩
def zK42 (l : Launch) (D : va_G) (y : zY) (b bm : Nat) (I : Int32 → va_W → va_W → Prop) : Prop :=
  ∀ (t : Int32) (wX wM : va_W), I t wX wM → ∃ (rX cX rM cM : va_W) (fX fM : List Value) (P : Option Value → va_W → Prop) (PX : String → va_W → Prop) (PM : Option Value → va_W → Prop), wX.Perm (rX ++ cX) ∧ wM.Perm (rM ++ cM) ∧ cX[0]? = some (b, .inr (8, fX)) ∧ cM[0]? = some (bm, .inr (9, fM)) ∧ zCx l D y yX8_compare cX8_compare 6 (some .int) rm_X8_compare [.ref b] cX P PX ∧ zC l D y yX9_compare cX9_compare 8 (some .int) rm_X9_compare [.ref bm] cM PM ∧ (∀ v w, P v w → ∃ r : Int32, v = some (.int r) ∧ ∀ vm wm, PM vm wm → vm = some (.int r) ∧ I 0 (rX ++ w) (rM ++ wm)) ∧ (∀ E w, PX E w → (E = "java/util/NoSuchElementException" ∧ ∀ vm wm, PM vm wm → (∃ r : Int32, vm = some (.int r)) ∧ I 1 (rX ++ w) (rM ++ wm)))
set_option maxHeartbeats 4000000 in
theorem zlk_42 {p : Program} {l : Launch} {e : Env} {s : State} {m : MethodId} {args : Array Value} {below : List Frame} {meth : Method} {c : Code} {H : Heap} {locs : List Loc} {cells slots : Nat} {Q : State → Prop} {D : va_G} {y : zY} {A : Nat → Prop} {ls : Array Slot} {wX wM : va_W} {ab b bm sb L : Nat} {cbx : Nat → Int64} {xs : Nat → Int32} {I : Int32 → va_W → va_W → Prop} {t i : Int32} (X : zX p s m args meth c D y A RL cL_law 8 (some .boolean)) (hT : zKT l D y bm I) (hk : zK42 l D y b bm I) (hX : va_X sb L xs s s.heap) (hbl : sb < s.heap.size) (hbA : ¬ A sb) (hin : ∀ k : Int32, 0 ≤ k.toInt ∧ k.toInt < 8 → vp_in (i + k) L) (hI : I t wX wM) (hP : va_P D vwCl (wM ++ (zbx y ab cbx :: wX)) H) (hD : va_D A (wM ++ (zbx y ab cbx :: wX))) (hS : va_S A s.heap H locs) (hl : lv_has ls 8 [(4, .int i), (3, .ref ab), (2, .ref bm), (1, .ref b), (0, .ref sb)]) (hcl : cells + 8 ≤ room_1.cells ∧ slots + 64 ≤ room_1.slots)
    (kk : ∀ (t : Int32) (wX wM : va_W) (cbx : Nat → Int64) (H : Heap) (locs : List Loc) (ls : Array Slot), I t wX wM → va_P D vwCl (wM ++ (zbx y ab cbx :: wX)) H → va_D A (wM ++ (zbx y ab cbx :: wX)) → va_S A s.heap H locs → lv_has ls 8 [(4, .int i), (3, .ref ab), (2, .ref bm), (1, .ref b), (0, .ref sb)] → W p l e room_1 s m args below meth c H locs (cells + 8) (slots + 64) Q (F0 m 3102 ls [])) : W p l e room_1 s m args below meth c H locs cells slots Q (F0 m 2951 ls []) := by
  obtain ⟨hx, hb, hr9, hml, hown, hts, hK, hA, hlocks⟩ := id X
  refine lv_aload_n hx hb dL_law_2951 rfl (lv_at hl 3 rfl) ?_
  obtain ⟨rX, cX, rM, cM, fX, fM, P, PX, PM, e1, e2, b1, b2, hC, hM, hn, hE⟩ := hk t wX wM hI  
  refine lv_aload_n hx hb dL_law_2952 rfl (lv_at hl 1 rfl) ?_
  have hw := zw_L_compare l D y b ab cbx  cX fX 0 b1 P PX hC (fun v w h => (hn v w h).imp fun _ z => z.1) (fun E w h => (hE E w h).1)
  refine zLw (rest := []) X e1 hw kw_RL_291 ⟨(Nat.le_of_ble_eq_true rfl), (Nat.le_of_ble_eq_true rfl)⟩ hP hD hS rfl rfl hl.1 (Nat.le_of_ble_eq_true rfl) dL_law_2953 ⟨Nat.le_trans (Nat.add_le_add_left (Nat.le_of_ble_eq_true rfl) _) hcl.1, Nat.le_trans (Nat.add_le_add_left (Nat.le_of_ble_eq_true rfl) _) hcl.2⟩ (fun v w h => ?_) (fun v bx1 w1 hp H locs hP hD hS => ?_)
  · rcases h with ⟨_, w1, _, _, h⟩ | ⟨_, w1, _, _, h⟩
    · exact ⟨_, w1, h⟩
    · exact ⟨_, w1, h⟩
  have key : ∃ (kv : Int32) (c1 : Nat → Int64), v = some (.int kv) ∧ bx1 = zbx y ab c1 ∧ ∀ vm wm, PM vm wm → (∃ r : Int32, vm = some (.int r) ∧ (kv = 0 → c1 0 = r.toInt64)) ∧ I kv (rX ++ w1) (rM ++ wm) := by
    rcases hp with ⟨r, w2, hp, rfl, hw2⟩ | ⟨E, w2, hp, hv, hw2⟩
    · obtain ⟨rfl, rfl⟩ := List.cons.inj hw2
      obtain ⟨r1, er, hn⟩ := hn _ _ hp
      obtain rfl : r = r1 := by injection er with er; injection er
      refine ⟨0, _, rfl, rfl, fun vm wm hm => ?_⟩
      obtain ⟨rfl, hi⟩ := hn vm wm hm
      exact ⟨⟨r, rfl, fun _ => rfl⟩, hi⟩
    · obtain ⟨rfl, rfl⟩ := List.cons.inj hw2
      obtain ⟨rfl, hv⟩ := hv
      obtain ⟨-, hn⟩ := hE _ _ hp
      refine ⟨1, _, hv, rfl, fun vm wm hm => ?_⟩
      obtain ⟨⟨r, rfl⟩, hi⟩ := hn vm wm hm
      exact ⟨⟨r, rfl, fun h => absurd h (by decide)⟩, hi⟩
  obtain ⟨kv, c1, rfl, rfl, key⟩ := key
  refine lv_istore (lv' := [(5, .int kv), (4, .int i), (3, .ref ab), (2, .ref bm), (1, .ref b), (0, .ref sb)]) hx hb dL_law_2956 hl (by decide) rfl (fun ls hl => ?_)
  refine lv_aload_n hx hb dL_law_2958 rfl (lv_at hl 3 rfl) ?_
  refine zLm (rest := []) X e2 hM kf_RL_293 ⟨(Nat.le_of_ble_eq_true rfl), (Nat.le_of_ble_eq_true rfl)⟩ hP hD hS rfl b2 rfl rfl hl.1 (Nat.le_of_ble_eq_true rfl) dL_law_2959 ⟨?_, ?_⟩ (fun v wm hp H locs hP hD hS => ?_)
  · exact Nat.le_trans (Nat.add_le_add_left (Nat.le_of_ble_eq_true rfl) cells) hcl.1
  · exact Nat.le_trans (Nat.add_le_add_left (Nat.le_of_ble_eq_true rfl) slots) hcl.2
  obtain ⟨⟨r, rfl, hc⟩, hI⟩ := key v wm hp
  refine lv_istore (lv' := [(6, .int r), (5, .int kv), (4, .int i), (3, .ref ab), (2, .ref bm), (1, .ref b), (0, .ref sb)]) hx hb dL_law_2962 hl (by decide) rfl (fun ls hl => ?_)
  obtain ⟨r3, c3, f3, e3, b3, hC3⟩ := hT _ _ _ hI
  refine lv_aload_n hx hb dL_law_2964 rfl (lv_at hl 4 rfl) ?_
  refine zLm (rest := []) X e3 hC3 kf_RL_145 ⟨(Nat.le_of_ble_eq_true rfl), (Nat.le_of_ble_eq_true rfl)⟩ hP hD hS rfl b3 rfl rfl hl.1 (Nat.le_of_ble_eq_true rfl) dL_law_2965 ⟨?_, ?_⟩ (fun v w3 hp H locs hP hD hS => ?_)
  · exact Nat.le_trans (Nat.add_le_add_left (Nat.le_of_ble_eq_true rfl) cells) hcl.1
  · exact Nat.le_trans (Nat.add_le_add_left (Nat.le_of_ble_eq_true rfl) slots) hcl.2
  obtain ⟨rfl, rfl⟩ := hp
  replace hP := zPp (List.Perm.append_right _ e3.symm) hP
  replace hD := zDp (List.Perm.append_right _ e3.symm) hD
  refine lv_iload hx hb dL_law_2968 (lv_at hl 1 rfl) ?_
  refine lv_icmp_eq (tgt := 2975) hx hb dL_law_2970 (by decide) (fun _ => ?_) (fun h => absurd rfl h)
  refine lv_iload hx hb dL_law_2975 (lv_at hl 1 rfl) ?_
  have hend : ∀ (H : Heap) (locs : List Loc), va_P D vwCl ((rM ++ wm) ++ (zbx y ab c1 :: (rX ++ w1))) H → va_D A ((rM ++ wm) ++ (zbx y ab c1 :: (rX ++ w1))) → va_S A s.heap H locs → W p l e room_1 s m args below meth c H locs (cells + 1 + 0 + 0) (slots + 6 + 0 + 0) Q (F0 m 2992 ls []) := by
    intro H locs hP hD hS
    refine lv_goto (tgt := 3102) hx hb dL_law_2992 (by decide) ?_
    refine W.widen (k := cells + 8) (n := slots + 64) (Nat.add_le_add_left (Nat.le_of_ble_eq_true rfl) cells) (Nat.add_le_add_left (Nat.le_of_ble_eq_true rfl) slots) ?_
    exact kk _ _ _ _ _ _ _ hI hP hD hS (zlv (zlv hl))
  refine lv_if_ne (tgt := 2992) hx hb dL_law_2977 (by decide) (fun _ => hend H locs hP hD hS) (fun hz => ?_)
  refine lv_aload_n hx hb dL_law_2980 rfl (lv_at hl 3 rfl) ?_
  refine lv_iconst (v := 0) hx hb dL_law_2981 (by decide) ?_
  refine va_lald hx hb hK (zPp List.perm_append_comm hP) 0 1 rfl rfl (by unfold vp_in; decide) dL_law_2982 ?_
  rw [show c1 (0 : Int32).toNatClampNeg = _ from hc hz]
  refine lv_iload hx hb dL_law_2983 (lv_at hl 0 rfl) ?_
  refine lv_i2l (v := r.toInt64) hx hb dL_law_2985 rfl ?_
  refine W.lcmp hx hb dL_law_2986 ?_
  refine lv_if_eq (tgt := 2992) hx hb dL_law_2987 (by decide) (fun _ => hend H locs hP hD hS) (fun h => absurd (zlcE _) h)
theorem kf_RL_296 : zCB RL 296 yX9_beats cX9_beats 4 (some .int) 0 ∧ Cond.instanceMethod yX9_beats ∈ wAll ∧ Cond.selects yX9_beats.cls yX9_beats yX9_beats ∈ wAll := ⟨⟨q_1852, q_9, q_1849, by decide +kernel⟩, q_1850, q_1851⟩
theorem kw_RL_294 : zCW RL 294 yL_beats cL_beats 3 (some .int) [(0, 8, 11, 51), (0, 8, 14, 29)] 2 := ⟨q_1318, q_0, q_1316, q_1317, by decide +kernel⟩
def zK43 (l : Launch) (D : va_G) (y : zY) (b bm : Nat) (I : Int32 → va_W → va_W → Prop) : Prop :=
  ∀ (t : Int32) (wX wM : va_W), I t wX wM → ∃ (rX cX rM cM : va_W) (fX fM : List Value) (P : Option Value → va_W → Prop) (PX : String → va_W → Prop) (PM : Option Value → va_W → Prop), wX.Perm (rX ++ cX) ∧ wM.Perm (rM ++ cM) ∧ cX[0]? = some (b, .inr (8, fX)) ∧ cM[0]? = some (bm, .inr (9, fM)) ∧ zCx l D y yX8_beats cX8_beats 6 (some .int) rm_X8_beats [.ref b] cX P PX ∧ zC l D y yX9_beats cX9_beats 4 (some .int) rm_X9_beats [.ref bm] cM PM ∧ (∀ v w, P v w → ∃ r : Int32, v = some (.int r) ∧ ∀ vm wm, PM vm wm → vm = some (.int r) ∧ I 0 (rX ++ w) (rM ++ wm)) ∧ (∀ E w, PX E w → (E = "java/util/NoSuchElementException" ∧ ∀ vm wm, PM vm wm → (∃ r : Int32, vm = some (.int r)) ∧ I 1 (rX ++ w) (rM ++ wm)) ∨ (E = "java/lang/IllegalStateException" ∧ ∀ vm wm, PM vm wm → (∃ r : Int32, vm = some (.int r)) ∧ I 2 (rX ++ w) (rM ++ wm)))
set_option maxHeartbeats 4000000 in
theorem zlk_43 {p : Program} {l : Launch} {e : Env} {s : State} {m : MethodId} {args : Array Value} {below : List Frame} {meth : Method} {c : Code} {H : Heap} {locs : List Loc} {cells slots : Nat} {Q : State → Prop} {D : va_G} {y : zY} {A : Nat → Prop} {ls : Array Slot} {wX wM : va_W} {ab b bm sb L : Nat} {cbx : Nat → Int64} {xs : Nat → Int32} {I : Int32 → va_W → va_W → Prop} {t i : Int32} (X : zX p s m args meth c D y A RL cL_law 8 (some .boolean)) (hT : zKT l D y bm I) (hk : zK43 l D y b bm I) (hX : va_X sb L xs s s.heap) (hbl : sb < s.heap.size) (hbA : ¬ A sb) (hin : ∀ k : Int32, 0 ≤ k.toInt ∧ k.toInt < 8 → vp_in (i + k) L) (hI : I t wX wM) (hP : va_P D vwCl (wM ++ (zbx y ab cbx :: wX)) H) (hD : va_D A (wM ++ (zbx y ab cbx :: wX))) (hS : va_S A s.heap H locs) (hl : lv_has ls 8 [(4, .int i), (3, .ref ab), (2, .ref bm), (1, .ref b), (0, .ref sb)]) (hcl : cells + 8 ≤ room_1.cells ∧ slots + 64 ≤ room_1.slots)
    (kk : ∀ (t : Int32) (wX wM : va_W) (cbx : Nat → Int64) (H : Heap) (locs : List Loc) (ls : Array Slot), I t wX wM → va_P D vwCl (wM ++ (zbx y ab cbx :: wX)) H → va_D A (wM ++ (zbx y ab cbx :: wX)) → va_S A s.heap H locs → lv_has ls 8 [(4, .int i), (3, .ref ab), (2, .ref bm), (1, .ref b), (0, .ref sb)] → W p l e room_1 s m args below meth c H locs (cells + 8) (slots + 64) Q (F0 m 3102 ls [])) : W p l e room_1 s m args below meth c H locs cells slots Q (F0 m 2995 ls []) := by
  obtain ⟨hx, hb, hr9, hml, hown, hts, hK, hA, hlocks⟩ := id X
  refine lv_aload_n hx hb dL_law_2995 rfl (lv_at hl 3 rfl) ?_
  obtain ⟨rX, cX, rM, cM, fX, fM, P, PX, PM, e1, e2, b1, b2, hC, hM, hn, hE⟩ := hk t wX wM hI  
  refine lv_aload_n hx hb dL_law_2996 rfl (lv_at hl 1 rfl) ?_
  have hw := zw_L_beats l D y b ab cbx  cX fX 0 b1 P PX hC (fun v w h => (hn v w h).imp fun _ z => z.1) (fun E w h => (hE E w h).elim (fun z => Or.inl z.1) (fun z => Or.inr z.1))
  refine zLw (rest := []) X e1 hw kw_RL_294 ⟨(Nat.le_of_ble_eq_true rfl), (Nat.le_of_ble_eq_true rfl)⟩ hP hD hS rfl rfl hl.1 (Nat.le_of_ble_eq_true rfl) dL_law_2997 ⟨Nat.le_trans (Nat.add_le_add_left (Nat.le_of_ble_eq_true rfl) _) hcl.1, Nat.le_trans (Nat.add_le_add_left (Nat.le_of_ble_eq_true rfl) _) hcl.2⟩ (fun v w h => ?_) (fun v bx1 w1 hp H locs hP hD hS => ?_)
  · rcases h with ⟨_, w1, _, _, h⟩ | ⟨_, w1, _, _, h⟩
    · exact ⟨_, w1, h⟩
    · exact ⟨_, w1, h⟩
  have key : ∃ (kv : Int32) (c1 : Nat → Int64), v = some (.int kv) ∧ bx1 = zbx y ab c1 ∧ ∀ vm wm, PM vm wm → (∃ r : Int32, vm = some (.int r) ∧ (kv = 0 → c1 0 = r.toInt64)) ∧ I kv (rX ++ w1) (rM ++ wm) := by
    rcases hp with ⟨r, w2, hp, rfl, hw2⟩ | ⟨E, w2, hp, hv, hw2⟩
    · obtain ⟨rfl, rfl⟩ := List.cons.inj hw2
      obtain ⟨r1, er, hn⟩ := hn _ _ hp
      obtain rfl : r = r1 := by injection er with er; injection er
      refine ⟨0, _, rfl, rfl, fun vm wm hm => ?_⟩
      obtain ⟨rfl, hi⟩ := hn vm wm hm
      exact ⟨⟨r, rfl, fun _ => rfl⟩, hi⟩
    · obtain ⟨rfl, rfl⟩ := List.cons.inj hw2
      rcases hv with ⟨rfl, hv⟩ | ⟨rfl, hv⟩
      · rcases hE _ _ hp with ⟨h0, hn⟩ | ⟨h0, hn⟩
        · refine ⟨1, _, hv, rfl, fun vm wm hm => ?_⟩
          obtain ⟨⟨r, rfl⟩, hi⟩ := hn vm wm hm
          exact ⟨⟨r, rfl, fun h => absurd h (by decide)⟩, hi⟩
        · exact absurd h0 (by decide)
      · rcases hE _ _ hp with ⟨h0, hn⟩ | ⟨h0, hn⟩
        · exact absurd h0 (by decide)
        · refine ⟨2, _, hv, rfl, fun vm wm hm => ?_⟩
          obtain ⟨⟨r, rfl⟩, hi⟩ := hn vm wm hm
          exact ⟨⟨r, rfl, fun h => absurd h (by decide)⟩, hi⟩
  obtain ⟨kv, c1, rfl, rfl, key⟩ := key
  refine lv_istore (lv' := [(5, .int kv), (4, .int i), (3, .ref ab), (2, .ref bm), (1, .ref b), (0, .ref sb)]) hx hb dL_law_3000 hl (by decide) rfl (fun ls hl => ?_)
  refine lv_aload_n hx hb dL_law_3002 rfl (lv_at hl 3 rfl) ?_
  refine zLm (rest := []) X e2 hM kf_RL_296 ⟨(Nat.le_of_ble_eq_true rfl), (Nat.le_of_ble_eq_true rfl)⟩ hP hD hS rfl b2 rfl rfl hl.1 (Nat.le_of_ble_eq_true rfl) dL_law_3003 ⟨?_, ?_⟩ (fun v wm hp H locs hP hD hS => ?_)
  · exact Nat.le_trans (Nat.add_le_add_left (Nat.le_of_ble_eq_true rfl) cells) hcl.1
  · exact Nat.le_trans (Nat.add_le_add_left (Nat.le_of_ble_eq_true rfl) slots) hcl.2
  obtain ⟨⟨r, rfl, hc⟩, hI⟩ := key v wm hp
  refine lv_istore (lv' := [(6, .int r), (5, .int kv), (4, .int i), (3, .ref ab), (2, .ref bm), (1, .ref b), (0, .ref sb)]) hx hb dL_law_3006 hl (by decide) rfl (fun ls hl => ?_)
  obtain ⟨r3, c3, f3, e3, b3, hC3⟩ := hT _ _ _ hI
  refine lv_aload_n hx hb dL_law_3008 rfl (lv_at hl 4 rfl) ?_
  refine zLm (rest := []) X e3 hC3 kf_RL_145 ⟨(Nat.le_of_ble_eq_true rfl), (Nat.le_of_ble_eq_true rfl)⟩ hP hD hS rfl b3 rfl rfl hl.1 (Nat.le_of_ble_eq_true rfl) dL_law_3009 ⟨?_, ?_⟩ (fun v w3 hp H locs hP hD hS => ?_)
  · exact Nat.le_trans (Nat.add_le_add_left (Nat.le_of_ble_eq_true rfl) cells) hcl.1
  · exact Nat.le_trans (Nat.add_le_add_left (Nat.le_of_ble_eq_true rfl) slots) hcl.2
  obtain ⟨rfl, rfl⟩ := hp
  replace hP := zPp (List.Perm.append_right _ e3.symm) hP
  replace hD := zDp (List.Perm.append_right _ e3.symm) hD
  refine lv_iload hx hb dL_law_3012 (lv_at hl 1 rfl) ?_
  refine lv_icmp_eq (tgt := 3019) hx hb dL_law_3014 (by decide) (fun _ => ?_) (fun h => absurd rfl h)
  refine lv_iload hx hb dL_law_3019 (lv_at hl 1 rfl) ?_
  have hend : ∀ (H : Heap) (locs : List Loc), va_P D vwCl ((rM ++ wm) ++ (zbx y ab c1 :: (rX ++ w1))) H → va_D A ((rM ++ wm) ++ (zbx y ab c1 :: (rX ++ w1))) → va_S A s.heap H locs → W p l e room_1 s m args below meth c H locs (cells + 2 + 0 + 0) (slots + 12 + 0 + 0) Q (F0 m 3036 ls []) := by
    intro H locs hP hD hS
    refine lv_goto (tgt := 3102) hx hb dL_law_3036 (by decide) ?_
    refine W.widen (k := cells + 8) (n := slots + 64) (Nat.add_le_add_left (Nat.le_of_ble_eq_true rfl) cells) (Nat.add_le_add_left (Nat.le_of_ble_eq_true rfl) slots) ?_
    exact kk _ _ _ _ _ _ _ hI hP hD hS (zlv (zlv hl))
  refine lv_if_ne (tgt := 3036) hx hb dL_law_3021 (by decide) (fun _ => hend H locs hP hD hS) (fun hz => ?_)
  refine lv_aload_n hx hb dL_law_3024 rfl (lv_at hl 3 rfl) ?_
  refine lv_iconst (v := 0) hx hb dL_law_3025 (by decide) ?_
  refine va_lald hx hb hK (zPp List.perm_append_comm hP) 0 1 rfl rfl (by unfold vp_in; decide) dL_law_3026 ?_
  rw [show c1 (0 : Int32).toNatClampNeg = _ from hc hz]
  refine lv_iload hx hb dL_law_3027 (lv_at hl 0 rfl) ?_
  refine lv_i2l (v := r.toInt64) hx hb dL_law_3029 rfl ?_
  refine W.lcmp hx hb dL_law_3030 ?_
  refine lv_if_eq (tgt := 3036) hx hb dL_law_3031 (by decide) (fun _ => hend H locs hP hD hS) (fun h => absurd (zlcE _) h)
theorem kf_RL_300 : zCB RL 300 yX9_write cX9_write 4 (some .int) 0 ∧ Cond.instanceMethod yX9_write ∈ wAll ∧ Cond.selects yX9_write.cls yX9_write yX9_write ∈ wAll := ⟨⟨q_1856, q_9, q_1853, by decide +kernel⟩, q_1854, q_1855⟩
theorem kf_RL_297 : zCB RL 297 yX8_write cX8_write 2 (some .int) 0 ∧ Cond.instanceMethod yX8_write ∈ wAll ∧ Cond.selects yX8_write.cls yX8_write yX8_write ∈ wAll := ⟨⟨q_582, q_1, q_579, by decide +kernel⟩, q_580, q_581⟩
def zK44 (l : Launch) (D : va_G) (y : zY) (b bm : Nat) (I : Int32 → va_W → va_W → Prop) : Prop :=
  ∀ (t : Int32) (wX wM : va_W), I t wX wM → ∃ (rX cX rM cM : va_W) (fX fM : List Value) (P : Option Value → va_W → Prop) (PM : Option Value → va_W → Prop), wX.Perm (rX ++ cX) ∧ wM.Perm (rM ++ cM) ∧ cX[0]? = some (b, .inr (8, fX)) ∧ cM[0]? = some (bm, .inr (9, fM)) ∧ zC l D y yX8_write cX8_write 2 (some .int) rm_X8_write [.ref b] cX P ∧ zC l D y yX9_write cX9_write 4 (some .int) rm_X9_write [.ref bm] cM PM ∧ (∀ v w, P v w → ∃ r : Int32, v = some (.int r) ∧ ∀ vm wm, PM vm wm → vm = some (.int r) ∧ ∃ t2 : Int32, I t2 (rX ++ w) (rM ++ wm))
set_option maxHeartbeats 4000000 in
theorem zlk_44 {p : Program} {l : Launch} {e : Env} {s : State} {m : MethodId} {args : Array Value} {below : List Frame} {meth : Method} {c : Code} {H : Heap} {locs : List Loc} {cells slots : Nat} {Q : State → Prop} {D : va_G} {y : zY} {A : Nat → Prop} {ls : Array Slot} {wX wM : va_W} {ab b bm sb L : Nat} {cbx : Nat → Int64} {xs : Nat → Int32} {I : Int32 → va_W → va_W → Prop} {t i : Int32} (X : zX p s m args meth c D y A RL cL_law 8 (some .boolean)) (hT : zKT l D y bm I) (hk : zK44 l D y b bm I) (hX : va_X sb L xs s s.heap) (hbl : sb < s.heap.size) (hbA : ¬ A sb) (hin : ∀ k : Int32, 0 ≤ k.toInt ∧ k.toInt < 8 → vp_in (i + k) L) (hI : I t wX wM) (hP : va_P D vwCl (wM ++ (zbx y ab cbx :: wX)) H) (hD : va_D A (wM ++ (zbx y ab cbx :: wX))) (hS : va_S A s.heap H locs) (hl : lv_has ls 8 [(4, .int i), (3, .ref ab), (2, .ref bm), (1, .ref b), (0, .ref sb)]) (hcl : cells + 8 ≤ room_1.cells ∧ slots + 64 ≤ room_1.slots)
    (kk : ∀ (t : Int32) (wX wM : va_W) (cbx : Nat → Int64) (H : Heap) (locs : List Loc) (ls : Array Slot), I t wX wM → va_P D vwCl (wM ++ (zbx y ab cbx :: wX)) H → va_D A (wM ++ (zbx y ab cbx :: wX)) → va_S A s.heap H locs → lv_has ls 8 [(4, .int i), (3, .ref ab), (2, .ref bm), (1, .ref b), (0, .ref sb)] → W p l e room_1 s m args below meth c H locs (cells + 8) (slots + 64) Q (F0 m 3102 ls [])) : W p l e room_1 s m args below meth c H locs cells slots Q (F0 m 3039 ls []) := by
  obtain ⟨hx, hb, hr9, hml, hown, hts, hK, hA, hlocks⟩ := id X
  refine lv_aload_n hx hb dL_law_3039 rfl (lv_at hl 3 rfl) ?_
  obtain ⟨rX, cX, rM, cM, fX, fM, P, PM, e1, e2, b1, b2, hC, hM, hn⟩ := hk t wX wM hI  
  refine zLx (rest := []) X e1 hC kf_RL_297 ⟨(Nat.le_of_ble_eq_true rfl), (Nat.le_of_ble_eq_true rfl)⟩ hP hD hS rfl b1 rfl rfl hl.1 (Nat.le_of_ble_eq_true rfl) dL_law_3040 ⟨Nat.le_trans (Nat.add_le_add_left (Nat.le_of_ble_eq_true rfl) _) hcl.1, Nat.le_trans (Nat.add_le_add_left (Nat.le_of_ble_eq_true rfl) _) hcl.2⟩ (fun v w1 hp H locs hP hD hS => ?_)
  obtain ⟨r, rfl, hn⟩ := hn v w1 hp
  refine lv_aload_n hx hb dL_law_3043 rfl (lv_at hl 2 rfl) ?_
  refine zLm (rest := [.int r]) X e2 hM kf_RL_300 ⟨(Nat.le_of_ble_eq_true rfl), (Nat.le_of_ble_eq_true rfl)⟩ hP hD hS rfl b2 rfl rfl hl.1 (Nat.le_of_ble_eq_true rfl) dL_law_3044 ⟨?_, ?_⟩ (fun v wm hp H locs hP hD hS => ?_)
  · exact Nat.le_trans (Nat.add_le_add_left (Nat.le_of_ble_eq_true rfl) cells) hcl.1
  · exact Nat.le_trans (Nat.add_le_add_left (Nat.le_of_ble_eq_true rfl) slots) hcl.2
  obtain ⟨rfl, t2, hI⟩ := hn v wm hp
  refine lv_icmp_eq (tgt := 3102) hx hb dL_law_3047 (by decide) (fun _ => ?_) (fun h => absurd rfl h)
  refine W.widen (k := cells + 8) (n := slots + 64) (Nat.add_le_add_left (Nat.le_of_ble_eq_true rfl) cells) (Nat.add_le_add_left (Nat.le_of_ble_eq_true rfl) slots) ?_
  exact kk _ _ _ _ _ _ _ hI hP hD hS hl
theorem kf_RL_304 : zCB RL 304 yX9_octet cX9_octet 2 (some .int) 1 ∧ Cond.instanceMethod yX9_octet ∈ wAll ∧ Cond.selects yX9_octet.cls yX9_octet yX9_octet ∈ wAll := ⟨⟨q_1864, q_9, q_1861, by decide +kernel⟩, q_1862, q_1863⟩
theorem kf_RL_301 : zCB RL 301 yX8_octet cX8_octet 2 (some .int) 1 ∧ Cond.instanceMethod yX8_octet ∈ wAll ∧ Cond.selects yX8_octet.cls yX8_octet yX8_octet ∈ wAll := ⟨⟨q_605, q_1, q_602, by decide +kernel⟩, q_603, q_604⟩
def zK45 (l : Launch) (D : va_G) (y : zY) (b bm : Nat) (I : Int32 → va_W → va_W → Prop) : Prop :=
  ∀ (t : Int32) (wX wM : va_W), I t wX wM → ∀ (x1 : Int32), ∃ (rX cX rM cM : va_W) (fX fM : List Value) (P : Option Value → va_W → Prop) (PM : Option Value → va_W → Prop), wX.Perm (rX ++ cX) ∧ wM.Perm (rM ++ cM) ∧ cX[0]? = some (b, .inr (8, fX)) ∧ cM[0]? = some (bm, .inr (9, fM)) ∧ zC l D y yX8_octet cX8_octet 2 (some .int) rm_X8_octet [.ref b, .int x1] cX P ∧ zC l D y yX9_octet cX9_octet 2 (some .int) rm_X9_octet [.ref bm, .int x1] cM PM ∧ (∀ v w, P v w → ∃ r : Int32, v = some (.int r) ∧ ∀ vm wm, PM vm wm → vm = some (.int r) ∧ ∃ t2 : Int32, I t2 (rX ++ w) (rM ++ wm))
set_option maxHeartbeats 4000000 in
theorem zlk_45 {p : Program} {l : Launch} {e : Env} {s : State} {m : MethodId} {args : Array Value} {below : List Frame} {meth : Method} {c : Code} {H : Heap} {locs : List Loc} {cells slots : Nat} {Q : State → Prop} {D : va_G} {y : zY} {A : Nat → Prop} {ls : Array Slot} {wX wM : va_W} {ab b bm sb L : Nat} {cbx : Nat → Int64} {xs : Nat → Int32} {I : Int32 → va_W → va_W → Prop} {t i : Int32} (X : zX p s m args meth c D y A RL cL_law 8 (some .boolean)) (hT : zKT l D y bm I) (hk : zK45 l D y b bm I) (hX : va_X sb L xs s s.heap) (hbl : sb < s.heap.size) (hbA : ¬ A sb) (hin : ∀ k : Int32, 0 ≤ k.toInt ∧ k.toInt < 8 → vp_in (i + k) L) (hI : I t wX wM) (hP : va_P D vwCl (wM ++ (zbx y ab cbx :: wX)) H) (hD : va_D A (wM ++ (zbx y ab cbx :: wX))) (hS : va_S A s.heap H locs) (hl : lv_has ls 8 [(4, .int i), (3, .ref ab), (2, .ref bm), (1, .ref b), (0, .ref sb)]) (hcl : cells + 8 ≤ room_1.cells ∧ slots + 64 ≤ room_1.slots)
    (kk : ∀ (t : Int32) (wX wM : va_W) (cbx : Nat → Int64) (H : Heap) (locs : List Loc) (ls : Array Slot), I t wX wM → va_P D vwCl (wM ++ (zbx y ab cbx :: wX)) H → va_D A (wM ++ (zbx y ab cbx :: wX)) → va_S A s.heap H locs → lv_has ls 8 [(4, .int i), (3, .ref ab), (2, .ref bm), (1, .ref b), (0, .ref sb)] → W p l e room_1 s m args below meth c H locs (cells + 8) (slots + 64) Q (F0 m 3102 ls [])) : W p l e room_1 s m args below meth c H locs cells slots Q (F0 m 3052 ls []) := by
  obtain ⟨hx, hb, hr9, hml, hown, hts, hK, hA, hlocks⟩ := id X
  refine lv_aload_n hx hb dL_law_3052 rfl (lv_at hl 3 rfl) ?_
  refine zsc (k := 1) X hX hbl hbA hS dL_law_3053 dL_law_3054 dL_law_3056 (by decide) dL_law_3057 dL_law_3058 (lv_at hl 4 rfl) (lv_at hl 0 rfl) (hin 1 (by decide)) ?_
  obtain ⟨rX, cX, rM, cM, fX, fM, P, PM, e1, e2, b1, b2, hC, hM, hn⟩ := hk t wX wM hI (xs (i + 1).toNatClampNeg) 
  refine zLx (rest := []) X e1 hC kf_RL_301 ⟨(Nat.le_of_ble_eq_true rfl), (Nat.le_of_ble_eq_true rfl)⟩ hP hD hS rfl b1 rfl rfl hl.1 (Nat.le_of_ble_eq_true rfl) dL_law_3059 ⟨Nat.le_trans (Nat.add_le_add_left (Nat.le_of_ble_eq_true rfl) _) hcl.1, Nat.le_trans (Nat.add_le_add_left (Nat.le_of_ble_eq_true rfl) _) hcl.2⟩ (fun v w1 hp H locs hP hD hS => ?_)
  obtain ⟨r, rfl, hn⟩ := hn v w1 hp
  refine lv_aload_n hx hb dL_law_3062 rfl (lv_at hl 2 rfl) ?_
  refine zsc (k := 1) X hX hbl hbA hS dL_law_3063 dL_law_3064 dL_law_3066 (by decide) dL_law_3067 dL_law_3068 (lv_at hl 4 rfl) (lv_at hl 0 rfl) (hin 1 (by decide)) ?_
  refine zLm (rest := [.int r]) X e2 hM kf_RL_304 ⟨(Nat.le_of_ble_eq_true rfl), (Nat.le_of_ble_eq_true rfl)⟩ hP hD hS rfl b2 rfl rfl hl.1 (Nat.le_of_ble_eq_true rfl) dL_law_3069 ⟨?_, ?_⟩ (fun v wm hp H locs hP hD hS => ?_)
  · exact Nat.le_trans (Nat.add_le_add_left (Nat.le_of_ble_eq_true rfl) cells) hcl.1
  · exact Nat.le_trans (Nat.add_le_add_left (Nat.le_of_ble_eq_true rfl) slots) hcl.2
  obtain ⟨rfl, t2, hI⟩ := hn v wm hp
  refine lv_icmp_eq (tgt := 3102) hx hb dL_law_3072 (by decide) (fun _ => ?_) (fun h => absurd rfl h)
  refine W.widen (k := cells + 8) (n := slots + 64) (Nat.add_le_add_left (Nat.le_of_ble_eq_true rfl) cells) (Nat.add_le_add_left (Nat.le_of_ble_eq_true rfl) slots) ?_
  exact kk _ _ _ _ _ _ _ hI hP hD hS hl
theorem kf_RL_308 : zCB RL 308 yX9_count cX9_count 4 (some .int) 1 ∧ Cond.instanceMethod yX9_count ∈ wAll ∧ Cond.selects yX9_count.cls yX9_count yX9_count ∈ wAll := ⟨⟨q_1868, q_9, q_1865, by decide +kernel⟩, q_1866, q_1867⟩
theorem kf_RL_305 : zCB RL 305 yX8_count cX8_count 2 (some .int) 1 ∧ Cond.instanceMethod yX8_count ∈ wAll ∧ Cond.selects yX8_count.cls yX8_count yX8_count ∈ wAll := ⟨⟨q_609, q_1, q_606, by decide +kernel⟩, q_607, q_608⟩
def zK46 (l : Launch) (D : va_G) (y : zY) (b bm : Nat) (I : Int32 → va_W → va_W → Prop) : Prop :=
  ∀ (t : Int32) (wX wM : va_W), I t wX wM → ∀ (x1 : Int32), ∃ (rX cX rM cM : va_W) (fX fM : List Value) (P : Option Value → va_W → Prop) (PM : Option Value → va_W → Prop), wX.Perm (rX ++ cX) ∧ wM.Perm (rM ++ cM) ∧ cX[0]? = some (b, .inr (8, fX)) ∧ cM[0]? = some (bm, .inr (9, fM)) ∧ zC l D y yX8_count cX8_count 2 (some .int) rm_X8_count [.ref b, .int x1] cX P ∧ zC l D y yX9_count cX9_count 4 (some .int) rm_X9_count [.ref bm, .int x1] cM PM ∧ (∀ v w, P v w → ∃ r : Int32, v = some (.int r) ∧ ∀ vm wm, PM vm wm → vm = some (.int r) ∧ ∃ t2 : Int32, I t2 (rX ++ w) (rM ++ wm))
set_option maxHeartbeats 4000000 in
theorem zlk_46 {p : Program} {l : Launch} {e : Env} {s : State} {m : MethodId} {args : Array Value} {below : List Frame} {meth : Method} {c : Code} {H : Heap} {locs : List Loc} {cells slots : Nat} {Q : State → Prop} {D : va_G} {y : zY} {A : Nat → Prop} {ls : Array Slot} {wX wM : va_W} {ab b bm sb L : Nat} {cbx : Nat → Int64} {xs : Nat → Int32} {I : Int32 → va_W → va_W → Prop} {t i : Int32} (X : zX p s m args meth c D y A RL cL_law 8 (some .boolean)) (hT : zKT l D y bm I) (hk : zK46 l D y b bm I) (hX : va_X sb L xs s s.heap) (hbl : sb < s.heap.size) (hbA : ¬ A sb) (hin : ∀ k : Int32, 0 ≤ k.toInt ∧ k.toInt < 8 → vp_in (i + k) L) (hI : I t wX wM) (hP : va_P D vwCl (wM ++ (zbx y ab cbx :: wX)) H) (hD : va_D A (wM ++ (zbx y ab cbx :: wX))) (hS : va_S A s.heap H locs) (hl : lv_has ls 8 [(4, .int i), (3, .ref ab), (2, .ref bm), (1, .ref b), (0, .ref sb)]) (hcl : cells + 8 ≤ room_1.cells ∧ slots + 64 ≤ room_1.slots)
    (kk : ∀ (t : Int32) (wX wM : va_W) (cbx : Nat → Int64) (H : Heap) (locs : List Loc) (ls : Array Slot), I t wX wM → va_P D vwCl (wM ++ (zbx y ab cbx :: wX)) H → va_D A (wM ++ (zbx y ab cbx :: wX)) → va_S A s.heap H locs → lv_has ls 8 [(4, .int i), (3, .ref ab), (2, .ref bm), (1, .ref b), (0, .ref sb)] → W p l e room_1 s m args below meth c H locs (cells + 8) (slots + 64) Q (F0 m 3102 ls [])) : W p l e room_1 s m args below meth c H locs cells slots Q (F0 m 3077 ls []) := by
  obtain ⟨hx, hb, hr9, hml, hown, hts, hK, hA, hlocks⟩ := id X
  refine lv_aload_n hx hb dL_law_3077 rfl (lv_at hl 3 rfl) ?_
  refine zsc (k := 1) X hX hbl hbA hS dL_law_3078 dL_law_3079 dL_law_3081 (by decide) dL_law_3082 dL_law_3083 (lv_at hl 4 rfl) (lv_at hl 0 rfl) (hin 1 (by decide)) ?_
  obtain ⟨rX, cX, rM, cM, fX, fM, P, PM, e1, e2, b1, b2, hC, hM, hn⟩ := hk t wX wM hI (xs (i + 1).toNatClampNeg) 
  refine zLx (rest := []) X e1 hC kf_RL_305 ⟨(Nat.le_of_ble_eq_true rfl), (Nat.le_of_ble_eq_true rfl)⟩ hP hD hS rfl b1 rfl rfl hl.1 (Nat.le_of_ble_eq_true rfl) dL_law_3084 ⟨Nat.le_trans (Nat.add_le_add_left (Nat.le_of_ble_eq_true rfl) _) hcl.1, Nat.le_trans (Nat.add_le_add_left (Nat.le_of_ble_eq_true rfl) _) hcl.2⟩ (fun v w1 hp H locs hP hD hS => ?_)
  obtain ⟨r, rfl, hn⟩ := hn v w1 hp
  refine lv_aload_n hx hb dL_law_3087 rfl (lv_at hl 2 rfl) ?_
  refine zsc (k := 1) X hX hbl hbA hS dL_law_3088 dL_law_3089 dL_law_3091 (by decide) dL_law_3092 dL_law_3093 (lv_at hl 4 rfl) (lv_at hl 0 rfl) (hin 1 (by decide)) ?_
  refine zLm (rest := [.int r]) X e2 hM kf_RL_308 ⟨(Nat.le_of_ble_eq_true rfl), (Nat.le_of_ble_eq_true rfl)⟩ hP hD hS rfl b2 rfl rfl hl.1 (Nat.le_of_ble_eq_true rfl) dL_law_3094 ⟨?_, ?_⟩ (fun v wm hp H locs hP hD hS => ?_)
  · exact Nat.le_trans (Nat.add_le_add_left (Nat.le_of_ble_eq_true rfl) cells) hcl.1
  · exact Nat.le_trans (Nat.add_le_add_left (Nat.le_of_ble_eq_true rfl) slots) hcl.2
  obtain ⟨rfl, t2, hI⟩ := hn v wm hp
  refine lv_icmp_eq (tgt := 3102) hx hb dL_law_3097 (by decide) (fun _ => ?_) (fun h => absurd rfl h)
  refine W.widen (k := cells + 8) (n := slots + 64) (Nat.add_le_add_left (Nat.le_of_ble_eq_true rfl) cells) (Nat.add_le_add_left (Nat.le_of_ble_eq_true rfl) slots) ?_
  exact kk _ _ _ _ _ _ _ hI hP hD hS hl
