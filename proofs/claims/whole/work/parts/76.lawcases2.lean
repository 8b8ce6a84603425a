theorem kf_RL_201 : zCB RL 201 yX9_ways cX9_ways 4 (some .long) 3 ∧ Cond.instanceMethod yX9_ways ∈ wAll ∧ Cond.selects yX9_ways.cls yX9_ways yX9_ways ∈ wAll := ⟨⟨q_1668, q_9, q_1665, by decide +kernel⟩, q_1666, q_1667⟩
theorem kw_RL_199 : zCW RL 199 yL_ways cL_ways 6 (some .int) [(0, 11, 14, 19), (0, 11, 18, 51)] 5 := ⟨q_1028, q_0, q_1026, q_1027, by decide +kernel⟩
def zK16 (l : Launch) (D : va_G) (y : zY) (b bm : Nat) (I : Int32 → va_W → va_W → Prop) : Prop :=
  ∀ (t : Int32) (wX wM : va_W), I t wX wM → ∀ (x1 : Int32) (x2 : Int32) (x3 : Int32), ∃ (rX cX rM cM : va_W) (fX fM : List Value) (P : Option Value → va_W → Prop) (PX : String → va_W → Prop) (PM : Option Value → va_W → Prop), wX.Perm (rX ++ cX) ∧ wM.Perm (rM ++ cM) ∧ cX[0]? = some (b, .inr (8, fX)) ∧ cM[0]? = some (bm, .inr (9, fM)) ∧ zCx l D y yX8_ways cX8_ways 5 (some .long) rm_X8_ways [.ref b, .int x1, .int x2, .int x3] cX P PX ∧ zC l D y yX9_ways cX9_ways 4 (some .long) rm_X9_ways [.ref bm, .int x1, .int x2, .int x3] cM PM ∧ (∀ v w, P v w → ∃ r : Int64, v = some (.long r) ∧ ∀ vm wm, PM vm wm → vm = some (.long r) ∧ I 0 (rX ++ w) (rM ++ wm)) ∧ (∀ E w, PX E w → (E = "java/lang/IndexOutOfBoundsException" ∧ ∀ vm wm, PM vm wm → (∃ r : Int64, vm = some (.long r)) ∧ I 1 (rX ++ w) (rM ++ wm)) ∨ (E = "java/util/NoSuchElementException" ∧ ∀ vm wm, PM vm wm → (∃ r : Int64, vm = some (.long r)) ∧ I 2 (rX ++ w) (rM ++ wm)))
set_option maxHeartbeats 4000000 in
theorem zlk_16 {p : Program} {l : Launch} {e : Env} {s : State} {m : MethodId} {args : Array Value} {below : List Frame} {meth : Method} {c : Code} {H : Heap} {locs : List Loc} {cells slots : Nat} {Q : State → Prop} {D : va_G} {y : zY} {A : Nat → Prop} {ls : Array Slot} {wX wM : va_W} {ab b bm sb L : Nat} {cbx : Nat → Int64} {xs : Nat → Int32} {I : Int32 → va_W → va_W → Prop} {t i : Int32} (X : zX p s m args meth c D y A RL cL_law 8 (some .boolean)) (hT : zKT l D y bm I) (hk : zK16 l D y b bm I) (hX : va_X sb L xs s s.heap) (hbl : sb < s.heap.size) (hbA : ¬ A sb) (hin : ∀ k : Int32, 0 ≤ k.toInt ∧ k.toInt < 8 → vp_in (i + k) L) (hI : I t wX wM) (hP : va_P D vwCl (wM ++ (zbx y ab cbx :: wX)) H) (hD : va_D A (wM ++ (zbx y ab cbx :: wX))) (hS : va_S A s.heap H locs) (hl : lv_has ls 8 [(4, .int i), (3, .ref ab), (2, .ref bm), (1, .ref b), (0, .ref sb)]) (hcl : cells + 8 ≤ room_1.cells ∧ slots + 64 ≤ room_1.slots)
    (kk : ∀ (t : Int32) (wX wM : va_W) (cbx : Nat → Int64) (H : Heap) (locs : List Loc) (ls : Array Slot), I t wX wM → va_P D vwCl (wM ++ (zbx y ab cbx :: wX)) H → va_D A (wM ++ (zbx y ab cbx :: wX)) → va_S A s.heap H locs → lv_has ls 8 [(4, .int i), (3, .ref ab), (2, .ref bm), (1, .ref b), (0, .ref sb)] → W p l e room_1 s m args below meth c H locs (cells + 8) (slots + 64) Q (F0 m 3102 ls [])) : W p l e room_1 s m args below meth c H locs cells slots Q (F0 m 1131 ls []) := by
  obtain ⟨hx, hb, hr9, hml, hown, hts, hK, hA, hlocks⟩ := id X
  refine lv_aload_n hx hb dL_law_1131 rfl (lv_at hl 3 rfl) ?_
  refine zsc (k := 1) X hX hbl hbA hS dL_law_1132 dL_law_1133 dL_law_1135 (by decide) dL_law_1136 dL_law_1137 (lv_at hl 4 rfl) (lv_at hl 0 rfl) (hin 1 (by decide)) ?_
  refine zsc (k := 2) X hX hbl hbA hS dL_law_1138 dL_law_1139 dL_law_1141 (by decide) dL_law_1142 dL_law_1143 (lv_at hl 4 rfl) (lv_at hl 0 rfl) (hin 2 (by decide)) ?_
  refine zsc (k := 3) X hX hbl hbA hS dL_law_1144 dL_law_1145 dL_law_1147 (by decide) dL_law_1148 dL_law_1149 (lv_at hl 4 rfl) (lv_at hl 0 rfl) (hin 3 (by decide)) ?_
  obtain ⟨rX, cX, rM, cM, fX, fM, P, PX, PM, e1, e2, b1, b2, hC, hM, hn, hE⟩ := hk t wX wM hI (xs (i + 1).toNatClampNeg) (xs (i + 2).toNatClampNeg) (xs (i + 3).toNatClampNeg) 
  refine lv_aload_n hx hb dL_law_1150 rfl (lv_at hl 1 rfl) ?_
  have hw := zw_L_ways l D y b ab cbx (xs (i + 1).toNatClampNeg) (xs (i + 2).toNatClampNeg) (xs (i + 3).toNatClampNeg) cX fX 0 b1 P PX hC (fun v w h => (hn v w h).imp fun _ z => z.1) (fun E w h => (hE E w h).elim (fun z => Or.inl z.1) (fun z => Or.inr z.1))
  refine zLw (rest := []) X e1 hw kw_RL_199 ⟨(Nat.le_of_ble_eq_true rfl), (Nat.le_of_ble_eq_true rfl)⟩ hP hD hS rfl rfl hl.1 (Nat.le_of_ble_eq_true rfl) dL_law_1151 ⟨Nat.le_trans (Nat.add_le_add_left (Nat.le_of_ble_eq_true rfl) _) hcl.1, Nat.le_trans (Nat.add_le_add_left (Nat.le_of_ble_eq_true rfl) _) hcl.2⟩ (fun v w h => ?_) (fun v bx1 w1 hp H locs hP hD hS => ?_)
  · rcases h with ⟨_, w1, _, _, h⟩ | ⟨_, w1, _, _, h⟩
    · exact ⟨_, w1, h⟩
    · exact ⟨_, w1, h⟩
  have key : ∃ (kv : Int32) (c1 : Nat → Int64), v = some (.int kv) ∧ bx1 = zbx y ab c1 ∧ ∀ vm wm, PM vm wm → (∃ r : Int64, vm = some (.long r) ∧ (kv = 0 → c1 0 = r)) ∧ I kv (rX ++ w1) (rM ++ wm) := by
    rcases hp with ⟨r, w2, hp, rfl, hw2⟩ | ⟨E, w2, hp, hv, hw2⟩
    · obtain ⟨rfl, rfl⟩ := List.cons.inj hw2
      obtain ⟨r1, er, hn⟩ := hn _ _ hp
      obtain rfl : r = r1 := by injection er with er; injection er
      refine ⟨0, _, rfl, rfl, fun vm wm hm => ?_⟩
      obtain ⟨rfl, hi⟩ := hn vm wm hm
      exact ⟨⟨r, rfl, fun _ => rfl⟩, hi⟩
    · obtain ⟨rfl, rfl⟩ := List.cons.inj hw2
      rcases hv with ⟨rfl, hv⟩ | ⟨rfl, hv⟩
      · rcases hE _ _ hp with ⟨h0, hn⟩ | ⟨h0, hn⟩
        · refine ⟨1, _, hv, rfl, fun vm wm hm => ?_⟩
          obtain ⟨⟨r, rfl⟩, hi⟩ := hn vm wm hm
          exact ⟨⟨r, rfl, fun h => absurd h (by decide)⟩, hi⟩
        · exact absurd h0 (by decide)
      · rcases hE _ _ hp with ⟨h0, hn⟩ | ⟨h0, hn⟩
        · exact absurd h0 (by decide)
        · refine ⟨2, _, hv, rfl, fun vm wm hm => ?_⟩
          obtain ⟨⟨r, rfl⟩, hi⟩ := hn vm wm hm
          exact ⟨⟨r, rfl, fun h => absurd h (by decide)⟩, hi⟩
  obtain ⟨kv, c1, rfl, rfl, key⟩ := key
  refine lv_istore (lv' := [(5, .int kv), (4, .int i), (3, .ref ab), (2, .ref bm), (1, .ref b), (0, .ref sb)]) hx hb dL_law_1154 hl (by decide) rfl (fun ls hl => ?_)
  refine lv_aload_n hx hb dL_law_1156 rfl (lv_at hl 3 rfl) ?_
  refine zsc (k := 1) X hX hbl hbA hS dL_law_1157 dL_law_1158 dL_law_1160 (by decide) dL_law_1161 dL_law_1162 (lv_at hl 5 rfl) (lv_at hl 1 rfl) (hin 1 (by decide)) ?_
  refine zsc (k := 2) X hX hbl hbA hS dL_law_1163 dL_law_1164 dL_law_1166 (by decide) dL_law_1167 dL_law_1168 (lv_at hl 5 rfl) (lv_at hl 1 rfl) (hin 2 (by decide)) ?_
  refine zsc (k := 3) X hX hbl hbA hS dL_law_1169 dL_law_1170 dL_law_1172 (by decide) dL_law_1173 dL_law_1174 (lv_at hl 5 rfl) (lv_at hl 1 rfl) (hin 3 (by decide)) ?_
  refine zLm (rest := []) X e2 hM kf_RL_201 ⟨(Nat.le_of_ble_eq_true rfl), (Nat.le_of_ble_eq_true rfl)⟩ hP hD hS rfl b2 rfl rfl hl.1 (Nat.le_of_ble_eq_true rfl) dL_law_1175 ⟨?_, ?_⟩ (fun v wm hp H locs hP hD hS => ?_)
  · exact Nat.le_trans (Nat.add_le_add_left (Nat.le_of_ble_eq_true rfl) cells) hcl.1
  · exact Nat.le_trans (Nat.add_le_add_left (Nat.le_of_ble_eq_true rfl) slots) hcl.2
  obtain ⟨⟨r, rfl, hc⟩, hI⟩ := key v wm hp
  refine lv_lstore (lv' := [(6, .long r), (5, .int kv), (4, .int i), (3, .ref ab), (2, .ref bm), (1, .ref b), (0, .ref sb)]) hx hb dL_law_1178 hl (by decide) rfl (fun ls hl => ?_)
  obtain ⟨r3, c3, f3, e3, b3, hC3⟩ := hT _ _ _ hI
  refine lv_aload_n hx hb dL_law_1180 rfl (lv_at hl 4 rfl) ?_
  refine zLm (rest := []) X e3 hC3 kf_RL_145 ⟨(Nat.le_of_ble_eq_true rfl), (Nat.le_of_ble_eq_true rfl)⟩ hP hD hS rfl b3 rfl rfl hl.1 (Nat.le_of_ble_eq_true rfl) dL_law_1181 ⟨?_, ?_⟩ (fun v w3 hp H locs hP hD hS => ?_)
  · exact Nat.le_trans (Nat.add_le_add_left (Nat.le_of_ble_eq_true rfl) cells) hcl.1
  · exact Nat.le_trans (Nat.add_le_add_left (Nat.le_of_ble_eq_true rfl) slots) hcl.2
  obtain ⟨rfl, rfl⟩ := hp
  replace hP := zPp (List.Perm.append_right _ e3.symm) hP
  replace hD := zDp (List.Perm.append_right _ e3.symm) hD
  refine lv_iload hx hb dL_law_1184 (lv_at hl 1 rfl) ?_
  refine lv_icmp_eq (tgt := 1191) hx hb dL_law_1186 (by decide) (fun _ => ?_) (fun h => absurd rfl h)
  refine lv_iload hx hb dL_law_1191 (lv_at hl 1 rfl) ?_
  have hend : ∀ (H : Heap) (locs : List Loc), va_P D vwCl ((rM ++ wm) ++ (zbx y ab c1 :: (rX ++ w1))) H → va_D A ((rM ++ wm) ++ (zbx y ab c1 :: (rX ++ w1))) → va_S A s.heap H locs → W p l e room_1 s m args below meth c H locs (cells + 2 + 0 + 0) (slots + 12 + 0 + 0) Q (F0 m 1207 ls []) := by
    intro H locs hP hD hS
    refine lv_goto (tgt := 3102) hx hb dL_law_1207 (by decide) ?_
    refine W.widen (k := cells + 8) (n := slots + 64) (Nat.add_le_add_left (Nat.le_of_ble_eq_true rfl) cells) (Nat.add_le_add_left (Nat.le_of_ble_eq_true rfl) slots) ?_
    exact kk _ _ _ _ _ _ _ hI hP hD hS (zlv (zlv hl))
  refine lv_if_ne (tgt := 1207) hx hb dL_law_1193 (by decide) (fun _ => hend H locs hP hD hS) (fun hz => ?_)
  refine lv_aload_n hx hb dL_law_1196 rfl (lv_at hl 3 rfl) ?_
  refine lv_iconst (v := 0) hx hb dL_law_1197 (by decide) ?_
  refine va_lald hx hb hK (zPp List.perm_append_comm hP) 0 1 rfl rfl (by unfold vp_in; decide) dL_law_1198 ?_
  rw [show c1 (0 : Int32).toNatClampNeg = _ from hc hz]
  refine lv_lload hx hb dL_law_1199 (lv_at hl 0 rfl) ?_
  refine W.lcmp hx hb dL_law_1201 ?_
  refine lv_if_eq (tgt := 1207) hx hb dL_law_1202 (by decide) (fun _ => hend H locs hP hD hS) (fun h => absurd (zlcE _) h)
theorem kf_RL_204 : zCB RL 204 yX9_wet cX9_wet 7 (some .long) 2 ∧ Cond.instanceMethod yX9_wet ∈ wAll ∧ Cond.selects yX9_wet.cls yX9_wet yX9_wet ∈ wAll := ⟨⟨q_1672, q_9, q_1669, by decide +kernel⟩, q_1670, q_1671⟩
theorem kw_RL_202 : zCW RL 202 yL_wet cL_wet 5 (some .int) [(0, 9, 12, 13)] 4 := ⟨q_1036, q_0, q_1034, q_1035, by decide +kernel⟩
def zK17 (l : Launch) (D : va_G) (y : zY) (b bm : Nat) (I : Int32 → va_W → va_W → Prop) : Prop :=
  ∀ (t : Int32) (wX wM : va_W), I t wX wM → ∀ (x1 : Int32) (x2 : Int32), ∃ (rX cX rM cM : va_W) (fX fM : List Value) (P : Option Value → va_W → Prop) (PX : String → va_W → Prop) (PM : Option Value → va_W → Prop), wX.Perm (rX ++ cX) ∧ wM.Perm (rM ++ cM) ∧ cX[0]? = some (b, .inr (8, fX)) ∧ cM[0]? = some (bm, .inr (9, fM)) ∧ zCx l D y yX8_wet cX8_wet 7 (some .long) rm_X8_wet [.ref b, .int x1, .int x2] cX P PX ∧ zC l D y yX9_wet cX9_wet 7 (some .long) rm_X9_wet [.ref bm, .int x1, .int x2] cM PM ∧ (∀ v w, P v w → ∃ r : Int64, v = some (.long r) ∧ ∀ vm wm, PM vm wm → vm = some (.long r) ∧ I 0 (rX ++ w) (rM ++ wm)) ∧ (∀ E w, PX E w → (E = "java/lang/IllegalArgumentException" ∧ ∀ vm wm, PM vm wm → (∃ r : Int64, vm = some (.long r)) ∧ I 1 (rX ++ w) (rM ++ wm)))
set_option maxHeartbeats 4000000 in
theorem zlk_17 {p : Program} {l : Launch} {e : Env} {s : State} {m : MethodId} {args : Array Value} {below : List Frame} {meth : Method} {c : Code} {H : Heap} {locs : List Loc} {cells slots : Nat} {Q : State → Prop} {D : va_G} {y : zY} {A : Nat → Prop} {ls : Array Slot} {wX wM : va_W} {ab b bm sb L : Nat} {cbx : Nat → Int64} {xs : Nat → Int32} {I : Int32 → va_W → va_W → Prop} {t i : Int32} (X : zX p s m args meth c D y A RL cL_law 8 (some .boolean)) (hT : zKT l D y bm I) (hk : zK17 l D y b bm I) (hX : va_X sb L xs s s.heap) (hbl : sb < s.heap.size) (hbA : ¬ A sb) (hin : ∀ k : Int32, 0 ≤ k.toInt ∧ k.toInt < 8 → vp_in (i + k) L) (hI : I t wX wM) (hP : va_P D vwCl (wM ++ (zbx y ab cbx :: wX)) H) (hD : va_D A (wM ++ (zbx y ab cbx :: wX))) (hS : va_S A s.heap H locs) (hl : lv_has ls 8 [(4, .int i), (3, .ref ab), (2, .ref bm), (1, .ref b), (0, .ref sb)]) (hcl : cells + 8 ≤ room_1.cells ∧ slots + 64 ≤ room_1.slots)
    (kk : ∀ (t : Int32) (wX wM : va_W) (cbx : Nat → Int64) (H : Heap) (locs : List Loc) (ls : Array Slot), I t wX wM → va_P D vwCl (wM ++ (zbx y ab cbx :: wX)) H → va_D A (wM ++ (zbx y ab cbx :: wX)) → va_S A s.heap H locs → lv_has ls 8 [(4, .int i), (3, .ref ab), (2, .ref bm), (1, .ref b), (0, .ref sb)] → W p l e room_1 s m args below meth c H locs (cells + 8) (slots + 64) Q (F0 m 3102 ls [])) : W p l e room_1 s m args below meth c H locs cells slots Q (F0 m 1210 ls []) := by
  obtain ⟨hx, hb, hr9, hml, hown, hts, hK, hA, hlocks⟩ := id X
  refine lv_aload_n hx hb dL_law_1210 rfl (lv_at hl 3 rfl) ?_
  refine zsc (k := 1) X hX hbl hbA hS dL_law_1211 dL_law_1212 dL_law_1214 (by decide) dL_law_1215 dL_law_1216 (lv_at hl 4 rfl) (lv_at hl 0 rfl) (hin 1 (by decide)) ?_
  refine zsc (k := 2) X hX hbl hbA hS dL_law_1217 dL_law_1218 dL_law_1220 (by decide) dL_law_1221 dL_law_1222 (lv_at hl 4 rfl) (lv_at hl 0 rfl) (hin 2 (by decide)) ?_
  obtain ⟨rX, cX, rM, cM, fX, fM, P, PX, PM, e1, e2, b1, b2, hC, hM, hn, hE⟩ := hk t wX wM hI (xs (i + 1).toNatClampNeg) (xs (i + 2).toNatClampNeg) 
  refine lv_aload_n hx hb dL_law_1223 rfl (lv_at hl 1 rfl) ?_
  have hw := zw_L_wet l D y b ab cbx (xs (i + 1).toNatClampNeg) (xs (i + 2).toNatClampNeg) cX fX 0 b1 P PX hC (fun v w h => (hn v w h).imp fun _ z => z.1) (fun E w h => (hE E w h).1)
  refine zLw (rest := []) X e1 hw kw_RL_202 ⟨(Nat.le_of_ble_eq_true rfl), (Nat.le_of_ble_eq_true rfl)⟩ hP hD hS rfl rfl hl.1 (Nat.le_of_ble_eq_true rfl) dL_law_1224 ⟨Nat.le_trans (Nat.add_le_add_left (Nat.le_of_ble_eq_true rfl) _) hcl.1, Nat.le_trans (Nat.add_le_add_left (Nat.le_of_ble_eq_true rfl) _) hcl.2⟩ (fun v w h => ?_) (fun v bx1 w1 hp H locs hP hD hS => ?_)
  · rcases h with ⟨_, w1, _, _, h⟩ | ⟨_, w1, _, _, h⟩
    · exact ⟨_, w1, h⟩
    · exact ⟨_, w1, h⟩
  have key : ∃ (kv : Int32) (c1 : Nat → Int64), v = some (.int kv) ∧ bx1 = zbx y ab c1 ∧ ∀ vm wm, PM vm wm → (∃ r : Int64, vm = some (.long r) ∧ (kv = 0 → c1 0 = r)) ∧ I kv (rX ++ w1) (rM ++ wm) := by
    rcases hp with ⟨r, w2, hp, rfl, hw2⟩ | ⟨E, w2, hp, hv, hw2⟩
    · obtain ⟨rfl, rfl⟩ := List.cons.inj hw2
      obtain ⟨r1, er, hn⟩ := hn _ _ hp
      obtain rfl : r = r1 := by injection er with er; injection er
      refine ⟨0, _, rfl, rfl, fun vm wm hm => ?_⟩
      obtain ⟨rfl, hi⟩ := hn vm wm hm
      exact ⟨⟨r, rfl, fun _ => rfl⟩, hi⟩
    · obtain ⟨rfl, rfl⟩ := List.cons.inj hw2
      obtain ⟨rfl, hv⟩ := hv
      obtain ⟨-, hn⟩ := hE _ _ hp
      refine ⟨1, _, hv, rfl, fun vm wm hm => ?_⟩
      obtain ⟨⟨r, rfl⟩, hi⟩ := hn vm wm hm
      exact ⟨⟨r, rfl, fun h => absurd h (by decide)⟩, hi⟩
  obtain ⟨kv, c1, rfl, rfl, key⟩ := key
  refine lv_istore (lv' := [(5, .int kv), (4, .int i), (3, .ref ab), (2, .ref bm), (1, .ref b), (0, .ref sb)]) hx hb dL_law_1227 hl (by decide) rfl (fun ls hl => ?_)
  refine lv_aload_n hx hb dL_law_1229 rfl (lv_at hl 3 rfl) ?_
  refine zsc (k := 1) X hX hbl hbA hS dL_law_1230 dL_law_1231 dL_law_1233 (by decide) dL_law_1234 dL_law_1235 (lv_at hl 5 rfl) (lv_at hl 1 rfl) (hin 1 (by decide)) ?_
  refine zsc (k := 2) X hX hbl hbA hS dL_law_1236 dL_law_1237 dL_law_1239 (by decide) dL_law_1240 dL_law_1241 (lv_at hl 5 rfl) (lv_at hl 1 rfl) (hin 2 (by decide)) ?_
  refine zLm (rest := []) X e2 hM kf_RL_204 ⟨(Nat.le_of_ble_eq_true rfl), (Nat.le_of_ble_eq_true rfl)⟩ hP hD hS rfl b2 rfl rfl hl.1 (Nat.le_of_ble_eq_true rfl) dL_law_1242 ⟨?_, ?_⟩ (fun v wm hp H locs hP hD hS => ?_)
  · exact Nat.le_trans (Nat.add_le_add_left (Nat.le_of_ble_eq_true rfl) cells) hcl.1
  · exact Nat.le_trans (Nat.add_le_add_left (Nat.le_of_ble_eq_true rfl) slots) hcl.2
  obtain ⟨⟨r, rfl, hc⟩, hI⟩ := key v wm hp
  refine lv_lstore (lv' := [(6, .long r), (5, .int kv), (4, .int i), (3, .ref ab), (2, .ref bm), (1, .ref b), (0, .ref sb)]) hx hb dL_law_1245 hl (by decide) rfl (fun ls hl => ?_)
  obtain ⟨r3, c3, f3, e3, b3, hC3⟩ := hT _ _ _ hI
  refine lv_aload_n hx hb dL_law_1247 rfl (lv_at hl 4 rfl) ?_
  refine zLm (rest := []) X e3 hC3 kf_RL_145 ⟨(Nat.le_of_ble_eq_true rfl), (Nat.le_of_ble_eq_true rfl)⟩ hP hD hS rfl b3 rfl rfl hl.1 (Nat.le_of_ble_eq_true rfl) dL_law_1248 ⟨?_, ?_⟩ (fun v w3 hp H locs hP hD hS => ?_)
  · exact Nat.le_trans (Nat.add_le_add_left (Nat.le_of_ble_eq_true rfl) cells) hcl.1
  · exact Nat.le_trans (Nat.add_le_add_left (Nat.le_of_ble_eq_true rfl) slots) hcl.2
  obtain ⟨rfl, rfl⟩ := hp
  replace hP := zPp (List.Perm.append_right _ e3.symm) hP
  replace hD := zDp (List.Perm.append_right _ e3.symm) hD
  refine lv_iload hx hb dL_law_1251 (lv_at hl 1 rfl) ?_
  refine lv_icmp_eq (tgt := 1258) hx hb dL_law_1253 (by decide) (fun _ => ?_) (fun h => absurd rfl h)
  refine lv_iload hx hb dL_law_1258 (lv_at hl 1 rfl) ?_
  have hend : ∀ (H : Heap) (locs : List Loc), va_P D vwCl ((rM ++ wm) ++ (zbx y ab c1 :: (rX ++ w1))) H → va_D A ((rM ++ wm) ++ (zbx y ab c1 :: (rX ++ w1))) → va_S A s.heap H locs → W p l e room_1 s m args below meth c H locs (cells + 1 + 0 + 0) (slots + 6 + 0 + 0) Q (F0 m 1274 ls []) := by
    intro H locs hP hD hS
    refine lv_goto (tgt := 3102) hx hb dL_law_1274 (by decide) ?_
    refine W.widen (k := cells + 8) (n := slots + 64) (Nat.add_le_add_left (Nat.le_of_ble_eq_true rfl) cells) (Nat.add_le_add_left (Nat.le_of_ble_eq_true rfl) slots) ?_
    exact kk _ _ _ _ _ _ _ hI hP hD hS (zlv (zlv hl))
  refine lv_if_ne (tgt := 1274) hx hb dL_law_1260 (by decide) (fun _ => hend H locs hP hD hS) (fun hz => ?_)
  refine lv_aload_n hx hb dL_law_1263 rfl (lv_at hl 3 rfl) ?_
  refine lv_iconst (v := 0) hx hb dL_law_1264 (by decide) ?_
  refine va_lald hx hb hK (zPp List.perm_append_comm hP) 0 1 rfl rfl (by unfold vp_in; decide) dL_law_1265 ?_
  rw [show c1 (0 : Int32).toNatClampNeg = _ from hc hz]
  refine lv_lload hx hb dL_law_1266 (lv_at hl 0 rfl) ?_
  refine W.lcmp hx hb dL_law_1268 ?_
  refine lv_if_eq (tgt := 1274) hx hb dL_law_1269 (by decide) (fun _ => hend H locs hP hD hS) (fun h => absurd (zlcE _) h)
theorem kf_RL_207 : zCB RL 207 yX9_reaches cX9_reaches 6 (some .long) 2 ∧ Cond.instanceMethod yX9_reaches ∈ wAll ∧ Cond.selects yX9_reaches.cls yX9_reaches yX9_reaches ∈ wAll := ⟨⟨q_1684, q_9, q_1681, by decide +kernel⟩, q_1682, q_1683⟩
theorem kw_RL_205 : zCW RL 205 yL_reaches cL_reaches 5 (some .int) [(0, 9, 12, 19)] 4 := ⟨q_1044, q_0, q_1042, q_1043, by decide +kernel⟩
def zK18 (l : Launch) (D : va_G) (y : zY) (b bm : Nat) (I : Int32 → va_W → va_W → Prop) : Prop :=
  ∀ (t : Int32) (wX wM : va_W), I t wX wM → ∀ (x1 : Int32) (x2 : Int32), ∃ (rX cX rM cM : va_W) (fX fM : List Value) (P : Option Value → va_W → Prop) (PX : String → va_W → Prop) (PM : Option Value → va_W → Prop), wX.Perm (rX ++ cX) ∧ wM.Perm (rM ++ cM) ∧ cX[0]? = some (b, .inr (8, fX)) ∧ cM[0]? = some (bm, .inr (9, fM)) ∧ zCx l D y yX8_reaches cX8_reaches 3 (some .long) rm_X8_reaches [.ref b, .int x1, .int x2] cX P PX ∧ zC l D y yX9_reaches cX9_reaches 6 (some .long) rm_X9_reaches [.ref bm, .int x1, .int x2] cM PM ∧ (∀ v w, P v w → ∃ r : Int64, v = some (.long r) ∧ ∀ vm wm, PM vm wm → vm = some (.long r) ∧ I 0 (rX ++ w) (rM ++ wm)) ∧ (∀ E w, PX E w → (E = "java/lang/IndexOutOfBoundsException" ∧ ∀ vm wm, PM vm wm → (∃ r : Int64, vm = some (.long r)) ∧ I 1 (rX ++ w) (rM ++ wm)))
set_option maxHeartbeats 4000000 in
theorem zlk_18 {p : Program} {l : Launch} {e : Env} {s : State} {m : MethodId} {args : Array Value} {below : List Frame} {meth : Method} {c : Code} {H : Heap} {locs : List Loc} {cells slots : Nat} {Q : State → Prop} {D : va_G} {y : zY} {A : Nat → Prop} {ls : Array Slot} {wX wM : va_W} {ab b bm sb L : Nat} {cbx : Nat → Int64} {xs : Nat → Int32} {I : Int32 → va_W → va_W → Prop} {t i : Int32} (X : zX p s m args meth c D y A RL cL_law 8 (some .boolean)) (hT : zKT l D y bm I) (hk : zK18 l D y b bm I) (hX : va_X sb L xs s s.heap) (hbl : sb < s.heap.size) (hbA : ¬ A sb) (hin : ∀ k : Int32, 0 ≤ k.toInt ∧ k.toInt < 8 → vp_in (i + k) L) (hI : I t wX wM) (hP : va_P D vwCl (wM ++ (zbx y ab cbx :: wX)) H) (hD : va_D A (wM ++ (zbx y ab cbx :: wX))) (hS : va_S A s.heap H locs) (hl : lv_has ls 8 [(4, .int i), (3, .ref ab), (2, .ref bm), (1, .ref b), (0, .ref sb)]) (hcl : cells + 8 ≤ room_1.cells ∧ slots + 64 ≤ room_1.slots)
    (kk : ∀ (t : Int32) (wX wM : va_W) (cbx : Nat → Int64) (H : Heap) (locs : List Loc) (ls : Array Slot), I t wX wM → va_P D vwCl (wM ++ (zbx y ab cbx :: wX)) H → va_D A (wM ++ (zbx y ab cbx :: wX)) → va_S A s.heap H locs → lv_has ls 8 [(4, .int i), (3, .ref ab), (2, .ref bm), (1, .ref b), (0, .ref sb)] → W p l e room_1 s m args below meth c H locs (cells + 8) (slots + 64) Q (F0 m 3102 ls [])) : W p l e room_1 s m args below meth c H locs cells slots Q (F0 m 1277 ls []) := by
  obtain ⟨hx, hb, hr9, hml, hown, hts, hK, hA, hlocks⟩ := id X
  refine lv_aload_n hx hb dL_law_1277 rfl (lv_at hl 3 rfl) ?_
  refine zsc (k := 1) X hX hbl hbA hS dL_law_1278 dL_law_1279 dL_law_1281 (by decide) dL_law_1282 dL_law_1283 (lv_at hl 4 rfl) (lv_at hl 0 rfl) (hin 1 (by decide)) ?_
  refine zsc (k := 2) X hX hbl hbA hS dL_law_1284 dL_law_1285 dL_law_1287 (by decide) dL_law_1288 dL_law_1289 (lv_at hl 4 rfl) (lv_at hl 0 rfl) (hin 2 (by decide)) ?_
  obtain ⟨rX, cX, rM, cM, fX, fM, P, PX, PM, e1, e2, b1, b2, hC, hM, hn, hE⟩ := hk t wX wM hI (xs (i + 1).toNatClampNeg) (xs (i + 2).toNatClampNeg) 
  refine lv_aload_n hx hb dL_law_1290 rfl (lv_at hl 1 rfl) ?_
  have hw := zw_L_reaches l D y b ab cbx (xs (i + 1).toNatClampNeg) (xs (i + 2).toNatClampNeg) cX fX 0 b1 P PX hC (fun v w h => (hn v w h).imp fun _ z => z.1) (fun E w h => (hE E w h).1)
  refine zLw (rest := []) X e1 hw kw_RL_205 ⟨(Nat.le_of_ble_eq_true rfl), (Nat.le_of_ble_eq_true rfl)⟩ hP hD hS rfl rfl hl.1 (Nat.le_of_ble_eq_true rfl) dL_law_1291 ⟨Nat.le_trans (Nat.add_le_add_left (Nat.le_of_ble_eq_true rfl) _) hcl.1, Nat.le_trans (Nat.add_le_add_left (Nat.le_of_ble_eq_true rfl) _) hcl.2⟩ (fun v w h => ?_) (fun v bx1 w1 hp H locs hP hD hS => ?_)
  · rcases h with ⟨_, w1, _, _, h⟩ | ⟨_, w1, _, _, h⟩
    · exact ⟨_, w1, h⟩
    · exact ⟨_, w1, h⟩
  have key : ∃ (kv : Int32) (c1 : Nat → Int64), v = some (.int kv) ∧ bx1 = zbx y ab c1 ∧ ∀ vm wm, PM vm wm → (∃ r : Int64, vm = some (.long r) ∧ (kv = 0 → c1 0 = r)) ∧ I kv (rX ++ w1) (rM ++ wm) := by
    rcases hp with ⟨r, w2, hp, rfl, hw2⟩ | ⟨E, w2, hp, hv, hw2⟩
    · obtain ⟨rfl, rfl⟩ := List.cons.inj hw2
      obtain ⟨r1, er, hn⟩ := hn _ _ hp
      obtain rfl : r = r1 := by injection er with er; injection er
      refine ⟨0, _, rfl, rfl, fun vm wm hm => ?_⟩
      obtain ⟨rfl, hi⟩ := hn vm wm hm
      exact ⟨⟨r, rfl, fun _ => rfl⟩, hi⟩
    · obtain ⟨rfl, rfl⟩ := List.cons.inj hw2
      obtain ⟨rfl, hv⟩ := hv
      obtain ⟨-, hn⟩ := hE _ _ hp
      refine ⟨1, _, hv, rfl, fun vm wm hm => ?_⟩
      obtain ⟨⟨r, rfl⟩, hi⟩ := hn vm wm hm
      exact ⟨⟨r, rfl, fun h => absurd h (by decide)⟩, hi⟩
  obtain ⟨kv, c1, rfl, rfl, key⟩ := key
  refine lv_istore (lv' := [(5, .int kv), (4, .int i), (3, .ref ab), (2, .ref bm), (1, .ref b), (0, .ref sb)]) hx hb dL_law_1294 hl (by decide) rfl (fun ls hl => ?_)
  refine lv_aload_n hx hb dL_law_1296 rfl (lv_at hl 3 rfl) ?_
  refine zsc (k := 1) X hX hbl hbA hS dL_law_1297 dL_law_1298 dL_law_1300 (by decide) dL_law_1301 dL_law_1302 (lv_at hl 5 rfl) (lv_at hl 1 rfl) (hin 1 (by decide)) ?_
  refine zsc (k := 2) X hX hbl hbA hS dL_law_1303 dL_law_1304 dL_law_1306 (by decide) dL_law_1307 dL_law_1308 (lv_at hl 5 rfl) (lv_at hl 1 rfl) (hin 2 (by decide)) ?_
  refine zLm (rest := []) X e2 hM kf_RL_207 ⟨(Nat.le_of_ble_eq_true rfl), (Nat.le_of_ble_eq_true rfl)⟩ hP hD hS rfl b2 rfl rfl hl.1 (Nat.le_of_ble_eq_true rfl) dL_law_1309 ⟨?_, ?_⟩ (fun v wm hp H locs hP hD hS => ?_)
  · exact Nat.le_trans (Nat.add_le_add_left (Nat.le_of_ble_eq_true rfl) cells) hcl.1
  · exact Nat.le_trans (Nat.add_le_add_left (Nat.le_of_ble_eq_true rfl) slots) hcl.2
  obtain ⟨⟨r, rfl, hc⟩, hI⟩ := key v wm hp
  refine lv_lstore (lv' := [(6, .long r), (5, .int kv), (4, .int i), (3, .ref ab), (2, .ref bm), (1, .ref b), (0, .ref sb)]) hx hb dL_law_1312 hl (by decide) rfl (fun ls hl => ?_)
  obtain ⟨r3, c3, f3, e3, b3, hC3⟩ := hT _ _ _ hI
  refine lv_aload_n hx hb dL_law_1314 rfl (lv_at hl 4 rfl) ?_
  refine zLm (rest := []) X e3 hC3 kf_RL_145 ⟨(Nat.le_of_ble_eq_true rfl), (Nat.le_of_ble_eq_true rfl)⟩ hP hD hS rfl b3 rfl rfl hl.1 (Nat.le_of_ble_eq_true rfl) dL_law_1315 ⟨?_, ?_⟩ (fun v w3 hp H locs hP hD hS => ?_)
  · exact Nat.le_trans (Nat.add_le_add_left (Nat.le_of_ble_eq_true rfl) cells) hcl.1
  · exact Nat.le_trans (Nat.add_le_add_left (Nat.le_of_ble_eq_true rfl) slots) hcl.2
  obtain ⟨rfl, rfl⟩ := hp
  replace hP := zPp (List.Perm.append_right _ e3.symm) hP
  replace hD := zDp (List.Perm.append_right _ e3.symm) hD
  refine lv_iload hx hb dL_law_1318 (lv_at hl 1 rfl) ?_
  refine lv_icmp_eq (tgt := 1325) hx hb dL_law_1320 (by decide) (fun _ => ?_) (fun h => absurd rfl h)
  refine lv_iload hx hb dL_law_1325 (lv_at hl 1 rfl) ?_
  have hend : ∀ (H : Heap) (locs : List Loc), va_P D vwCl ((rM ++ wm) ++ (zbx y ab c1 :: (rX ++ w1))) H → va_D A ((rM ++ wm) ++ (zbx y ab c1 :: (rX ++ w1))) → va_S A s.heap H locs → W p l e room_1 s m args below meth c H locs (cells + 1 + 0 + 0) (slots + 6 + 0 + 0) Q (F0 m 1341 ls []) := by
    intro H locs hP hD hS
    refine lv_goto (tgt := 3102) hx hb dL_law_1341 (by decide) ?_
    refine W.widen (k := cells + 8) (n := slots + 64) (Nat.add_le_add_left (Nat.le_of_ble_eq_true rfl) cells) (Nat.add_le_add_left (Nat.le_of_ble_eq_true rfl) slots) ?_
    exact kk _ _ _ _ _ _ _ hI hP hD hS (zlv (zlv hl))
  refine lv_if_ne (tgt := 1341) hx hb dL_law_1327 (by decide) (fun _ => hend H locs hP hD hS) (fun hz => ?_)
  refine lv_aload_n hx hb dL_law_1330 rfl (lv_at hl 3 rfl) ?_
  refine lv_iconst (v := 0) hx hb dL_law_1331 (by decide) ?_
  refine va_lald hx hb hK (zPp List.perm_append_comm hP) 0 1 rfl rfl (by unfold vp_in; decide) dL_law_1332 ?_
  rw [show c1 (0 : Int32).toNatClampNeg = _ from hc hz]
  refine lv_lload hx hb dL_law_1333 (lv_at hl 0 rfl) ?_
  refine W.lcmp hx hb dL_law_1335 ?_
  refine lv_if_eq (tgt := 1341) hx hb dL_law_1336 (by decide) (fun _ => hend H locs hP hD hS) (fun h => absurd (zlcE _) h)
theorem kf_RL_210 : zCB RL 210 yX9_parted cX9_parted 6 (some .long) 2 ∧ Cond.instanceMethod yX9_parted ∈ wAll ∧ Cond.selects yX9_parted.cls yX9_parted yX9_parted ∈ wAll := ⟨⟨q_1688, q_9, q_1685, by decide +kernel⟩, q_1686, q_1687⟩
theorem kw_RL_208 : zCW RL 208 yL_parted cL_parted 5 (some .int) [(0, 9, 12, 19)] 4 := ⟨q_1052, q_0, q_1050, q_1051, by decide +kernel⟩
def zK19 (l : Launch) (D : va_G) (y : zY) (b bm : Nat) (I : Int32 → va_W → va_W → Prop) : Prop :=
  ∀ (t : Int32) (wX wM : va_W), I t wX wM → ∀ (x1 : Int32) (x2 : Int32), ∃ (rX cX rM cM : va_W) (fX fM : List Value) (P : Option Value → va_W → Prop) (PX : String → va_W → Prop) (PM : Option Value → va_W → Prop), wX.Perm (rX ++ cX) ∧ wM.Perm (rM ++ cM) ∧ cX[0]? = some (b, .inr (8, fX)) ∧ cM[0]? = some (bm, .inr (9, fM)) ∧ zCx l D y yX8_parted cX8_parted 8 (some .long) rm_X8_parted [.ref b, .int x1, .int x2] cX P PX ∧ zC l D y yX9_parted cX9_parted 6 (some .long) rm_X9_parted [.ref bm, .int x1, .int x2] cM PM ∧ (∀ v w, P v w → ∃ r : Int64, v = some (.long r) ∧ ∀ vm wm, PM vm wm → vm = some (.long r) ∧ I 0 (rX ++ w) (rM ++ wm)) ∧ (∀ E w, PX E w → (E = "java/lang/IndexOutOfBoundsException" ∧ ∀ vm wm, PM vm wm → (∃ r : Int64, vm = some (.long r)) ∧ I 1 (rX ++ w) (rM ++ wm)))
set_option maxHeartbeats 4000000 in
theorem zlk_19 {p : Program} {l : Launch} {e : Env} {s : State} {m : MethodId} {args : Array Value} {below : List Frame} {meth : Method} {c : Code} {H : Heap} {locs : List Loc} {cells slots : Nat} {Q : State → Prop} {D : va_G} {y : zY} {A : Nat → Prop} {ls : Array Slot} {wX wM : va_W} {ab b bm sb L : Nat} {cbx : Nat → Int64} {xs : Nat → Int32} {I : Int32 → va_W → va_W → Prop} {t i : Int32} (X : zX p s m args meth c D y A RL cL_law 8 (some .boolean)) (hT : zKT l D y bm I) (hk : zK19 l D y b bm I) (hX : va_X sb L xs s s.heap) (hbl : sb < s.heap.size) (hbA : ¬ A sb) (hin : ∀ k : Int32, 0 ≤ k.toInt ∧ k.toInt < 8 → vp_in (i + k) L) (hI : I t wX wM) (hP : va_P D vwCl (wM ++ (zbx y ab cbx :: wX)) H) (hD : va_D A (wM ++ (zbx y ab cbx :: wX))) (hS : va_S A s.heap H locs) (hl : lv_has ls 8 [(4, .int i), (3, .ref ab), (2, .ref bm), (1, .ref b), (0, .ref sb)]) (hcl : cells + 8 ≤ room_1.cells ∧ slots + 64 ≤ room_1.slots)
    (kk : ∀ (t : Int32) (wX wM : va_W) (cbx : Nat → Int64) (H : Heap) (locs : List Loc) (ls : Array Slot), I t wX wM → va_P D vwCl (wM ++ (zbx y ab cbx :: wX)) H → va_D A (wM ++ (zbx y ab cbx :: wX)) → va_S A s.heap H locs → lv_has ls 8 [(4, .int i), (3, .ref ab), (2, .ref bm), (1, .ref b), (0, .ref sb)] → W p l e room_1 s m args below meth c H locs (cells + 8) (slots + 64) Q (F0 m 3102 ls [])) : W p l e room_1 s m args below meth c H locs cells slots Q (F0 m 1344 ls []) := by
  obtain ⟨hx, hb, hr9, hml, hown, hts, hK, hA, hlocks⟩ := id X
  refine lv_aload_n hx hb dL_law_1344 rfl (lv_at hl 3 rfl) ?_
  refine zsc (k := 1) X hX hbl hbA hS dL_law_1345 dL_law_1346 dL_law_1348 (by decide) dL_law_1349 dL_law_1350 (lv_at hl 4 rfl) (lv_at hl 0 rfl) (hin 1 (by decide)) ?_
  refine zsc (k := 2) X hX hbl hbA hS dL_law_1351 dL_law_1352 dL_law_1354 (by decide) dL_law_1355 dL_law_1356 (lv_at hl 4 rfl) (lv_at hl 0 rfl) (hin 2 (by decide)) ?_
  obtain ⟨rX, cX, rM, cM, fX, fM, P, PX, PM, e1, e2, b1, b2, hC, hM, hn, hE⟩ := hk t wX wM hI (xs (i + 1).toNatClampNeg) (xs (i + 2).toNatClampNeg) 
  refine lv_aload_n hx hb dL_law_1357 rfl (lv_at hl 1 rfl) ?_
  have hw := zw_L_parted l D y b ab cbx (xs (i + 1).toNatClampNeg) (xs (i + 2).toNatClampNeg) cX fX 0 b1 P PX hC (fun v w h => (hn v w h).imp fun _ z => z.1) (fun E w h => (hE E w h).1)
  refine zLw (rest := []) X e1 hw kw_RL_208 ⟨(Nat.le_of_ble_eq_true rfl), (Nat.le_of_ble_eq_true rfl)⟩ hP hD hS rfl rfl hl.1 (Nat.le_of_ble_eq_true rfl) dL_law_1358 ⟨Nat.le_trans (Nat.add_le_add_left (Nat.le_of_ble_eq_true rfl) _) hcl.1, Nat.le_trans (Nat.add_le_add_left (Nat.le_of_ble_eq_true rfl) _) hcl.2⟩ (fun v w h => ?_) (fun v bx1 w1 hp H locs hP hD hS => ?_)
  · rcases h with ⟨_, w1, _, _, h⟩ | ⟨_, w1, _, _, h⟩
    · exact ⟨_, w1, h⟩
    · exact ⟨_, w1, h⟩
  have key : ∃ (kv : Int32) (c1 : Nat → Int64), v = some (.int kv) ∧ bx1 = zbx y ab c1 ∧ ∀ vm wm, PM vm wm → (∃ r : Int64, vm = some (.long r) ∧ (kv = 0 → c1 0 = r)) ∧ I kv (rX ++ w1) (rM ++ wm) := by
    rcases hp with ⟨r, w2, hp, rfl, hw2⟩ | ⟨E, w2, hp, hv, hw2⟩
    · obtain ⟨rfl, rfl⟩ := List.cons.inj hw2
      obtain ⟨r1, er, hn⟩ := hn _ _ hp
      obtain rfl : r = r1 := by injection er with er; injection er
      refine ⟨0, _, rfl, rfl, fun vm wm hm => ?_⟩
      obtain ⟨rfl, hi⟩ := hn vm wm hm
      exact ⟨⟨r, rfl, fun _ => rfl⟩, hi⟩
    · obtain ⟨rfl, rfl⟩ := List.cons.inj hw2
      obtain ⟨rfl, hv⟩ := hv
      obtain ⟨-, hn⟩ := hE _ _ hp
      refine ⟨1, _, hv, rfl, fun vm wm hm => ?_⟩
      obtain ⟨⟨r, rfl⟩, hi⟩ := hn vm wm hm
      exact ⟨⟨r, rfl, fun h => absurd h (by decide)⟩, hi⟩
  obtain ⟨kv, c1, rfl, rfl, key⟩ := key
  refine lv_istore (lv' := [(5, .int kv), (4, .int i), (3, .ref ab), (2, .ref bm), (1, .ref b), (0, .ref sb)]) hx hb dL_law_1361 hl (by decide) rfl (fun ls hl => ?_)
  refine lv_aload_n hx hb dL_law_1363 rfl (lv_at hl 3 rfl) ?_
  refine zsc (k := 1) X hX hbl hbA hS dL_law_1364 dL_law_1365 dL_law_1367 (by decide) dL_law_1368 dL_law_1369 (lv_at hl 5 rfl) (lv_at hl 1 rfl) (hin 1 (by decide)) ?_
  refine zsc (k := 2) X hX hbl hbA hS dL_law_1370 dL_law_1371 dL_law_1373 (by decide) dL_law_1374 dL_law_1375 (lv_at hl 5 rfl) (lv_at hl 1 rfl) (hin 2 (by decide)) ?_
  refine zLm (rest := []) X e2 hM kf_RL_210 ⟨(Nat.le_of_ble_eq_true rfl), (Nat.le_of_ble_eq_true rfl)⟩ hP hD hS rfl b2 rfl rfl hl.1 (Nat.le_of_ble_eq_true rfl) dL_law_1376 ⟨?_, ?_⟩ (fun v wm hp H locs hP hD hS => ?_)
  · exact Nat.le_trans (Nat.add_le_add_left (Nat.le_of_ble_eq_true rfl) cells) hcl.1
  · exact Nat.le_trans (Nat.add_le_add_left (Nat.le_of_ble_eq_true rfl) slots) hcl.2
  obtain ⟨⟨r, rfl, hc⟩, hI⟩ := key v wm hp
  refine lv_lstore (lv' := [(6, .long r), (5, .int kv), (4, .int i), (3, .ref ab), (2, .ref bm), (1, .ref b), (0, .ref sb)]) hx hb dL_law_1379 hl (by decide) rfl (fun ls hl => ?_)
  obtain ⟨r3, c3, f3, e3, b3, hC3⟩ := hT _ _ _ hI
  refine lv_aload_n hx hb dL_law_1381 rfl (lv_at hl 4 rfl) ?_
  refine zLm (rest := []) X e3 hC3 kf_RL_145 ⟨(Nat.le_of_ble_eq_true rfl), (Nat.le_of_ble_eq_true rfl)⟩ hP hD hS rfl b3 rfl rfl hl.1 (Nat.le_of_ble_eq_true rfl) dL_law_1382 ⟨?_, ?_⟩ (fun v w3 hp H locs hP hD hS => ?_)
  · exact Nat.le_trans (Nat.add_le_add_left (Nat.le_of_ble_eq_true rfl) cells) hcl.1
  · exact Nat.le_trans (Nat.add_le_add_left (Nat.le_of_ble_eq_true rfl) slots) hcl.2
  obtain ⟨rfl, rfl⟩ := hp
  replace hP := zPp (List.Perm.append_right _ e3.symm) hP
  replace hD := zDp (List.Perm.append_right _ e3.symm) hD
  refine lv_iload hx hb dL_law_1385 (lv_at hl 1 rfl) ?_
  refine lv_icmp_eq (tgt := 1392) hx hb dL_law_1387 (by decide) (fun _ => ?_) (fun h => absurd rfl h)
  refine lv_iload hx hb dL_law_1392 (lv_at hl 1 rfl) ?_
  have hend : ∀ (H : Heap) (locs : List Loc), va_P D vwCl ((rM ++ wm) ++ (zbx y ab c1 :: (rX ++ w1))) H → va_D A ((rM ++ wm) ++ (zbx y ab c1 :: (rX ++ w1))) → va_S A s.heap H locs → W p l e room_1 s m args below meth c H locs (cells + 1 + 0 + 0) (slots + 6 + 0 + 0) Q (F0 m 1408 ls []) := by
    intro H locs hP hD hS
    refine lv_goto (tgt := 3102) hx hb dL_law_1408 (by decide) ?_
    refine W.widen (k := cells + 8) (n := slots + 64) (Nat.add_le_add_left (Nat.le_of_ble_eq_true rfl) cells) (Nat.add_le_add_left (Nat.le_of_ble_eq_true rfl) slots) ?_
    exact kk _ _ _ _ _ _ _ hI hP hD hS (zlv (zlv hl))
  refine lv_if_ne (tgt := 1408) hx hb dL_law_1394 (by decide) (fun _ => hend H locs hP hD hS) (fun hz => ?_)
  refine lv_aload_n hx hb dL_law_1397 rfl (lv_at hl 3 rfl) ?_
  refine lv_iconst (v := 0) hx hb dL_law_1398 (by decide) ?_
  refine va_lald hx hb hK (zPp List.perm_append_comm hP) 0 1 rfl rfl (by unfold vp_in; decide) dL_law_1399 ?_
  rw [show c1 (0 : Int32).toNatClampNeg = _ from hc hz]
  refine lv_lload hx hb dL_law_1400 (lv_at hl 0 rfl) ?_
  refine W.lcmp hx hb dL_law_1402 ?_
  refine lv_if_eq (tgt := 1408) hx hb dL_law_1403 (by decide) (fun _ => hend H locs hP hD hS) (fun h => absurd (zlcE _) h)
theorem kf_RL_213 : zCB RL 213 yX9_pair cX9_pair 10 (some .long) 3 ∧ Cond.instanceMethod yX9_pair ∈ wAll ∧ Cond.selects yX9_pair.cls yX9_pair yX9_pair ∈ wAll := ⟨⟨q_1676, q_9, q_1673, by decide +kernel⟩, q_1674, q_1675⟩
theorem kw_RL_211 : zCW RL 211 yL_pair cL_pair 6 (some .int) [(0, 11, 14, 19)] 5 := ⟨q_1068, q_0, q_1066, q_1067, by decide +kernel⟩
def zK20 (l : Launch) (D : va_G) (y : zY) (b bm : Nat) (I : Int32 → va_W → va_W → Prop) : Prop :=
  ∀ (t : Int32) (wX wM : va_W), I t wX wM → ∀ (x1 : Int32) (x2 : Int32) (x3 : Int32), ∃ (rX cX rM cM : va_W) (fX fM : List Value) (P : Option Value → va_W → Prop) (PX : String → va_W → Prop) (PM : Option Value → va_W → Prop), wX.Perm (rX ++ cX) ∧ wM.Perm (rM ++ cM) ∧ cX[0]? = some (b, .inr (8, fX)) ∧ cM[0]? = some (bm, .inr (9, fM)) ∧ zCx l D y yX8_pair cX8_pair 10 (some .long) rm_X8_pair [.ref b, .int x1, .int x2, .int x3] cX P PX ∧ zC l D y yX9_pair cX9_pair 10 (some .long) rm_X9_pair [.ref bm, .int x1, .int x2, .int x3] cM PM ∧ (∀ v w, P v w → ∃ r : Int64, v = some (.long r) ∧ ∀ vm wm, PM vm wm → vm = some (.long r) ∧ I 0 (rX ++ w) (rM ++ wm)) ∧ (∀ E w, PX E w → (E = "java/lang/IndexOutOfBoundsException" ∧ ∀ vm wm, PM vm wm → (∃ r : Int64, vm = some (.long r)) ∧ I 1 (rX ++ w) (rM ++ wm)))
set_option maxHeartbeats 4000000 in
theorem zlk_20 {p : Program} {l : Launch} {e : Env} {s : State} {m : MethodId} {args : Array Value} {below : List Frame} {meth : Method} {c : Code} {H : Heap} {locs : List Loc} {cells slots : Nat} {Q : State → Prop} {D : va_G} {y : zY} {A : Nat → Prop} {ls : Array Slot} {wX wM : va_W} {ab b bm sb L : Nat} {cbx : Nat → Int64} {xs : Nat → Int32} {I : Int32 → va_W → va_W → Prop} {t i : Int32} (X : zX p s m args meth c D y A RL cL_law 8 (some .boolean)) (hT : zKT l D y bm I) (hk : zK20 l D y b bm I) (hX : va_X sb L xs s s.heap) (hbl : sb < s.heap.size) (hbA : ¬ A sb) (hin : ∀ k : Int32, 0 ≤ k.toInt ∧ k.toInt < 8 → vp_in (i + k) L) (hI : I t wX wM) (hP : va_P D vwCl (wM ++ (zbx y ab cbx :: wX)) H) (hD : va_D A (wM ++ (zbx y ab cbx :: wX))) (hS : va_S A s.heap H locs) (hl : lv_has ls 8 [(4, .int i), (3, .ref ab), (2, .ref bm), (1, .ref b), (0, .ref sb)]) (hcl : cells + 8 ≤ room_1.cells ∧ slots + 64 ≤ room_1.slots)
    (kk : ∀ (t : Int32) (wX wM : va_W) (cbx : Nat → Int64) (H : Heap) (locs : List Loc) (ls : Array Slot), I t wX wM → va_P D vwCl (wM ++ (zbx y ab cbx :: wX)) H → va_D A (wM ++ (zbx y ab cbx :: wX)) → va_S A s.heap H locs → lv_has ls 8 [(4, .int i), (3, .ref ab), (2, .ref bm), (1, .ref b), (0, .ref sb)] → W p l e room_1 s m args below meth c H locs (cells + 8) (slots + 64) Q (F0 m 3102 ls [])) : W p l e room_1 s m args below meth c H locs cells slots Q (F0 m 1411 ls []) := by
  obtain ⟨hx, hb, hr9, hml, hown, hts, hK, hA, hlocks⟩ := id X
  refine lv_aload_n hx hb dL_law_1411 rfl (lv_at hl 3 rfl) ?_
  refine zsc (k := 1) X hX hbl hbA hS dL_law_1412 dL_law_1413 dL_law_1415 (by decide) dL_law_1416 dL_law_1417 (lv_at hl 4 rfl) (lv_at hl 0 rfl) (hin 1 (by decide)) ?_
  refine zsc (k := 2) X hX hbl hbA hS dL_law_1418 dL_law_1419 dL_law_1421 (by decide) dL_law_1422 dL_law_1423 (lv_at hl 4 rfl) (lv_at hl 0 rfl) (hin 2 (by decide)) ?_
  refine zsc (k := 3) X hX hbl hbA hS dL_law_1424 dL_law_1425 dL_law_1427 (by decide) dL_law_1428 dL_law_1429 (lv_at hl 4 rfl) (lv_at hl 0 rfl) (hin 3 (by decide)) ?_
  obtain ⟨rX, cX, rM, cM, fX, fM, P, PX, PM, e1, e2, b1, b2, hC, hM, hn, hE⟩ := hk t wX wM hI (xs (i + 1).toNatClampNeg) (xs (i + 2).toNatClampNeg) (xs (i + 3).toNatClampNeg) 
  refine lv_aload_n hx hb dL_law_1430 rfl (lv_at hl 1 rfl) ?_
  have hw := zw_L_pair l D y b ab cbx (xs (i + 1).toNatClampNeg) (xs (i + 2).toNatClampNeg) (xs (i + 3).toNatClampNeg) cX fX 0 b1 P PX hC (fun v w h => (hn v w h).imp fun _ z => z.1) (fun E w h => (hE E w h).1)
  refine zLw (rest := []) X e1 hw kw_RL_211 ⟨(Nat.le_of_ble_eq_true rfl), (Nat.le_of_ble_eq_true rfl)⟩ hP hD hS rfl rfl hl.1 (Nat.le_of_ble_eq_true rfl) dL_law_1431 ⟨Nat.le_trans (Nat.add_le_add_left (Nat.le_of_ble_eq_true rfl) _) hcl.1, Nat.le_trans (Nat.add_le_add_left (Nat.le_of_ble_eq_true rfl) _) hcl.2⟩ (fun v w h => ?_) (fun v bx1 w1 hp H locs hP hD hS => ?_)
  · rcases h with ⟨_, w1, _, _, h⟩ | ⟨_, w1, _, _, h⟩
    · exact ⟨_, w1, h⟩
    · exact ⟨_, w1, h⟩
  have key : ∃ (kv : Int32) (c1 : Nat → Int64), v = some (.int kv) ∧ bx1 = zbx y ab c1 ∧ ∀ vm wm, PM vm wm → (∃ r : Int64, vm = some (.long r) ∧ (kv = 0 → c1 0 = r)) ∧ I kv (rX ++ w1) (rM ++ wm) := by
    rcases hp with ⟨r, w2, hp, rfl, hw2⟩ | ⟨E, w2, hp, hv, hw2⟩
    · obtain ⟨rfl, rfl⟩ := List.cons.inj hw2
      obtain ⟨r1, er, hn⟩ := hn _ _ hp
      obtain rfl : r = r1 := by injection er with er; injection er
      refine ⟨0, _, rfl, rfl, fun vm wm hm => ?_⟩
      obtain ⟨rfl, hi⟩ := hn vm wm hm
      exact ⟨⟨r, rfl, fun _ => rfl⟩, hi⟩
    · obtain ⟨rfl, rfl⟩ := List.cons.inj hw2
      obtain ⟨rfl, hv⟩ := hv
      obtain ⟨-, hn⟩ := hE _ _ hp
      refine ⟨1, _, hv, rfl, fun vm wm hm => ?_⟩
      obtain ⟨⟨r, rfl⟩, hi⟩ := hn vm wm hm
      exact ⟨⟨r, rfl, fun h => absurd h (by decide)⟩, hi⟩
  obtain ⟨kv, c1, rfl, rfl, key⟩ := key
  refine lv_istore (lv' := [(5, .int kv), (4, .int i), (3, .ref ab), (2, .ref bm), (1, .ref b), (0, .ref sb)]) hx hb dL_law_1434 hl (by decide) rfl (fun ls hl => ?_)
  refine lv_aload_n hx hb dL_law_1436 rfl (lv_at hl 3 rfl) ?_
  refine zsc (k := 1) X hX hbl hbA hS dL_law_1437 dL_law_1438 dL_law_1440 (by decide) dL_law_1441 dL_law_1442 (lv_at hl 5 rfl) (lv_at hl 1 rfl) (hin 1 (by decide)) ?_
  refine zsc (k := 2) X hX hbl hbA hS dL_law_1443 dL_law_1444 dL_law_1446 (by decide) dL_law_1447 dL_law_1448 (lv_at hl 5 rfl) (lv_at hl 1 rfl) (hin 2 (by decide)) ?_
  refine zsc (k := 3) X hX hbl hbA hS dL_law_1449 dL_law_1450 dL_law_1452 (by decide) dL_law_1453 dL_law_1454 (lv_at hl 5 rfl) (lv_at hl 1 rfl) (hin 3 (by decide)) ?_
  refine zLm (rest := []) X e2 hM kf_RL_213 ⟨(Nat.le_of_ble_eq_true rfl), (Nat.le_of_ble_eq_true rfl)⟩ hP hD hS rfl b2 rfl rfl hl.1 (Nat.le_of_ble_eq_true rfl) dL_law_1455 ⟨?_, ?_⟩ (fun v wm hp H locs hP hD hS => ?_)
  · exact Nat.le_trans (Nat.add_le_add_left (Nat.le_of_ble_eq_true rfl) cells) hcl.1
  · exact Nat.le_trans (Nat.add_le_add_left (Nat.le_of_ble_eq_true rfl) slots) hcl.2
  obtain ⟨⟨r, rfl, hc⟩, hI⟩ := key v wm hp
  refine lv_lstore (lv' := [(6, .long r), (5, .int kv), (4, .int i), (3, .ref ab), (2, .ref bm), (1, .ref b), (0, .ref sb)]) hx hb dL_law_1458 hl (by decide) rfl (fun ls hl => ?_)
  obtain ⟨r3, c3, f3, e3, b3, hC3⟩ := hT _ _ _ hI
  refine lv_aload_n hx hb dL_law_1460 rfl (lv_at hl 4 rfl) ?_
  refine zLm (rest := []) X e3 hC3 kf_RL_145 ⟨(Nat.le_of_ble_eq_true rfl), (Nat.le_of_ble_eq_true rfl)⟩ hP hD hS rfl b3 rfl rfl hl.1 (Nat.le_of_ble_eq_true rfl) dL_law_1461 ⟨?_, ?_⟩ (fun v w3 hp H locs hP hD hS => ?_)
  · exact Nat.le_trans (Nat.add_le_add_left (Nat.le_of_ble_eq_true rfl) cells) hcl.1
  · exact Nat.le_trans (Nat.add_le_add_left (Nat.le_of_ble_eq_true rfl) slots) hcl.2
  obtain ⟨rfl, rfl⟩ := hp
  replace hP := zPp (List.Perm.append_right _ e3.symm) hP
  replace hD := zDp (List.Perm.append_right _ e3.symm) hD
  refine lv_iload hx hb dL_law_1464 (lv_at hl 1 rfl) ?_
  refine lv_icmp_eq (tgt := 1471) hx hb dL_law_1466 (by decide) (fun _ => ?_) (fun h => absurd rfl h)
  refine lv_iload hx hb dL_law_1471 (lv_at hl 1 rfl) ?_
  have hend : ∀ (H : Heap) (locs : List Loc), va_P D vwCl ((rM ++ wm) ++ (zbx y ab c1 :: (rX ++ w1))) H → va_D A ((rM ++ wm) ++ (zbx y ab c1 :: (rX ++ w1))) → va_S A s.heap H locs → W p l e room_1 s m args below meth c H locs (cells + 2 + 0 + 0) (slots + 12 + 0 + 0) Q (F0 m 1487 ls []) := by
    intro H locs hP hD hS
    refine lv_goto (tgt := 3102) hx hb dL_law_1487 (by decide) ?_
    refine W.widen (k := cells + 8) (n := slots + 64) (Nat.add_le_add_left (Nat.le_of_ble_eq_true rfl) cells) (Nat.add_le_add_left (Nat.le_of_ble_eq_true rfl) slots) ?_
    exact kk _ _ _ _ _ _ _ hI hP hD hS (zlv (zlv hl))
  refine lv_if_ne (tgt := 1487) hx hb dL_law_1473 (by decide) (fun _ => hend H locs hP hD hS) (fun hz => ?_)
  refine lv_aload_n hx hb dL_law_1476 rfl (lv_at hl 3 rfl) ?_
  refine lv_iconst (v := 0) hx hb dL_law_1477 (by decide) ?_
  refine va_lald hx hb hK (zPp List.perm_append_comm hP) 0 1 rfl rfl (by unfold vp_in; decide) dL_law_1478 ?_
  rw [show c1 (0 : Int32).toNatClampNeg = _ from hc hz]
  refine lv_lload hx hb dL_law_1479 (lv_at hl 0 rfl) ?_
  refine W.lcmp hx hb dL_law_1481 ?_
  refine lv_if_eq (tgt := 1487) hx hb dL_law_1482 (by decide) (fun _ => hend H locs hP hD hS) (fun h => absurd (zlcE _) h)
theorem kf_RL_216 : zCB RL 216 yX9_tried cX9_tried 5 (some .int) 2 ∧ Cond.instanceMethod yX9_tried ∈ wAll ∧ Cond.selects yX9_tried.cls yX9_tried yX9_tried ∈ wAll := ⟨⟨q_1817, q_9, q_1814, by decide +kernel⟩, q_1815, q_1816⟩
theorem kw_RL_214 : zCW RL 214 yL_tried cL_tried 5 (some .int) [(0, 10, 13, 29)] 4 := ⟨q_1075, q_0, q_1073, q_1074, by decide +kernel⟩
def zK21 (l : Launch) (D : va_G) (y : zY) (b bm : Nat) (I : Int32 → va_W → va_W → Prop) : Prop :=
  ∀ (t : Int32) (wX wM : va_W), I t wX wM → ∀ (x1 : Int32) (x2 : Int32), ∃ (rX cX rM cM : va_W) (fX fM : List Value) (P : Option Value → va_W → Prop) (PX : String → va_W → Prop) (PM : Option Value → va_W → Prop), wX.Perm (rX ++ cX) ∧ wM.Perm (rM ++ cM) ∧ cX[0]? = some (b, .inr (8, fX)) ∧ cM[0]? = some (bm, .inr (9, fM)) ∧ zCx l D y yX8_tried cX8_tried 3 (some .int) rm_X8_tried [.ref b, .int x1, .int x2] cX P PX ∧ zC l D y yX9_tried cX9_tried 5 (some .int) rm_X9_tried [.ref bm, .int x1, .int x2] cM PM ∧ (∀ v w, P v w → ∃ r : Int32, v = some (.int r) ∧ ∀ vm wm, PM vm wm → vm = some (.int r) ∧ I 0 (rX ++ w) (rM ++ wm)) ∧ (∀ E w, PX E w → (E = "java/lang/IllegalStateException" ∧ ∀ vm wm, PM vm wm → (∃ r : Int32, vm = some (.int r)) ∧ I 1 (rX ++ w) (rM ++ wm)))
set_option maxHeartbeats 4000000 in
theorem zlk_21 {p : Program} {l : Launch} {e : Env} {s : State} {m : MethodId} {args : Array Value} {below : List Frame} {meth : Method} {c : Code} {H : Heap} {locs : List Loc} {cells slots : Nat} {Q : State → Prop} {D : va_G} {y : zY} {A : Nat → Prop} {ls : Array Slot} {wX wM : va_W} {ab b bm sb L : Nat} {cbx : Nat → Int64} {xs : Nat → Int32} {I : Int32 → va_W → va_W → Prop} {t i : Int32} (X : zX p s m args meth c D y A RL cL_law 8 (some .boolean)) (hT : zKT l D y bm I) (hk : zK21 l D y b bm I) (hX : va_X sb L xs s s.heap) (hbl : sb < s.heap.size) (hbA : ¬ A sb) (hin : ∀ k : Int32, 0 ≤ k.toInt ∧ k.toInt < 8 → vp_in (i + k) L) (hI : I t wX wM) (hP : va_P D vwCl (wM ++ (zbx y ab cbx :: wX)) H) (hD : va_D A (wM ++ (zbx y ab cbx :: wX))) (hS : va_S A s.heap H locs) (hl : lv_has ls 8 [(4, .int i), (3, .ref ab), (2, .ref bm), (1, .ref b), (0, .ref sb)]) (hcl : cells + 8 ≤ room_1.cells ∧ slots + 64 ≤ room_1.slots)
    (kk : ∀ (t : Int32) (wX wM : va_W) (cbx : Nat → Int64) (H : Heap) (locs : List Loc) (ls : Array Slot), I t wX wM → va_P D vwCl (wM ++ (zbx y ab cbx :: wX)) H → va_D A (wM ++ (zbx y ab cbx :: wX)) → va_S A s.heap H locs → lv_has ls 8 [(4, .int i), (3, .ref ab), (2, .ref bm), (1, .ref b), (0, .ref sb)] → W p l e room_1 s m args below meth c H locs (cells + 8) (slots + 64) Q (F0 m 3102 ls [])) : W p l e room_1 s m args below meth c H locs cells slots Q (F0 m 1490 ls []) := by
  obtain ⟨hx, hb, hr9, hml, hown, hts, hK, hA, hlocks⟩ := id X
  refine lv_aload_n hx hb dL_law_1490 rfl (lv_at hl 3 rfl) ?_
  refine zsc (k := 1) X hX hbl hbA hS dL_law_1491 dL_law_1492 dL_law_1494 (by decide) dL_law_1495 dL_law_1496 (lv_at hl 4 rfl) (lv_at hl 0 rfl) (hin 1 (by decide)) ?_
  refine zsc (k := 2) X hX hbl hbA hS dL_law_1497 dL_law_1498 dL_law_1500 (by decide) dL_law_1501 dL_law_1502 (lv_at hl 4 rfl) (lv_at hl 0 rfl) (hin 2 (by decide)) ?_
  obtain ⟨rX, cX, rM, cM, fX, fM, P, PX, PM, e1, e2, b1, b2, hC, hM, hn, hE⟩ := hk t wX wM hI (xs (i + 1).toNatClampNeg) (xs (i + 2).toNatClampNeg) 
  refine lv_aload_n hx hb dL_law_1503 rfl (lv_at hl 1 rfl) ?_
  have hw := zw_L_tried l D y b ab cbx (xs (i + 1).toNatClampNeg) (xs (i + 2).toNatClampNeg) cX fX 0 b1 P PX hC (fun v w h => (hn v w h).imp fun _ z => z.1) (fun E w h => (hE E w h).1)
  refine zLw (rest := []) X e1 hw kw_RL_214 ⟨(Nat.le_of_ble_eq_true rfl), (Nat.le_of_ble_eq_true rfl)⟩ hP hD hS rfl rfl hl.1 (Nat.le_of_ble_eq_true rfl) dL_law_1504 ⟨Nat.le_trans (Nat.add_le_add_left (Nat.le_of_ble_eq_true rfl) _) hcl.1, Nat.le_trans (Nat.add_le_add_left (Nat.le_of_ble_eq_true rfl) _) hcl.2⟩ (fun v w h => ?_) (fun v bx1 w1 hp H locs hP hD hS => ?_)
  · rcases h with ⟨_, w1, _, _, h⟩ | ⟨_, w1, _, _, h⟩
    · exact ⟨_, w1, h⟩
    · exact ⟨_, w1, h⟩
  have key : ∃ (kv : Int32) (c1 : Nat → Int64), v = some (.int kv) ∧ bx1 = zbx y ab c1 ∧ ∀ vm wm, PM vm wm → (∃ r : Int32, vm = some (.int r) ∧ (kv = 0 → c1 0 = r.toInt64)) ∧ I kv (rX ++ w1) (rM ++ wm) := by
    rcases hp with ⟨r, w2, hp, rfl, hw2⟩ | ⟨E, w2, hp, hv, hw2⟩
    · obtain ⟨rfl, rfl⟩ := List.cons.inj hw2
      obtain ⟨r1, er, hn⟩ := hn _ _ hp
      obtain rfl : r = r1 := by injection er with er; injection er
      refine ⟨0, _, rfl, rfl, fun vm wm hm => ?_⟩
      obtain ⟨rfl, hi⟩ := hn vm wm hm
      exact ⟨⟨r, rfl, fun _ => rfl⟩, hi⟩
    · obtain ⟨rfl, rfl⟩ := List.cons.inj hw2
      obtain ⟨rfl, hv⟩ := hv
      obtain ⟨-, hn⟩ := hE _ _ hp
      refine ⟨1, _, hv, rfl, fun vm wm hm => ?_⟩
      obtain ⟨⟨r, rfl⟩, hi⟩ := hn vm wm hm
      exact ⟨⟨r, rfl, fun h => absurd h (by decide)⟩, hi⟩
  obtain ⟨kv, c1, rfl, rfl, key⟩ := key
  refine lv_istore (lv' := [(5, .int kv), (4, .int i), (3, .ref ab), (2, .ref bm), (1, .ref b), (0, .ref sb)]) hx hb dL_law_1507 hl (by decide) rfl (fun ls hl => ?_)
  refine lv_aload_n hx hb dL_law_1509 rfl (lv_at hl 3 rfl) ?_
  refine zsc (k := 1) X hX hbl hbA hS dL_law_1510 dL_law_1511 dL_law_1513 (by decide) dL_law_1514 dL_law_1515 (lv_at hl 5 rfl) (lv_at hl 1 rfl) (hin 1 (by decide)) ?_
  refine zsc (k := 2) X hX hbl hbA hS dL_law_1516 dL_law_1517 dL_law_1519 (by decide) dL_law_1520 dL_law_1521 (lv_at hl 5 rfl) (lv_at hl 1 rfl) (hin 2 (by decide)) ?_
  refine zLm (rest := []) X e2 hM kf_RL_216 ⟨(Nat.le_of_ble_eq_true rfl), (Nat.le_of_ble_eq_true rfl)⟩ hP hD hS rfl b2 rfl rfl hl.1 (Nat.le_of_ble_eq_true rfl) dL_law_1522 ⟨?_, ?_⟩ (fun v wm hp H locs hP hD hS => ?_)
  · exact Nat.le_trans (Nat.add_le_add_left (Nat.le_of_ble_eq_true rfl) cells) hcl.1
  · exact Nat.le_trans (Nat.add_le_add_left (Nat.le_of_ble_eq_true rfl) slots) hcl.2
  obtain ⟨⟨r, rfl, hc⟩, hI⟩ := key v wm hp
  refine lv_istore (lv' := [(6, .int r), (5, .int kv), (4, .int i), (3, .ref ab), (2, .ref bm), (1, .ref b), (0, .ref sb)]) hx hb dL_law_1525 hl (by decide) rfl (fun ls hl => ?_)
  obtain ⟨r3, c3, f3, e3, b3, hC3⟩ := hT _ _ _ hI
  refine lv_aload_n hx hb dL_law_1527 rfl (lv_at hl 4 rfl) ?_
  refine zLm (rest := []) X e3 hC3 kf_RL_145 ⟨(Nat.le_of_ble_eq_true rfl), (Nat.le_of_ble_eq_true rfl)⟩ hP hD hS rfl b3 rfl rfl hl.1 (Nat.le_of_ble_eq_true rfl) dL_law_1528 ⟨?_, ?_⟩ (fun v w3 hp H locs hP hD hS => ?_)
  · exact Nat.le_trans (Nat.add_le_add_left (Nat.le_of_ble_eq_true rfl) cells) hcl.1
  · exact Nat.le_trans (Nat.add_le_add_left (Nat.le_of_ble_eq_true rfl) slots) hcl.2
  obtain ⟨rfl, rfl⟩ := hp
  replace hP := zPp (List.Perm.append_right _ e3.symm) hP
  replace hD := zDp (List.Perm.append_right _ e3.symm) hD
  refine lv_iload hx hb dL_law_1531 (lv_at hl 1 rfl) ?_
  refine lv_icmp_eq (tgt := 1538) hx hb dL_law_1533 (by decide) (fun _ => ?_) (fun h => absurd rfl h)
  refine lv_iload hx hb dL_law_1538 (lv_at hl 1 rfl) ?_
  have hend : ∀ (H : Heap) (locs : List Loc), va_P D vwCl ((rM ++ wm) ++ (zbx y ab c1 :: (rX ++ w1))) H → va_D A ((rM ++ wm) ++ (zbx y ab c1 :: (rX ++ w1))) → va_S A s.heap H locs → W p l e room_1 s m args below meth c H locs (cells + 1 + 0 + 0) (slots + 6 + 0 + 0) Q (F0 m 1555 ls []) := by
    intro H locs hP hD hS
    refine lv_goto (tgt := 3102) hx hb dL_law_1555 (by decide) ?_
    refine W.widen (k := cells + 8) (n := slots + 64) (Nat.add_le_add_left (Nat.le_of_ble_eq_true rfl) cells) (Nat.add_le_add_left (Nat.le_of_ble_eq_true rfl) slots) ?_
    exact kk _ _ _ _ _ _ _ hI hP hD hS (zlv (zlv hl))
  refine lv_if_ne (tgt := 1555) hx hb dL_law_1540 (by decide) (fun _ => hend H locs hP hD hS) (fun hz => ?_)
  refine lv_aload_n hx hb dL_law_1543 rfl (lv_at hl 3 rfl) ?_
  refine lv_iconst (v := 0) hx hb dL_law_1544 (by decide) ?_
  refine va_lald hx hb hK (zPp List.perm_append_comm hP) 0 1 rfl rfl (by unfold vp_in; decide) dL_law_1545 ?_
  rw [show c1 (0 : Int32).toNatClampNeg = _ from hc hz]
  refine lv_iload hx hb dL_law_1546 (lv_at hl 0 rfl) ?_
  refine lv_i2l (v := r.toInt64) hx hb dL_law_1548 rfl ?_
  refine W.lcmp hx hb dL_law_1549 ?_
  refine lv_if_eq (tgt := 1555) hx hb dL_law_1550 (by decide) (fun _ => hend H locs hP hD hS) (fun h => absurd (zlcE _) h)
theorem kf_RL_219 : zCB RL 219 yX9_just cX9_just 4 (some .int) 1 ∧ Cond.instanceMethod yX9_just ∈ wAll ∧ Cond.selects yX9_just.cls yX9_just yX9_just ∈ wAll := ⟨⟨q_1832, q_9, q_1829, by decide +kernel⟩, q_1830, q_1831⟩
theorem kw_RL_217 : zCW RL 217 yL_just cL_just 4 (some .int) [(0, 9, 12, 29)] 3 := ⟨q_1128, q_0, q_1126, q_1127, by decide +kernel⟩
def zK22 (l : Launch) (D : va_G) (y : zY) (b bm : Nat) (I : Int32 → va_W → va_W → Prop) : Prop :=
  ∀ (t : Int32) (wX wM : va_W), I t wX wM → ∀ (x1 : Int32), ∃ (rX cX rM cM : va_W) (fX fM : List Value) (P : Option Value → va_W → Prop) (PX : String → va_W → Prop) (PM : Option Value → va_W → Prop), wX.Perm (rX ++ cX) ∧ wM.Perm (rM ++ cM) ∧ cX[0]? = some (b, .inr (8, fX)) ∧ cM[0]? = some (bm, .inr (9, fM)) ∧ zCx l D y yX8_just cX8_just 3 (some .int) rm_X8_just [.ref b, .int x1] cX P PX ∧ zC l D y yX9_just cX9_just 4 (some .int) rm_X9_just [.ref bm, .int x1] cM PM ∧ (∀ v w, P v w → ∃ r : Int32, v = some (.int r) ∧ ∀ vm wm, PM vm wm → vm = some (.int r) ∧ I 0 (rX ++ w) (rM ++ wm)) ∧ (∀ E w, PX E w → (E = "java/lang/IllegalStateException" ∧ ∀ vm wm, PM vm wm → (∃ r : Int32, vm = some (.int r)) ∧ I 1 (rX ++ w) (rM ++ wm)))
set_option maxHeartbeats 4000000 in
theorem zlk_22 {p : Program} {l : Launch} {e : Env} {s : State} {m : MethodId} {args : Array Value} {below : List Frame} {meth : Method} {c : Code} {H : Heap} {locs : List Loc} {cells slots : Nat} {Q : State → Prop} {D : va_G} {y : zY} {A : Nat → Prop} {ls : Array Slot} {wX wM : va_W} {ab b bm sb L : Nat} {cbx : Nat → Int64} {xs : Nat → Int32} {I : Int32 → va_W → va_W → Prop} {t i : Int32} (X : zX p s m args meth c D y A RL cL_law 8 (some .boolean)) (hT : zKT l D y bm I) (hk : zK22 l D y b bm I) (hX : va_X sb L xs s s.heap) (hbl : sb < s.heap.size) (hbA : ¬ A sb) (hin : ∀ k : Int32, 0 ≤ k.toInt ∧ k.toInt < 8 → vp_in (i + k) L) (hI : I t wX wM) (hP : va_P D vwCl (wM ++ (zbx y ab cbx :: wX)) H) (hD : va_D A (wM ++ (zbx y ab cbx :: wX))) (hS : va_S A s.heap H locs) (hl : lv_has ls 8 [(4, .int i), (3, .ref ab), (2, .ref bm), (1, .ref b), (0, .ref sb)]) (hcl : cells + 8 ≤ room_1.cells ∧ slots + 64 ≤ room_1.slots)
    (kk : ∀ (t : Int32) (wX wM : va_W) (cbx : Nat → Int64) (H : Heap) (locs : List Loc) (ls : Array Slot), I t wX wM → va_P D vwCl (wM ++ (zbx y ab cbx :: wX)) H → va_D A (wM ++ (zbx y ab cbx :: wX)) → va_S A s.heap H locs → lv_has ls 8 [(4, .int i), (3, .ref ab), (2, .ref bm), (1, .ref b), (0, .ref sb)] → W p l e room_1 s m args below meth c H locs (cells + 8) (slots + 64) Q (F0 m 3102 ls [])) : W p l e room_1 s m args below meth c H locs cells slots Q (F0 m 1558 ls []) := by
  obtain ⟨hx, hb, hr9, hml, hown, hts, hK, hA, hlocks⟩ := id X
  refine lv_aload_n hx hb dL_law_1558 rfl (lv_at hl 3 rfl) ?_
  refine zsc (k := 1) X hX hbl hbA hS dL_law_1559 dL_law_1560 dL_law_1562 (by decide) dL_law_1563 dL_law_1564 (lv_at hl 4 rfl) (lv_at hl 0 rfl) (hin 1 (by decide)) ?_
  obtain ⟨rX, cX, rM, cM, fX, fM, P, PX, PM, e1, e2, b1, b2, hC, hM, hn, hE⟩ := hk t wX wM hI (xs (i + 1).toNatClampNeg) 
  refine lv_aload_n hx hb dL_law_1565 rfl (lv_at hl 1 rfl) ?_
  have hw := zw_L_just l D y b ab cbx (xs (i + 1).toNatClampNeg) cX fX 0 b1 P PX hC (fun v w h => (hn v w h).imp fun _ z => z.1) (fun E w h => (hE E w h).1)
  refine zLw (rest := []) X e1 hw kw_RL_217 ⟨(Nat.le_of_ble_eq_true rfl), (Nat.le_of_ble_eq_true rfl)⟩ hP hD hS rfl rfl hl.1 (Nat.le_of_ble_eq_true rfl) dL_law_1566 ⟨Nat.le_trans (Nat.add_le_add_left (Nat.le_of_ble_eq_true rfl) _) hcl.1, Nat.le_trans (Nat.add_le_add_left (Nat.le_of_ble_eq_true rfl) _) hcl.2⟩ (fun v w h => ?_) (fun v bx1 w1 hp H locs hP hD hS => ?_)
  · rcases h with ⟨_, w1, _, _, h⟩ | ⟨_, w1, _, _, h⟩
    · exact ⟨_, w1, h⟩
    · exact ⟨_, w1, h⟩
  have key : ∃ (kv : Int32) (c1 : Nat → Int64), v = some (.int kv) ∧ bx1 = zbx y ab c1 ∧ ∀ vm wm, PM vm wm → (∃ r : Int32, vm = some (.int r) ∧ (kv = 0 → c1 0 = r.toInt64)) ∧ I kv (rX ++ w1) (rM ++ wm) := by
    rcases hp with ⟨r, w2, hp, rfl, hw2⟩ | ⟨E, w2, hp, hv, hw2⟩
    · obtain ⟨rfl, rfl⟩ := List.cons.inj hw2
      obtain ⟨r1, er, hn⟩ := hn _ _ hp
      obtain rfl : r = r1 := by injection er with er; injection er
      refine ⟨0, _, rfl, rfl, fun vm wm hm => ?_⟩
      obtain ⟨rfl, hi⟩ := hn vm wm hm
      exact ⟨⟨r, rfl, fun _ => rfl⟩, hi⟩
    · obtain ⟨rfl, rfl⟩ := List.cons.inj hw2
      obtain ⟨rfl, hv⟩ := hv
      obtain ⟨-, hn⟩ := hE _ _ hp
      refine ⟨1, _, hv, rfl, fun vm wm hm => ?_⟩
      obtain ⟨⟨r, rfl⟩, hi⟩ := hn vm wm hm
      exact ⟨⟨r, rfl, fun h => absurd h (by decide)⟩, hi⟩
  obtain ⟨kv, c1, rfl, rfl, key⟩ := key
  refine lv_istore (lv' := [(5, .int kv), (4, .int i), (3, .ref ab), (2, .ref bm), (1, .ref b), (0, .ref sb)]) hx hb dL_law_1569 hl (by decide) rfl (fun ls hl => ?_)
  refine lv_aload_n hx hb dL_law_1571 rfl (lv_at hl 3 rfl) ?_
  refine zsc (k := 1) X hX hbl hbA hS dL_law_1572 dL_law_1573 dL_law_1575 (by decide) dL_law_1576 dL_law_1577 (lv_at hl 5 rfl) (lv_at hl 1 rfl) (hin 1 (by decide)) ?_
  refine zLm (rest := []) X e2 hM kf_RL_219 ⟨(Nat.le_of_ble_eq_true rfl), (Nat.le_of_ble_eq_true rfl)⟩ hP hD hS rfl b2 rfl rfl hl.1 (Nat.le_of_ble_eq_true rfl) dL_law_1578 ⟨?_, ?_⟩ (fun v wm hp H locs hP hD hS => ?_)
  · exact Nat.le_trans (Nat.add_le_add_left (Nat.le_of_ble_eq_true rfl) cells) hcl.1
  · exact Nat.le_trans (Nat.add_le_add_left (Nat.le_of_ble_eq_true rfl) slots) hcl.2
  obtain ⟨⟨r, rfl, hc⟩, hI⟩ := key v wm hp
  refine lv_istore (lv' := [(6, .int r), (5, .int kv), (4, .int i), (3, .ref ab), (2, .ref bm), (1, .ref b), (0, .ref sb)]) hx hb dL_law_1581 hl (by decide) rfl (fun ls hl => ?_)
  obtain ⟨r3, c3, f3, e3, b3, hC3⟩ := hT _ _ _ hI
  refine lv_aload_n hx hb dL_law_1583 rfl (lv_at hl 4 rfl) ?_
  refine zLm (rest := []) X e3 hC3 kf_RL_145 ⟨(Nat.le_of_ble_eq_true rfl), (Nat.le_of_ble_eq_true rfl)⟩ hP hD hS rfl b3 rfl rfl hl.1 (Nat.le_of_ble_eq_true rfl) dL_law_1584 ⟨?_, ?_⟩ (fun v w3 hp H locs hP hD hS => ?_)
  · exact Nat.le_trans (Nat.add_le_add_left (Nat.le_of_ble_eq_true rfl) cells) hcl.1
  · exact Nat.le_trans (Nat.add_le_add_left (Nat.le_of_ble_eq_true rfl) slots) hcl.2
  obtain ⟨rfl, rfl⟩ := hp
  replace hP := zPp (List.Perm.append_right _ e3.symm) hP
  replace hD := zDp (List.Perm.append_right _ e3.symm) hD
  refine lv_iload hx hb dL_law_1587 (lv_at hl 1 rfl) ?_
  refine lv_icmp_eq (tgt := 1594) hx hb dL_law_1589 (by decide) (fun _ => ?_) (fun h => absurd rfl h)
  refine lv_iload hx hb dL_law_1594 (lv_at hl 1 rfl) ?_
  have hend : ∀ (H : Heap) (locs : List Loc), va_P D vwCl ((rM ++ wm) ++ (zbx y ab c1 :: (rX ++ w1))) H → va_D A ((rM ++ wm) ++ (zbx y ab c1 :: (rX ++ w1))) → va_S A s.heap H locs → W p l e room_1 s m args below meth c H locs (cells + 1 + 0 + 0) (slots + 6 + 0 + 0) Q (F0 m 1611 ls []) := by
    intro H locs hP hD hS
    refine lv_goto (tgt := 3102) hx hb dL_law_1611 (by decide) ?_
    refine W.widen (k := cells + 8) (n := slots + 64) (Nat.add_le_add_left (Nat.le_of_ble_eq_true rfl) cells) (Nat.add_le_add_left (Nat.le_of_ble_eq_true rfl) slots) ?_
    exact kk _ _ _ _ _ _ _ hI hP hD hS (zlv (zlv hl))
  refine lv_if_ne (tgt := 1611) hx hb dL_law_1596 (by decide) (fun _ => hend H locs hP hD hS) (fun hz => ?_)
  refine lv_aload_n hx hb dL_law_1599 rfl (lv_at hl 3 rfl) ?_
  refine lv_iconst (v := 0) hx hb dL_law_1600 (by decide) ?_
  refine va_lald hx hb hK (zPp List.perm_append_comm hP) 0 1 rfl rfl (by unfold vp_in; decide) dL_law_1601 ?_
  rw [show c1 (0 : Int32).toNatClampNeg = _ from hc hz]
  refine lv_iload hx hb dL_law_1602 (lv_at hl 0 rfl) ?_
  refine lv_i2l (v := r.toInt64) hx hb dL_law_1604 rfl ?_
  refine W.lcmp hx hb dL_law_1605 ?_
  refine lv_if_eq (tgt := 1611) hx hb dL_law_1606 (by decide) (fun _ => hend H locs hP hD hS) (fun h => absurd (zlcE _) h)
theorem kf_RL_223 : zCB RL 223 yX9_likeliest cX9_likeliest 5 (some .long) 2 ∧ Cond.instanceMethod yX9_likeliest ∈ wAll ∧ Cond.selects yX9_likeliest.cls yX9_likeliest yX9_likeliest ∈ wAll := ⟨⟨q_1699, q_9, q_1696, by decide +kernel⟩, q_1697, q_1698⟩
theorem kw_RL_220 : zCW RL 220 yL_likeliest cL_likeliest 5 (some .int) [(0, 9, 12, 19)] 4 := ⟨q_1143, q_0, q_1141, q_1142, by decide +kernel⟩
def zK23 (l : Launch) (D : va_G) (y : zY) (b bm : Nat) (I : Int32 → va_W → va_W → Prop) : Prop :=
  ∀ (t : Int32) (wX wM : va_W), I t wX wM → ∀ (x1 : Int32) (x2 : Int32), (x2 = 0 ∨ x2 = 1) → ∃ (rX cX rM cM : va_W) (fX fM : List Value) (P : Option Value → va_W → Prop) (PX : String → va_W → Prop) (PM : Option Value → va_W → Prop), wX.Perm (rX ++ cX) ∧ wM.Perm (rM ++ cM) ∧ cX[0]? = some (b, .inr (8, fX)) ∧ cM[0]? = some (bm, .inr (9, fM)) ∧ zCx l D y yX8_likeliest cX8_likeliest 11 (some .long) rm_X8_likeliest [.ref b, .int x1, .int x2] cX P PX ∧ zC l D y yX9_likeliest cX9_likeliest 5 (some .long) rm_X9_likeliest [.ref bm, .int x1, .int x2] cM PM ∧ (∀ v w, P v w → ∃ r : Int64, v = some (.long r) ∧ ∀ vm wm, PM vm wm → vm = some (.long r) ∧ I 0 (rX ++ w) (rM ++ wm)) ∧ (∀ E w, PX E w → (E = "java/lang/IndexOutOfBoundsException" ∧ ∀ vm wm, PM vm wm → (∃ r : Int64, vm = some (.long r)) ∧ I 1 (rX ++ w) (rM ++ wm)))
set_option maxHeartbeats 4000000 in
theorem zlk_23 {p : Program} {l : Launch} {e : Env} {s : State} {m : MethodId} {args : Array Value} {below : List Frame} {meth : Method} {c : Code} {H : Heap} {locs : List Loc} {cells slots : Nat} {Q : State → Prop} {D : va_G} {y : zY} {A : Nat → Prop} {ls : Array Slot} {wX wM : va_W} {ab b bm sb L : Nat} {cbx : Nat → Int64} {xs : Nat → Int32} {I : Int32 → va_W → va_W → Prop} {t i : Int32} (X : zX p s m args meth c D y A RL cL_law 8 (some .boolean)) (hT : zKT l D y bm I) (hk : zK23 l D y b bm I) (hX : va_X sb L xs s s.heap) (hbl : sb < s.heap.size) (hbA : ¬ A sb) (hin : ∀ k : Int32, 0 ≤ k.toInt ∧ k.toInt < 8 → vp_in (i + k) L) (hI : I t wX wM) (hP : va_P D vwCl (wM ++ (zbx y ab cbx :: wX)) H) (hD : va_D A (wM ++ (zbx y ab cbx :: wX))) (hS : va_S A s.heap H locs) (hl : lv_has ls 8 [(4, .int i), (3, .ref ab), (2, .ref bm), (1, .ref b), (0, .ref sb)]) (hcl : cells + 8 ≤ room_1.cells ∧ slots + 64 ≤ room_1.slots)
    (kk : ∀ (t : Int32) (wX wM : va_W) (cbx : Nat → Int64) (H : Heap) (locs : List Loc) (ls : Array Slot), I t wX wM → va_P D vwCl (wM ++ (zbx y ab cbx :: wX)) H → va_D A (wM ++ (zbx y ab cbx :: wX)) → va_S A s.heap H locs → lv_has ls 8 [(4, .int i), (3, .ref ab), (2, .ref bm), (1, .ref b), (0, .ref sb)] → W p l e room_1 s m args below meth c H locs (cells + 8) (slots + 64) Q (F0 m 3102 ls [])) : W p l e room_1 s m args below meth c H locs cells slots Q (F0 m 1614 ls []) := by
  obtain ⟨hx, hb, hr9, hml, hown, hts, hK, hA, hlocks⟩ := id X
  refine lv_aload_n hx hb dL_law_1614 rfl (lv_at hl 3 rfl) ?_
  refine zsc (k := 1) X hX hbl hbA hS dL_law_1615 dL_law_1616 dL_law_1618 (by decide) dL_law_1619 dL_law_1620 (lv_at hl 4 rfl) (lv_at hl 0 rfl) (hin 1 (by decide)) ?_
  refine zsc (k := 2) X hX hbl hbA hS dL_law_1621 dL_law_1622 dL_law_1624 (by decide) dL_law_1625 dL_law_1626 (lv_at hl 4 rfl) (lv_at hl 0 rfl) (hin 2 (by decide)) ?_
  refine zbo X dL_law_1627 (by decide) dL_law_1630 dL_law_1631 (by decide) dL_law_1634 ?_
  obtain ⟨rX, cX, rM, cM, fX, fM, P, PX, PM, e1, e2, b1, b2, hC, hM, hn, hE⟩ := hk t wX wM hI (xs (i + 1).toNatClampNeg) (zbl (xs (i + 2).toNatClampNeg)) (zbl01 _)
  refine lv_aload_n hx hb dL_law_1635 rfl (lv_at hl 1 rfl) ?_
  have hw := zw_L_likeliest l D y b ab cbx (xs (i + 1).toNatClampNeg) (zbl (xs (i + 2).toNatClampNeg)) cX fX 0 b1 P PX hC (fun v w h => (hn v w h).imp fun _ z => z.1) (fun E w h => (hE E w h).1)
  refine zLw (rest := []) X e1 hw kw_RL_220 ⟨(Nat.le_of_ble_eq_true rfl), (Nat.le_of_ble_eq_true rfl)⟩ hP hD hS rfl rfl hl.1 (Nat.le_of_ble_eq_true rfl) dL_law_1636 ⟨Nat.le_trans (Nat.add_le_add_left (Nat.le_of_ble_eq_true rfl) _) hcl.1, Nat.le_trans (Nat.add_le_add_left (Nat.le_of_ble_eq_true rfl) _) hcl.2⟩ (fun v w h => ?_) (fun v bx1 w1 hp H locs hP hD hS => ?_)
  · rcases h with ⟨_, w1, _, _, h⟩ | ⟨_, w1, _, _, h⟩
    · exact ⟨_, w1, h⟩
    · exact ⟨_, w1, h⟩
  have key : ∃ (kv : Int32) (c1 : Nat → Int64), v = some (.int kv) ∧ bx1 = zbx y ab c1 ∧ ∀ vm wm, PM vm wm → (∃ r : Int64, vm = some (.long r) ∧ (kv = 0 → c1 0 = r)) ∧ I kv (rX ++ w1) (rM ++ wm) := by
    rcases hp with ⟨r, w2, hp, rfl, hw2⟩ | ⟨E, w2, hp, hv, hw2⟩
    · obtain ⟨rfl, rfl⟩ := List.cons.inj hw2
      obtain ⟨r1, er, hn⟩ := hn _ _ hp
      obtain rfl : r = r1 := by injection er with er; injection er
      refine ⟨0, _, rfl, rfl, fun vm wm hm => ?_⟩
      obtain ⟨rfl, hi⟩ := hn vm wm hm
      exact ⟨⟨r, rfl, fun _ => rfl⟩, hi⟩
    · obtain ⟨rfl, rfl⟩ := List.cons.inj hw2
      obtain ⟨rfl, hv⟩ := hv
      obtain ⟨-, hn⟩ := hE _ _ hp
      refine ⟨1, _, hv, rfl, fun vm wm hm => ?_⟩
      obtain ⟨⟨r, rfl⟩, hi⟩ := hn vm wm hm
      exact ⟨⟨r, rfl, fun h => absurd h (by decide)⟩, hi⟩
  obtain ⟨kv, c1, rfl, rfl, key⟩ := key
  refine lv_istore (lv' := [(5, .int kv), (4, .int i), (3, .ref ab), (2, .ref bm), (1, .ref b), (0, .ref sb)]) hx hb dL_law_1639 hl (by decide) rfl (fun ls hl => ?_)
  refine lv_aload_n hx hb dL_law_1641 rfl (lv_at hl 3 rfl) ?_
  refine zsc (k := 1) X hX hbl hbA hS dL_law_1642 dL_law_1643 dL_law_1645 (by decide) dL_law_1646 dL_law_1647 (lv_at hl 5 rfl) (lv_at hl 1 rfl) (hin 1 (by decide)) ?_
  refine zsc (k := 2) X hX hbl hbA hS dL_law_1648 dL_law_1649 dL_law_1651 (by decide) dL_law_1652 dL_law_1653 (lv_at hl 5 rfl) (lv_at hl 1 rfl) (hin 2 (by decide)) ?_
  refine zbo X dL_law_1654 (by decide) dL_law_1657 dL_law_1658 (by decide) dL_law_1661 ?_
  refine zLm (rest := []) X e2 hM kf_RL_223 ⟨(Nat.le_of_ble_eq_true rfl), (Nat.le_of_ble_eq_true rfl)⟩ hP hD hS rfl b2 rfl rfl hl.1 (Nat.le_of_ble_eq_true rfl) dL_law_1662 ⟨?_, ?_⟩ (fun v wm hp H locs hP hD hS => ?_)
  · exact Nat.le_trans (Nat.add_le_add_left (Nat.le_of_ble_eq_true rfl) cells) hcl.1
  · exact Nat.le_trans (Nat.add_le_add_left (Nat.le_of_ble_eq_true rfl) slots) hcl.2
  obtain ⟨⟨r, rfl, hc⟩, hI⟩ := key v wm hp
  refine lv_lstore (lv' := [(6, .long r), (5, .int kv), (4, .int i), (3, .ref ab), (2, .ref bm), (1, .ref b), (0, .ref sb)]) hx hb dL_law_1665 hl (by decide) rfl (fun ls hl => ?_)
  obtain ⟨r3, c3, f3, e3, b3, hC3⟩ := hT _ _ _ hI
  refine lv_aload_n hx hb dL_law_1667 rfl (lv_at hl 4 rfl) ?_
  refine zLm (rest := []) X e3 hC3 kf_RL_145 ⟨(Nat.le_of_ble_eq_true rfl), (Nat.le_of_ble_eq_true rfl)⟩ hP hD hS rfl b3 rfl rfl hl.1 (Nat.le_of_ble_eq_true rfl) dL_law_1668 ⟨?_, ?_⟩ (fun v w3 hp H locs hP hD hS => ?_)
  · exact Nat.le_trans (Nat.add_le_add_left (Nat.le_of_ble_eq_true rfl) cells) hcl.1
  · exact Nat.le_trans (Nat.add_le_add_left (Nat.le_of_ble_eq_true rfl) slots) hcl.2
  obtain ⟨rfl, rfl⟩ := hp
  replace hP := zPp (List.Perm.append_right _ e3.symm) hP
  replace hD := zDp (List.Perm.append_right _ e3.symm) hD
  refine lv_iload hx hb dL_law_1671 (lv_at hl 1 rfl) ?_
  refine lv_icmp_eq (tgt := 1678) hx hb dL_law_1673 (by decide) (fun _ => ?_) (fun h => absurd rfl h)
  refine lv_iload hx hb dL_law_1678 (lv_at hl 1 rfl) ?_
  have hend : ∀ (H : Heap) (locs : List Loc), va_P D vwCl ((rM ++ wm) ++ (zbx y ab c1 :: (rX ++ w1))) H → va_D A ((rM ++ wm) ++ (zbx y ab c1 :: (rX ++ w1))) → va_S A s.heap H locs → W p l e room_1 s m args below meth c H locs (cells + 1 + 0 + 0) (slots + 6 + 0 + 0) Q (F0 m 1694 ls []) := by
    intro H locs hP hD hS
    refine lv_goto (tgt := 3102) hx hb dL_law_1694 (by decide) ?_
    refine W.widen (k := cells + 8) (n := slots + 64) (Nat.add_le_add_left (Nat.le_of_ble_eq_true rfl) cells) (Nat.add_le_add_left (Nat.le_of_ble_eq_true rfl) slots) ?_
    exact kk _ _ _ _ _ _ _ hI hP hD hS (zlv (zlv hl))
  refine lv_if_ne (tgt := 1694) hx hb dL_law_1680 (by decide) (fun _ => hend H locs hP hD hS) (fun hz => ?_)
  refine lv_aload_n hx hb dL_law_1683 rfl (lv_at hl 3 rfl) ?_
  refine lv_iconst (v := 0) hx hb dL_law_1684 (by decide) ?_
  refine va_lald hx hb hK (zPp List.perm_append_comm hP) 0 1 rfl rfl (by unfold vp_in; decide) dL_law_1685 ?_
  rw [show c1 (0 : Int32).toNatClampNeg = _ from hc hz]
  refine lv_lload hx hb dL_law_1686 (lv_at hl 0 rfl) ?_
  refine W.lcmp hx hb dL_law_1688 ?_
  refine lv_if_eq (tgt := 1694) hx hb dL_law_1689 (by decide) (fun _ => hend H locs hP hD hS) (fun h => absurd (zlcE _) h)
