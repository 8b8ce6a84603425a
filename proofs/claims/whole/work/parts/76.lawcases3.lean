theorem kf_RL_226 : zCB RL 226 yX9_between cX9_between 6 (some .int) 3 ∧ Cond.instanceMethod yX9_between ∈ wAll ∧ Cond.selects yX9_between.cls yX9_between yX9_between ∈ wAll := ⟨⟨q_1703, q_9, q_1700, by decide +kernel⟩, q_1701, q_1702⟩
theorem kw_RL_224 : zCW RL 224 yL_between cL_between 6 (some .int) [(0, 12, 15, 19)] 5 := ⟨q_1150, q_0, q_1148, q_1149, by decide +kernel⟩
def zK24 (l : Launch) (D : va_G) (y : zY) (b bm : Nat) (I : Int32 → va_W → va_W → Prop) : Prop :=
  ∀ (t : Int32) (wX wM : va_W), I t wX wM → ∀ (x1 : Int32) (x2 : Int32) (x3 : Int32), (x3 = 0 ∨ x3 = 1) → ∃ (rX cX rM cM : va_W) (fX fM : List Value) (P : Option Value → va_W → Prop) (PX : String → va_W → Prop) (PM : Option Value → va_W → Prop), wX.Perm (rX ++ cX) ∧ wM.Perm (rM ++ cM) ∧ cX[0]? = some (b, .inr (8, fX)) ∧ cM[0]? = some (bm, .inr (9, fM)) ∧ zCx l D y yX8_between cX8_between 6 (some .int) rm_X8_between [.ref b, .int x1, .int x2, .int x3] cX P PX ∧ zC l D y yX9_between cX9_between 6 (some .int) rm_X9_between [.ref bm, .int x1, .int x2, .int x3] cM PM ∧ (∀ v w, P v w → ∃ r : Int32, v = some (.int r) ∧ ∀ vm wm, PM vm wm → vm = some (.int r) ∧ I 0 (rX ++ w) (rM ++ wm)) ∧ (∀ E w, PX E w → (E = "java/lang/IndexOutOfBoundsException" ∧ ∀ vm wm, PM vm wm → (∃ r : Int32, vm = some (.int r)) ∧ I 1 (rX ++ w) (rM ++ wm)))
set_option maxHeartbeats 4000000 in
theorem zlk_24 {p : Program} {l : Launch} {e : Env} {s : State} {m : MethodId} {args : Array Value} {below : List Frame} {meth : Method} {c : Code} {H : Heap} {locs : List Loc} {cells slots : Nat} {Q : State → Prop} {D : va_G} {y : zY} {A : Nat → Prop} {ls : Array Slot} {wX wM : va_W} {ab b bm sb L : Nat} {cbx : Nat → Int64} {xs : Nat → Int32} {I : Int32 → va_W → va_W → Prop} {t i : Int32} (X : zX p s m args meth c D y A RL cL_law 8 (some .boolean)) (hT : zKT l D y bm I) (hk : zK24 l D y b bm I) (hX : va_X sb L xs s s.heap) (hbl : sb < s.heap.size) (hbA : ¬ A sb) (hin : ∀ k : Int32, 0 ≤ k.toInt ∧ k.toInt < 8 → vp_in (i + k) L) (hI : I t wX wM) (hP : va_P D vwCl (wM ++ (zbx y ab cbx :: wX)) H) (hD : va_D A (wM ++ (zbx y ab cbx :: wX))) (hS : va_S A s.heap H locs) (hl : lv_has ls 8 [(4, .int i), (3, .ref ab), (2, .ref bm), (1, .ref b), (0, .ref sb)]) (hcl : cells + 8 ≤ room_1.cells ∧ slots + 64 ≤ room_1.slots)
    (kk : ∀ (t : Int32) (wX wM : va_W) (cbx : Nat → Int64) (H : Heap) (locs : List Loc) (ls : Array Slot), I t wX wM → va_P D vwCl (wM ++ (zbx y ab cbx :: wX)) H → va_D A (wM ++ (zbx y ab cbx :: wX)) → va_S A s.heap H locs → lv_has ls 8 [(4, .int i), (3, .ref ab), (2, .ref bm), (1, .ref b), (0, .ref sb)] → W p l e room_1 s m args below meth c H locs (cells + 8) (slots + 64) Q (F0 m 3102 ls [])) : W p l e room_1 s m args below meth c H locs cells slots Q (F0 m 1697 ls []) := by
  obtain ⟨hx, hb, hr9, hml, hown, hts, hK, hA, hlocks⟩ := id X
  refine lv_aload_n hx hb dL_law_1697 rfl (lv_at hl 3 rfl) ?_
  refine zsc (k := 1) X hX hbl hbA hS dL_law_1698 dL_law_1699 dL_law_1701 (by decide) dL_law_1702 dL_law_1703 (lv_at hl 4 rfl) (lv_at hl 0 rfl) (hin 1 (by decide)) ?_
  refine zsc (k := 2) X hX hbl hbA hS dL_law_1704 dL_law_1705 dL_law_1707 (by decide) dL_law_1708 dL_law_1709 (lv_at hl 4 rfl) (lv_at hl 0 rfl) (hin 2 (by decide)) ?_
  refine zsc (k := 3) X hX hbl hbA hS dL_law_1710 dL_law_1711 dL_law_1713 (by decide) dL_law_1714 dL_law_1715 (lv_at hl 4 rfl) (lv_at hl 0 rfl) (hin 3 (by decide)) ?_
  refine zbo X dL_law_1716 (by decide) dL_law_1719 dL_law_1720 (by decide) dL_law_1723 ?_
  obtain ⟨rX, cX, rM, cM, fX, fM, P, PX, PM, e1, e2, b1, b2, hC, hM, hn, hE⟩ := hk t wX wM hI (xs (i + 1).toNatClampNeg) (xs (i + 2).toNatClampNeg) (zbl (xs (i + 3).toNatClampNeg)) (zbl01 _)
  refine lv_aload_n hx hb dL_law_1724 rfl (lv_at hl 1 rfl) ?_
  have hw := zw_L_between l D y b ab cbx (xs (i + 1).toNatClampNeg) (xs (i + 2).toNatClampNeg) (zbl (xs (i + 3).toNatClampNeg)) cX fX 0 b1 P PX hC (fun v w h => (hn v w h).imp fun _ z => z.1) (fun E w h => (hE E w h).1)
  refine zLw (rest := []) X e1 hw kw_RL_224 ⟨(Nat.le_of_ble_eq_true rfl), (Nat.le_of_ble_eq_true rfl)⟩ hP hD hS rfl rfl hl.1 (Nat.le_of_ble_eq_true rfl) dL_law_1725 ⟨Nat.le_trans (Nat.add_le_add_left (Nat.le_of_ble_eq_true rfl) _) hcl.1, Nat.le_trans (Nat.add_le_add_left (Nat.le_of_ble_eq_true rfl) _) hcl.2⟩ (fun v w h => ?_) (fun v bx1 w1 hp H locs hP hD hS => ?_)
  · rcases h with ⟨_, w1, _, _, h⟩ | ⟨_, w1, _, _, h⟩
    · exact ⟨_, w1, h⟩
    · exact ⟨_, w1, h⟩
  have key : ∃ (kv : Int32) (c1 : Nat → Int64), v = some (.int kv) ∧ bx1 = zbx y ab c1 ∧ ∀ vm wm, PM vm wm → (∃ r : Int32, vm = some (.int r) ∧ (kv = 0 → c1 0 = r.toInt64)) ∧ I kv (rX ++ w1) (rM ++ wm) := by
    rcases hp with ⟨r, w2, hp, rfl, hw2⟩ | ⟨E, w2, hp, hv, hw2⟩
    · obtain ⟨rfl, rfl⟩ := List.cons.inj hw2
      obtain ⟨r1, er, hn⟩ := hn _ _ hp
      obtain rfl : r = r1 := by injection er with er; injection er
      refine ⟨0, _, rfl, rfl, fun vm wm hm => ?_⟩
      obtain ⟨rfl, hi⟩ := hn vm wm hm
      exact ⟨⟨r, rfl, fun _ => rfl⟩, hi⟩
    · obtain ⟨rfl, rfl⟩ := List.cons.inj hw2
      obtain ⟨rfl, hv⟩ := hv
      obtain ⟨-, hn⟩ := hE _ _ hp
      refine ⟨1, _, hv, rfl, fun vm wm hm => ?_⟩
      obtain ⟨⟨r, rfl⟩, hi⟩ := hn vm wm hm
      exact ⟨⟨r, rfl, fun h => absurd h (by decide)⟩, hi⟩
  obtain ⟨kv, c1, rfl, rfl, key⟩ := key
  refine lv_istore (lv' := [(5, .int kv), (4, .int i), (3, .ref ab), (2, .ref bm), (1, .ref b), (0, .ref sb)]) hx hb dL_law_1728 hl (by decide) rfl (fun ls hl => ?_)
  refine lv_aload_n hx hb dL_law_1730 rfl (lv_at hl 3 rfl) ?_
  refine zsc (k := 1) X hX hbl hbA hS dL_law_1731 dL_law_1732 dL_law_1734 (by decide) dL_law_1735 dL_law_1736 (lv_at hl 5 rfl) (lv_at hl 1 rfl) (hin 1 (by decide)) ?_
  refine zsc (k := 2) X hX hbl hbA hS dL_law_1737 dL_law_1738 dL_law_1740 (by decide) dL_law_1741 dL_law_1742 (lv_at hl 5 rfl) (lv_at hl 1 rfl) (hin 2 (by decide)) ?_
  refine zsc (k := 3) X hX hbl hbA hS dL_law_1743 dL_law_1744 dL_law_1746 (by decide) dL_law_1747 dL_law_1748 (lv_at hl 5 rfl) (lv_at hl 1 rfl) (hin 3 (by decide)) ?_
  refine zbo X dL_law_1749 (by decide) dL_law_1752 dL_law_1753 (by decide) dL_law_1756 ?_
  refine zLm (rest := []) X e2 hM kf_RL_226 ⟨(Nat.le_of_ble_eq_true rfl), (Nat.le_of_ble_eq_true rfl)⟩ hP hD hS rfl b2 rfl rfl hl.1 (Nat.le_of_ble_eq_true rfl) dL_law_1757 ⟨?_, ?_⟩ (fun v wm hp H locs hP hD hS => ?_)
  · exact Nat.le_trans (Nat.add_le_add_left (Nat.le_of_ble_eq_true rfl) cells) hcl.1
  · exact Nat.le_trans (Nat.add_le_add_left (Nat.le_of_ble_eq_true rfl) slots) hcl.2
  obtain ⟨⟨r, rfl, hc⟩, hI⟩ := key v wm hp
  refine lv_istore (lv' := [(6, .int r), (5, .int kv), (4, .int i), (3, .ref ab), (2, .ref bm), (1, .ref b), (0, .ref sb)]) hx hb dL_law_1760 hl (by decide) rfl (fun ls hl => ?_)
  obtain ⟨r3, c3, f3, e3, b3, hC3⟩ := hT _ _ _ hI
  refine lv_aload_n hx hb dL_law_1762 rfl (lv_at hl 4 rfl) ?_
  refine zLm (rest := []) X e3 hC3 kf_RL_145 ⟨(Nat.le_of_ble_eq_true rfl), (Nat.le_of_ble_eq_true rfl)⟩ hP hD hS rfl b3 rfl rfl hl.1 (Nat.le_of_ble_eq_true rfl) dL_law_1763 ⟨?_, ?_⟩ (fun v w3 hp H locs hP hD hS => ?_)
  · exact Nat.le_trans (Nat.add_le_add_left (Nat.le_of_ble_eq_true rfl) cells) hcl.1
  · exact Nat.le_trans (Nat.add_le_add_left (Nat.le_of_ble_eq_true rfl) slots) hcl.2
  obtain ⟨rfl, rfl⟩ := hp
  replace hP := zPp (List.Perm.append_right _ e3.symm) hP
  replace hD := zDp (List.Perm.append_right _ e3.symm) hD
  refine lv_iload hx hb dL_law_1766 (lv_at hl 1 rfl) ?_
  refine lv_icmp_eq (tgt := 1773) hx hb dL_law_1768 (by decide) (fun _ => ?_) (fun h => absurd rfl h)
  refine lv_iload hx hb dL_law_1773 (lv_at hl 1 rfl) ?_
  have hend : ∀ (H : Heap) (locs : List Loc), va_P D vwCl ((rM ++ wm) ++ (zbx y ab c1 :: (rX ++ w1))) H → va_D A ((rM ++ wm) ++ (zbx y ab c1 :: (rX ++ w1))) → va_S A s.heap H locs → W p l e room_1 s m args below meth c H locs (cells + 1 + 0 + 0) (slots + 6 + 0 + 0) Q (F0 m 1790 ls []) := by
    intro H locs hP hD hS
    refine lv_goto (tgt := 3102) hx hb dL_law_1790 (by decide) ?_
    refine W.widen (k := cells + 8) (n := slots + 64) (Nat.add_le_add_left (Nat.le_of_ble_eq_true rfl) cells) (Nat.add_le_add_left (Nat.le_of_ble_eq_true rfl) slots) ?_
    exact kk _ _ _ _ _ _ _ hI hP hD hS (zlv (zlv hl))
  refine lv_if_ne (tgt := 1790) hx hb dL_law_1775 (by decide) (fun _ => hend H locs hP hD hS) (fun hz => ?_)
  refine lv_aload_n hx hb dL_law_1778 rfl (lv_at hl 3 rfl) ?_
  refine lv_iconst (v := 0) hx hb dL_law_1779 (by decide) ?_
  refine va_lald hx hb hK (zPp List.perm_append_comm hP) 0 1 rfl rfl (by unfold vp_in; decide) dL_law_1780 ?_
  rw [show c1 (0 : Int32).toNatClampNeg = _ from hc hz]
  refine lv_iload hx hb dL_law_1781 (lv_at hl 0 rfl) ?_
  refine lv_i2l (v := r.toInt64) hx hb dL_law_1783 rfl ?_
  refine W.lcmp hx hb dL_law_1784 ?_
  refine lv_if_eq (tgt := 1790) hx hb dL_law_1785 (by decide) (fun _ => hend H locs hP hD hS) (fun h => absurd (zlcE _) h)
theorem kf_RL_231 : zCB RL 231 yX9_alike cX9_alike 2 (some .boolean) 0 ∧ Cond.instanceMethod yX9_alike ∈ wAll ∧ Cond.selects yX9_alike.cls yX9_alike yX9_alike ∈ wAll := ⟨⟨q_1707, q_9, q_1704, by decide +kernel⟩, q_1705, q_1706⟩
theorem kf_RL_227 : zCB RL 227 yX8_alike cX8_alike 3 (some .boolean) 0 ∧ Cond.instanceMethod yX8_alike ∈ wAll ∧ Cond.selects yX8_alike.cls yX8_alike yX8_alike ∈ wAll := ⟨⟨q_520, q_1, q_517, by decide +kernel⟩, q_518, q_519⟩
def zK25 (l : Launch) (D : va_G) (y : zY) (b bm : Nat) (I : Int32 → va_W → va_W → Prop) : Prop :=
  ∀ (t : Int32) (wX wM : va_W), I t wX wM → ∃ (rX cX rM cM : va_W) (fX fM : List Value) (P : Option Value → va_W → Prop) (PM : Option Value → va_W → Prop), wX.Perm (rX ++ cX) ∧ wM.Perm (rM ++ cM) ∧ cX[0]? = some (b, .inr (8, fX)) ∧ cM[0]? = some (bm, .inr (9, fM)) ∧ zC l D y yX8_alike cX8_alike 3 (some .boolean) rm_X8_alike [.ref b] cX P ∧ zC l D y yX9_alike cX9_alike 2 (some .boolean) rm_X9_alike [.ref bm] cM PM ∧ (∀ v w, P v w → ∃ r : Int32, v = some (.int r) ∧ ∀ vm wm, PM vm wm → vm = some (.int r) ∧ ∃ t2 : Int32, I t2 (rX ++ w) (rM ++ wm))
set_option maxHeartbeats 4000000 in
theorem zlk_25 {p : Program} {l : Launch} {e : Env} {s : State} {m : MethodId} {args : Array Value} {below : List Frame} {meth : Method} {c : Code} {H : Heap} {locs : List Loc} {cells slots : Nat} {Q : State → Prop} {D : va_G} {y : zY} {A : Nat → Prop} {ls : Array Slot} {wX wM : va_W} {ab b bm sb L : Nat} {cbx : Nat → Int64} {xs : Nat → Int32} {I : Int32 → va_W → va_W → Prop} {t i : Int32} (X : zX p s m args meth c D y A RL cL_law 8 (some .boolean)) (hT : zKT l D y bm I) (hk : zK25 l D y b bm I) (hX : va_X sb L xs s s.heap) (hbl : sb < s.heap.size) (hbA : ¬ A sb) (hin : ∀ k : Int32, 0 ≤ k.toInt ∧ k.toInt < 8 → vp_in (i + k) L) (hI : I t wX wM) (hP : va_P D vwCl (wM ++ (zbx y ab cbx :: wX)) H) (hD : va_D A (wM ++ (zbx y ab cbx :: wX))) (hS : va_S A s.heap H locs) (hl : lv_has ls 8 [(4, .int i), (3, .ref ab), (2, .ref bm), (1, .ref b), (0, .ref sb)]) (hcl : cells + 8 ≤ room_1.cells ∧ slots + 64 ≤ room_1.slots)
    (kk : ∀ (t : Int32) (wX wM : va_W) (cbx : Nat → Int64) (H : Heap) (locs : List Loc) (ls : Array Slot), I t wX wM → va_P D vwCl (wM ++ (zbx y ab cbx :: wX)) H → va_D A (wM ++ (zbx y ab cbx :: wX)) → va_S A s.heap H locs → lv_has ls 8 [(4, .int i), (3, .ref ab), (2, .ref bm), (1, .ref b), (0, .ref sb)] → W p l e room_1 s m args below meth c H locs (cells + 8) (slots + 64) Q (F0 m 3102 ls [])) : W p l e room_1 s m args below meth c H locs cells slots Q (F0 m 1793 ls []) := by
  obtain ⟨hx, hb, hr9, hml, hown, hts, hK, hA, hlocks⟩ := id X
  refine lv_aload_n hx hb dL_law_1793 rfl (lv_at hl 3 rfl) ?_
  obtain ⟨rX, cX, rM, cM, fX, fM, P, PM, e1, e2, b1, b2, hC, hM, hn⟩ := hk t wX wM hI  
  refine zLx (rest := []) X e1 hC kf_RL_227 ⟨(Nat.le_of_ble_eq_true rfl), (Nat.le_of_ble_eq_true rfl)⟩ hP hD hS rfl b1 rfl rfl hl.1 (Nat.le_of_ble_eq_true rfl) dL_law_1794 ⟨Nat.le_trans (Nat.add_le_add_left (Nat.le_of_ble_eq_true rfl) _) hcl.1, Nat.le_trans (Nat.add_le_add_left (Nat.le_of_ble_eq_true rfl) _) hcl.2⟩ (fun v w1 hp H locs hP hD hS => ?_)
  obtain ⟨r, rfl, hn⟩ := hn v w1 hp
  refine lv_aload_n hx hb dL_law_1797 rfl (lv_at hl 2 rfl) ?_
  refine zLm (rest := [.int r]) X e2 hM kf_RL_231 ⟨(Nat.le_of_ble_eq_true rfl), (Nat.le_of_ble_eq_true rfl)⟩ hP hD hS rfl b2 rfl rfl hl.1 (Nat.le_of_ble_eq_true rfl) dL_law_1798 ⟨?_, ?_⟩ (fun v wm hp H locs hP hD hS => ?_)
  · exact Nat.le_trans (Nat.add_le_add_left (Nat.le_of_ble_eq_true rfl) cells) hcl.1
  · exact Nat.le_trans (Nat.add_le_add_left (Nat.le_of_ble_eq_true rfl) slots) hcl.2
  obtain ⟨rfl, t2, hI⟩ := hn v wm hp
  refine lv_icmp_eq (tgt := 3102) hx hb dL_law_1801 (by decide) (fun _ => ?_) (fun h => absurd rfl h)
  refine W.widen (k := cells + 8) (n := slots + 64) (Nat.add_le_add_left (Nat.le_of_ble_eq_true rfl) cells) (Nat.add_le_add_left (Nat.le_of_ble_eq_true rfl) slots) ?_
  exact kk _ _ _ _ _ _ _ hI hP hD hS hl
theorem kf_RL_234 : zCB RL 234 yX9_value cX9_value 4 (some .long) 3 ∧ Cond.instanceMethod yX9_value ∈ wAll ∧ Cond.selects yX9_value.cls yX9_value yX9_value ∈ wAll := ⟨⟨q_1711, q_9, q_1708, by decide +kernel⟩, q_1709, q_1710⟩
theorem kw_RL_232 : zCW RL 232 yL_value cL_value 6 (some .int) [(0, 11, 14, 13)] 5 := ⟨q_1158, q_0, q_1156, q_1157, by decide +kernel⟩
def zK26 (l : Launch) (D : va_G) (y : zY) (b bm : Nat) (I : Int32 → va_W → va_W → Prop) : Prop :=
  ∀ (t : Int32) (wX wM : va_W), I t wX wM → ∀ (x1 : Int32) (x2 : Int32) (x3 : Int32), (x3 = 0 ∨ x3 = 1) → ∃ (rX cX rM cM : va_W) (fX fM : List Value) (P : Option Value → va_W → Prop) (PX : String → va_W → Prop) (PM : Option Value → va_W → Prop), wX.Perm (rX ++ cX) ∧ wM.Perm (rM ++ cM) ∧ cX[0]? = some (b, .inr (8, fX)) ∧ cM[0]? = some (bm, .inr (9, fM)) ∧ zCx l D y yX8_value cX8_value 5 (some .long) rm_X8_value [.ref b, .int x1, .int x2, .int x3] cX P PX ∧ zC l D y yX9_value cX9_value 4 (some .long) rm_X9_value [.ref bm, .int x1, .int x2, .int x3] cM PM ∧ (∀ v w, P v w → ∃ r : Int64, v = some (.long r) ∧ ∀ vm wm, PM vm wm → vm = some (.long r) ∧ I 0 (rX ++ w) (rM ++ wm)) ∧ (∀ E w, PX E w → (E = "java/lang/IllegalArgumentException" ∧ ∀ vm wm, PM vm wm → (∃ r : Int64, vm = some (.long r)) ∧ I 1 (rX ++ w) (rM ++ wm)))
set_option maxHeartbeats 4000000 in
theorem zlk_26 {p : Program} {l : Launch} {e : Env} {s : State} {m : MethodId} {args : Array Value} {below : List Frame} {meth : Method} {c : Code} {H : Heap} {locs : List Loc} {cells slots : Nat} {Q : State → Prop} {D : va_G} {y : zY} {A : Nat → Prop} {ls : Array Slot} {wX wM : va_W} {ab b bm sb L : Nat} {cbx : Nat → Int64} {xs : Nat → Int32} {I : Int32 → va_W → va_W → Prop} {t i : Int32} (X : zX p s m args meth c D y A RL cL_law 8 (some .boolean)) (hT : zKT l D y bm I) (hk : zK26 l D y b bm I) (hX : va_X sb L xs s s.heap) (hbl : sb < s.heap.size) (hbA : ¬ A sb) (hin : ∀ k : Int32, 0 ≤ k.toInt ∧ k.toInt < 8 → vp_in (i + k) L) (hI : I t wX wM) (hP : va_P D vwCl (wM ++ (zbx y ab cbx :: wX)) H) (hD : va_D A (wM ++ (zbx y ab cbx :: wX))) (hS : va_S A s.heap H locs) (hl : lv_has ls 8 [(4, .int i), (3, .ref ab), (2, .ref bm), (1, .ref b), (0, .ref sb)]) (hcl : cells + 8 ≤ room_1.cells ∧ slots + 64 ≤ room_1.slots)
    (kk : ∀ (t : Int32) (wX wM : va_W) (cbx : Nat → Int64) (H : Heap) (locs : List Loc) (ls : Array Slot), I t wX wM → va_P D vwCl (wM ++ (zbx y ab cbx :: wX)) H → va_D A (wM ++ (zbx y ab cbx :: wX)) → va_S A s.heap H locs → lv_has ls 8 [(4, .int i), (3, .ref ab), (2, .ref bm), (1, .ref b), (0, .ref sb)] → W p l e room_1 s m args below meth c H locs (cells + 8) (slots + 64) Q (F0 m 3102 ls [])) : W p l e room_1 s m args below meth c H locs cells slots Q (F0 m 1806 ls []) := by
  obtain ⟨hx, hb, hr9, hml, hown, hts, hK, hA, hlocks⟩ := id X
  refine lv_aload_n hx hb dL_law_1806 rfl (lv_at hl 3 rfl) ?_
  refine zsc (k := 1) X hX hbl hbA hS dL_law_1807 dL_law_1808 dL_law_1810 (by decide) dL_law_1811 dL_law_1812 (lv_at hl 4 rfl) (lv_at hl 0 rfl) (hin 1 (by decide)) ?_
  refine zsc (k := 2) X hX hbl hbA hS dL_law_1813 dL_law_1814 dL_law_1816 (by decide) dL_law_1817 dL_law_1818 (lv_at hl 4 rfl) (lv_at hl 0 rfl) (hin 2 (by decide)) ?_
  refine zsc (k := 3) X hX hbl hbA hS dL_law_1819 dL_law_1820 dL_law_1822 (by decide) dL_law_1823 dL_law_1824 (lv_at hl 4 rfl) (lv_at hl 0 rfl) (hin 3 (by decide)) ?_
  refine zbo X dL_law_1825 (by decide) dL_law_1828 dL_law_1829 (by decide) dL_law_1832 ?_
  obtain ⟨rX, cX, rM, cM, fX, fM, P, PX, PM, e1, e2, b1, b2, hC, hM, hn, hE⟩ := hk t wX wM hI (xs (i + 1).toNatClampNeg) (xs (i + 2).toNatClampNeg) (zbl (xs (i + 3).toNatClampNeg)) (zbl01 _)
  refine lv_aload_n hx hb dL_law_1833 rfl (lv_at hl 1 rfl) ?_
  have hw := zw_L_value l D y b ab cbx (xs (i + 1).toNatClampNeg) (xs (i + 2).toNatClampNeg) (zbl (xs (i + 3).toNatClampNeg)) cX fX 0 b1 P PX hC (fun v w h => (hn v w h).imp fun _ z => z.1) (fun E w h => (hE E w h).1)
  refine zLw (rest := []) X e1 hw kw_RL_232 ⟨(Nat.le_of_ble_eq_true rfl), (Nat.le_of_ble_eq_true rfl)⟩ hP hD hS rfl rfl hl.1 (Nat.le_of_ble_eq_true rfl) dL_law_1834 ⟨Nat.le_trans (Nat.add_le_add_left (Nat.le_of_ble_eq_true rfl) _) hcl.1, Nat.le_trans (Nat.add_le_add_left (Nat.le_of_ble_eq_true rfl) _) hcl.2⟩ (fun v w h => ?_) (fun v bx1 w1 hp H locs hP hD hS => ?_)
  · rcases h with ⟨_, w1, _, _, h⟩ | ⟨_, w1, _, _, h⟩
    · exact ⟨_, w1, h⟩
    · exact ⟨_, w1, h⟩
  have key : ∃ (kv : Int32) (c1 : Nat → Int64), v = some (.int kv) ∧ bx1 = zbx y ab c1 ∧ ∀ vm wm, PM vm wm → (∃ r : Int64, vm = some (.long r) ∧ (kv = 0 → c1 0 = r)) ∧ I kv (rX ++ w1) (rM ++ wm) := by
    rcases hp with ⟨r, w2, hp, rfl, hw2⟩ | ⟨E, w2, hp, hv, hw2⟩
    · obtain ⟨rfl, rfl⟩ := List.cons.inj hw2
      obtain ⟨r1, er, hn⟩ := hn _ _ hp
      obtain rfl : r = r1 := by injection er with er; injection er
      refine ⟨0, _, rfl, rfl, fun vm wm hm => ?_⟩
      obtain ⟨rfl, hi⟩ := hn vm wm hm
      exact ⟨⟨r, rfl, fun _ => rfl⟩, hi⟩
    · obtain ⟨rfl, rfl⟩ := List.cons.inj hw2
      obtain ⟨rfl, hv⟩ := hv
      obtain ⟨-, hn⟩ := hE _ _ hp
      refine ⟨1, _, hv, rfl, fun vm wm hm => ?_⟩
      obtain ⟨⟨r, rfl⟩, hi⟩ := hn vm wm hm
      exact ⟨⟨r, rfl, fun h => absurd h (by decide)⟩, hi⟩
  obtain ⟨kv, c1, rfl, rfl, key⟩ := key
  refine lv_istore (lv' := [(5, .int kv), (4, .int i), (3, .ref ab), (2, .ref bm), (1, .ref b), (0, .ref sb)]) hx hb dL_law_1837 hl (by decide) rfl (fun ls hl => ?_)
  refine lv_aload_n hx hb dL_law_1839 rfl (lv_at hl 3 rfl) ?_
  refine zsc (k := 1) X hX hbl hbA hS dL_law_1840 dL_law_1841 dL_law_1843 (by decide) dL_law_1844 dL_law_1845 (lv_at hl 5 rfl) (lv_at hl 1 rfl) (hin 1 (by decide)) ?_
  refine zsc (k := 2) X hX hbl hbA hS dL_law_1846 dL_law_1847 dL_law_1849 (by decide) dL_law_1850 dL_law_1851 (lv_at hl 5 rfl) (lv_at hl 1 rfl) (hin 2 (by decide)) ?_
  refine zsc (k := 3) X hX hbl hbA hS dL_law_1852 dL_law_1853 dL_law_1855 (by decide) dL_law_1856 dL_law_1857 (lv_at hl 5 rfl) (lv_at hl 1 rfl) (hin 3 (by decide)) ?_
  refine zbo X dL_law_1858 (by decide) dL_law_1861 dL_law_1862 (by decide) dL_law_1865 ?_
  refine zLm (rest := []) X e2 hM kf_RL_234 ⟨(Nat.le_of_ble_eq_true rfl), (Nat.le_of_ble_eq_true rfl)⟩ hP hD hS rfl b2 rfl rfl hl.1 (Nat.le_of_ble_eq_true rfl) dL_law_1866 ⟨?_, ?_⟩ (fun v wm hp H locs hP hD hS => ?_)
  · exact Nat.le_trans (Nat.add_le_add_left (Nat.le_of_ble_eq_true rfl) cells) hcl.1
  · exact Nat.le_trans (Nat.add_le_add_left (Nat.le_of_ble_eq_true rfl) slots) hcl.2
  obtain ⟨⟨r, rfl, hc⟩, hI⟩ := key v wm hp
  refine lv_lstore (lv' := [(6, .long r), (5, .int kv), (4, .int i), (3, .ref ab), (2, .ref bm), (1, .ref b), (0, .ref sb)]) hx hb dL_law_1869 hl (by decide) rfl (fun ls hl => ?_)
  obtain ⟨r3, c3, f3, e3, b3, hC3⟩ := hT _ _ _ hI
  refine lv_aload_n hx hb dL_law_1871 rfl (lv_at hl 4 rfl) ?_
  refine zLm (rest := []) X e3 hC3 kf_RL_145 ⟨(Nat.le_of_ble_eq_true rfl), (Nat.le_of_ble_eq_true rfl)⟩ hP hD hS rfl b3 rfl rfl hl.1 (Nat.le_of_ble_eq_true rfl) dL_law_1872 ⟨?_, ?_⟩ (fun v w3 hp H locs hP hD hS => ?_)
  · exact Nat.le_trans (Nat.add_le_add_left (Nat.le_of_ble_eq_true rfl) cells) hcl.1
  · exact Nat.le_trans (Nat.add_le_add_left (Nat.le_of_ble_eq_true rfl) slots) hcl.2
  obtain ⟨rfl, rfl⟩ := hp
  replace hP := zPp (List.Perm.append_right _ e3.symm) hP
  replace hD := zDp (List.Perm.append_right _ e3.symm) hD
  refine lv_iload hx hb dL_law_1875 (lv_at hl 1 rfl) ?_
  refine lv_icmp_eq (tgt := 1882) hx hb dL_law_1877 (by decide) (fun _ => ?_) (fun h => absurd rfl h)
  refine lv_iload hx hb dL_law_1882 (lv_at hl 1 rfl) ?_
  have hend : ∀ (H : Heap) (locs : List Loc), va_P D vwCl ((rM ++ wm) ++ (zbx y ab c1 :: (rX ++ w1))) H → va_D A ((rM ++ wm) ++ (zbx y ab c1 :: (rX ++ w1))) → va_S A s.heap H locs → W p l e room_1 s m args below meth c H locs (cells + 1 + 0 + 0) (slots + 6 + 0 + 0) Q (F0 m 1898 ls []) := by
    intro H locs hP hD hS
    refine lv_goto (tgt := 3102) hx hb dL_law_1898 (by decide) ?_
    refine W.widen (k := cells + 8) (n := slots + 64) (Nat.add_le_add_left (Nat.le_of_ble_eq_true rfl) cells) (Nat.add_le_add_left (Nat.le_of_ble_eq_true rfl) slots) ?_
    exact kk _ _ _ _ _ _ _ hI hP hD hS (zlv (zlv hl))
  refine lv_if_ne (tgt := 1898) hx hb dL_law_1884 (by decide) (fun _ => hend H locs hP hD hS) (fun hz => ?_)
  refine lv_aload_n hx hb dL_law_1887 rfl (lv_at hl 3 rfl) ?_
  refine lv_iconst (v := 0) hx hb dL_law_1888 (by decide) ?_
  refine va_lald hx hb hK (zPp List.perm_append_comm hP) 0 1 rfl rfl (by unfold vp_in; decide) dL_law_1889 ?_
  rw [show c1 (0 : Int32).toNatClampNeg = _ from hc hz]
  refine lv_lload hx hb dL_law_1890 (lv_at hl 0 rfl) ?_
  refine W.lcmp hx hb dL_law_1892 ?_
  refine lv_if_eq (tgt := 1898) hx hb dL_law_1893 (by decide) (fun _ => hend H locs hP hD hS) (fun h => absurd (zlcE _) h)
theorem kf_RL_237 : zCB RL 237 yX9_barred cX9_barred 8 (some .long) 3 ∧ Cond.instanceMethod yX9_barred ∈ wAll ∧ Cond.selects yX9_barred.cls yX9_barred yX9_barred ∈ wAll := ⟨⟨q_1731, q_9, q_1728, by decide +kernel⟩, q_1729, q_1730⟩
theorem kw_RL_235 : zCW RL 235 yL_barred cL_barred 6 (some .int) [(0, 11, 14, 13)] 5 := ⟨q_1171, q_0, q_1169, q_1170, by decide +kernel⟩
def zK27 (l : Launch) (D : va_G) (y : zY) (b bm : Nat) (I : Int32 → va_W → va_W → Prop) : Prop :=
  ∀ (t : Int32) (wX wM : va_W), I t wX wM → ∀ (x1 : Int32) (x2 : Int32) (x3 : Int32), (x3 = 0 ∨ x3 = 1) → ∃ (rX cX rM cM : va_W) (fX fM : List Value) (P : Option Value → va_W → Prop) (PX : String → va_W → Prop) (PM : Option Value → va_W → Prop), wX.Perm (rX ++ cX) ∧ wM.Perm (rM ++ cM) ∧ cX[0]? = some (b, .inr (8, fX)) ∧ cM[0]? = some (bm, .inr (9, fM)) ∧ zCx l D y yX8_barred cX8_barred 9 (some .long) rm_X8_barred [.ref b, .int x1, .int x2, .int x3] cX P PX ∧ zC l D y yX9_barred cX9_barred 8 (some .long) rm_X9_barred [.ref bm, .int x1, .int x2, .int x3] cM PM ∧ (∀ v w, P v w → ∃ r : Int64, v = some (.long r) ∧ ∀ vm wm, PM vm wm → vm = some (.long r) ∧ I 0 (rX ++ w) (rM ++ wm)) ∧ (∀ E w, PX E w → (E = "java/lang/IllegalArgumentException" ∧ ∀ vm wm, PM vm wm → (∃ r : Int64, vm = some (.long r)) ∧ I 1 (rX ++ w) (rM ++ wm)))
set_option maxHeartbeats 4000000 in
theorem zlk_27 {p : Program} {l : Launch} {e : Env} {s : State} {m : MethodId} {args : Array Value} {below : List Frame} {meth : Method} {c : Code} {H : Heap} {locs : List Loc} {cells slots : Nat} {Q : State → Prop} {D : va_G} {y : zY} {A : Nat → Prop} {ls : Array Slot} {wX wM : va_W} {ab b bm sb L : Nat} {cbx : Nat → Int64} {xs : Nat → Int32} {I : Int32 → va_W → va_W → Prop} {t i : Int32} (X : zX p s m args meth c D y A RL cL_law 8 (some .boolean)) (hT : zKT l D y bm I) (hk : zK27 l D y b bm I) (hX : va_X sb L xs s s.heap) (hbl : sb < s.heap.size) (hbA : ¬ A sb) (hin : ∀ k : Int32, 0 ≤ k.toInt ∧ k.toInt < 8 → vp_in (i + k) L) (hI : I t wX wM) (hP : va_P D vwCl (wM ++ (zbx y ab cbx :: wX)) H) (hD : va_D A (wM ++ (zbx y ab cbx :: wX))) (hS : va_S A s.heap H locs) (hl : lv_has ls 8 [(4, .int i), (3, .ref ab), (2, .ref bm), (1, .ref b), (0, .ref sb)]) (hcl : cells + 8 ≤ room_1.cells ∧ slots + 64 ≤ room_1.slots)
    (kk : ∀ (t : Int32) (wX wM : va_W) (cbx : Nat → Int64) (H : Heap) (locs : List Loc) (ls : Array Slot), I t wX wM → va_P D vwCl (wM ++ (zbx y ab cbx :: wX)) H → va_D A (wM ++ (zbx y ab cbx :: wX)) → va_S A s.heap H locs → lv_has ls 8 [(4, .int i), (3, .ref ab), (2, .ref bm), (1, .ref b), (0, .ref sb)] → W p l e room_1 s m args below meth c H locs (cells + 8) (slots + 64) Q (F0 m 3102 ls [])) : W p l e room_1 s m args below meth c H locs cells slots Q (F0 m 1901 ls []) := by
  obtain ⟨hx, hb, hr9, hml, hown, hts, hK, hA, hlocks⟩ := id X
  refine lv_aload_n hx hb dL_law_1901 rfl (lv_at hl 3 rfl) ?_
  refine zsc (k := 1) X hX hbl hbA hS dL_law_1902 dL_law_1903 dL_law_1905 (by decide) dL_law_1906 dL_law_1907 (lv_at hl 4 rfl) (lv_at hl 0 rfl) (hin 1 (by decide)) ?_
  refine zsc (k := 2) X hX hbl hbA hS dL_law_1908 dL_law_1909 dL_law_1911 (by decide) dL_law_1912 dL_law_1913 (lv_at hl 4 rfl) (lv_at hl 0 rfl) (hin 2 (by decide)) ?_
  refine zsc (k := 3) X hX hbl hbA hS dL_law_1914 dL_law_1915 dL_law_1917 (by decide) dL_law_1918 dL_law_1919 (lv_at hl 4 rfl) (lv_at hl 0 rfl) (hin 3 (by decide)) ?_
  refine zbo X dL_law_1920 (by decide) dL_law_1923 dL_law_1924 (by decide) dL_law_1927 ?_
  obtain ⟨rX, cX, rM, cM, fX, fM, P, PX, PM, e1, e2, b1, b2, hC, hM, hn, hE⟩ := hk t wX wM hI (xs (i + 1).toNatClampNeg) (xs (i + 2).toNatClampNeg) (zbl (xs (i + 3).toNatClampNeg)) (zbl01 _)
  refine lv_aload_n hx hb dL_law_1928 rfl (lv_at hl 1 rfl) ?_
  have hw := zw_L_barred l D y b ab cbx (xs (i + 1).toNatClampNeg) (xs (i + 2).toNatClampNeg) (zbl (xs (i + 3).toNatClampNeg)) cX fX 0 b1 P PX hC (fun v w h => (hn v w h).imp fun _ z => z.1) (fun E w h => (hE E w h).1)
  refine zLw (rest := []) X e1 hw kw_RL_235 ⟨(Nat.le_of_ble_eq_true rfl), (Nat.le_of_ble_eq_true rfl)⟩ hP hD hS rfl rfl hl.1 (Nat.le_of_ble_eq_true rfl) dL_law_1929 ⟨Nat.le_trans (Nat.add_le_add_left (Nat.le_of_ble_eq_true rfl) _) hcl.1, Nat.le_trans (Nat.add_le_add_left (Nat.le_of_ble_eq_true rfl) _) hcl.2⟩ (fun v w h => ?_) (fun v bx1 w1 hp H locs hP hD hS => ?_)
  · rcases h with ⟨_, w1, _, _, h⟩ | ⟨_, w1, _, _, h⟩
    · exact ⟨_, w1, h⟩
    · exact ⟨_, w1, h⟩
  have key : ∃ (kv : Int32) (c1 : Nat → Int64), v = some (.int kv) ∧ bx1 = zbx y ab c1 ∧ ∀ vm wm, PM vm wm → (∃ r : Int64, vm = some (.long r) ∧ (kv = 0 → c1 0 = r)) ∧ I kv (rX ++ w1) (rM ++ wm) := by
    rcases hp with ⟨r, w2, hp, rfl, hw2⟩ | ⟨E, w2, hp, hv, hw2⟩
    · obtain ⟨rfl, rfl⟩ := List.cons.inj hw2
      obtain ⟨r1, er, hn⟩ := hn _ _ hp
      obtain rfl : r = r1 := by injection er with er; injection er
      refine ⟨0, _, rfl, rfl, fun vm wm hm => ?_⟩
      obtain ⟨rfl, hi⟩ := hn vm wm hm
      exact ⟨⟨r, rfl, fun _ => rfl⟩, hi⟩
    · obtain ⟨rfl, rfl⟩ := List.cons.inj hw2
      obtain ⟨rfl, hv⟩ := hv
      obtain ⟨-, hn⟩ := hE _ _ hp
      refine ⟨1, _, hv, rfl, fun vm wm hm => ?_⟩
      obtain ⟨⟨r, rfl⟩, hi⟩ := hn vm wm hm
      exact ⟨⟨r, rfl, fun h => absurd h (by decide)⟩, hi⟩
  obtain ⟨kv, c1, rfl, rfl, key⟩ := key
  refine lv_istore (lv' := [(5, .int kv), (4, .int i), (3, .ref ab), (2, .ref bm), (1, .ref b), (0, .ref sb)]) hx hb dL_law_1932 hl (by decide) rfl (fun ls hl => ?_)
  refine lv_aload_n hx hb dL_law_1934 rfl (lv_at hl 3 rfl) ?_
  refine zsc (k := 1) X hX hbl hbA hS dL_law_1935 dL_law_1936 dL_law_1938 (by decide) dL_law_1939 dL_law_1940 (lv_at hl 5 rfl) (lv_at hl 1 rfl) (hin 1 (by decide)) ?_
  refine zsc (k := 2) X hX hbl hbA hS dL_law_1941 dL_law_1942 dL_law_1944 (by decide) dL_law_1945 dL_law_1946 (lv_at hl 5 rfl) (lv_at hl 1 rfl) (hin 2 (by decide)) ?_
  refine zsc (k := 3) X hX hbl hbA hS dL_law_1947 dL_law_1948 dL_law_1950 (by decide) dL_law_1951 dL_law_1952 (lv_at hl 5 rfl) (lv_at hl 1 rfl) (hin 3 (by decide)) ?_
  refine zbo X dL_law_1953 (by decide) dL_law_1956 dL_law_1957 (by decide) dL_law_1960 ?_
  refine zLm (rest := []) X e2 hM kf_RL_237 ⟨(Nat.le_of_ble_eq_true rfl), (Nat.le_of_ble_eq_true rfl)⟩ hP hD hS rfl b2 rfl rfl hl.1 (Nat.le_of_ble_eq_true rfl) dL_law_1961 ⟨?_, ?_⟩ (fun v wm hp H locs hP hD hS => ?_)
  · exact Nat.le_trans (Nat.add_le_add_left (Nat.le_of_ble_eq_true rfl) cells) hcl.1
  · exact Nat.le_trans (Nat.add_le_add_left (Nat.le_of_ble_eq_true rfl) slots) hcl.2
  obtain ⟨⟨r, rfl, hc⟩, hI⟩ := key v wm hp
  refine lv_lstore (lv' := [(6, .long r), (5, .int kv), (4, .int i), (3, .ref ab), (2, .ref bm), (1, .ref b), (0, .ref sb)]) hx hb dL_law_1964 hl (by decide) rfl (fun ls hl => ?_)
  obtain ⟨r3, c3, f3, e3, b3, hC3⟩ := hT _ _ _ hI
  refine lv_aload_n hx hb dL_law_1966 rfl (lv_at hl 4 rfl) ?_
  refine zLm (rest := []) X e3 hC3 kf_RL_145 ⟨(Nat.le_of_ble_eq_true rfl), (Nat.le_of_ble_eq_true rfl)⟩ hP hD hS rfl b3 rfl rfl hl.1 (Nat.le_of_ble_eq_true rfl) dL_law_1967 ⟨?_, ?_⟩ (fun v w3 hp H locs hP hD hS => ?_)
  · exact Nat.le_trans (Nat.add_le_add_left (Nat.le_of_ble_eq_true rfl) cells) hcl.1
  · exact Nat.le_trans (Nat.add_le_add_left (Nat.le_of_ble_eq_true rfl) slots) hcl.2
  obtain ⟨rfl, rfl⟩ := hp
  replace hP := zPp (List.Perm.append_right _ e3.symm) hP
  replace hD := zDp (List.Perm.append_right _ e3.symm) hD
  refine lv_iload hx hb dL_law_1970 (lv_at hl 1 rfl) ?_
  refine lv_icmp_eq (tgt := 1977) hx hb dL_law_1972 (by decide) (fun _ => ?_) (fun h => absurd rfl h)
  refine lv_iload hx hb dL_law_1977 (lv_at hl 1 rfl) ?_
  have hend : ∀ (H : Heap) (locs : List Loc), va_P D vwCl ((rM ++ wm) ++ (zbx y ab c1 :: (rX ++ w1))) H → va_D A ((rM ++ wm) ++ (zbx y ab c1 :: (rX ++ w1))) → va_S A s.heap H locs → W p l e room_1 s m args below meth c H locs (cells + 1 + 0 + 0) (slots + 6 + 0 + 0) Q (F0 m 1993 ls []) := by
    intro H locs hP hD hS
    refine lv_goto (tgt := 3102) hx hb dL_law_1993 (by decide) ?_
    refine W.widen (k := cells + 8) (n := slots + 64) (Nat.add_le_add_left (Nat.le_of_ble_eq_true rfl) cells) (Nat.add_le_add_left (Nat.le_of_ble_eq_true rfl) slots) ?_
    exact kk _ _ _ _ _ _ _ hI hP hD hS (zlv (zlv hl))
  refine lv_if_ne (tgt := 1993) hx hb dL_law_1979 (by decide) (fun _ => hend H locs hP hD hS) (fun hz => ?_)
  refine lv_aload_n hx hb dL_law_1982 rfl (lv_at hl 3 rfl) ?_
  refine lv_iconst (v := 0) hx hb dL_law_1983 (by decide) ?_
  refine va_lald hx hb hK (zPp List.perm_append_comm hP) 0 1 rfl rfl (by unfold vp_in; decide) dL_law_1984 ?_
  rw [show c1 (0 : Int32).toNatClampNeg = _ from hc hz]
  refine lv_lload hx hb dL_law_1985 (lv_at hl 0 rfl) ?_
  refine W.lcmp hx hb dL_law_1987 ?_
  refine lv_if_eq (tgt := 1993) hx hb dL_law_1988 (by decide) (fun _ => hend H locs hP hD hS) (fun h => absurd (zlcE _) h)
theorem kf_RL_241 : zCB RL 241 yX9_would cX9_would 11 (some .long) 7 ∧ Cond.instanceMethod yX9_would ∈ wAll ∧ Cond.selects yX9_would.cls yX9_would yX9_would ∈ wAll := ⟨⟨q_1735, q_9, q_1732, by decide +kernel⟩, q_1733, q_1734⟩
theorem kw_RL_238 : zCW RL 238 yL_would cL_would 10 (some .int) [(0, 19, 22, 19), (0, 19, 26, 13), (0, 19, 30, 29)] 9 := ⟨q_1178, q_0, q_1176, q_1177, by decide +kernel⟩
def zK28 (l : Launch) (D : va_G) (y : zY) (b bm : Nat) (I : Int32 → va_W → va_W → Prop) : Prop :=
  ∀ (t : Int32) (wX wM : va_W), I t wX wM → ∀ (x1 : Int32) (x2 : Int32) (x3 : Int32) (x4 : Int32) (x5 : Int32) (x6 : Int32) (x7 : Int32), (x3 = 0 ∨ x3 = 1) → (x7 = 0 ∨ x7 = 1) → ∃ (rX cX rM cM : va_W) (fX fM : List Value) (P : Option Value → va_W → Prop) (PX : String → va_W → Prop) (PM : Option Value → va_W → Prop), wX.Perm (rX ++ cX) ∧ wM.Perm (rM ++ cM) ∧ cX[0]? = some (b, .inr (8, fX)) ∧ cM[0]? = some (bm, .inr (9, fM)) ∧ zCx l D y yX8_would cX8_would 11 (some .long) rm_X8_would [.ref b, .int x1, .int x2, .int x3, .int x4, .int x5, .int x6, .int x7] cX P PX ∧ zC l D y yX9_would cX9_would 11 (some .long) rm_X9_would [.ref bm, .int x1, .int x2, .int x3, .int x4, .int x5, .int x6, .int x7] cM PM ∧ (∀ v w, P v w → ∃ r : Int64, v = some (.long r) ∧ ∀ vm wm, PM vm wm → vm = some (.long r) ∧ I 0 (rX ++ w) (rM ++ wm)) ∧ (∀ E w, PX E w → (E = "java/lang/IndexOutOfBoundsException" ∧ ∀ vm wm, PM vm wm → (∃ r : Int64, vm = some (.long r)) ∧ I 1 (rX ++ w) (rM ++ wm)) ∨ (E = "java/lang/IllegalArgumentException" ∧ ∀ vm wm, PM vm wm → (∃ r : Int64, vm = some (.long r)) ∧ I 2 (rX ++ w) (rM ++ wm)) ∨ (E = "java/lang/IllegalStateException" ∧ ∀ vm wm, PM vm wm → (∃ r : Int64, vm = some (.long r)) ∧ I 3 (rX ++ w) (rM ++ wm)))
set_option maxHeartbeats 4000000 in
theorem zlk_28 {p : Program} {l : Launch} {e : Env} {s : State} {m : MethodId} {args : Array Value} {below : List Frame} {meth : Method} {c : Code} {H : Heap} {locs : List Loc} {cells slots : Nat} {Q : State → Prop} {D : va_G} {y : zY} {A : Nat → Prop} {ls : Array Slot} {wX wM : va_W} {ab b bm sb L : Nat} {cbx : Nat → Int64} {xs : Nat → Int32} {I : Int32 → va_W → va_W → Prop} {t i : Int32} (X : zX p s m args meth c D y A RL cL_law 8 (some .boolean)) (hT : zKT l D y bm I) (hk : zK28 l D y b bm I) (hX : va_X sb L xs s s.heap) (hbl : sb < s.heap.size) (hbA : ¬ A sb) (hin : ∀ k : Int32, 0 ≤ k.toInt ∧ k.toInt < 8 → vp_in (i + k) L) (hI : I t wX wM) (hP : va_P D vwCl (wM ++ (zbx y ab cbx :: wX)) H) (hD : va_D A (wM ++ (zbx y ab cbx :: wX))) (hS : va_S A s.heap H locs) (hl : lv_has ls 8 [(4, .int i), (3, .ref ab), (2, .ref bm), (1, .ref b), (0, .ref sb)]) (hcl : cells + 8 ≤ room_1.cells ∧ slots + 64 ≤ room_1.slots)
    (kk : ∀ (t : Int32) (wX wM : va_W) (cbx : Nat → Int64) (H : Heap) (locs : List Loc) (ls : Array Slot), I t wX wM → va_P D vwCl (wM ++ (zbx y ab cbx :: wX)) H → va_D A (wM ++ (zbx y ab cbx :: wX)) → va_S A s.heap H locs → lv_has ls 8 [(4, .int i), (3, .ref ab), (2, .ref bm), (1, .ref b), (0, .ref sb)] → W p l e room_1 s m args below meth c H locs (cells + 8) (slots + 64) Q (F0 m 3102 ls [])) : W p l e room_1 s m args below meth c H locs cells slots Q (F0 m 1996 ls []) := by
  obtain ⟨hx, hb, hr9, hml, hown, hts, hK, hA, hlocks⟩ := id X
  refine lv_aload_n hx hb dL_law_1996 rfl (lv_at hl 3 rfl) ?_
  refine zsc (k := 1) X hX hbl hbA hS dL_law_1997 dL_law_1998 dL_law_2000 (by decide) dL_law_2001 dL_law_2002 (lv_at hl 4 rfl) (lv_at hl 0 rfl) (hin 1 (by decide)) ?_
  refine zsc (k := 2) X hX hbl hbA hS dL_law_2003 dL_law_2004 dL_law_2006 (by decide) dL_law_2007 dL_law_2008 (lv_at hl 4 rfl) (lv_at hl 0 rfl) (hin 2 (by decide)) ?_
  refine zsc (k := 3) X hX hbl hbA hS dL_law_2009 dL_law_2010 dL_law_2012 (by decide) dL_law_2013 dL_law_2014 (lv_at hl 4 rfl) (lv_at hl 0 rfl) (hin 3 (by decide)) ?_
  refine zbo X dL_law_2015 (by decide) dL_law_2018 dL_law_2019 (by decide) dL_law_2022 ?_
  refine zsc (k := 4) X hX hbl hbA hS dL_law_2023 dL_law_2024 dL_law_2026 (by decide) dL_law_2027 dL_law_2028 (lv_at hl 4 rfl) (lv_at hl 0 rfl) (hin 4 (by decide)) ?_
  refine zsc (k := 5) X hX hbl hbA hS dL_law_2029 dL_law_2030 dL_law_2032 (by decide) dL_law_2033 dL_law_2034 (lv_at hl 4 rfl) (lv_at hl 0 rfl) (hin 5 (by decide)) ?_
  refine zscb (k := 6) X hX hbl hbA hS dL_law_2035 dL_law_2036 dL_law_2038 (by decide) dL_law_2040 dL_law_2041 (lv_at hl 4 rfl) (lv_at hl 0 rfl) (hin 6 (by decide)) ?_
  refine zscb (k := 7) X hX hbl hbA hS dL_law_2042 dL_law_2043 dL_law_2045 (by decide) dL_law_2047 dL_law_2048 (lv_at hl 4 rfl) (lv_at hl 0 rfl) (hin 7 (by decide)) ?_
  refine zbo X dL_law_2049 (by decide) dL_law_2052 dL_law_2053 (by decide) dL_law_2056 ?_
  obtain ⟨rX, cX, rM, cM, fX, fM, P, PX, PM, e1, e2, b1, b2, hC, hM, hn, hE⟩ := hk t wX wM hI (xs (i + 1).toNatClampNeg) (xs (i + 2).toNatClampNeg) (zbl (xs (i + 3).toNatClampNeg)) (xs (i + 4).toNatClampNeg) (xs (i + 5).toNatClampNeg) (xs (i + 6).toNatClampNeg) (zbl (xs (i + 7).toNatClampNeg)) (zbl01 _) (zbl01 _)
  refine lv_aload_n hx hb dL_law_2057 rfl (lv_at hl 1 rfl) ?_
  have hw := zw_L_would l D y b ab cbx (xs (i + 1).toNatClampNeg) (xs (i + 2).toNatClampNeg) (zbl (xs (i + 3).toNatClampNeg)) (xs (i + 4).toNatClampNeg) (xs (i + 5).toNatClampNeg) (xs (i + 6).toNatClampNeg) (zbl (xs (i + 7).toNatClampNeg)) cX fX 0 b1 P PX hC (fun v w h => (hn v w h).imp fun _ z => z.1) (fun E w h => (hE E w h).elim (fun z => Or.inl z.1) (fun z => z.elim (fun z => Or.inr (Or.inl z.1)) (fun z => Or.inr (Or.inr z.1))))
  refine zLw (rest := []) X e1 hw kw_RL_238 ⟨(Nat.le_of_ble_eq_true rfl), (Nat.le_of_ble_eq_true rfl)⟩ hP hD hS rfl rfl hl.1 (Nat.le_of_ble_eq_true rfl) dL_law_2058 ⟨Nat.le_trans (Nat.add_le_add_left (Nat.le_of_ble_eq_true rfl) _) hcl.1, Nat.le_trans (Nat.add_le_add_left (Nat.le_of_ble_eq_true rfl) _) hcl.2⟩ (fun v w h => ?_) (fun v bx1 w1 hp H locs hP hD hS => ?_)
  · rcases h with ⟨_, w1, _, _, h⟩ | ⟨_, w1, _, _, h⟩
    · exact ⟨_, w1, h⟩
    · exact ⟨_, w1, h⟩
  have key : ∃ (kv : Int32) (c1 : Nat → Int64), v = some (.int kv) ∧ bx1 = zbx y ab c1 ∧ ∀ vm wm, PM vm wm → (∃ r : Int64, vm = some (.long r) ∧ (kv = 0 → c1 0 = r)) ∧ I kv (rX ++ w1) (rM ++ wm) := by
    rcases hp with ⟨r, w2, hp, rfl, hw2⟩ | ⟨E, w2, hp, hv, hw2⟩
    · obtain ⟨rfl, rfl⟩ := List.cons.inj hw2
      obtain ⟨r1, er, hn⟩ := hn _ _ hp
      obtain rfl : r = r1 := by injection er with er; injection er
      refine ⟨0, _, rfl, rfl, fun vm wm hm => ?_⟩
      obtain ⟨rfl, hi⟩ := hn vm wm hm
      exact ⟨⟨r, rfl, fun _ => rfl⟩, hi⟩
    · obtain ⟨rfl, rfl⟩ := List.cons.inj hw2
      rcases hv with ⟨rfl, hv⟩ | ⟨rfl, hv⟩ | ⟨rfl, hv⟩
      · rcases hE _ _ hp with ⟨h0, hn⟩ | ⟨h0, hn⟩ | ⟨h0, hn⟩
        · refine ⟨1, _, hv, rfl, fun vm wm hm => ?_⟩
          obtain ⟨⟨r, rfl⟩, hi⟩ := hn vm wm hm
          exact ⟨⟨r, rfl, fun h => absurd h (by decide)⟩, hi⟩
        · exact absurd h0 (by decide)
        · exact absurd h0 (by decide)
      · rcases hE _ _ hp with ⟨h0, hn⟩ | ⟨h0, hn⟩ | ⟨h0, hn⟩
        · exact absurd h0 (by decide)
        · refine ⟨2, _, hv, rfl, fun vm wm hm => ?_⟩
          obtain ⟨⟨r, rfl⟩, hi⟩ := hn vm wm hm
          exact ⟨⟨r, rfl, fun h => absurd h (by decide)⟩, hi⟩
        · exact absurd h0 (by decide)
      · rcases hE _ _ hp with ⟨h0, hn⟩ | ⟨h0, hn⟩ | ⟨h0, hn⟩
        · exact absurd h0 (by decide)
        · exact absurd h0 (by decide)
        · refine ⟨3, _, hv, rfl, fun vm wm hm => ?_⟩
          obtain ⟨⟨r, rfl⟩, hi⟩ := hn vm wm hm
          exact ⟨⟨r, rfl, fun h => absurd h (by decide)⟩, hi⟩
  obtain ⟨kv, c1, rfl, rfl, key⟩ := key
  refine lv_istore (lv' := [(5, .int kv), (4, .int i), (3, .ref ab), (2, .ref bm), (1, .ref b), (0, .ref sb)]) hx hb dL_law_2061 hl (by decide) rfl (fun ls hl => ?_)
  refine lv_aload_n hx hb dL_law_2063 rfl (lv_at hl 3 rfl) ?_
  refine zsc (k := 1) X hX hbl hbA hS dL_law_2064 dL_law_2065 dL_law_2067 (by decide) dL_law_2068 dL_law_2069 (lv_at hl 5 rfl) (lv_at hl 1 rfl) (hin 1 (by decide)) ?_
  refine zsc (k := 2) X hX hbl hbA hS dL_law_2070 dL_law_2071 dL_law_2073 (by decide) dL_law_2074 dL_law_2075 (lv_at hl 5 rfl) (lv_at hl 1 rfl) (hin 2 (by decide)) ?_
  refine zsc (k := 3) X hX hbl hbA hS dL_law_2076 dL_law_2077 dL_law_2079 (by decide) dL_law_2080 dL_law_2081 (lv_at hl 5 rfl) (lv_at hl 1 rfl) (hin 3 (by decide)) ?_
  refine zbo X dL_law_2082 (by decide) dL_law_2085 dL_law_2086 (by decide) dL_law_2089 ?_
  refine zsc (k := 4) X hX hbl hbA hS dL_law_2090 dL_law_2091 dL_law_2093 (by decide) dL_law_2094 dL_law_2095 (lv_at hl 5 rfl) (lv_at hl 1 rfl) (hin 4 (by decide)) ?_
  refine zsc (k := 5) X hX hbl hbA hS dL_law_2096 dL_law_2097 dL_law_2099 (by decide) dL_law_2100 dL_law_2101 (lv_at hl 5 rfl) (lv_at hl 1 rfl) (hin 5 (by decide)) ?_
  refine zscb (k := 6) X hX hbl hbA hS dL_law_2102 dL_law_2103 dL_law_2105 (by decide) dL_law_2107 dL_law_2108 (lv_at hl 5 rfl) (lv_at hl 1 rfl) (hin 6 (by decide)) ?_
  refine zscb (k := 7) X hX hbl hbA hS dL_law_2109 dL_law_2110 dL_law_2112 (by decide) dL_law_2114 dL_law_2115 (lv_at hl 5 rfl) (lv_at hl 1 rfl) (hin 7 (by decide)) ?_
  refine zbo X dL_law_2116 (by decide) dL_law_2119 dL_law_2120 (by decide) dL_law_2123 ?_
  refine zLm (rest := []) X e2 hM kf_RL_241 ⟨(Nat.le_of_ble_eq_true rfl), (Nat.le_of_ble_eq_true rfl)⟩ hP hD hS rfl b2 rfl rfl hl.1 (Nat.le_of_ble_eq_true rfl) dL_law_2124 ⟨?_, ?_⟩ (fun v wm hp H locs hP hD hS => ?_)
  · exact Nat.le_trans (Nat.add_le_add_left (Nat.le_of_ble_eq_true rfl) cells) hcl.1
  · exact Nat.le_trans (Nat.add_le_add_left (Nat.le_of_ble_eq_true rfl) slots) hcl.2
  obtain ⟨⟨r, rfl, hc⟩, hI⟩ := key v wm hp
  refine lv_lstore (lv' := [(6, .long r), (5, .int kv), (4, .int i), (3, .ref ab), (2, .ref bm), (1, .ref b), (0, .ref sb)]) hx hb dL_law_2127 hl (by decide) rfl (fun ls hl => ?_)
  obtain ⟨r3, c3, f3, e3, b3, hC3⟩ := hT _ _ _ hI
  refine lv_aload_n hx hb dL_law_2129 rfl (lv_at hl 4 rfl) ?_
  refine zLm (rest := []) X e3 hC3 kf_RL_145 ⟨(Nat.le_of_ble_eq_true rfl), (Nat.le_of_ble_eq_true rfl)⟩ hP hD hS rfl b3 rfl rfl hl.1 (Nat.le_of_ble_eq_true rfl) dL_law_2130 ⟨?_, ?_⟩ (fun v w3 hp H locs hP hD hS => ?_)
  · exact Nat.le_trans (Nat.add_le_add_left (Nat.le_of_ble_eq_true rfl) cells) hcl.1
  · exact Nat.le_trans (Nat.add_le_add_left (Nat.le_of_ble_eq_true rfl) slots) hcl.2
  obtain ⟨rfl, rfl⟩ := hp
  replace hP := zPp (List.Perm.append_right _ e3.symm) hP
  replace hD := zDp (List.Perm.append_right _ e3.symm) hD
  refine lv_iload hx hb dL_law_2133 (lv_at hl 1 rfl) ?_
  refine lv_icmp_eq (tgt := 2140) hx hb dL_law_2135 (by decide) (fun _ => ?_) (fun h => absurd rfl h)
  refine lv_iload hx hb dL_law_2140 (lv_at hl 1 rfl) ?_
  have hend : ∀ (H : Heap) (locs : List Loc), va_P D vwCl ((rM ++ wm) ++ (zbx y ab c1 :: (rX ++ w1))) H → va_D A ((rM ++ wm) ++ (zbx y ab c1 :: (rX ++ w1))) → va_S A s.heap H locs → W p l e room_1 s m args below meth c H locs (cells + 5 + 0 + 0) (slots + 32 + 0 + 0) Q (F0 m 2156 ls []) := by
    intro H locs hP hD hS
    refine lv_goto (tgt := 3102) hx hb dL_law_2156 (by decide) ?_
    refine W.widen (k := cells + 8) (n := slots + 64) (Nat.add_le_add_left (Nat.le_of_ble_eq_true rfl) cells) (Nat.add_le_add_left (Nat.le_of_ble_eq_true rfl) slots) ?_
    exact kk _ _ _ _ _ _ _ hI hP hD hS (zlv (zlv hl))
  refine lv_if_ne (tgt := 2156) hx hb dL_law_2142 (by decide) (fun _ => hend H locs hP hD hS) (fun hz => ?_)
  refine lv_aload_n hx hb dL_law_2145 rfl (lv_at hl 3 rfl) ?_
  refine lv_iconst (v := 0) hx hb dL_law_2146 (by decide) ?_
  refine va_lald hx hb hK (zPp List.perm_append_comm hP) 0 1 rfl rfl (by unfold vp_in; decide) dL_law_2147 ?_
  rw [show c1 (0 : Int32).toNatClampNeg = _ from hc hz]
  refine lv_lload hx hb dL_law_2148 (lv_at hl 0 rfl) ?_
  refine W.lcmp hx hb dL_law_2150 ?_
  refine lv_if_eq (tgt := 2156) hx hb dL_law_2151 (by decide) (fun _ => hend H locs hP hD hS) (fun h => absurd (zlcE _) h)
theorem kf_RL_244 : zCB RL 244 yX9_wetness cX9_wetness 17 (some .long) 3 ∧ Cond.instanceMethod yX9_wetness ∈ wAll ∧ Cond.selects yX9_wetness.cls yX9_wetness yX9_wetness ∈ wAll := ⟨⟨q_1739, q_9, q_1736, by decide +kernel⟩, q_1737, q_1738⟩
theorem kw_RL_242 : zCW RL 242 yL_wetness cL_wetness 6 (some .int) [(0, 11, 14, 13)] 5 := ⟨q_1195, q_0, q_1193, q_1194, by decide +kernel⟩
def zK29 (l : Launch) (D : va_G) (y : zY) (b bm : Nat) (I : Int32 → va_W → va_W → Prop) : Prop :=
  ∀ (t : Int32) (wX wM : va_W), I t wX wM → ∀ (x1 : Int32) (x2 : Int32) (x3 : Int32), (x3 = 0 ∨ x3 = 1) → ∃ (rX cX rM cM : va_W) (fX fM : List Value) (P : Option Value → va_W → Prop) (PX : String → va_W → Prop) (PM : Option Value → va_W → Prop), wX.Perm (rX ++ cX) ∧ wM.Perm (rM ++ cM) ∧ cX[0]? = some (b, .inr (8, fX)) ∧ cM[0]? = some (bm, .inr (9, fM)) ∧ zCx l D y yX8_wetness cX8_wetness 12 (some .long) rm_X8_wetness [.ref b, .int x1, .int x2, .int x3] cX P PX ∧ zC l D y yX9_wetness cX9_wetness 17 (some .long) rm_X9_wetness [.ref bm, .int x1, .int x2, .int x3] cM PM ∧ (∀ v w, P v w → ∃ r : Int64, v = some (.long r) ∧ ∀ vm wm, PM vm wm → vm = some (.long r) ∧ I 0 (rX ++ w) (rM ++ wm)) ∧ (∀ E w, PX E w → (E = "java/lang/IllegalArgumentException" ∧ ∀ vm wm, PM vm wm → (∃ r : Int64, vm = some (.long r)) ∧ I 1 (rX ++ w) (rM ++ wm)))
set_option maxHeartbeats 4000000 in
theorem zlk_29 {p : Program} {l : Launch} {e : Env} {s : State} {m : MethodId} {args : Array Value} {below : List Frame} {meth : Method} {c : Code} {H : Heap} {locs : List Loc} {cells slots : Nat} {Q : State → Prop} {D : va_G} {y : zY} {A : Nat → Prop} {ls : Array Slot} {wX wM : va_W} {ab b bm sb L : Nat} {cbx : Nat → Int64} {xs : Nat → Int32} {I : Int32 → va_W → va_W → Prop} {t i : Int32} (X : zX p s m args meth c D y A RL cL_law 8 (some .boolean)) (hT : zKT l D y bm I) (hk : zK29 l D y b bm I) (hX : va_X sb L xs s s.heap) (hbl : sb < s.heap.size) (hbA : ¬ A sb) (hin : ∀ k : Int32, 0 ≤ k.toInt ∧ k.toInt < 8 → vp_in (i + k) L) (hI : I t wX wM) (hP : va_P D vwCl (wM ++ (zbx y ab cbx :: wX)) H) (hD : va_D A (wM ++ (zbx y ab cbx :: wX))) (hS : va_S A s.heap H locs) (hl : lv_has ls 8 [(4, .int i), (3, .ref ab), (2, .ref bm), (1, .ref b), (0, .ref sb)]) (hcl : cells + 8 ≤ room_1.cells ∧ slots + 64 ≤ room_1.slots)
    (kk : ∀ (t : Int32) (wX wM : va_W) (cbx : Nat → Int64) (H : Heap) (locs : List Loc) (ls : Array Slot), I t wX wM → va_P D vwCl (wM ++ (zbx y ab cbx :: wX)) H → va_D A (wM ++ (zbx y ab cbx :: wX)) → va_S A s.heap H locs → lv_has ls 8 [(4, .int i), (3, .ref ab), (2, .ref bm), (1, .ref b), (0, .ref sb)] → W p l e room_1 s m args below meth c H locs (cells + 8) (slots + 64) Q (F0 m 3102 ls [])) : W p l e room_1 s m args below meth c H locs cells slots Q (F0 m 2159 ls []) := by
  obtain ⟨hx, hb, hr9, hml, hown, hts, hK, hA, hlocks⟩ := id X
  refine lv_aload_n hx hb dL_law_2159 rfl (lv_at hl 3 rfl) ?_
  refine zsc (k := 1) X hX hbl hbA hS dL_law_2160 dL_law_2161 dL_law_2163 (by decide) dL_law_2164 dL_law_2165 (lv_at hl 4 rfl) (lv_at hl 0 rfl) (hin 1 (by decide)) ?_
  refine zsc (k := 2) X hX hbl hbA hS dL_law_2166 dL_law_2167 dL_law_2169 (by decide) dL_law_2170 dL_law_2171 (lv_at hl 4 rfl) (lv_at hl 0 rfl) (hin 2 (by decide)) ?_
  refine zsc (k := 3) X hX hbl hbA hS dL_law_2172 dL_law_2173 dL_law_2175 (by decide) dL_law_2176 dL_law_2177 (lv_at hl 4 rfl) (lv_at hl 0 rfl) (hin 3 (by decide)) ?_
  refine zbo X dL_law_2178 (by decide) dL_law_2181 dL_law_2182 (by decide) dL_law_2185 ?_
  obtain ⟨rX, cX, rM, cM, fX, fM, P, PX, PM, e1, e2, b1, b2, hC, hM, hn, hE⟩ := hk t wX wM hI (xs (i + 1).toNatClampNeg) (xs (i + 2).toNatClampNeg) (zbl (xs (i + 3).toNatClampNeg)) (zbl01 _)
  refine lv_aload_n hx hb dL_law_2186 rfl (lv_at hl 1 rfl) ?_
  have hw := zw_L_wetness l D y b ab cbx (xs (i + 1).toNatClampNeg) (xs (i + 2).toNatClampNeg) (zbl (xs (i + 3).toNatClampNeg)) cX fX 0 b1 P PX hC (fun v w h => (hn v w h).imp fun _ z => z.1) (fun E w h => (hE E w h).1)
  refine zLw (rest := []) X e1 hw kw_RL_242 ⟨(Nat.le_of_ble_eq_true rfl), (Nat.le_of_ble_eq_true rfl)⟩ hP hD hS rfl rfl hl.1 (Nat.le_of_ble_eq_true rfl) dL_law_2187 ⟨Nat.le_trans (Nat.add_le_add_left (Nat.le_of_ble_eq_true rfl) _) hcl.1, Nat.le_trans (Nat.add_le_add_left (Nat.le_of_ble_eq_true rfl) _) hcl.2⟩ (fun v w h => ?_) (fun v bx1 w1 hp H locs hP hD hS => ?_)
  · rcases h with ⟨_, w1, _, _, h⟩ | ⟨_, w1, _, _, h⟩
    · exact ⟨_, w1, h⟩
    · exact ⟨_, w1, h⟩
  have key : ∃ (kv : Int32) (c1 : Nat → Int64), v = some (.int kv) ∧ bx1 = zbx y ab c1 ∧ ∀ vm wm, PM vm wm → (∃ r : Int64, vm = some (.long r) ∧ (kv = 0 → c1 0 = r)) ∧ I kv (rX ++ w1) (rM ++ wm) := by
    rcases hp with ⟨r, w2, hp, rfl, hw2⟩ | ⟨E, w2, hp, hv, hw2⟩
    · obtain ⟨rfl, rfl⟩ := List.cons.inj hw2
      obtain ⟨r1, er, hn⟩ := hn _ _ hp
      obtain rfl : r = r1 := by injection er with er; injection er
      refine ⟨0, _, rfl, rfl, fun vm wm hm => ?_⟩
      obtain ⟨rfl, hi⟩ := hn vm wm hm
      exact ⟨⟨r, rfl, fun _ => rfl⟩, hi⟩
    · obtain ⟨rfl, rfl⟩ := List.cons.inj hw2
      obtain ⟨rfl, hv⟩ := hv
      obtain ⟨-, hn⟩ := hE _ _ hp
      refine ⟨1, _, hv, rfl, fun vm wm hm => ?_⟩
      obtain ⟨⟨r, rfl⟩, hi⟩ := hn vm wm hm
      exact ⟨⟨r, rfl, fun h => absurd h (by decide)⟩, hi⟩
  obtain ⟨kv, c1, rfl, rfl, key⟩ := key
  refine lv_istore (lv' := [(5, .int kv), (4, .int i), (3, .ref ab), (2, .ref bm), (1, .ref b), (0, .ref sb)]) hx hb dL_law_2190 hl (by decide) rfl (fun ls hl => ?_)
  refine lv_aload_n hx hb dL_law_2192 rfl (lv_at hl 3 rfl) ?_
  refine zsc (k := 1) X hX hbl hbA hS dL_law_2193 dL_law_2194 dL_law_2196 (by decide) dL_law_2197 dL_law_2198 (lv_at hl 5 rfl) (lv_at hl 1 rfl) (hin 1 (by decide)) ?_
  refine zsc (k := 2) X hX hbl hbA hS dL_law_2199 dL_law_2200 dL_law_2202 (by decide) dL_law_2203 dL_law_2204 (lv_at hl 5 rfl) (lv_at hl 1 rfl) (hin 2 (by decide)) ?_
  refine zsc (k := 3) X hX hbl hbA hS dL_law_2205 dL_law_2206 dL_law_2208 (by decide) dL_law_2209 dL_law_2210 (lv_at hl 5 rfl) (lv_at hl 1 rfl) (hin 3 (by decide)) ?_
  refine zbo X dL_law_2211 (by decide) dL_law_2214 dL_law_2215 (by decide) dL_law_2218 ?_
  refine zLm (rest := []) X e2 hM kf_RL_244 ⟨(Nat.le_of_ble_eq_true rfl), (Nat.le_of_ble_eq_true rfl)⟩ hP hD hS rfl b2 rfl rfl hl.1 (Nat.le_of_ble_eq_true rfl) dL_law_2219 ⟨?_, ?_⟩ (fun v wm hp H locs hP hD hS => ?_)
  · exact Nat.le_trans (Nat.add_le_add_left (Nat.le_of_ble_eq_true rfl) cells) hcl.1
  · exact Nat.le_trans (Nat.add_le_add_left (Nat.le_of_ble_eq_true rfl) slots) hcl.2
  obtain ⟨⟨r, rfl, hc⟩, hI⟩ := key v wm hp
  refine lv_lstore (lv' := [(6, .long r), (5, .int kv), (4, .int i), (3, .ref ab), (2, .ref bm), (1, .ref b), (0, .ref sb)]) hx hb dL_law_2222 hl (by decide) rfl (fun ls hl => ?_)
  obtain ⟨r3, c3, f3, e3, b3, hC3⟩ := hT _ _ _ hI
  refine lv_aload_n hx hb dL_law_2224 rfl (lv_at hl 4 rfl) ?_
  refine zLm (rest := []) X e3 hC3 kf_RL_145 ⟨(Nat.le_of_ble_eq_true rfl), (Nat.le_of_ble_eq_true rfl)⟩ hP hD hS rfl b3 rfl rfl hl.1 (Nat.le_of_ble_eq_true rfl) dL_law_2225 ⟨?_, ?_⟩ (fun v w3 hp H locs hP hD hS => ?_)
  · exact Nat.le_trans (Nat.add_le_add_left (Nat.le_of_ble_eq_true rfl) cells) hcl.1
  · exact Nat.le_trans (Nat.add_le_add_left (Nat.le_of_ble_eq_true rfl) slots) hcl.2
  obtain ⟨rfl, rfl⟩ := hp
  replace hP := zPp (List.Perm.append_right _ e3.symm) hP
  replace hD := zDp (List.Perm.append_right _ e3.symm) hD
  refine lv_iload hx hb dL_law_2228 (lv_at hl 1 rfl) ?_
  refine lv_icmp_eq (tgt := 2235) hx hb dL_law_2230 (by decide) (fun _ => ?_) (fun h => absurd rfl h)
  refine lv_iload hx hb dL_law_2235 (lv_at hl 1 rfl) ?_
  have hend : ∀ (H : Heap) (locs : List Loc), va_P D vwCl ((rM ++ wm) ++ (zbx y ab c1 :: (rX ++ w1))) H → va_D A ((rM ++ wm) ++ (zbx y ab c1 :: (rX ++ w1))) → va_S A s.heap H locs → W p l e room_1 s m args below meth c H locs (cells + 1 + 0 + 0) (slots + 6 + 0 + 0) Q (F0 m 2251 ls []) := by
    intro H locs hP hD hS
    refine lv_goto (tgt := 3102) hx hb dL_law_2251 (by decide) ?_
    refine W.widen (k := cells + 8) (n := slots + 64) (Nat.add_le_add_left (Nat.le_of_ble_eq_true rfl) cells) (Nat.add_le_add_left (Nat.le_of_ble_eq_true rfl) slots) ?_
    exact kk _ _ _ _ _ _ _ hI hP hD hS (zlv (zlv hl))
  refine lv_if_ne (tgt := 2251) hx hb dL_law_2237 (by decide) (fun _ => hend H locs hP hD hS) (fun hz => ?_)
  refine lv_aload_n hx hb dL_law_2240 rfl (lv_at hl 3 rfl) ?_
  refine lv_iconst (v := 0) hx hb dL_law_2241 (by decide) ?_
  refine va_lald hx hb hK (zPp List.perm_append_comm hP) 0 1 rfl rfl (by unfold vp_in; decide) dL_law_2242 ?_
  rw [show c1 (0 : Int32).toNatClampNeg = _ from hc hz]
  refine lv_lload hx hb dL_law_2243 (lv_at hl 0 rfl) ?_
  refine W.lcmp hx hb dL_law_2245 ?_
  refine lv_if_eq (tgt := 2251) hx hb dL_law_2246 (by decide) (fun _ => hend H locs hP hD hS) (fun h => absurd (zlcE _) h)
theorem kf_RL_247 : zCB RL 247 yX9_depth cX9_depth 13 (some .long) 3 ∧ Cond.instanceMethod yX9_depth ∈ wAll ∧ Cond.selects yX9_depth.cls yX9_depth yX9_depth ∈ wAll := ⟨⟨q_1743, q_9, q_1740, by decide +kernel⟩, q_1741, q_1742⟩
theorem kw_RL_245 : zCW RL 245 yL_depth cL_depth 6 (some .int) [(0, 11, 14, 13)] 5 := ⟨q_1203, q_0, q_1201, q_1202, by decide +kernel⟩
def zK30 (l : Launch) (D : va_G) (y : zY) (b bm : Nat) (I : Int32 → va_W → va_W → Prop) : Prop :=
  ∀ (t : Int32) (wX wM : va_W), I t wX wM → ∀ (x1 : Int32) (x2 : Int32) (x3 : Int32), (x3 = 0 ∨ x3 = 1) → ∃ (rX cX rM cM : va_W) (fX fM : List Value) (P : Option Value → va_W → Prop) (PX : String → va_W → Prop) (PM : Option Value → va_W → Prop), wX.Perm (rX ++ cX) ∧ wM.Perm (rM ++ cM) ∧ cX[0]? = some (b, .inr (8, fX)) ∧ cM[0]? = some (bm, .inr (9, fM)) ∧ zCx l D y yX8_depth cX8_depth 13 (some .long) rm_X8_depth [.ref b, .int x1, .int x2, .int x3] cX P PX ∧ zC l D y yX9_depth cX9_depth 13 (some .long) rm_X9_depth [.ref bm, .int x1, .int x2, .int x3] cM PM ∧ (∀ v w, P v w → ∃ r : Int64, v = some (.long r) ∧ ∀ vm wm, PM vm wm → vm = some (.long r) ∧ I 0 (rX ++ w) (rM ++ wm)) ∧ (∀ E w, PX E w → (E = "java/lang/IllegalArgumentException" ∧ ∀ vm wm, PM vm wm → (∃ r : Int64, vm = some (.long r)) ∧ I 1 (rX ++ w) (rM ++ wm)))
set_option maxHeartbeats 4000000 in
theorem zlk_30 {p : Program} {l : Launch} {e : Env} {s : State} {m : MethodId} {args : Array Value} {below : List Frame} {meth : Method} {c : Code} {H : Heap} {locs : List Loc} {cells slots : Nat} {Q : State → Prop} {D : va_G} {y : zY} {A : Nat → Prop} {ls : Array Slot} {wX wM : va_W} {ab b bm sb L : Nat} {cbx : Nat → Int64} {xs : Nat → Int32} {I : Int32 → va_W → va_W → Prop} {t i : Int32} (X : zX p s m args meth c D y A RL cL_law 8 (some .boolean)) (hT : zKT l D y bm I) (hk : zK30 l D y b bm I) (hX : va_X sb L xs s s.heap) (hbl : sb < s.heap.size) (hbA : ¬ A sb) (hin : ∀ k : Int32, 0 ≤ k.toInt ∧ k.toInt < 8 → vp_in (i + k) L) (hI : I t wX wM) (hP : va_P D vwCl (wM ++ (zbx y ab cbx :: wX)) H) (hD : va_D A (wM ++ (zbx y ab cbx :: wX))) (hS : va_S A s.heap H locs) (hl : lv_has ls 8 [(4, .int i), (3, .ref ab), (2, .ref bm), (1, .ref b), (0, .ref sb)]) (hcl : cells + 8 ≤ room_1.cells ∧ slots + 64 ≤ room_1.slots)
    (kk : ∀ (t : Int32) (wX wM : va_W) (cbx : Nat → Int64) (H : Heap) (locs : List Loc) (ls : Array Slot), I t wX wM → va_P D vwCl (wM ++ (zbx y ab cbx :: wX)) H → va_D A (wM ++ (zbx y ab cbx :: wX)) → va_S A s.heap H locs → lv_has ls 8 [(4, .int i), (3, .ref ab), (2, .ref bm), (1, .ref b), (0, .ref sb)] → W p l e room_1 s m args below meth c H locs (cells + 8) (slots + 64) Q (F0 m 3102 ls [])) : W p l e room_1 s m args below meth c H locs cells slots Q (F0 m 2254 ls []) := by
  obtain ⟨hx, hb, hr9, hml, hown, hts, hK, hA, hlocks⟩ := id X
  refine lv_aload_n hx hb dL_law_2254 rfl (lv_at hl 3 rfl) ?_
  refine zsc (k := 1) X hX hbl hbA hS dL_law_2255 dL_law_2256 dL_law_2258 (by decide) dL_law_2259 dL_law_2260 (lv_at hl 4 rfl) (lv_at hl 0 rfl) (hin 1 (by decide)) ?_
  refine zsc (k := 2) X hX hbl hbA hS dL_law_2261 dL_law_2262 dL_law_2264 (by decide) dL_law_2265 dL_law_2266 (lv_at hl 4 rfl) (lv_at hl 0 rfl) (hin 2 (by decide)) ?_
  refine zsc (k := 3) X hX hbl hbA hS dL_law_2267 dL_law_2268 dL_law_2270 (by decide) dL_law_2271 dL_law_2272 (lv_at hl 4 rfl) (lv_at hl 0 rfl) (hin 3 (by decide)) ?_
  refine zbo X dL_law_2273 (by decide) dL_law_2276 dL_law_2277 (by decide) dL_law_2280 ?_
  obtain ⟨rX, cX, rM, cM, fX, fM, P, PX, PM, e1, e2, b1, b2, hC, hM, hn, hE⟩ := hk t wX wM hI (xs (i + 1).toNatClampNeg) (xs (i + 2).toNatClampNeg) (zbl (xs (i + 3).toNatClampNeg)) (zbl01 _)
  refine lv_aload_n hx hb dL_law_2281 rfl (lv_at hl 1 rfl) ?_
  have hw := zw_L_depth l D y b ab cbx (xs (i + 1).toNatClampNeg) (xs (i + 2).toNatClampNeg) (zbl (xs (i + 3).toNatClampNeg)) cX fX 0 b1 P PX hC (fun v w h => (hn v w h).imp fun _ z => z.1) (fun E w h => (hE E w h).1)
  refine zLw (rest := []) X e1 hw kw_RL_245 ⟨(Nat.le_of_ble_eq_true rfl), (Nat.le_of_ble_eq_true rfl)⟩ hP hD hS rfl rfl hl.1 (Nat.le_of_ble_eq_true rfl) dL_law_2282 ⟨Nat.le_trans (Nat.add_le_add_left (Nat.le_of_ble_eq_true rfl) _) hcl.1, Nat.le_trans (Nat.add_le_add_left (Nat.le_of_ble_eq_true rfl) _) hcl.2⟩ (fun v w h => ?_) (fun v bx1 w1 hp H locs hP hD hS => ?_)
  · rcases h with ⟨_, w1, _, _, h⟩ | ⟨_, w1, _, _, h⟩
    · exact ⟨_, w1, h⟩
    · exact ⟨_, w1, h⟩
  have key : ∃ (kv : Int32) (c1 : Nat → Int64), v = some (.int kv) ∧ bx1 = zbx y ab c1 ∧ ∀ vm wm, PM vm wm → (∃ r : Int64, vm = some (.long r) ∧ (kv = 0 → c1 0 = r)) ∧ I kv (rX ++ w1) (rM ++ wm) := by
    rcases hp with ⟨r, w2, hp, rfl, hw2⟩ | ⟨E, w2, hp, hv, hw2⟩
    · obtain ⟨rfl, rfl⟩ := List.cons.inj hw2
      obtain ⟨r1, er, hn⟩ := hn _ _ hp
      obtain rfl : r = r1 := by injection er with er; injection er
      refine ⟨0, _, rfl, rfl, fun vm wm hm => ?_⟩
      obtain ⟨rfl, hi⟩ := hn vm wm hm
      exact ⟨⟨r, rfl, fun _ => rfl⟩, hi⟩
    · obtain ⟨rfl, rfl⟩ := List.cons.inj hw2
      obtain ⟨rfl, hv⟩ := hv
      obtain ⟨-, hn⟩ := hE _ _ hp
      refine ⟨1, _, hv, rfl, fun vm wm hm => ?_⟩
      obtain ⟨⟨r, rfl⟩, hi⟩ := hn vm wm hm
      exact ⟨⟨r, rfl, fun h => absurd h (by decide)⟩, hi⟩
  obtain ⟨kv, c1, rfl, rfl, key⟩ := key
  refine lv_istore (lv' := [(5, .int kv), (4, .int i), (3, .ref ab), (2, .ref bm), (1, .ref b), (0, .ref sb)]) hx hb dL_law_2285 hl (by decide) rfl (fun ls hl => ?_)
  refine lv_aload_n hx hb dL_law_2287 rfl (lv_at hl 3 rfl) ?_
  refine zsc (k := 1) X hX hbl hbA hS dL_law_2288 dL_law_2289 dL_law_2291 (by decide) dL_law_2292 dL_law_2293 (lv_at hl 5 rfl) (lv_at hl 1 rfl) (hin 1 (by decide)) ?_
  refine zsc (k := 2) X hX hbl hbA hS dL_law_2294 dL_law_2295 dL_law_2297 (by decide) dL_law_2298 dL_law_2299 (lv_at hl 5 rfl) (lv_at hl 1 rfl) (hin 2 (by decide)) ?_
  refine zsc (k := 3) X hX hbl hbA hS dL_law_2300 dL_law_2301 dL_law_2303 (by decide) dL_law_2304 dL_law_2305 (lv_at hl 5 rfl) (lv_at hl 1 rfl) (hin 3 (by decide)) ?_
  refine zbo X dL_law_2306 (by decide) dL_law_2309 dL_law_2310 (by decide) dL_law_2313 ?_
  refine zLm (rest := []) X e2 hM kf_RL_247 ⟨(Nat.le_of_ble_eq_true rfl), (Nat.le_of_ble_eq_true rfl)⟩ hP hD hS rfl b2 rfl rfl hl.1 (Nat.le_of_ble_eq_true rfl) dL_law_2314 ⟨?_, ?_⟩ (fun v wm hp H locs hP hD hS => ?_)
  · exact Nat.le_trans (Nat.add_le_add_left (Nat.le_of_ble_eq_true rfl) cells) hcl.1
  · exact Nat.le_trans (Nat.add_le_add_left (Nat.le_of_ble_eq_true rfl) slots) hcl.2
  obtain ⟨⟨r, rfl, hc⟩, hI⟩ := key v wm hp
  refine lv_lstore (lv' := [(6, .long r), (5, .int kv), (4, .int i), (3, .ref ab), (2, .ref bm), (1, .ref b), (0, .ref sb)]) hx hb dL_law_2317 hl (by decide) rfl (fun ls hl => ?_)
  obtain ⟨r3, c3, f3, e3, b3, hC3⟩ := hT _ _ _ hI
  refine lv_aload_n hx hb dL_law_2319 rfl (lv_at hl 4 rfl) ?_
  refine zLm (rest := []) X e3 hC3 kf_RL_145 ⟨(Nat.le_of_ble_eq_true rfl), (Nat.le_of_ble_eq_true rfl)⟩ hP hD hS rfl b3 rfl rfl hl.1 (Nat.le_of_ble_eq_true rfl) dL_law_2320 ⟨?_, ?_⟩ (fun v w3 hp H locs hP hD hS => ?_)
  · exact Nat.le_trans (Nat.add_le_add_left (Nat.le_of_ble_eq_true rfl) cells) hcl.1
  · exact Nat.le_trans (Nat.add_le_add_left (Nat.le_of_ble_eq_true rfl) slots) hcl.2
  obtain ⟨rfl, rfl⟩ := hp
  replace hP := zPp (List.Perm.append_right _ e3.symm) hP
  replace hD := zDp (List.Perm.append_right _ e3.symm) hD
  refine lv_iload hx hb dL_law_2323 (lv_at hl 1 rfl) ?_
  refine lv_icmp_eq (tgt := 2330) hx hb dL_law_2325 (by decide) (fun _ => ?_) (fun h => absurd rfl h)
  refine lv_iload hx hb dL_law_2330 (lv_at hl 1 rfl) ?_
  have hend : ∀ (H : Heap) (locs : List Loc), va_P D vwCl ((rM ++ wm) ++ (zbx y ab c1 :: (rX ++ w1))) H → va_D A ((rM ++ wm) ++ (zbx y ab c1 :: (rX ++ w1))) → va_S A s.heap H locs → W p l e room_1 s m args below meth c H locs (cells + 1 + 0 + 0) (slots + 6 + 0 + 0) Q (F0 m 2346 ls []) := by
    intro H locs hP hD hS
    refine lv_goto (tgt := 3102) hx hb dL_law_2346 (by decide) ?_
    refine W.widen (k := cells + 8) (n := slots + 64) (Nat.add_le_add_left (Nat.le_of_ble_eq_true rfl) cells) (Nat.add_le_add_left (Nat.le_of_ble_eq_true rfl) slots) ?_
    exact kk _ _ _ _ _ _ _ hI hP hD hS (zlv (zlv hl))
  refine lv_if_ne (tgt := 2346) hx hb dL_law_2332 (by decide) (fun _ => hend H locs hP hD hS) (fun hz => ?_)
  refine lv_aload_n hx hb dL_law_2335 rfl (lv_at hl 3 rfl) ?_
  refine lv_iconst (v := 0) hx hb dL_law_2336 (by decide) ?_
  refine va_lald hx hb hK (zPp List.perm_append_comm hP) 0 1 rfl rfl (by unfold vp_in; decide) dL_law_2337 ?_
  rw [show c1 (0 : Int32).toNatClampNeg = _ from hc hz]
  refine lv_lload hx hb dL_law_2338 (lv_at hl 0 rfl) ?_
  refine W.lcmp hx hb dL_law_2340 ?_
  refine lv_if_eq (tgt := 2346) hx hb dL_law_2341 (by decide) (fun _ => hend H locs hP hD hS) (fun h => absurd (zlcE _) h)
theorem kf_RL_250 : zCB RL 250 yX9_least cX9_least 3 (some .int) 2 ∧ Cond.instanceMethod yX9_least ∈ wAll ∧ Cond.selects yX9_least.cls yX9_least yX9_least ∈ wAll := ⟨⟨q_1751, q_9, q_1748, by decide +kernel⟩, q_1749, q_1750⟩
theorem kw_RL_248 : zCW RL 248 yL_least cL_least 5 (some .int) [(0, 10, 13, 13)] 4 := ⟨q_1214, q_0, q_1212, q_1213, by decide +kernel⟩
def zK31 (l : Launch) (D : va_G) (y : zY) (b bm : Nat) (I : Int32 → va_W → va_W → Prop) : Prop :=
  ∀ (t : Int32) (wX wM : va_W), I t wX wM → ∀ (x1 : Int32) (x2 : Int32), ∃ (rX cX rM cM : va_W) (fX fM : List Value) (P : Option Value → va_W → Prop) (PX : String → va_W → Prop) (PM : Option Value → va_W → Prop), wX.Perm (rX ++ cX) ∧ wM.Perm (rM ++ cM) ∧ cX[0]? = some (b, .inr (8, fX)) ∧ cM[0]? = some (bm, .inr (9, fM)) ∧ zCx l D y yX8_least cX8_least 3 (some .int) rm_X8_least [.ref b, .int x1, .int x2] cX P PX ∧ zC l D y yX9_least cX9_least 3 (some .int) rm_X9_least [.ref bm, .int x1, .int x2] cM PM ∧ (∀ v w, P v w → ∃ r : Int32, v = some (.int r) ∧ ∀ vm wm, PM vm wm → vm = some (.int r) ∧ I 0 (rX ++ w) (rM ++ wm)) ∧ (∀ E w, PX E w → (E = "java/lang/IllegalArgumentException" ∧ ∀ vm wm, PM vm wm → (∃ r : Int32, vm = some (.int r)) ∧ I 1 (rX ++ w) (rM ++ wm)))
set_option maxHeartbeats 4000000 in
theorem zlk_31 {p : Program} {l : Launch} {e : Env} {s : State} {m : MethodId} {args : Array Value} {below : List Frame} {meth : Method} {c : Code} {H : Heap} {locs : List Loc} {cells slots : Nat} {Q : State → Prop} {D : va_G} {y : zY} {A : Nat → Prop} {ls : Array Slot} {wX wM : va_W} {ab b bm sb L : Nat} {cbx : Nat → Int64} {xs : Nat → Int32} {I : Int32 → va_W → va_W → Prop} {t i : Int32} (X : zX p s m args meth c D y A RL cL_law 8 (some .boolean)) (hT : zKT l D y bm I) (hk : zK31 l D y b bm I) (hX : va_X sb L xs s s.heap) (hbl : sb < s.heap.size) (hbA : ¬ A sb) (hin : ∀ k : Int32, 0 ≤ k.toInt ∧ k.toInt < 8 → vp_in (i + k) L) (hI : I t wX wM) (hP : va_P D vwCl (wM ++ (zbx y ab cbx :: wX)) H) (hD : va_D A (wM ++ (zbx y ab cbx :: wX))) (hS : va_S A s.heap H locs) (hl : lv_has ls 8 [(4, .int i), (3, .ref ab), (2, .ref bm), (1, .ref b), (0, .ref sb)]) (hcl : cells + 8 ≤ room_1.cells ∧ slots + 64 ≤ room_1.slots)
    (kk : ∀ (t : Int32) (wX wM : va_W) (cbx : Nat → Int64) (H : Heap) (locs : List Loc) (ls : Array Slot), I t wX wM → va_P D vwCl (wM ++ (zbx y ab cbx :: wX)) H → va_D A (wM ++ (zbx y ab cbx :: wX)) → va_S A s.heap H locs → lv_has ls 8 [(4, .int i), (3, .ref ab), (2, .ref bm), (1, .ref b), (0, .ref sb)] → W p l e room_1 s m args below meth c H locs (cells + 8) (slots + 64) Q (F0 m 3102 ls [])) : W p l e room_1 s m args below meth c H locs cells slots Q (F0 m 2349 ls []) := by
  obtain ⟨hx, hb, hr9, hml, hown, hts, hK, hA, hlocks⟩ := id X
  refine lv_aload_n hx hb dL_law_2349 rfl (lv_at hl 3 rfl) ?_
  refine zsc (k := 1) X hX hbl hbA hS dL_law_2350 dL_law_2351 dL_law_2353 (by decide) dL_law_2354 dL_law_2355 (lv_at hl 4 rfl) (lv_at hl 0 rfl) (hin 1 (by decide)) ?_
  refine zsc (k := 2) X hX hbl hbA hS dL_law_2356 dL_law_2357 dL_law_2359 (by decide) dL_law_2360 dL_law_2361 (lv_at hl 4 rfl) (lv_at hl 0 rfl) (hin 2 (by decide)) ?_
  obtain ⟨rX, cX, rM, cM, fX, fM, P, PX, PM, e1, e2, b1, b2, hC, hM, hn, hE⟩ := hk t wX wM hI (xs (i + 1).toNatClampNeg) (xs (i + 2).toNatClampNeg) 
  refine lv_aload_n hx hb dL_law_2362 rfl (lv_at hl 1 rfl) ?_
  have hw := zw_L_least l D y b ab cbx (xs (i + 1).toNatClampNeg) (xs (i + 2).toNatClampNeg) cX fX 0 b1 P PX hC (fun v w h => (hn v w h).imp fun _ z => z.1) (fun E w h => (hE E w h).1)
  refine zLw (rest := []) X e1 hw kw_RL_248 ⟨(Nat.le_of_ble_eq_true rfl), (Nat.le_of_ble_eq_true rfl)⟩ hP hD hS rfl rfl hl.1 (Nat.le_of_ble_eq_true rfl) dL_law_2363 ⟨Nat.le_trans (Nat.add_le_add_left (Nat.le_of_ble_eq_true rfl) _) hcl.1, Nat.le_trans (Nat.add_le_add_left (Nat.le_of_ble_eq_true rfl) _) hcl.2⟩ (fun v w h => ?_) (fun v bx1 w1 hp H locs hP hD hS => ?_)
  · rcases h with ⟨_, w1, _, _, h⟩ | ⟨_, w1, _, _, h⟩
    · exact ⟨_, w1, h⟩
    · exact ⟨_, w1, h⟩
  have key : ∃ (kv : Int32) (c1 : Nat → Int64), v = some (.int kv) ∧ bx1 = zbx y ab c1 ∧ ∀ vm wm, PM vm wm → (∃ r : Int32, vm = some (.int r) ∧ (kv = 0 → c1 0 = r.toInt64)) ∧ I kv (rX ++ w1) (rM ++ wm) := by
    rcases hp with ⟨r, w2, hp, rfl, hw2⟩ | ⟨E, w2, hp, hv, hw2⟩
    · obtain ⟨rfl, rfl⟩ := List.cons.inj hw2
      obtain ⟨r1, er, hn⟩ := hn _ _ hp
      obtain rfl : r = r1 := by injection er with er; injection er
      refine ⟨0, _, rfl, rfl, fun vm wm hm => ?_⟩
      obtain ⟨rfl, hi⟩ := hn vm wm hm
      exact ⟨⟨r, rfl, fun _ => rfl⟩, hi⟩
    · obtain ⟨rfl, rfl⟩ := List.cons.inj hw2
      obtain ⟨rfl, hv⟩ := hv
      obtain ⟨-, hn⟩ := hE _ _ hp
      refine ⟨1, _, hv, rfl, fun vm wm hm => ?_⟩
      obtain ⟨⟨r, rfl⟩, hi⟩ := hn vm wm hm
      exact ⟨⟨r, rfl, fun h => absurd h (by decide)⟩, hi⟩
  obtain ⟨kv, c1, rfl, rfl, key⟩ := key
  refine lv_istore (lv' := [(5, .int kv), (4, .int i), (3, .ref ab), (2, .ref bm), (1, .ref b), (0, .ref sb)]) hx hb dL_law_2366 hl (by decide) rfl (fun ls hl => ?_)
  refine lv_aload_n hx hb dL_law_2368 rfl (lv_at hl 3 rfl) ?_
  refine zsc (k := 1) X hX hbl hbA hS dL_law_2369 dL_law_2370 dL_law_2372 (by decide) dL_law_2373 dL_law_2374 (lv_at hl 5 rfl) (lv_at hl 1 rfl) (hin 1 (by decide)) ?_
  refine zsc (k := 2) X hX hbl hbA hS dL_law_2375 dL_law_2376 dL_law_2378 (by decide) dL_law_2379 dL_law_2380 (lv_at hl 5 rfl) (lv_at hl 1 rfl) (hin 2 (by decide)) ?_
  refine zLm (rest := []) X e2 hM kf_RL_250 ⟨(Nat.le_of_ble_eq_true rfl), (Nat.le_of_ble_eq_true rfl)⟩ hP hD hS rfl b2 rfl rfl hl.1 (Nat.le_of_ble_eq_true rfl) dL_law_2381 ⟨?_, ?_⟩ (fun v wm hp H locs hP hD hS => ?_)
  · exact Nat.le_trans (Nat.add_le_add_left (Nat.le_of_ble_eq_true rfl) cells) hcl.1
  · exact Nat.le_trans (Nat.add_le_add_left (Nat.le_of_ble_eq_true rfl) slots) hcl.2
  obtain ⟨⟨r, rfl, hc⟩, hI⟩ := key v wm hp
  refine lv_istore (lv' := [(6, .int r), (5, .int kv), (4, .int i), (3, .ref ab), (2, .ref bm), (1, .ref b), (0, .ref sb)]) hx hb dL_law_2384 hl (by decide) rfl (fun ls hl => ?_)
  obtain ⟨r3, c3, f3, e3, b3, hC3⟩ := hT _ _ _ hI
  refine lv_aload_n hx hb dL_law_2386 rfl (lv_at hl 4 rfl) ?_
  refine zLm (rest := []) X e3 hC3 kf_RL_145 ⟨(Nat.le_of_ble_eq_true rfl), (Nat.le_of_ble_eq_true rfl)⟩ hP hD hS rfl b3 rfl rfl hl.1 (Nat.le_of_ble_eq_true rfl) dL_law_2387 ⟨?_, ?_⟩ (fun v w3 hp H locs hP hD hS => ?_)
  · exact Nat.le_trans (Nat.add_le_add_left (Nat.le_of_ble_eq_true rfl) cells) hcl.1
  · exact Nat.le_trans (Nat.add_le_add_left (Nat.le_of_ble_eq_true rfl) slots) hcl.2
  obtain ⟨rfl, rfl⟩ := hp
  replace hP := zPp (List.Perm.append_right _ e3.symm) hP
  replace hD := zDp (List.Perm.append_right _ e3.symm) hD
  refine lv_iload hx hb dL_law_2390 (lv_at hl 1 rfl) ?_
  refine lv_icmp_eq (tgt := 2397) hx hb dL_law_2392 (by decide) (fun _ => ?_) (fun h => absurd rfl h)
  refine lv_iload hx hb dL_law_2397 (lv_at hl 1 rfl) ?_
  have hend : ∀ (H : Heap) (locs : List Loc), va_P D vwCl ((rM ++ wm) ++ (zbx y ab c1 :: (rX ++ w1))) H → va_D A ((rM ++ wm) ++ (zbx y ab c1 :: (rX ++ w1))) → va_S A s.heap H locs → W p l e room_1 s m args below meth c H locs (cells + 1 + 0 + 0) (slots + 6 + 0 + 0) Q (F0 m 2414 ls []) := by
    intro H locs hP hD hS
    refine lv_goto (tgt := 3102) hx hb dL_law_2414 (by decide) ?_
    refine W.widen (k := cells + 8) (n := slots + 64) (Nat.add_le_add_left (Nat.le_of_ble_eq_true rfl) cells) (Nat.add_le_add_left (Nat.le_of_ble_eq_true rfl) slots) ?_
    exact kk _ _ _ _ _ _ _ hI hP hD hS (zlv (zlv hl))
  refine lv_if_ne (tgt := 2414) hx hb dL_law_2399 (by decide) (fun _ => hend H locs hP hD hS) (fun hz => ?_)
  refine lv_aload_n hx hb dL_law_2402 rfl (lv_at hl 3 rfl) ?_
  refine lv_iconst (v := 0) hx hb dL_law_2403 (by decide) ?_
  refine va_lald hx hb hK (zPp List.perm_append_comm hP) 0 1 rfl rfl (by unfold vp_in; decide) dL_law_2404 ?_
  rw [show c1 (0 : Int32).toNatClampNeg = _ from hc hz]
  refine lv_iload hx hb dL_law_2405 (lv_at hl 0 rfl) ?_
  refine lv_i2l (v := r.toInt64) hx hb dL_law_2407 rfl ?_
  refine W.lcmp hx hb dL_law_2408 ?_
  refine lv_if_eq (tgt := 2414) hx hb dL_law_2409 (by decide) (fun _ => hend H locs hP hD hS) (fun h => absurd (zlcE _) h)
