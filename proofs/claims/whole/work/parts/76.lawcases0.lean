/-! the law: what each case needs (zK<k>), and its walk (zlk_<k>): printed by law.py -/
theorem kf_RL_145 : zCB RL 145 yX9_thrown cX9_thrown 1 (some .int) 0 ∧ Cond.instanceMethod yX9_thrown ∈ wAll ∧ Cond.selects yX9_thrown.cls yX9_thrown yX9_thrown ∈ wAll := ⟨⟨q_1463, q_9, q_1460, by decide +kernel⟩, q_1461, q_1462⟩
def zKT (l : Launch) (D : va_G) (y : zY) (bm : Nat) (I : Int32 → va_W → va_W → Prop) : Prop :=
  ∀ (t : Int32) (wX wM : va_W), I t wX wM → ∃ (rM cM : va_W) (fM : List Value), wM.Perm (rM ++ cM) ∧ cM[0]? = some (bm, .inr (9, fM)) ∧ zC l D y yX9_thrown cX9_thrown 1 (some .int) rm_X9_thrown [.ref bm] cM (zE (some (.int t)) cM)
theorem kf_RL_133 : zCB RL 133 yX9_feed cX9_feed 8 (some .int) 5 ∧ Cond.instanceMethod yX9_feed ∈ wAll ∧ Cond.selects yX9_feed.cls yX9_feed yX9_feed ∈ wAll := ⟨⟨q_1467, q_9, q_1464, by decide +kernel⟩, q_1465, q_1466⟩
theorem kf_RL_129 : zCB RL 129 yX8_feed cX8_feed 6 (some .int) 5 ∧ Cond.instanceMethod yX8_feed ∈ wAll ∧ Cond.selects yX8_feed.cls yX8_feed yX8_feed ∈ wAll := ⟨⟨q_322, q_1, q_319, by decide +kernel⟩, q_320, q_321⟩
def zK0 (l : Launch) (D : va_G) (y : zY) (b bm : Nat) (I : Int32 → va_W → va_W → Prop) : Prop :=
  ∀ (t : Int32) (wX wM : va_W), I t wX wM → ∀ (x1 : Int32) (x2 : Int32) (x3 : Int32) (x4 : Int32) (x5 : Int32), ∃ (rX cX rM cM : va_W) (fX fM : List Value) (P : Option Value → va_W → Prop) (PM : Option Value → va_W → Prop), wX.Perm (rX ++ cX) ∧ wM.Perm (rM ++ cM) ∧ cX[0]? = some (b, .inr (8, fX)) ∧ cM[0]? = some (bm, .inr (9, fM)) ∧ zC l D y yX8_feed cX8_feed 6 (some .int) rm_X8_feed [.ref b, .int x1, .int x2, .int x3, .int x4, .int x5] cX P ∧ zC l D y yX9_feed cX9_feed 8 (some .int) rm_X9_feed [.ref bm, .int x1, .int x2, .int x3, .int x4, .int x5] cM PM ∧ (∀ v w, P v w → ∃ r : Int32, v = some (.int r) ∧ ∀ vm wm, PM vm wm → vm = some (.int r) ∧ ∃ t2 : Int32, I t2 (rX ++ w) (rM ++ wm))
set_option maxHeartbeats 4000000 in
theorem zlk_0 {p : Program} {l : Launch} {e : Env} {s : State} {m : MethodId} {args : Array Value} {below : List Frame} {meth : Method} {c : Code} {H : Heap} {locs : List Loc} {cells slots : Nat} {Q : State → Prop} {D : va_G} {y : zY} {A : Nat → Prop} {ls : Array Slot} {wX wM : va_W} {ab b bm sb L : Nat} {cbx : Nat → Int64} {xs : Nat → Int32} {I : Int32 → va_W → va_W → Prop} {t i : Int32} (X : zX p s m args meth c D y A RL cL_law 8 (some .boolean)) (hT : zKT l D y bm I) (hk : zK0 l D y b bm I) (hX : va_X sb L xs s s.heap) (hbl : sb < s.heap.size) (hbA : ¬ A sb) (hin : ∀ k : Int32, 0 ≤ k.toInt ∧ k.toInt < 8 → vp_in (i + k) L) (hI : I t wX wM) (hP : va_P D vwCl (wM ++ (zbx y ab cbx :: wX)) H) (hD : va_D A (wM ++ (zbx y ab cbx :: wX))) (hS : va_S A s.heap H locs) (hl : lv_has ls 8 [(4, .int i), (3, .ref ab), (2, .ref bm), (1, .ref b), (0, .ref sb)]) (hcl : cells + 8 ≤ room_1.cells ∧ slots + 64 ≤ room_1.slots)
    (kk : ∀ (t : Int32) (wX wM : va_W) (cbx : Nat → Int64) (H : Heap) (locs : List Loc) (ls : Array Slot), I t wX wM → va_P D vwCl (wM ++ (zbx y ab cbx :: wX)) H → va_D A (wM ++ (zbx y ab cbx :: wX)) → va_S A s.heap H locs → lv_has ls 8 [(4, .int i), (3, .ref ab), (2, .ref bm), (1, .ref b), (0, .ref sb)] → W p l e room_1 s m args below meth c H locs (cells + 8) (slots + 64) Q (F0 m 3102 ls [])) : W p l e room_1 s m args below meth c H locs cells slots Q (F0 m 244 ls []) := by
  obtain ⟨hx, hb, hr9, hml, hown, hts, hK, hA, hlocks⟩ := id X
  refine lv_aload_n hx hb dL_law_244 rfl (lv_at hl 3 rfl) ?_
  refine zsc (k := 1) X hX hbl hbA hS dL_law_245 dL_law_246 dL_law_248 (by decide) dL_law_249 dL_law_250 (lv_at hl 4 rfl) (lv_at hl 0 rfl) (hin 1 (by decide)) ?_
  refine zsc (k := 2) X hX hbl hbA hS dL_law_251 dL_law_252 dL_law_254 (by decide) dL_law_255 dL_law_256 (lv_at hl 4 rfl) (lv_at hl 0 rfl) (hin 2 (by decide)) ?_
  refine zsc (k := 3) X hX hbl hbA hS dL_law_257 dL_law_258 dL_law_260 (by decide) dL_law_261 dL_law_262 (lv_at hl 4 rfl) (lv_at hl 0 rfl) (hin 3 (by decide)) ?_
  refine zsc (k := 4) X hX hbl hbA hS dL_law_263 dL_law_264 dL_law_266 (by decide) dL_law_267 dL_law_268 (lv_at hl 4 rfl) (lv_at hl 0 rfl) (hin 4 (by decide)) ?_
  refine zsc (k := 5) X hX hbl hbA hS dL_law_269 dL_law_270 dL_law_272 (by decide) dL_law_273 dL_law_274 (lv_at hl 4 rfl) (lv_at hl 0 rfl) (hin 5 (by decide)) ?_
  obtain ⟨rX, cX, rM, cM, fX, fM, P, PM, e1, e2, b1, b2, hC, hM, hn⟩ := hk t wX wM hI (xs (i + 1).toNatClampNeg) (xs (i + 2).toNatClampNeg) (xs (i + 3).toNatClampNeg) (xs (i + 4).toNatClampNeg) (xs (i + 5).toNatClampNeg) 
  refine zLx (rest := []) X e1 hC kf_RL_129 ⟨(Nat.le_of_ble_eq_true rfl), (Nat.le_of_ble_eq_true rfl)⟩ hP hD hS rfl b1 rfl rfl hl.1 (Nat.le_of_ble_eq_true rfl) dL_law_275 ⟨Nat.le_trans (Nat.add_le_add_left (Nat.le_of_ble_eq_true rfl) _) hcl.1, Nat.le_trans (Nat.add_le_add_left (Nat.le_of_ble_eq_true rfl) _) hcl.2⟩ (fun v w1 hp H locs hP hD hS => ?_)
  obtain ⟨r, rfl, hn⟩ := hn v w1 hp
  refine lv_aload_n hx hb dL_law_278 rfl (lv_at hl 2 rfl) ?_
  refine zsc (k := 1) X hX hbl hbA hS dL_law_279 dL_law_280 dL_law_282 (by decide) dL_law_283 dL_law_284 (lv_at hl 4 rfl) (lv_at hl 0 rfl) (hin 1 (by decide)) ?_
  refine zsc (k := 2) X hX hbl hbA hS dL_law_285 dL_law_286 dL_law_288 (by decide) dL_law_289 dL_law_290 (lv_at hl 4 rfl) (lv_at hl 0 rfl) (hin 2 (by decide)) ?_
  refine zsc (k := 3) X hX hbl hbA hS dL_law_291 dL_law_292 dL_law_294 (by decide) dL_law_295 dL_law_296 (lv_at hl 4 rfl) (lv_at hl 0 rfl) (hin 3 (by decide)) ?_
  refine zsc (k := 4) X hX hbl hbA hS dL_law_297 dL_law_298 dL_law_300 (by decide) dL_law_301 dL_law_302 (lv_at hl 4 rfl) (lv_at hl 0 rfl) (hin 4 (by decide)) ?_
  refine zsc (k := 5) X hX hbl hbA hS dL_law_303 dL_law_304 dL_law_306 (by decide) dL_law_307 dL_law_308 (lv_at hl 4 rfl) (lv_at hl 0 rfl) (hin 5 (by decide)) ?_
  refine zLm (rest := [.int r]) X e2 hM kf_RL_133 ⟨(Nat.le_of_ble_eq_true rfl), (Nat.le_of_ble_eq_true rfl)⟩ hP hD hS rfl b2 rfl rfl hl.1 (Nat.le_of_ble_eq_true rfl) dL_law_309 ⟨?_, ?_⟩ (fun v wm hp H locs hP hD hS => ?_)
  · exact Nat.le_trans (Nat.add_le_add_left (Nat.le_of_ble_eq_true rfl) cells) hcl.1
  · exact Nat.le_trans (Nat.add_le_add_left (Nat.le_of_ble_eq_true rfl) slots) hcl.2
  obtain ⟨rfl, t2, hI⟩ := hn v wm hp
  refine lv_icmp_eq (tgt := 3102) hx hb dL_law_312 (by decide) (fun _ => ?_) (fun h => absurd rfl h)
  refine W.widen (k := cells + 8) (n := slots + 64) (Nat.add_le_add_left (Nat.le_of_ble_eq_true rfl) cells) (Nat.add_le_add_left (Nat.le_of_ble_eq_true rfl) slots) ?_
  exact kk _ _ _ _ _ _ _ hI hP hD hS hl
theorem kf_RL_138 : zCB RL 138 yX9_end cX9_end 2 (some .boolean) 1 ∧ Cond.instanceMethod yX9_end ∈ wAll ∧ Cond.selects yX9_end.cls yX9_end yX9_end ∈ wAll := ⟨⟨q_1471, q_9, q_1468, by decide +kernel⟩, q_1469, q_1470⟩
theorem kf_RL_134 : zCB RL 134 yX8_end cX8_end 2 (some .boolean) 1 ∧ Cond.instanceMethod yX8_end ∈ wAll ∧ Cond.selects yX8_end.cls yX8_end yX8_end ∈ wAll := ⟨⟨q_330, q_1, q_327, by decide +kernel⟩, q_328, q_329⟩
def zK1 (l : Launch) (D : va_G) (y : zY) (b bm : Nat) (I : Int32 → va_W → va_W → Prop) : Prop :=
  ∀ (t : Int32) (wX wM : va_W), I t wX wM → ∀ (x1 : Int32), ∃ (rX cX rM cM : va_W) (fX fM : List Value) (P : Option Value → va_W → Prop) (PM : Option Value → va_W → Prop), wX.Perm (rX ++ cX) ∧ wM.Perm (rM ++ cM) ∧ cX[0]? = some (b, .inr (8, fX)) ∧ cM[0]? = some (bm, .inr (9, fM)) ∧ zC l D y yX8_end cX8_end 2 (some .boolean) rm_X8_end [.ref b, .int x1] cX P ∧ zC l D y yX9_end cX9_end 2 (some .boolean) rm_X9_end [.ref bm, .int x1] cM PM ∧ (∀ v w, P v w → ∃ r : Int32, v = some (.int r) ∧ ∀ vm wm, PM vm wm → vm = some (.int r) ∧ ∃ t2 : Int32, I t2 (rX ++ w) (rM ++ wm))
set_option maxHeartbeats 4000000 in
theorem zlk_1 {p : Program} {l : Launch} {e : Env} {s : State} {m : MethodId} {args : Array Value} {below : List Frame} {meth : Method} {c : Code} {H : Heap} {locs : List Loc} {cells slots : Nat} {Q : State → Prop} {D : va_G} {y : zY} {A : Nat → Prop} {ls : Array Slot} {wX wM : va_W} {ab b bm sb L : Nat} {cbx : Nat → Int64} {xs : Nat → Int32} {I : Int32 → va_W → va_W → Prop} {t i : Int32} (X : zX p s m args meth c D y A RL cL_law 8 (some .boolean)) (hT : zKT l D y bm I) (hk : zK1 l D y b bm I) (hX : va_X sb L xs s s.heap) (hbl : sb < s.heap.size) (hbA : ¬ A sb) (hin : ∀ k : Int32, 0 ≤ k.toInt ∧ k.toInt < 8 → vp_in (i + k) L) (hI : I t wX wM) (hP : va_P D vwCl (wM ++ (zbx y ab cbx :: wX)) H) (hD : va_D A (wM ++ (zbx y ab cbx :: wX))) (hS : va_S A s.heap H locs) (hl : lv_has ls 8 [(4, .int i), (3, .ref ab), (2, .ref bm), (1, .ref b), (0, .ref sb)]) (hcl : cells + 8 ≤ room_1.cells ∧ slots + 64 ≤ room_1.slots)
    (kk : ∀ (t : Int32) (wX wM : va_W) (cbx : Nat → Int64) (H : Heap) (locs : List Loc) (ls : Array Slot), I t wX wM → va_P D vwCl (wM ++ (zbx y ab cbx :: wX)) H → va_D A (wM ++ (zbx y ab cbx :: wX)) → va_S A s.heap H locs → lv_has ls 8 [(4, .int i), (3, .ref ab), (2, .ref bm), (1, .ref b), (0, .ref sb)] → W p l e room_1 s m args below meth c H locs (cells + 8) (slots + 64) Q (F0 m 3102 ls [])) : W p l e room_1 s m args below meth c H locs cells slots Q (F0 m 317 ls []) := by
  obtain ⟨hx, hb, hr9, hml, hown, hts, hK, hA, hlocks⟩ := id X
  refine lv_aload_n hx hb dL_law_317 rfl (lv_at hl 3 rfl) ?_
  refine zsc (k := 1) X hX hbl hbA hS dL_law_318 dL_law_319 dL_law_321 (by decide) dL_law_322 dL_law_323 (lv_at hl 4 rfl) (lv_at hl 0 rfl) (hin 1 (by decide)) ?_
  obtain ⟨rX, cX, rM, cM, fX, fM, P, PM, e1, e2, b1, b2, hC, hM, hn⟩ := hk t wX wM hI (xs (i + 1).toNatClampNeg) 
  refine zLx (rest := []) X e1 hC kf_RL_134 ⟨(Nat.le_of_ble_eq_true rfl), (Nat.le_of_ble_eq_true rfl)⟩ hP hD hS rfl b1 rfl rfl hl.1 (Nat.le_of_ble_eq_true rfl) dL_law_324 ⟨Nat.le_trans (Nat.add_le_add_left (Nat.le_of_ble_eq_true rfl) _) hcl.1, Nat.le_trans (Nat.add_le_add_left (Nat.le_of_ble_eq_true rfl) _) hcl.2⟩ (fun v w1 hp H locs hP hD hS => ?_)
  obtain ⟨r, rfl, hn⟩ := hn v w1 hp
  refine lv_aload_n hx hb dL_law_327 rfl (lv_at hl 2 rfl) ?_
  refine zsc (k := 1) X hX hbl hbA hS dL_law_328 dL_law_329 dL_law_331 (by decide) dL_law_332 dL_law_333 (lv_at hl 4 rfl) (lv_at hl 0 rfl) (hin 1 (by decide)) ?_
  refine zLm (rest := [.int r]) X e2 hM kf_RL_138 ⟨(Nat.le_of_ble_eq_true rfl), (Nat.le_of_ble_eq_true rfl)⟩ hP hD hS rfl b2 rfl rfl hl.1 (Nat.le_of_ble_eq_true rfl) dL_law_334 ⟨?_, ?_⟩ (fun v wm hp H locs hP hD hS => ?_)
  · exact Nat.le_trans (Nat.add_le_add_left (Nat.le_of_ble_eq_true rfl) cells) hcl.1
  · exact Nat.le_trans (Nat.add_le_add_left (Nat.le_of_ble_eq_true rfl) slots) hcl.2
  obtain ⟨rfl, t2, hI⟩ := hn v wm hp
  refine lv_icmp_eq (tgt := 3102) hx hb dL_law_337 (by decide) (fun _ => ?_) (fun h => absurd rfl h)
  refine W.widen (k := cells + 8) (n := slots + 64) (Nat.add_le_add_left (Nat.le_of_ble_eq_true rfl) cells) (Nat.add_le_add_left (Nat.le_of_ble_eq_true rfl) slots) ?_
  exact kk _ _ _ _ _ _ _ hI hP hD hS hl
theorem kf_RL_144 : zCB RL 144 yX9_read cX9_read 2 (some .int) 0 ∧ Cond.instanceMethod yX9_read ∈ wAll ∧ Cond.selects yX9_read.cls yX9_read yX9_read ∈ wAll := ⟨⟨q_1475, q_9, q_1472, by decide +kernel⟩, q_1473, q_1474⟩
theorem kw_RL_139 : zCW RL 139 yL_read cL_read 3 (some .int) [(0, 8, 11, 13)] 2 := ⟨q_613, q_0, q_611, q_612, by decide +kernel⟩
def zK2 (l : Launch) (D : va_G) (y : zY) (b bm : Nat) (I : Int32 → va_W → va_W → Prop) : Prop :=
  ∀ (t : Int32) (wX wM : va_W), I t wX wM → ∃ (rX cX rM cM : va_W) (fX fM : List Value) (P : Option Value → va_W → Prop) (PX : String → va_W → Prop) (PM : Option Value → va_W → Prop), wX.Perm (rX ++ cX) ∧ wM.Perm (rM ++ cM) ∧ cX[0]? = some (b, .inr (8, fX)) ∧ cM[0]? = some (bm, .inr (9, fM)) ∧ zCx l D y yX8_read cX8_read 2 (some .int) rm_X8_read [.ref b] cX P PX ∧ zC l D y yX9_read cX9_read 2 (some .int) rm_X9_read [.ref bm] cM PM ∧ (∀ v w, P v w → ∃ r : Int32, v = some (.int r) ∧ ∀ vm wm, PM vm wm → vm = some (.int r) ∧ I 0 (rX ++ w) (rM ++ wm)) ∧ (∀ E w, PX E w → (E = "java/lang/IllegalArgumentException" ∧ ∀ vm wm, PM vm wm → (∃ r : Int32, vm = some (.int r)) ∧ I 1 (rX ++ w) (rM ++ wm)))
set_option maxHeartbeats 4000000 in
theorem zlk_2 {p : Program} {l : Launch} {e : Env} {s : State} {m : MethodId} {args : Array Value} {below : List Frame} {meth : Method} {c : Code} {H : Heap} {locs : List Loc} {cells slots : Nat} {Q : State → Prop} {D : va_G} {y : zY} {A : Nat → Prop} {ls : Array Slot} {wX wM : va_W} {ab b bm sb L : Nat} {cbx : Nat → Int64} {xs : Nat → Int32} {I : Int32 → va_W → va_W → Prop} {t i : Int32} (X : zX p s m args meth c D y A RL cL_law 8 (some .boolean)) (hT : zKT l D y bm I) (hk : zK2 l D y b bm I) (hX : va_X sb L xs s s.heap) (hbl : sb < s.heap.size) (hbA : ¬ A sb) (hin : ∀ k : Int32, 0 ≤ k.toInt ∧ k.toInt < 8 → vp_in (i + k) L) (hI : I t wX wM) (hP : va_P D vwCl (wM ++ (zbx y ab cbx :: wX)) H) (hD : va_D A (wM ++ (zbx y ab cbx :: wX))) (hS : va_S A s.heap H locs) (hl : lv_has ls 8 [(4, .int i), (3, .ref ab), (2, .ref bm), (1, .ref b), (0, .ref sb)]) (hcl : cells + 8 ≤ room_1.cells ∧ slots + 64 ≤ room_1.slots)
    (kk : ∀ (t : Int32) (wX wM : va_W) (cbx : Nat → Int64) (H : Heap) (locs : List Loc) (ls : Array Slot), I t wX wM → va_P D vwCl (wM ++ (zbx y ab cbx :: wX)) H → va_D A (wM ++ (zbx y ab cbx :: wX)) → va_S A s.heap H locs → lv_has ls 8 [(4, .int i), (3, .ref ab), (2, .ref bm), (1, .ref b), (0, .ref sb)] → W p l e room_1 s m args below meth c H locs (cells + 8) (slots + 64) Q (F0 m 3102 ls [])) : W p l e room_1 s m args below meth c H locs cells slots Q (F0 m 342 ls []) := by
  obtain ⟨hx, hb, hr9, hml, hown, hts, hK, hA, hlocks⟩ := id X
  refine lv_aload_n hx hb dL_law_342 rfl (lv_at hl 3 rfl) ?_
  obtain ⟨rX, cX, rM, cM, fX, fM, P, PX, PM, e1, e2, b1, b2, hC, hM, hn, hE⟩ := hk t wX wM hI  
  refine lv_aload_n hx hb dL_law_343 rfl (lv_at hl 1 rfl) ?_
  have hw := zw_L_read l D y b ab cbx  cX fX 0 b1 P PX hC (fun v w h => (hn v w h).imp fun _ z => z.1) (fun E w h => (hE E w h).1)
  refine zLw (rest := []) X e1 hw kw_RL_139 ⟨(Nat.le_of_ble_eq_true rfl), (Nat.le_of_ble_eq_true rfl)⟩ hP hD hS rfl rfl hl.1 (Nat.le_of_ble_eq_true rfl) dL_law_344 ⟨Nat.le_trans (Nat.add_le_add_left (Nat.le_of_ble_eq_true rfl) _) hcl.1, Nat.le_trans (Nat.add_le_add_left (Nat.le_of_ble_eq_true rfl) _) hcl.2⟩ (fun v w h => ?_) (fun v bx1 w1 hp H locs hP hD hS => ?_)
  · rcases h with ⟨_, w1, _, _, h⟩ | ⟨_, w1, _, _, h⟩
    · exact ⟨_, w1, h⟩
    · exact ⟨_, w1, h⟩
  have key : ∃ (kv : Int32) (c1 : Nat → Int64), v = some (.int kv) ∧ bx1 = zbx y ab c1 ∧ ∀ vm wm, PM vm wm → (∃ r : Int32, vm = some (.int r) ∧ (kv = 0 → c1 0 = r.toInt64)) ∧ I kv (rX ++ w1) (rM ++ wm) := by
    rcases hp with ⟨r, w2, hp, rfl, hw2⟩ | ⟨E, w2, hp, hv, hw2⟩
    · obtain ⟨rfl, rfl⟩ := List.cons.inj hw2
      obtain ⟨r1, er, hn⟩ := hn _ _ hp
      obtain rfl : r = r1 := by injection er with er; injection er
      refine ⟨0, _, rfl, rfl, fun vm wm hm => ?_⟩
      obtain ⟨rfl, hi⟩ := hn vm wm hm
      exact ⟨⟨r, rfl, fun _ => rfl⟩, hi⟩
    · obtain ⟨rfl, rfl⟩ := List.cons.inj hw2
      obtain ⟨rfl, hv⟩ := hv
      obtain ⟨-, hn⟩ := hE _ _ hp
      refine ⟨1, _, hv, rfl, fun vm wm hm => ?_⟩
      obtain ⟨⟨r, rfl⟩, hi⟩ := hn vm wm hm
      exact ⟨⟨r, rfl, fun h => absurd h (by decide)⟩, hi⟩
  obtain ⟨kv, c1, rfl, rfl, key⟩ := key
  refine lv_istore (lv' := [(5, .int kv), (4, .int i), (3, .ref ab), (2, .ref bm), (1, .ref b), (0, .ref sb)]) hx hb dL_law_347 hl (by decide) rfl (fun ls hl => ?_)
  refine lv_aload_n hx hb dL_law_349 rfl (lv_at hl 3 rfl) ?_
  refine zLm (rest := []) X e2 hM kf_RL_144 ⟨(Nat.le_of_ble_eq_true rfl), (Nat.le_of_ble_eq_true rfl)⟩ hP hD hS rfl b2 rfl rfl hl.1 (Nat.le_of_ble_eq_true rfl) dL_law_350 ⟨?_, ?_⟩ (fun v wm hp H locs hP hD hS => ?_)
  · exact Nat.le_trans (Nat.add_le_add_left (Nat.le_of_ble_eq_true rfl) cells) hcl.1
  · exact Nat.le_trans (Nat.add_le_add_left (Nat.le_of_ble_eq_true rfl) slots) hcl.2
  obtain ⟨⟨r, rfl, hc⟩, hI⟩ := key v wm hp
  refine lv_istore (lv' := [(6, .int r), (5, .int kv), (4, .int i), (3, .ref ab), (2, .ref bm), (1, .ref b), (0, .ref sb)]) hx hb dL_law_353 hl (by decide) rfl (fun ls hl => ?_)
  obtain ⟨r3, c3, f3, e3, b3, hC3⟩ := hT _ _ _ hI
  refine lv_aload_n hx hb dL_law_355 rfl (lv_at hl 4 rfl) ?_
  refine zLm (rest := []) X e3 hC3 kf_RL_145 ⟨(Nat.le_of_ble_eq_true rfl), (Nat.le_of_ble_eq_true rfl)⟩ hP hD hS rfl b3 rfl rfl hl.1 (Nat.le_of_ble_eq_true rfl) dL_law_356 ⟨?_, ?_⟩ (fun v w3 hp H locs hP hD hS => ?_)
  · exact Nat.le_trans (Nat.add_le_add_left (Nat.le_of_ble_eq_true rfl) cells) hcl.1
  · exact Nat.le_trans (Nat.add_le_add_left (Nat.le_of_ble_eq_true rfl) slots) hcl.2
  obtain ⟨rfl, rfl⟩ := hp
  replace hP := zPp (List.Perm.append_right _ e3.symm) hP
  replace hD := zDp (List.Perm.append_right _ e3.symm) hD
  refine lv_iload hx hb dL_law_359 (lv_at hl 1 rfl) ?_
  refine lv_icmp_eq (tgt := 366) hx hb dL_law_361 (by decide) (fun _ => ?_) (fun h => absurd rfl h)
  refine lv_iload hx hb dL_law_366 (lv_at hl 1 rfl) ?_
  have hend : ∀ (H : Heap) (locs : List Loc), va_P D vwCl ((rM ++ wm) ++ (zbx y ab c1 :: (rX ++ w1))) H → va_D A ((rM ++ wm) ++ (zbx y ab c1 :: (rX ++ w1))) → va_S A s.heap H locs → W p l e room_1 s m args below meth c H locs (cells + 3 + 0 + 0) (slots + 20 + 0 + 0) Q (F0 m 383 ls []) := by
    intro H locs hP hD hS
    refine lv_goto (tgt := 3102) hx hb dL_law_383 (by decide) ?_
    refine W.widen (k := cells + 8) (n := slots + 64) (Nat.add_le_add_left (Nat.le_of_ble_eq_true rfl) cells) (Nat.add_le_add_left (Nat.le_of_ble_eq_true rfl) slots) ?_
    exact kk _ _ _ _ _ _ _ hI hP hD hS (zlv (zlv hl))
  refine lv_if_ne (tgt := 383) hx hb dL_law_368 (by decide) (fun _ => hend H locs hP hD hS) (fun hz => ?_)
  refine lv_aload_n hx hb dL_law_371 rfl (lv_at hl 3 rfl) ?_
  refine lv_iconst (v := 0) hx hb dL_law_372 (by decide) ?_
  refine va_lald hx hb hK (zPp List.perm_append_comm hP) 0 1 rfl rfl (by unfold vp_in; decide) dL_law_373 ?_
  rw [show c1 (0 : Int32).toNatClampNeg = _ from hc hz]
  refine lv_iload hx hb dL_law_374 (lv_at hl 0 rfl) ?_
  refine lv_i2l (v := r.toInt64) hx hb dL_law_376 rfl ?_
  refine W.lcmp hx hb dL_law_377 ?_
  refine lv_if_eq (tgt := 383) hx hb dL_law_378 (by decide) (fun _ => hend H locs hP hD hS) (fun h => absurd (zlcE _) h)
theorem kf_RL_151 : zCB RL 151 yX9_fault cX9_fault 1 (some .int) 0 ∧ Cond.instanceMethod yX9_fault ∈ wAll ∧ Cond.selects yX9_fault.cls yX9_fault yX9_fault ∈ wAll := ⟨⟨q_1549, q_9, q_1546, by decide +kernel⟩, q_1547, q_1548⟩
theorem kf_RL_148 : zCB RL 148 yX8_fault cX8_fault 1 (some .int) 0 ∧ Cond.instanceMethod yX8_fault ∈ wAll ∧ Cond.selects yX8_fault.cls yX8_fault yX8_fault ∈ wAll := ⟨⟨q_334, q_1, q_331, by decide +kernel⟩, q_332, q_333⟩
def zK3 (l : Launch) (D : va_G) (y : zY) (b bm : Nat) (I : Int32 → va_W → va_W → Prop) : Prop :=
  ∀ (t : Int32) (wX wM : va_W), I t wX wM → ∃ (rX cX rM cM : va_W) (fX fM : List Value) (P : Option Value → va_W → Prop) (PM : Option Value → va_W → Prop), wX.Perm (rX ++ cX) ∧ wM.Perm (rM ++ cM) ∧ cX[0]? = some (b, .inr (8, fX)) ∧ cM[0]? = some (bm, .inr (9, fM)) ∧ zC l D y yX8_fault cX8_fault 1 (some .int) rm_X8_fault [.ref b] cX P ∧ zC l D y yX9_fault cX9_fault 1 (some .int) rm_X9_fault [.ref bm] cM PM ∧ (∀ v w, P v w → ∃ r : Int32, v = some (.int r) ∧ ∀ vm wm, PM vm wm → vm = some (.int r) ∧ ∃ t2 : Int32, I t2 (rX ++ w) (rM ++ wm))
set_option maxHeartbeats 4000000 in
theorem zlk_3 {p : Program} {l : Launch} {e : Env} {s : State} {m : MethodId} {args : Array Value} {below : List Frame} {meth : Method} {c : Code} {H : Heap} {locs : List Loc} {cells slots : Nat} {Q : State → Prop} {D : va_G} {y : zY} {A : Nat → Prop} {ls : Array Slot} {wX wM : va_W} {ab b bm sb L : Nat} {cbx : Nat → Int64} {xs : Nat → Int32} {I : Int32 → va_W → va_W → Prop} {t i : Int32} (X : zX p s m args meth c D y A RL cL_law 8 (some .boolean)) (hT : zKT l D y bm I) (hk : zK3 l D y b bm I) (hX : va_X sb L xs s s.heap) (hbl : sb < s.heap.size) (hbA : ¬ A sb) (hin : ∀ k : Int32, 0 ≤ k.toInt ∧ k.toInt < 8 → vp_in (i + k) L) (hI : I t wX wM) (hP : va_P D vwCl (wM ++ (zbx y ab cbx :: wX)) H) (hD : va_D A (wM ++ (zbx y ab cbx :: wX))) (hS : va_S A s.heap H locs) (hl : lv_has ls 8 [(4, .int i), (3, .ref ab), (2, .ref bm), (1, .ref b), (0, .ref sb)]) (hcl : cells + 8 ≤ room_1.cells ∧ slots + 64 ≤ room_1.slots)
    (kk : ∀ (t : Int32) (wX wM : va_W) (cbx : Nat → Int64) (H : Heap) (locs : List Loc) (ls : Array Slot), I t wX wM → va_P D vwCl (wM ++ (zbx y ab cbx :: wX)) H → va_D A (wM ++ (zbx y ab cbx :: wX)) → va_S A s.heap H locs → lv_has ls 8 [(4, .int i), (3, .ref ab), (2, .ref bm), (1, .ref b), (0, .ref sb)] → W p l e room_1 s m args below meth c H locs (cells + 8) (slots + 64) Q (F0 m 3102 ls [])) : W p l e room_1 s m args below meth c H locs cells slots Q (F0 m 386 ls []) := by
  obtain ⟨hx, hb, hr9, hml, hown, hts, hK, hA, hlocks⟩ := id X
  refine lv_aload_n hx hb dL_law_386 rfl (lv_at hl 3 rfl) ?_
  obtain ⟨rX, cX, rM, cM, fX, fM, P, PM, e1, e2, b1, b2, hC, hM, hn⟩ := hk t wX wM hI  
  refine zLx (rest := []) X e1 hC kf_RL_148 ⟨(Nat.le_of_ble_eq_true rfl), (Nat.le_of_ble_eq_true rfl)⟩ hP hD hS rfl b1 rfl rfl hl.1 (Nat.le_of_ble_eq_true rfl) dL_law_387 ⟨Nat.le_trans (Nat.add_le_add_left (Nat.le_of_ble_eq_true rfl) _) hcl.1, Nat.le_trans (Nat.add_le_add_left (Nat.le_of_ble_eq_true rfl) _) hcl.2⟩ (fun v w1 hp H locs hP hD hS => ?_)
  obtain ⟨r, rfl, hn⟩ := hn v w1 hp
  refine lv_aload_n hx hb dL_law_390 rfl (lv_at hl 2 rfl) ?_
  refine zLm (rest := [.int r]) X e2 hM kf_RL_151 ⟨(Nat.le_of_ble_eq_true rfl), (Nat.le_of_ble_eq_true rfl)⟩ hP hD hS rfl b2 rfl rfl hl.1 (Nat.le_of_ble_eq_true rfl) dL_law_391 ⟨?_, ?_⟩ (fun v wm hp H locs hP hD hS => ?_)
  · exact Nat.le_trans (Nat.add_le_add_left (Nat.le_of_ble_eq_true rfl) cells) hcl.1
  · exact Nat.le_trans (Nat.add_le_add_left (Nat.le_of_ble_eq_true rfl) slots) hcl.2
  obtain ⟨rfl, t2, hI⟩ := hn v wm hp
  refine lv_icmp_eq (tgt := 3102) hx hb dL_law_394 (by decide) (fun _ => ?_) (fun h => absurd rfl h)
  refine W.widen (k := cells + 8) (n := slots + 64) (Nat.add_le_add_left (Nat.le_of_ble_eq_true rfl) cells) (Nat.add_le_add_left (Nat.le_of_ble_eq_true rfl) slots) ?_
  exact kk _ _ _ _ _ _ _ hI hP hD hS hl
theorem kf_RL_155 : zCB RL 155 yX9_pipe cX9_pipe 5 (some .int) 3 ∧ Cond.instanceMethod yX9_pipe ∈ wAll ∧ Cond.selects yX9_pipe.cls yX9_pipe yX9_pipe ∈ wAll := ⟨⟨q_1553, q_9, q_1550, by decide +kernel⟩, q_1551, q_1552⟩
theorem kw_RL_152 : zCW RL 152 yL_pipe cL_pipe 6 (some .int) [(0, 12, 15, 19)] 5 := ⟨q_832, q_0, q_830, q_831, by decide +kernel⟩
def zK4 (l : Launch) (D : va_G) (y : zY) (b bm : Nat) (I : Int32 → va_W → va_W → Prop) : Prop :=
  ∀ (t : Int32) (wX wM : va_W), I t wX wM → ∀ (x1 : Int32) (x2 : Int32) (x3 : Int32), (x3 = 0 ∨ x3 = 1) → ∃ (rX cX rM cM : va_W) (fX fM : List Value) (P : Option Value → va_W → Prop) (PX : String → va_W → Prop) (PM : Option Value → va_W → Prop), wX.Perm (rX ++ cX) ∧ wM.Perm (rM ++ cM) ∧ cX[0]? = some (b, .inr (8, fX)) ∧ cM[0]? = some (bm, .inr (9, fM)) ∧ zCx l D y yX8_pipe cX8_pipe 4 (some .int) rm_X8_pipe [.ref b, .int x1, .int x2, .int x3] cX P PX ∧ zC l D y yX9_pipe cX9_pipe 5 (some .int) rm_X9_pipe [.ref bm, .int x1, .int x2, .int x3] cM PM ∧ (∀ v w, P v w → ∃ r : Int32, v = some (.int r) ∧ ∀ vm wm, PM vm wm → vm = some (.int r) ∧ I 0 (rX ++ w) (rM ++ wm)) ∧ (∀ E w, PX E w → (E = "java/lang/IndexOutOfBoundsException" ∧ ∀ vm wm, PM vm wm → (∃ r : Int32, vm = some (.int r)) ∧ I 1 (rX ++ w) (rM ++ wm)))
set_option maxHeartbeats 4000000 in
theorem zlk_4 {p : Program} {l : Launch} {e : Env} {s : State} {m : MethodId} {args : Array Value} {below : List Frame} {meth : Method} {c : Code} {H : Heap} {locs : List Loc} {cells slots : Nat} {Q : State → Prop} {D : va_G} {y : zY} {A : Nat → Prop} {ls : Array Slot} {wX wM : va_W} {ab b bm sb L : Nat} {cbx : Nat → Int64} {xs : Nat → Int32} {I : Int32 → va_W → va_W → Prop} {t i : Int32} (X : zX p s m args meth c D y A RL cL_law 8 (some .boolean)) (hT : zKT l D y bm I) (hk : zK4 l D y b bm I) (hX : va_X sb L xs s s.heap) (hbl : sb < s.heap.size) (hbA : ¬ A sb) (hin : ∀ k : Int32, 0 ≤ k.toInt ∧ k.toInt < 8 → vp_in (i + k) L) (hI : I t wX wM) (hP : va_P D vwCl (wM ++ (zbx y ab cbx :: wX)) H) (hD : va_D A (wM ++ (zbx y ab cbx :: wX))) (hS : va_S A s.heap H locs) (hl : lv_has ls 8 [(4, .int i), (3, .ref ab), (2, .ref bm), (1, .ref b), (0, .ref sb)]) (hcl : cells + 8 ≤ room_1.cells ∧ slots + 64 ≤ room_1.slots)
    (kk : ∀ (t : Int32) (wX wM : va_W) (cbx : Nat → Int64) (H : Heap) (locs : List Loc) (ls : Array Slot), I t wX wM → va_P D vwCl (wM ++ (zbx y ab cbx :: wX)) H → va_D A (wM ++ (zbx y ab cbx :: wX)) → va_S A s.heap H locs → lv_has ls 8 [(4, .int i), (3, .ref ab), (2, .ref bm), (1, .ref b), (0, .ref sb)] → W p l e room_1 s m args below meth c H locs (cells + 8) (slots + 64) Q (F0 m 3102 ls [])) : W p l e room_1 s m args below meth c H locs cells slots Q (F0 m 399 ls []) := by
  obtain ⟨hx, hb, hr9, hml, hown, hts, hK, hA, hlocks⟩ := id X
  refine lv_aload_n hx hb dL_law_399 rfl (lv_at hl 3 rfl) ?_
  refine zsc (k := 1) X hX hbl hbA hS dL_law_400 dL_law_401 dL_law_403 (by decide) dL_law_404 dL_law_405 (lv_at hl 4 rfl) (lv_at hl 0 rfl) (hin 1 (by decide)) ?_
  refine zsc (k := 2) X hX hbl hbA hS dL_law_406 dL_law_407 dL_law_409 (by decide) dL_law_410 dL_law_411 (lv_at hl 4 rfl) (lv_at hl 0 rfl) (hin 2 (by decide)) ?_
  refine zsc (k := 3) X hX hbl hbA hS dL_law_412 dL_law_413 dL_law_415 (by decide) dL_law_416 dL_law_417 (lv_at hl 4 rfl) (lv_at hl 0 rfl) (hin 3 (by decide)) ?_
  refine zbo X dL_law_418 (by decide) dL_law_421 dL_law_422 (by decide) dL_law_425 ?_
  obtain ⟨rX, cX, rM, cM, fX, fM, P, PX, PM, e1, e2, b1, b2, hC, hM, hn, hE⟩ := hk t wX wM hI (xs (i + 1).toNatClampNeg) (xs (i + 2).toNatClampNeg) (zbl (xs (i + 3).toNatClampNeg)) (zbl01 _)
  refine lv_aload_n hx hb dL_law_426 rfl (lv_at hl 1 rfl) ?_
  have hw := zw_L_pipe l D y b ab cbx (xs (i + 1).toNatClampNeg) (xs (i + 2).toNatClampNeg) (zbl (xs (i + 3).toNatClampNeg)) cX fX 0 b1 P PX hC (fun v w h => (hn v w h).imp fun _ z => z.1) (fun E w h => (hE E w h).1)
  refine zLw (rest := []) X e1 hw kw_RL_152 ⟨(Nat.le_of_ble_eq_true rfl), (Nat.le_of_ble_eq_true rfl)⟩ hP hD hS rfl rfl hl.1 (Nat.le_of_ble_eq_true rfl) dL_law_427 ⟨Nat.le_trans (Nat.add_le_add_left (Nat.le_of_ble_eq_true rfl) _) hcl.1, Nat.le_trans (Nat.add_le_add_left (Nat.le_of_ble_eq_true rfl) _) hcl.2⟩ (fun v w h => ?_) (fun v bx1 w1 hp H locs hP hD hS => ?_)
  · rcases h with ⟨_, w1, _, _, h⟩ | ⟨_, w1, _, _, h⟩
    · exact ⟨_, w1, h⟩
    · exact ⟨_, w1, h⟩
  have key : ∃ (kv : Int32) (c1 : Nat → Int64), v = some (.int kv) ∧ bx1 = zbx y ab c1 ∧ ∀ vm wm, PM vm wm → (∃ r : Int32, vm = some (.int r) ∧ (kv = 0 → c1 0 = r.toInt64)) ∧ I kv (rX ++ w1) (rM ++ wm) := by
    rcases hp with ⟨r, w2, hp, rfl, hw2⟩ | ⟨E, w2, hp, hv, hw2⟩
    · obtain ⟨rfl, rfl⟩ := List.cons.inj hw2
      obtain ⟨r1, er, hn⟩ := hn _ _ hp
      obtain rfl : r = r1 := by injection er with er; injection er
      refine ⟨0, _, rfl, rfl, fun vm wm hm => ?_⟩
      obtain ⟨rfl, hi⟩ := hn vm wm hm
      exact ⟨⟨r, rfl, fun _ => rfl⟩, hi⟩
    · obtain ⟨rfl, rfl⟩ := List.cons.inj hw2
      obtain ⟨rfl, hv⟩ := hv
      obtain ⟨-, hn⟩ := hE _ _ hp
      refine ⟨1, _, hv, rfl, fun vm wm hm => ?_⟩
      obtain ⟨⟨r, rfl⟩, hi⟩ := hn vm wm hm
      exact ⟨⟨r, rfl, fun h => absurd h (by decide)⟩, hi⟩
  obtain ⟨kv, c1, rfl, rfl, key⟩ := key
  refine lv_istore (lv' := [(5, .int kv), (4, .int i), (3, .ref ab), (2, .ref bm), (1, .ref b), (0, .ref sb)]) hx hb dL_law_430 hl (by decide) rfl (fun ls hl => ?_)
  refine lv_aload_n hx hb dL_law_432 rfl (lv_at hl 3 rfl) ?_
  refine zsc (k := 1) X hX hbl hbA hS dL_law_433 dL_law_434 dL_law_436 (by decide) dL_law_437 dL_law_438 (lv_at hl 5 rfl) (lv_at hl 1 rfl) (hin 1 (by decide)) ?_
  refine zsc (k := 2) X hX hbl hbA hS dL_law_439 dL_law_440 dL_law_442 (by decide) dL_law_443 dL_law_444 (lv_at hl 5 rfl) (lv_at hl 1 rfl) (hin 2 (by decide)) ?_
  refine zsc (k := 3) X hX hbl hbA hS dL_law_445 dL_law_446 dL_law_448 (by decide) dL_law_449 dL_law_450 (lv_at hl 5 rfl) (lv_at hl 1 rfl) (hin 3 (by decide)) ?_
  refine zbo X dL_law_451 (by decide) dL_law_454 dL_law_455 (by decide) dL_law_458 ?_
  refine zLm (rest := []) X e2 hM kf_RL_155 ⟨(Nat.le_of_ble_eq_true rfl), (Nat.le_of_ble_eq_true rfl)⟩ hP hD hS rfl b2 rfl rfl hl.1 (Nat.le_of_ble_eq_true rfl) dL_law_459 ⟨?_, ?_⟩ (fun v wm hp H locs hP hD hS => ?_)
  · exact Nat.le_trans (Nat.add_le_add_left (Nat.le_of_ble_eq_true rfl) cells) hcl.1
  · exact Nat.le_trans (Nat.add_le_add_left (Nat.le_of_ble_eq_true rfl) slots) hcl.2
  obtain ⟨⟨r, rfl, hc⟩, hI⟩ := key v wm hp
  refine lv_istore (lv' := [(6, .int r), (5, .int kv), (4, .int i), (3, .ref ab), (2, .ref bm), (1, .ref b), (0, .ref sb)]) hx hb dL_law_462 hl (by decide) rfl (fun ls hl => ?_)
  obtain ⟨r3, c3, f3, e3, b3, hC3⟩ := hT _ _ _ hI
  refine lv_aload_n hx hb dL_law_464 rfl (lv_at hl 4 rfl) ?_
  refine zLm (rest := []) X e3 hC3 kf_RL_145 ⟨(Nat.le_of_ble_eq_true rfl), (Nat.le_of_ble_eq_true rfl)⟩ hP hD hS rfl b3 rfl rfl hl.1 (Nat.le_of_ble_eq_true rfl) dL_law_465 ⟨?_, ?_⟩ (fun v w3 hp H locs hP hD hS => ?_)
  · exact Nat.le_trans (Nat.add_le_add_left (Nat.le_of_ble_eq_true rfl) cells) hcl.1
  · exact Nat.le_trans (Nat.add_le_add_left (Nat.le_of_ble_eq_true rfl) slots) hcl.2
  obtain ⟨rfl, rfl⟩ := hp
  replace hP := zPp (List.Perm.append_right _ e3.symm) hP
  replace hD := zDp (List.Perm.append_right _ e3.symm) hD
  refine lv_iload hx hb dL_law_468 (lv_at hl 1 rfl) ?_
  refine lv_icmp_eq (tgt := 475) hx hb dL_law_470 (by decide) (fun _ => ?_) (fun h => absurd rfl h)
  refine lv_iload hx hb dL_law_475 (lv_at hl 1 rfl) ?_
  have hend : ∀ (H : Heap) (locs : List Loc), va_P D vwCl ((rM ++ wm) ++ (zbx y ab c1 :: (rX ++ w1))) H → va_D A ((rM ++ wm) ++ (zbx y ab c1 :: (rX ++ w1))) → va_S A s.heap H locs → W p l e room_1 s m args below meth c H locs (cells + 1 + 0 + 0) (slots + 6 + 0 + 0) Q (F0 m 492 ls []) := by
    intro H locs hP hD hS
    refine lv_goto (tgt := 3102) hx hb dL_law_492 (by decide) ?_
    refine W.widen (k := cells + 8) (n := slots + 64) (Nat.add_le_add_left (Nat.le_of_ble_eq_true rfl) cells) (Nat.add_le_add_left (Nat.le_of_ble_eq_true rfl) slots) ?_
    exact kk _ _ _ _ _ _ _ hI hP hD hS (zlv (zlv hl))
  refine lv_if_ne (tgt := 492) hx hb dL_law_477 (by decide) (fun _ => hend H locs hP hD hS) (fun hz => ?_)
  refine lv_aload_n hx hb dL_law_480 rfl (lv_at hl 3 rfl) ?_
  refine lv_iconst (v := 0) hx hb dL_law_481 (by decide) ?_
  refine va_lald hx hb hK (zPp List.perm_append_comm hP) 0 1 rfl rfl (by unfold vp_in; decide) dL_law_482 ?_
  rw [show c1 (0 : Int32).toNatClampNeg = _ from hc hz]
  refine lv_iload hx hb dL_law_483 (lv_at hl 0 rfl) ?_
  refine lv_i2l (v := r.toInt64) hx hb dL_law_485 rfl ?_
  refine W.lcmp hx hb dL_law_486 ?_
  refine lv_if_eq (tgt := 492) hx hb dL_law_487 (by decide) (fun _ => hend H locs hP hD hS) (fun h => absurd (zlcE _) h)
theorem kf_RL_159 : zCB RL 159 yX9_stone cX9_stone 3 (some .boolean) 2 ∧ Cond.instanceMethod yX9_stone ∈ wAll ∧ Cond.selects yX9_stone.cls yX9_stone yX9_stone ∈ wAll := ⟨⟨q_1573, q_9, q_1570, by decide +kernel⟩, q_1571, q_1572⟩
theorem kw_RL_156 : zCW RL 156 yL_stone cL_stone 5 (some .int) [(0, 17, 20, 19)] 4 := ⟨q_861, q_0, q_859, q_860, by decide +kernel⟩
def zK5 (l : Launch) (D : va_G) (y : zY) (b bm : Nat) (I : Int32 → va_W → va_W → Prop) : Prop :=
  ∀ (t : Int32) (wX wM : va_W), I t wX wM → ∀ (x1 : Int32) (x2 : Int32), ∃ (rX cX rM cM : va_W) (fX fM : List Value) (P : Option Value → va_W → Prop) (PX : String → va_W → Prop) (PM : Option Value → va_W → Prop), wX.Perm (rX ++ cX) ∧ wM.Perm (rM ++ cM) ∧ cX[0]? = some (b, .inr (8, fX)) ∧ cM[0]? = some (bm, .inr (9, fM)) ∧ zCx l D y yX8_stone cX8_stone 3 (some .boolean) rm_X8_stone [.ref b, .int x1, .int x2] cX P PX ∧ zC l D y yX9_stone cX9_stone 3 (some .boolean) rm_X9_stone [.ref bm, .int x1, .int x2] cM PM ∧ (∀ v w, P v w → ∃ r : Int32, v = some (.int r) ∧ ∀ vm wm, PM vm wm → vm = some (.int r) ∧ I 0 (rX ++ w) (rM ++ wm)) ∧ (∀ E w, PX E w → (E = "java/lang/IndexOutOfBoundsException" ∧ ∀ vm wm, PM vm wm → (∃ r : Int32, vm = some (.int r)) ∧ I 1 (rX ++ w) (rM ++ wm)))
set_option maxHeartbeats 4000000 in
theorem zlk_5 {p : Program} {l : Launch} {e : Env} {s : State} {m : MethodId} {args : Array Value} {below : List Frame} {meth : Method} {c : Code} {H : Heap} {locs : List Loc} {cells slots : Nat} {Q : State → Prop} {D : va_G} {y : zY} {A : Nat → Prop} {ls : Array Slot} {wX wM : va_W} {ab b bm sb L : Nat} {cbx : Nat → Int64} {xs : Nat → Int32} {I : Int32 → va_W → va_W → Prop} {t i : Int32} (X : zX p s m args meth c D y A RL cL_law 8 (some .boolean)) (hT : zKT l D y bm I) (hk : zK5 l D y b bm I) (hX : va_X sb L xs s s.heap) (hbl : sb < s.heap.size) (hbA : ¬ A sb) (hin : ∀ k : Int32, 0 ≤ k.toInt ∧ k.toInt < 8 → vp_in (i + k) L) (hI : I t wX wM) (hP : va_P D vwCl (wM ++ (zbx y ab cbx :: wX)) H) (hD : va_D A (wM ++ (zbx y ab cbx :: wX))) (hS : va_S A s.heap H locs) (hl : lv_has ls 8 [(4, .int i), (3, .ref ab), (2, .ref bm), (1, .ref b), (0, .ref sb)]) (hcl : cells + 8 ≤ room_1.cells ∧ slots + 64 ≤ room_1.slots)
    (kk : ∀ (t : Int32) (wX wM : va_W) (cbx : Nat → Int64) (H : Heap) (locs : List Loc) (ls : Array Slot), I t wX wM → va_P D vwCl (wM ++ (zbx y ab cbx :: wX)) H → va_D A (wM ++ (zbx y ab cbx :: wX)) → va_S A s.heap H locs → lv_has ls 8 [(4, .int i), (3, .ref ab), (2, .ref bm), (1, .ref b), (0, .ref sb)] → W p l e room_1 s m args below meth c H locs (cells + 8) (slots + 64) Q (F0 m 3102 ls [])) : W p l e room_1 s m args below meth c H locs cells slots Q (F0 m 495 ls []) := by
  obtain ⟨hx, hb, hr9, hml, hown, hts, hK, hA, hlocks⟩ := id X
  refine lv_aload_n hx hb dL_law_495 rfl (lv_at hl 3 rfl) ?_
  refine zsc (k := 1) X hX hbl hbA hS dL_law_496 dL_law_497 dL_law_499 (by decide) dL_law_500 dL_law_501 (lv_at hl 4 rfl) (lv_at hl 0 rfl) (hin 1 (by decide)) ?_
  refine zsc (k := 2) X hX hbl hbA hS dL_law_502 dL_law_503 dL_law_505 (by decide) dL_law_506 dL_law_507 (lv_at hl 4 rfl) (lv_at hl 0 rfl) (hin 2 (by decide)) ?_
  obtain ⟨rX, cX, rM, cM, fX, fM, P, PX, PM, e1, e2, b1, b2, hC, hM, hn, hE⟩ := hk t wX wM hI (xs (i + 1).toNatClampNeg) (xs (i + 2).toNatClampNeg) 
  refine lv_aload_n hx hb dL_law_508 rfl (lv_at hl 1 rfl) ?_
  have hw := zw_L_stone l D y b ab cbx (xs (i + 1).toNatClampNeg) (xs (i + 2).toNatClampNeg) cX fX 0 b1 P PX hC (fun v w h => (hn v w h).imp fun _ z => z.1) (fun E w h => (hE E w h).1)
  refine zLw (rest := []) X e1 hw kw_RL_156 ⟨(Nat.le_of_ble_eq_true rfl), (Nat.le_of_ble_eq_true rfl)⟩ hP hD hS rfl rfl hl.1 (Nat.le_of_ble_eq_true rfl) dL_law_509 ⟨Nat.le_trans (Nat.add_le_add_left (Nat.le_of_ble_eq_true rfl) _) hcl.1, Nat.le_trans (Nat.add_le_add_left (Nat.le_of_ble_eq_true rfl) _) hcl.2⟩ (fun v w h => ?_) (fun v bx1 w1 hp H locs hP hD hS => ?_)
  · rcases h with ⟨_, w1, _, _, h⟩ | ⟨_, w1, _, _, h⟩
    · exact ⟨_, w1, h⟩
    · exact ⟨_, w1, h⟩
  have key : ∃ (kv : Int32) (c1 : Nat → Int64), v = some (.int kv) ∧ bx1 = zbx y ab c1 ∧ ∀ vm wm, PM vm wm → (∃ r : Int32, vm = some (.int r) ∧ (kv = 0 → c1 0 = if r = 0 then (0 : Int64) else (1 : Int64))) ∧ I kv (rX ++ w1) (rM ++ wm) := by
    rcases hp with ⟨r, w2, hp, rfl, hw2⟩ | ⟨E, w2, hp, hv, hw2⟩
    · obtain ⟨rfl, rfl⟩ := List.cons.inj hw2
      obtain ⟨r1, er, hn⟩ := hn _ _ hp
      obtain rfl : r = r1 := by injection er with er; injection er
      refine ⟨0, _, rfl, rfl, fun vm wm hm => ?_⟩
      obtain ⟨rfl, hi⟩ := hn vm wm hm
      exact ⟨⟨r, rfl, fun _ => rfl⟩, hi⟩
    · obtain ⟨rfl, rfl⟩ := List.cons.inj hw2
      obtain ⟨rfl, hv⟩ := hv
      obtain ⟨-, hn⟩ := hE _ _ hp
      refine ⟨1, _, hv, rfl, fun vm wm hm => ?_⟩
      obtain ⟨⟨r, rfl⟩, hi⟩ := hn vm wm hm
      exact ⟨⟨r, rfl, fun h => absurd h (by decide)⟩, hi⟩
  obtain ⟨kv, c1, rfl, rfl, key⟩ := key
  refine lv_istore (lv' := [(5, .int kv), (4, .int i), (3, .ref ab), (2, .ref bm), (1, .ref b), (0, .ref sb)]) hx hb dL_law_512 hl (by decide) rfl (fun ls hl => ?_)
  refine lv_aload_n hx hb dL_law_514 rfl (lv_at hl 3 rfl) ?_
  refine zsc (k := 1) X hX hbl hbA hS dL_law_515 dL_law_516 dL_law_518 (by decide) dL_law_519 dL_law_520 (lv_at hl 5 rfl) (lv_at hl 1 rfl) (hin 1 (by decide)) ?_
  refine zsc (k := 2) X hX hbl hbA hS dL_law_521 dL_law_522 dL_law_524 (by decide) dL_law_525 dL_law_526 (lv_at hl 5 rfl) (lv_at hl 1 rfl) (hin 2 (by decide)) ?_
  refine zLm (rest := []) X e2 hM kf_RL_159 ⟨(Nat.le_of_ble_eq_true rfl), (Nat.le_of_ble_eq_true rfl)⟩ hP hD hS rfl b2 rfl rfl hl.1 (Nat.le_of_ble_eq_true rfl) dL_law_527 ⟨?_, ?_⟩ (fun v wm hp H locs hP hD hS => ?_)
  · exact Nat.le_trans (Nat.add_le_add_left (Nat.le_of_ble_eq_true rfl) cells) hcl.1
  · exact Nat.le_trans (Nat.add_le_add_left (Nat.le_of_ble_eq_true rfl) slots) hcl.2
  obtain ⟨⟨r, rfl, hc⟩, hI⟩ := key v wm hp
  refine lv_istore (lv' := [(6, .int r), (5, .int kv), (4, .int i), (3, .ref ab), (2, .ref bm), (1, .ref b), (0, .ref sb)]) hx hb dL_law_530 hl (by decide) rfl (fun ls hl => ?_)
  obtain ⟨r3, c3, f3, e3, b3, hC3⟩ := hT _ _ _ hI
  refine lv_aload_n hx hb dL_law_532 rfl (lv_at hl 4 rfl) ?_
  refine zLm (rest := []) X e3 hC3 kf_RL_145 ⟨(Nat.le_of_ble_eq_true rfl), (Nat.le_of_ble_eq_true rfl)⟩ hP hD hS rfl b3 rfl rfl hl.1 (Nat.le_of_ble_eq_true rfl) dL_law_533 ⟨?_, ?_⟩ (fun v w3 hp H locs hP hD hS => ?_)
  · exact Nat.le_trans (Nat.add_le_add_left (Nat.le_of_ble_eq_true rfl) cells) hcl.1
  · exact Nat.le_trans (Nat.add_le_add_left (Nat.le_of_ble_eq_true rfl) slots) hcl.2
  obtain ⟨rfl, rfl⟩ := hp
  replace hP := zPp (List.Perm.append_right _ e3.symm) hP
  replace hD := zDp (List.Perm.append_right _ e3.symm) hD
  refine lv_iload hx hb dL_law_536 (lv_at hl 1 rfl) ?_
  refine lv_icmp_eq (tgt := 543) hx hb dL_law_538 (by decide) (fun _ => ?_) (fun h => absurd rfl h)
  refine lv_iload hx hb dL_law_543 (lv_at hl 1 rfl) ?_
  have hend : ∀ (H : Heap) (locs : List Loc), va_P D vwCl ((rM ++ wm) ++ (zbx y ab c1 :: (rX ++ w1))) H → va_D A ((rM ++ wm) ++ (zbx y ab c1 :: (rX ++ w1))) → va_S A s.heap H locs → W p l e room_1 s m args below meth c H locs (cells + 1 + 0 + 0) (slots + 6 + 0 + 0) Q (F0 m 567 ls []) := by
    intro H locs hP hD hS
    refine lv_goto (tgt := 3102) hx hb dL_law_567 (by decide) ?_
    refine W.widen (k := cells + 8) (n := slots + 64) (Nat.add_le_add_left (Nat.le_of_ble_eq_true rfl) cells) (Nat.add_le_add_left (Nat.le_of_ble_eq_true rfl) slots) ?_
    exact kk _ _ _ _ _ _ _ hI hP hD hS (zlv (zlv hl))
  refine lv_if_ne (tgt := 567) hx hb dL_law_545 (by decide) (fun _ => hend H locs hP hD hS) (fun hz => ?_)
  refine lv_aload_n hx hb dL_law_548 rfl (lv_at hl 3 rfl) ?_
  refine lv_iconst (v := 0) hx hb dL_law_549 (by decide) ?_
  refine va_lald hx hb hK (zPp List.perm_append_comm hP) 0 1 rfl rfl (by unfold vp_in; decide) dL_law_550 ?_
  rw [show c1 (0 : Int32).toNatClampNeg = _ from hc hz]
  refine lv_iload hx hb dL_law_551 (lv_at hl 0 rfl) ?_
  refine lv_if_eq (tgt := 560) hx hb dL_law_553 (by decide) (fun cz => ?_) (fun cz => ?_)
  · rw [if_pos cz]
    refine lv_lconst (v := 0) hx hb dL_law_560 (by decide) ?_
    refine W.lcmp hx hb dL_law_561 ?_
    refine lv_if_eq (tgt := 567) hx hb dL_law_562 (by decide) (fun _ => hend H locs hP hD hS) (fun h => absurd (zlcE _) h)
  · rw [if_neg cz]
    refine lv_lconst (v := 1) hx hb dL_law_556 (by decide) ?_
    refine lv_goto (tgt := 561) hx hb dL_law_557 (by decide) ?_
    refine W.lcmp hx hb dL_law_561 ?_
    refine lv_if_eq (tgt := 567) hx hb dL_law_562 (by decide) (fun _ => hend H locs hP hD hS) (fun h => absurd (zlcE _) h)
theorem kf_RL_163 : zCB RL 163 yX9_tell cX9_tell 8 (some .int) 4 ∧ Cond.instanceMethod yX9_tell ∈ wAll ∧ Cond.selects yX9_tell.cls yX9_tell yX9_tell ∈ wAll := ⟨⟨q_1577, q_9, q_1574, by decide +kernel⟩, q_1575, q_1576⟩
theorem kw_RL_160 : zCW RL 160 yL_tell cL_tell 7 (some .int) [(0, 14, 17, 19), (0, 14, 21, 13), (0, 14, 25, 29)] 6 := ⟨q_877, q_0, q_875, q_876, by decide +kernel⟩
def zK6 (l : Launch) (D : va_G) (y : zY) (b bm : Nat) (I : Int32 → va_W → va_W → Prop) : Prop :=
  ∀ (t : Int32) (wX wM : va_W), I t wX wM → ∀ (x1 : Int32) (x2 : Int32) (x3 : Int32) (x4 : Int32), (x3 = 0 ∨ x3 = 1) → ∃ (rX cX rM cM : va_W) (fX fM : List Value) (P : Option Value → va_W → Prop) (PX : String → va_W → Prop) (PM : Option Value → va_W → Prop), wX.Perm (rX ++ cX) ∧ wM.Perm (rM ++ cM) ∧ cX[0]? = some (b, .inr (8, fX)) ∧ cM[0]? = some (bm, .inr (9, fM)) ∧ zCx l D y yX8_tell cX8_tell 7 (some .int) rm_X8_tell [.ref b, .int x1, .int x2, .int x3, .int x4] cX P PX ∧ zC l D y yX9_tell cX9_tell 8 (some .int) rm_X9_tell [.ref bm, .int x1, .int x2, .int x3, .int x4] cM PM ∧ (∀ v w, P v w → ∃ r : Int32, v = some (.int r) ∧ ∀ vm wm, PM vm wm → vm = some (.int r) ∧ I 0 (rX ++ w) (rM ++ wm)) ∧ (∀ E w, PX E w → (E = "java/lang/IndexOutOfBoundsException" ∧ ∀ vm wm, PM vm wm → (∃ r : Int32, vm = some (.int r)) ∧ I 1 (rX ++ w) (rM ++ wm)) ∨ (E = "java/lang/IllegalArgumentException" ∧ ∀ vm wm, PM vm wm → (∃ r : Int32, vm = some (.int r)) ∧ I 2 (rX ++ w) (rM ++ wm)) ∨ (E = "java/lang/IllegalStateException" ∧ ∀ vm wm, PM vm wm → (∃ r : Int32, vm = some (.int r)) ∧ I 3 (rX ++ w) (rM ++ wm)))
set_option maxHeartbeats 4000000 in
theorem zlk_6 {p : Program} {l : Launch} {e : Env} {s : State} {m : MethodId} {args : Array Value} {below : List Frame} {meth : Method} {c : Code} {H : Heap} {locs : List Loc} {cells slots : Nat} {Q : State → Prop} {D : va_G} {y : zY} {A : Nat → Prop} {ls : Array Slot} {wX wM : va_W} {ab b bm sb L : Nat} {cbx : Nat → Int64} {xs : Nat → Int32} {I : Int32 → va_W → va_W → Prop} {t i : Int32} (X : zX p s m args meth c D y A RL cL_law 8 (some .boolean)) (hT : zKT l D y bm I) (hk : zK6 l D y b bm I) (hX : va_X sb L xs s s.heap) (hbl : sb < s.heap.size) (hbA : ¬ A sb) (hin : ∀ k : Int32, 0 ≤ k.toInt ∧ k.toInt < 8 → vp_in (i + k) L) (hI : I t wX wM) (hP : va_P D vwCl (wM ++ (zbx y ab cbx :: wX)) H) (hD : va_D A (wM ++ (zbx y ab cbx :: wX))) (hS : va_S A s.heap H locs) (hl : lv_has ls 8 [(4, .int i), (3, .ref ab), (2, .ref bm), (1, .ref b), (0, .ref sb)]) (hcl : cells + 8 ≤ room_1.cells ∧ slots + 64 ≤ room_1.slots)
    (kk : ∀ (t : Int32) (wX wM : va_W) (cbx : Nat → Int64) (H : Heap) (locs : List Loc) (ls : Array Slot), I t wX wM → va_P D vwCl (wM ++ (zbx y ab cbx :: wX)) H → va_D A (wM ++ (zbx y ab cbx :: wX)) → va_S A s.heap H locs → lv_has ls 8 [(4, .int i), (3, .ref ab), (2, .ref bm), (1, .ref b), (0, .ref sb)] → W p l e room_1 s m args below meth c H locs (cells + 8) (slots + 64) Q (F0 m 3102 ls [])) : W p l e room_1 s m args below meth c H locs cells slots Q (F0 m 570 ls []) := by
  obtain ⟨hx, hb, hr9, hml, hown, hts, hK, hA, hlocks⟩ := id X
  refine lv_aload_n hx hb dL_law_570 rfl (lv_at hl 3 rfl) ?_
  refine zsc (k := 1) X hX hbl hbA hS dL_law_571 dL_law_572 dL_law_574 (by decide) dL_law_575 dL_law_576 (lv_at hl 4 rfl) (lv_at hl 0 rfl) (hin 1 (by decide)) ?_
  refine zsc (k := 2) X hX hbl hbA hS dL_law_577 dL_law_578 dL_law_580 (by decide) dL_law_581 dL_law_582 (lv_at hl 4 rfl) (lv_at hl 0 rfl) (hin 2 (by decide)) ?_
  refine zsc (k := 3) X hX hbl hbA hS dL_law_583 dL_law_584 dL_law_586 (by decide) dL_law_587 dL_law_588 (lv_at hl 4 rfl) (lv_at hl 0 rfl) (hin 3 (by decide)) ?_
  refine zbo X dL_law_589 (by decide) dL_law_592 dL_law_593 (by decide) dL_law_596 ?_
  refine zsc (k := 4) X hX hbl hbA hS dL_law_597 dL_law_598 dL_law_600 (by decide) dL_law_601 dL_law_602 (lv_at hl 4 rfl) (lv_at hl 0 rfl) (hin 4 (by decide)) ?_
  obtain ⟨rX, cX, rM, cM, fX, fM, P, PX, PM, e1, e2, b1, b2, hC, hM, hn, hE⟩ := hk t wX wM hI (xs (i + 1).toNatClampNeg) (xs (i + 2).toNatClampNeg) (zbl (xs (i + 3).toNatClampNeg)) (xs (i + 4).toNatClampNeg) (zbl01 _)
  refine lv_aload_n hx hb dL_law_603 rfl (lv_at hl 1 rfl) ?_
  have hw := zw_L_tell l D y b ab cbx (xs (i + 1).toNatClampNeg) (xs (i + 2).toNatClampNeg) (zbl (xs (i + 3).toNatClampNeg)) (xs (i + 4).toNatClampNeg) cX fX 0 b1 P PX hC (fun v w h => (hn v w h).imp fun _ z => z.1) (fun E w h => (hE E w h).elim (fun z => Or.inl z.1) (fun z => z.elim (fun z => Or.inr (Or.inl z.1)) (fun z => Or.inr (Or.inr z.1))))
  refine zLw (rest := []) X e1 hw kw_RL_160 ⟨(Nat.le_of_ble_eq_true rfl), (Nat.le_of_ble_eq_true rfl)⟩ hP hD hS rfl rfl hl.1 (Nat.le_of_ble_eq_true rfl) dL_law_604 ⟨Nat.le_trans (Nat.add_le_add_left (Nat.le_of_ble_eq_true rfl) _) hcl.1, Nat.le_trans (Nat.add_le_add_left (Nat.le_of_ble_eq_true rfl) _) hcl.2⟩ (fun v w h => ?_) (fun v bx1 w1 hp H locs hP hD hS => ?_)
  · rcases h with ⟨_, w1, _, _, h⟩ | ⟨_, w1, _, _, h⟩
    · exact ⟨_, w1, h⟩
    · exact ⟨_, w1, h⟩
  have key : ∃ (kv : Int32) (c1 : Nat → Int64), v = some (.int kv) ∧ bx1 = zbx y ab c1 ∧ ∀ vm wm, PM vm wm → (∃ r : Int32, vm = some (.int r) ∧ (kv = 0 → c1 0 = r.toInt64)) ∧ I kv (rX ++ w1) (rM ++ wm) := by
    rcases hp with ⟨r, w2, hp, rfl, hw2⟩ | ⟨E, w2, hp, hv, hw2⟩
    · obtain ⟨rfl, rfl⟩ := List.cons.inj hw2
      obtain ⟨r1, er, hn⟩ := hn _ _ hp
      obtain rfl : r = r1 := by injection er with er; injection er
      refine ⟨0, _, rfl, rfl, fun vm wm hm => ?_⟩
      obtain ⟨rfl, hi⟩ := hn vm wm hm
      exact ⟨⟨r, rfl, fun _ => rfl⟩, hi⟩
    · obtain ⟨rfl, rfl⟩ := List.cons.inj hw2
      rcases hv with ⟨rfl, hv⟩ | ⟨rfl, hv⟩ | ⟨rfl, hv⟩
      · rcases hE _ _ hp with ⟨h0, hn⟩ | ⟨h0, hn⟩ | ⟨h0, hn⟩
        · refine ⟨1, _, hv, rfl, fun vm wm hm => ?_⟩
          obtain ⟨⟨r, rfl⟩, hi⟩ := hn vm wm hm
          exact ⟨⟨r, rfl, fun h => absurd h (by decide)⟩, hi⟩
        · exact absurd h0 (by decide)
        · exact absurd h0 (by decide)
      · rcases hE _ _ hp with ⟨h0, hn⟩ | ⟨h0, hn⟩ | ⟨h0, hn⟩
        · exact absurd h0 (by decide)
        · refine ⟨2, _, hv, rfl, fun vm wm hm => ?_⟩
          obtain ⟨⟨r, rfl⟩, hi⟩ := hn vm wm hm
          exact ⟨⟨r, rfl, fun h => absurd h (by decide)⟩, hi⟩
        · exact absurd h0 (by decide)
      · rcases hE _ _ hp with ⟨h0, hn⟩ | ⟨h0, hn⟩ | ⟨h0, hn⟩
        · exact absurd h0 (by decide)
        · exact absurd h0 (by decide)
        · refine ⟨3, _, hv, rfl, fun vm wm hm => ?_⟩
          obtain ⟨⟨r, rfl⟩, hi⟩ := hn vm wm hm
          exact ⟨⟨r, rfl, fun h => absurd h (by decide)⟩, hi⟩
  obtain ⟨kv, c1, rfl, rfl, key⟩ := key
  refine lv_istore (lv' := [(5, .int kv), (4, .int i), (3, .ref ab), (2, .ref bm), (1, .ref b), (0, .ref sb)]) hx hb dL_law_607 hl (by decide) rfl (fun ls hl => ?_)
  refine lv_aload_n hx hb dL_law_609 rfl (lv_at hl 3 rfl) ?_
  refine zsc (k := 1) X hX hbl hbA hS dL_law_610 dL_law_611 dL_law_613 (by decide) dL_law_614 dL_law_615 (lv_at hl 5 rfl) (lv_at hl 1 rfl) (hin 1 (by decide)) ?_
  refine zsc (k := 2) X hX hbl hbA hS dL_law_616 dL_law_617 dL_law_619 (by decide) dL_law_620 dL_law_621 (lv_at hl 5 rfl) (lv_at hl 1 rfl) (hin 2 (by decide)) ?_
  refine zsc (k := 3) X hX hbl hbA hS dL_law_622 dL_law_623 dL_law_625 (by decide) dL_law_626 dL_law_627 (lv_at hl 5 rfl) (lv_at hl 1 rfl) (hin 3 (by decide)) ?_
  refine zbo X dL_law_628 (by decide) dL_law_631 dL_law_632 (by decide) dL_law_635 ?_
  refine zsc (k := 4) X hX hbl hbA hS dL_law_636 dL_law_637 dL_law_639 (by decide) dL_law_640 dL_law_641 (lv_at hl 5 rfl) (lv_at hl 1 rfl) (hin 4 (by decide)) ?_
  refine zLm (rest := []) X e2 hM kf_RL_163 ⟨(Nat.le_of_ble_eq_true rfl), (Nat.le_of_ble_eq_true rfl)⟩ hP hD hS rfl b2 rfl rfl hl.1 (Nat.le_of_ble_eq_true rfl) dL_law_642 ⟨?_, ?_⟩ (fun v wm hp H locs hP hD hS => ?_)
  · exact Nat.le_trans (Nat.add_le_add_left (Nat.le_of_ble_eq_true rfl) cells) hcl.1
  · exact Nat.le_trans (Nat.add_le_add_left (Nat.le_of_ble_eq_true rfl) slots) hcl.2
  obtain ⟨⟨r, rfl, hc⟩, hI⟩ := key v wm hp
  refine lv_istore (lv' := [(6, .int r), (5, .int kv), (4, .int i), (3, .ref ab), (2, .ref bm), (1, .ref b), (0, .ref sb)]) hx hb dL_law_645 hl (by decide) rfl (fun ls hl => ?_)
  obtain ⟨r3, c3, f3, e3, b3, hC3⟩ := hT _ _ _ hI
  refine lv_aload_n hx hb dL_law_647 rfl (lv_at hl 4 rfl) ?_
  refine zLm (rest := []) X e3 hC3 kf_RL_145 ⟨(Nat.le_of_ble_eq_true rfl), (Nat.le_of_ble_eq_true rfl)⟩ hP hD hS rfl b3 rfl rfl hl.1 (Nat.le_of_ble_eq_true rfl) dL_law_648 ⟨?_, ?_⟩ (fun v w3 hp H locs hP hD hS => ?_)
  · exact Nat.le_trans (Nat.add_le_add_left (Nat.le_of_ble_eq_true rfl) cells) hcl.1
  · exact Nat.le_trans (Nat.add_le_add_left (Nat.le_of_ble_eq_true rfl) slots) hcl.2
  obtain ⟨rfl, rfl⟩ := hp
  replace hP := zPp (List.Perm.append_right _ e3.symm) hP
  replace hD := zDp (List.Perm.append_right _ e3.symm) hD
  refine lv_iload hx hb dL_law_651 (lv_at hl 1 rfl) ?_
  refine lv_icmp_eq (tgt := 658) hx hb dL_law_653 (by decide) (fun _ => ?_) (fun h => absurd rfl h)
  refine lv_iload hx hb dL_law_658 (lv_at hl 1 rfl) ?_
  have hend : ∀ (H : Heap) (locs : List Loc), va_P D vwCl ((rM ++ wm) ++ (zbx y ab c1 :: (rX ++ w1))) H → va_D A ((rM ++ wm) ++ (zbx y ab c1 :: (rX ++ w1))) → va_S A s.heap H locs → W p l e room_1 s m args below meth c H locs (cells + 4 + 0 + 0) (slots + 26 + 0 + 0) Q (F0 m 675 ls []) := by
    intro H locs hP hD hS
    refine lv_goto (tgt := 3102) hx hb dL_law_675 (by decide) ?_
    refine W.widen (k := cells + 8) (n := slots + 64) (Nat.add_le_add_left (Nat.le_of_ble_eq_true rfl) cells) (Nat.add_le_add_left (Nat.le_of_ble_eq_true rfl) slots) ?_
    exact kk _ _ _ _ _ _ _ hI hP hD hS (zlv (zlv hl))
  refine lv_if_ne (tgt := 675) hx hb dL_law_660 (by decide) (fun _ => hend H locs hP hD hS) (fun hz => ?_)
  refine lv_aload_n hx hb dL_law_663 rfl (lv_at hl 3 rfl) ?_
  refine lv_iconst (v := 0) hx hb dL_law_664 (by decide) ?_
  refine va_lald hx hb hK (zPp List.perm_append_comm hP) 0 1 rfl rfl (by unfold vp_in; decide) dL_law_665 ?_
  rw [show c1 (0 : Int32).toNatClampNeg = _ from hc hz]
  refine lv_iload hx hb dL_law_666 (lv_at hl 0 rfl) ?_
  refine lv_i2l (v := r.toInt64) hx hb dL_law_668 rfl ?_
  refine W.lcmp hx hb dL_law_669 ?_
  refine lv_if_eq (tgt := 675) hx hb dL_law_670 (by decide) (fun _ => hend H locs hP hD hS) (fun h => absurd (zlcE _) h)
theorem kf_RL_166 : zCB RL 166 yX9_put cX9_put 7 (some .boolean) 3 ∧ Cond.instanceMethod yX9_put ∈ wAll ∧ Cond.selects yX9_put.cls yX9_put yX9_put ∈ wAll := ⟨⟨q_1585, q_9, q_1582, by decide +kernel⟩, q_1583, q_1584⟩
theorem kw_RL_164 : zCW RL 164 yL_put cL_put 6 (some .int) [(0, 19, 22, 19), (0, 19, 26, 29)] 5 := ⟨q_922, q_0, q_920, q_921, by decide +kernel⟩
def zK7 (l : Launch) (D : va_G) (y : zY) (b bm : Nat) (I : Int32 → va_W → va_W → Prop) : Prop :=
  ∀ (t : Int32) (wX wM : va_W), I t wX wM → ∀ (x1 : Int32) (x2 : Int32) (x3 : Int32), (x3 = 0 ∨ x3 = 1) → ∃ (rX cX rM cM : va_W) (fX fM : List Value) (P : Option Value → va_W → Prop) (PX : String → va_W → Prop) (PM : Option Value → va_W → Prop), wX.Perm (rX ++ cX) ∧ wM.Perm (rM ++ cM) ∧ cX[0]? = some (b, .inr (8, fX)) ∧ cM[0]? = some (bm, .inr (9, fM)) ∧ zCx l D y yX8_put cX8_put 6 (some .boolean) rm_X8_put [.ref b, .int x1, .int x2, .int x3] cX P PX ∧ zC l D y yX9_put cX9_put 7 (some .boolean) rm_X9_put [.ref bm, .int x1, .int x2, .int x3] cM PM ∧ (∀ v w, P v w → ∃ r : Int32, v = some (.int r) ∧ ∀ vm wm, PM vm wm → vm = some (.int r) ∧ I 0 (rX ++ w) (rM ++ wm)) ∧ (∀ E w, PX E w → (E = "java/lang/IndexOutOfBoundsException" ∧ ∀ vm wm, PM vm wm → (∃ r : Int32, vm = some (.int r)) ∧ I 1 (rX ++ w) (rM ++ wm)) ∨ (E = "java/lang/IllegalStateException" ∧ ∀ vm wm, PM vm wm → (∃ r : Int32, vm = some (.int r)) ∧ I 2 (rX ++ w) (rM ++ wm)))
set_option maxHeartbeats 4000000 in
theorem zlk_7 {p : Program} {l : Launch} {e : Env} {s : State} {m : MethodId} {args : Array Value} {below : List Frame} {meth : Method} {c : Code} {H : Heap} {locs : List Loc} {cells slots : Nat} {Q : State → Prop} {D : va_G} {y : zY} {A : Nat → Prop} {ls : Array Slot} {wX wM : va_W} {ab b bm sb L : Nat} {cbx : Nat → Int64} {xs : Nat → Int32} {I : Int32 → va_W → va_W → Prop} {t i : Int32} (X : zX p s m args meth c D y A RL cL_law 8 (some .boolean)) (hT : zKT l D y bm I) (hk : zK7 l D y b bm I) (hX : va_X sb L xs s s.heap) (hbl : sb < s.heap.size) (hbA : ¬ A sb) (hin : ∀ k : Int32, 0 ≤ k.toInt ∧ k.toInt < 8 → vp_in (i + k) L) (hI : I t wX wM) (hP : va_P D vwCl (wM ++ (zbx y ab cbx :: wX)) H) (hD : va_D A (wM ++ (zbx y ab cbx :: wX))) (hS : va_S A s.heap H locs) (hl : lv_has ls 8 [(4, .int i), (3, .ref ab), (2, .ref bm), (1, .ref b), (0, .ref sb)]) (hcl : cells + 8 ≤ room_1.cells ∧ slots + 64 ≤ room_1.slots)
    (kk : ∀ (t : Int32) (wX wM : va_W) (cbx : Nat → Int64) (H : Heap) (locs : List Loc) (ls : Array Slot), I t wX wM → va_P D vwCl (wM ++ (zbx y ab cbx :: wX)) H → va_D A (wM ++ (zbx y ab cbx :: wX)) → va_S A s.heap H locs → lv_has ls 8 [(4, .int i), (3, .ref ab), (2, .ref bm), (1, .ref b), (0, .ref sb)] → W p l e room_1 s m args below meth c H locs (cells + 8) (slots + 64) Q (F0 m 3102 ls [])) : W p l e room_1 s m args below meth c H locs cells slots Q (F0 m 678 ls []) := by
  obtain ⟨hx, hb, hr9, hml, hown, hts, hK, hA, hlocks⟩ := id X
  refine lv_aload_n hx hb dL_law_678 rfl (lv_at hl 3 rfl) ?_
  refine zsc (k := 1) X hX hbl hbA hS dL_law_679 dL_law_680 dL_law_682 (by decide) dL_law_683 dL_law_684 (lv_at hl 4 rfl) (lv_at hl 0 rfl) (hin 1 (by decide)) ?_
  refine zsc (k := 2) X hX hbl hbA hS dL_law_685 dL_law_686 dL_law_688 (by decide) dL_law_689 dL_law_690 (lv_at hl 4 rfl) (lv_at hl 0 rfl) (hin 2 (by decide)) ?_
  refine zsc (k := 3) X hX hbl hbA hS dL_law_691 dL_law_692 dL_law_694 (by decide) dL_law_695 dL_law_696 (lv_at hl 4 rfl) (lv_at hl 0 rfl) (hin 3 (by decide)) ?_
  refine zbo X dL_law_697 (by decide) dL_law_700 dL_law_701 (by decide) dL_law_704 ?_
  obtain ⟨rX, cX, rM, cM, fX, fM, P, PX, PM, e1, e2, b1, b2, hC, hM, hn, hE⟩ := hk t wX wM hI (xs (i + 1).toNatClampNeg) (xs (i + 2).toNatClampNeg) (zbl (xs (i + 3).toNatClampNeg)) (zbl01 _)
  refine lv_aload_n hx hb dL_law_705 rfl (lv_at hl 1 rfl) ?_
  have hw := zw_L_put l D y b ab cbx (xs (i + 1).toNatClampNeg) (xs (i + 2).toNatClampNeg) (zbl (xs (i + 3).toNatClampNeg)) cX fX 0 b1 P PX hC (fun v w h => (hn v w h).imp fun _ z => z.1) (fun E w h => (hE E w h).elim (fun z => Or.inl z.1) (fun z => Or.inr z.1))
  refine zLw (rest := []) X e1 hw kw_RL_164 ⟨(Nat.le_of_ble_eq_true rfl), (Nat.le_of_ble_eq_true rfl)⟩ hP hD hS rfl rfl hl.1 (Nat.le_of_ble_eq_true rfl) dL_law_706 ⟨Nat.le_trans (Nat.add_le_add_left (Nat.le_of_ble_eq_true rfl) _) hcl.1, Nat.le_trans (Nat.add_le_add_left (Nat.le_of_ble_eq_true rfl) _) hcl.2⟩ (fun v w h => ?_) (fun v bx1 w1 hp H locs hP hD hS => ?_)
  · rcases h with ⟨_, w1, _, _, h⟩ | ⟨_, w1, _, _, h⟩
    · exact ⟨_, w1, h⟩
    · exact ⟨_, w1, h⟩
  have key : ∃ (kv : Int32) (c1 : Nat → Int64), v = some (.int kv) ∧ bx1 = zbx y ab c1 ∧ ∀ vm wm, PM vm wm → (∃ r : Int32, vm = some (.int r) ∧ (kv = 0 → c1 0 = if r = 0 then (0 : Int64) else (1 : Int64))) ∧ I kv (rX ++ w1) (rM ++ wm) := by
    rcases hp with ⟨r, w2, hp, rfl, hw2⟩ | ⟨E, w2, hp, hv, hw2⟩
    · obtain ⟨rfl, rfl⟩ := List.cons.inj hw2
      obtain ⟨r1, er, hn⟩ := hn _ _ hp
      obtain rfl : r = r1 := by injection er with er; injection er
      refine ⟨0, _, rfl, rfl, fun vm wm hm => ?_⟩
      obtain ⟨rfl, hi⟩ := hn vm wm hm
      exact ⟨⟨r, rfl, fun _ => rfl⟩, hi⟩
    · obtain ⟨rfl, rfl⟩ := List.cons.inj hw2
      rcases hv with ⟨rfl, hv⟩ | ⟨rfl, hv⟩
      · rcases hE _ _ hp with ⟨h0, hn⟩ | ⟨h0, hn⟩
        · refine ⟨1, _, hv, rfl, fun vm wm hm => ?_⟩
          obtain ⟨⟨r, rfl⟩, hi⟩ := hn vm wm hm
          exact ⟨⟨r, rfl, fun h => absurd h (by decide)⟩, hi⟩
        · exact absurd h0 (by decide)
      · rcases hE _ _ hp with ⟨h0, hn⟩ | ⟨h0, hn⟩
        · exact absurd h0 (by decide)
        · refine ⟨2, _, hv, rfl, fun vm wm hm => ?_⟩
          obtain ⟨⟨r, rfl⟩, hi⟩ := hn vm wm hm
          exact ⟨⟨r, rfl, fun h => absurd h (by decide)⟩, hi⟩
  obtain ⟨kv, c1, rfl, rfl, key⟩ := key
  refine lv_istore (lv' := [(5, .int kv), (4, .int i), (3, .ref ab), (2, .ref bm), (1, .ref b), (0, .ref sb)]) hx hb dL_law_709 hl (by decide) rfl (fun ls hl => ?_)
  refine lv_aload_n hx hb dL_law_711 rfl (lv_at hl 3 rfl) ?_
  refine zsc (k := 1) X hX hbl hbA hS dL_law_712 dL_law_713 dL_law_715 (by decide) dL_law_716 dL_law_717 (lv_at hl 5 rfl) (lv_at hl 1 rfl) (hin 1 (by decide)) ?_
  refine zsc (k := 2) X hX hbl hbA hS dL_law_718 dL_law_719 dL_law_721 (by decide) dL_law_722 dL_law_723 (lv_at hl 5 rfl) (lv_at hl 1 rfl) (hin 2 (by decide)) ?_
  refine zsc (k := 3) X hX hbl hbA hS dL_law_724 dL_law_725 dL_law_727 (by decide) dL_law_728 dL_law_729 (lv_at hl 5 rfl) (lv_at hl 1 rfl) (hin 3 (by decide)) ?_
  refine zbo X dL_law_730 (by decide) dL_law_733 dL_law_734 (by decide) dL_law_737 ?_
  refine zLm (rest := []) X e2 hM kf_RL_166 ⟨(Nat.le_of_ble_eq_true rfl), (Nat.le_of_ble_eq_true rfl)⟩ hP hD hS rfl b2 rfl rfl hl.1 (Nat.le_of_ble_eq_true rfl) dL_law_738 ⟨?_, ?_⟩ (fun v wm hp H locs hP hD hS => ?_)
  · exact Nat.le_trans (Nat.add_le_add_left (Nat.le_of_ble_eq_true rfl) cells) hcl.1
  · exact Nat.le_trans (Nat.add_le_add_left (Nat.le_of_ble_eq_true rfl) slots) hcl.2
  obtain ⟨⟨r, rfl, hc⟩, hI⟩ := key v wm hp
  refine lv_istore (lv' := [(6, .int r), (5, .int kv), (4, .int i), (3, .ref ab), (2, .ref bm), (1, .ref b), (0, .ref sb)]) hx hb dL_law_741 hl (by decide) rfl (fun ls hl => ?_)
  obtain ⟨r3, c3, f3, e3, b3, hC3⟩ := hT _ _ _ hI
  refine lv_aload_n hx hb dL_law_743 rfl (lv_at hl 4 rfl) ?_
  refine zLm (rest := []) X e3 hC3 kf_RL_145 ⟨(Nat.le_of_ble_eq_true rfl), (Nat.le_of_ble_eq_true rfl)⟩ hP hD hS rfl b3 rfl rfl hl.1 (Nat.le_of_ble_eq_true rfl) dL_law_744 ⟨?_, ?_⟩ (fun v w3 hp H locs hP hD hS => ?_)
  · exact Nat.le_trans (Nat.add_le_add_left (Nat.le_of_ble_eq_true rfl) cells) hcl.1
  · exact Nat.le_trans (Nat.add_le_add_left (Nat.le_of_ble_eq_true rfl) slots) hcl.2
  obtain ⟨rfl, rfl⟩ := hp
  replace hP := zPp (List.Perm.append_right _ e3.symm) hP
  replace hD := zDp (List.Perm.append_right _ e3.symm) hD
  refine lv_iload hx hb dL_law_747 (lv_at hl 1 rfl) ?_
  refine lv_icmp_eq (tgt := 754) hx hb dL_law_749 (by decide) (fun _ => ?_) (fun h => absurd rfl h)
  refine lv_iload hx hb dL_law_754 (lv_at hl 1 rfl) ?_
  have hend : ∀ (H : Heap) (locs : List Loc), va_P D vwCl ((rM ++ wm) ++ (zbx y ab c1 :: (rX ++ w1))) H → va_D A ((rM ++ wm) ++ (zbx y ab c1 :: (rX ++ w1))) → va_S A s.heap H locs → W p l e room_1 s m args below meth c H locs (cells + 3 + 0 + 0) (slots + 20 + 0 + 0) Q (F0 m 778 ls []) := by
    intro H locs hP hD hS
    refine lv_goto (tgt := 3102) hx hb dL_law_778 (by decide) ?_
    refine W.widen (k := cells + 8) (n := slots + 64) (Nat.add_le_add_left (Nat.le_of_ble_eq_true rfl) cells) (Nat.add_le_add_left (Nat.le_of_ble_eq_true rfl) slots) ?_
    exact kk _ _ _ _ _ _ _ hI hP hD hS (zlv (zlv hl))
  refine lv_if_ne (tgt := 778) hx hb dL_law_756 (by decide) (fun _ => hend H locs hP hD hS) (fun hz => ?_)
  refine lv_aload_n hx hb dL_law_759 rfl (lv_at hl 3 rfl) ?_
  refine lv_iconst (v := 0) hx hb dL_law_760 (by decide) ?_
  refine va_lald hx hb hK (zPp List.perm_append_comm hP) 0 1 rfl rfl (by unfold vp_in; decide) dL_law_761 ?_
  rw [show c1 (0 : Int32).toNatClampNeg = _ from hc hz]
  refine lv_iload hx hb dL_law_762 (lv_at hl 0 rfl) ?_
  refine lv_if_eq (tgt := 771) hx hb dL_law_764 (by decide) (fun cz => ?_) (fun cz => ?_)
  · rw [if_pos cz]
    refine lv_lconst (v := 0) hx hb dL_law_771 (by decide) ?_
    refine W.lcmp hx hb dL_law_772 ?_
    refine lv_if_eq (tgt := 778) hx hb dL_law_773 (by decide) (fun _ => hend H locs hP hD hS) (fun h => absurd (zlcE _) h)
  · rw [if_neg cz]
    refine lv_lconst (v := 1) hx hb dL_law_767 (by decide) ?_
    refine lv_goto (tgt := 772) hx hb dL_law_768 (by decide) ?_
    refine W.lcmp hx hb dL_law_772 ?_
    refine lv_if_eq (tgt := 778) hx hb dL_law_773 (by decide) (fun _ => hend H locs hP hD hS) (fun h => absurd (zlcE _) h)
