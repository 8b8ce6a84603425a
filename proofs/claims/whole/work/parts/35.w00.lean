
abbrev rm_X8_demandFewFree : Room := { frames := 6, cells := 1, slots := 6, locals := 90 }
def zf_X8_demandFewFree (f_arg0_free : Int64) : Option ((Unit) ⊕ (Nat)) :=
  (zf_X2_freeCount f_arg0_free).bind fun o1 =>
  if o1 ≤ (24 : Int32) then (some (.inl ())) else (some (.inr (3 : Nat)))
set_option maxHeartbeats 4000000 in
set_option maxRecDepth 100000 in
theorem zc_X8_demandFewFree (l : Launch) (D : va_G) (y : zY) (a_arg0 : Nat) (f_arg0_columns : Int32) (f_arg0_rows : Int32) (f_arg0_toldOpen : Int64) (f_arg0_toldShut : Int64) (f_arg0_stones : Int64) (f_arg0_open : Int64) (f_arg0_shut : Int64) (f_arg0_free : Int64) (hst : l.stackTraces = false) (out : (Unit) ⊕ (Nat)) (hf : zf_X8_demandFewFree f_arg0_free = some out) : zCx l D y yX8_demandFewFree cX8_demandFewFree 1 (some (.object "WaterGrid$Grid")) rm_X8_demandFewFree [.ref a_arg0] [(a_arg0, .inr (2, [.int f_arg0_columns, .int f_arg0_rows, .long f_arg0_toldOpen, .long f_arg0_toldShut, .long f_arg0_stones, .long f_arg0_open, .long f_arg0_shut, .long f_arg0_free]))] (fun v w => ∃ o, out = .inl o ∧ v = (some (.ref a_arg0)) ∧ w = [(a_arg0, .inr (2, [.int f_arg0_columns, .int f_arg0_rows, .long f_arg0_toldOpen, .long f_arg0_toldShut, .long f_arg0_stones, .long f_arg0_open, .long f_arg0_shut, .long f_arg0_free]))]) (fun E w => ∃ x, out = .inr x ∧ E = zex x ∧ w = [(a_arg0, .inr (2, [.int f_arg0_columns, .int f_arg0_rows, .long f_arg0_toldOpen, .long f_arg0_toldShut, .long f_arg0_stones, .long f_arg0_open, .long f_arg0_shut, .long f_arg0_free]))]) := by
  refine zmkx (by decide) (Nat.le_of_ble_eq_true rfl) ?_
  intro p e s m args below meth c A Q ls X hQ hct hP hD hS hl
  have X : zX p s m args meth c D y A RX8 cX8_demandFewFree 1 (some (.object "WaterGrid$Grid")) := X
  obtain ⟨hx, hb, hr, hml, hown, hts, hK, hA, hlocks⟩ := id X
  have hl : lv_has ls 1 [(0, .ref a_arg0)] := hl
  unfold zf_X8_demandFewFree at hf
  refine lv_aload_n hx hb dX8_demandFewFree_0 rfl (lv_at hl 0 rfl) ?_
  obtain ⟨o1, ho1, hf⟩ := zb hf
  refine zcV1 (wr := []) (rest := []) X (zc_X2_freeCount l D y a_arg0 f_arg0_columns f_arg0_rows f_arg0_toldOpen f_arg0_toldShut f_arg0_stones f_arg0_open f_arg0_shut f_arg0_free o1 ho1) kf_RX8_109 ⟨(Nat.le_of_ble_eq_true rfl), (Nat.le_of_ble_eq_true rfl)⟩ hP hD hS [0] [] rfl rfl rfl rfl (by decide) 0 rfl rfl rfl rfl hl.1 (Nat.le_of_ble_eq_true rfl) dX8_demandFewFree_1 ⟨(Nat.le_of_ble_eq_true rfl), (Nat.le_of_ble_eq_true rfl)⟩ (fun H locs hP hD hS => ?_)
  have hP : va_P D vwCl [(a_arg0, .inr (2, [.int f_arg0_columns, .int f_arg0_rows, .long f_arg0_toldOpen, .long f_arg0_toldShut, .long f_arg0_stones, .long f_arg0_open, .long f_arg0_shut, .long f_arg0_free]))] H := hP
  have hD : va_D A [(a_arg0, .inr (2, [.int f_arg0_columns, .int f_arg0_rows, .long f_arg0_toldOpen, .long f_arg0_toldShut, .long f_arg0_stones, .long f_arg0_open, .long f_arg0_shut, .long f_arg0_free]))] := hD
  refine lv_bipush (v := 24) hx hb dX8_demandFewFree_4 (by decide) ?_
  refine lv_icmp_le (tgt := 20) hx hb dX8_demandFewFree_6 (by decide) (fun c6 => ?_) (fun c6 => ?_)
  · replace hf := zt c6 hf
    refine lv_aload_n hx hb dX8_demandFewFree_20 rfl (lv_at hl 0 rfl) ?_
    obtain rfl := Option.some.inj hf
    exact zretax X (Or.inl ⟨_, rfl⟩) (Or.inr ⟨_, rfl⟩) hQ hP hD hS ⟨_, rfl, rfl, rfl⟩ dX8_demandFewFree_21 (Nat.le_of_ble_eq_true rfl) (Nat.le_of_ble_eq_true rfl)
  · replace hf := ze c6 hf
    obtain rfl := Option.some.inj hf
    exact zthS (cls := "java/lang/IllegalStateException") (text := "too many pipes would be free") (names := ["java/lang/RuntimeException", "java/lang/Exception"]) X hst hQ hct (by decide +kernel) (by decide +kernel) q_900 rfl q_21 rfl (by decide +kernel) zat_IllegalStateException hP hD hS hl.1 dX8_demandFewFree_9 dX8_demandFewFree_12 (Or.inr ⟨dX8_demandFewFree_13, dX8_demandFewFree_16, dX8_demandFewFree_19⟩) (Nat.le_of_ble_eq_true rfl) (Nat.le_of_ble_eq_true rfl) (Nat.le_of_ble_eq_true rfl) (Nat.le_of_ble_eq_true rfl) (Nat.le_of_ble_eq_true rfl) (Nat.le_of_ble_eq_true rfl) ⟨_, rfl, rfl, rfl⟩


abbrev rm_X8_act : Room := { frames := 0, cells := 0, slots := 0, locals := 0 }
def zf_X8_act_l11 (LG : List Nat) (x2 : Int32) (c_acts : Nat → Option Nat) : Option ((Int32 × (Nat → Option Nat)) ⊕ ((Nat → Option Nat))) :=
  if (16 : Int32) ≤ x2 then (some (.inr c_acts)) else (if zgd x2 16 = true then (if zgd (x2 - (1 : Int32)) 16 = true then (if zin (c_acts x2.toNatClampNeg) LG = true then (some (.inl (x2 + (1 : Int32), va_up c_acts (x2 - (1 : Int32)).toNatClampNeg (c_acts x2.toNatClampNeg)))) else none) else none) else none)
def zf_X8_act_43 (f_actCount : Int32) (f_grid : Nat) (c_acts : Nat → Option Nat) : Option (Int32 × (Nat → Option Nat)) :=
  if zgd f_actCount 16 = true then (some (f_actCount + (1 : Int32), va_up c_acts f_actCount.toNatClampNeg (some f_grid))) else none
def zf_X8_act (f_actCount : Int32) (f_grid : Nat) (c_acts : Nat → Option Nat) (LG : List Nat) : Option (Int32 × (Nat → Option Nat)) :=
  if f_actCount < (16 : Int32) then (zf_X8_act_43 f_actCount f_grid c_acts) else ((zit (fun d => zf_X8_act_l11 LG d.1 d.2) zfu ((1 : Int32), c_acts)).bind fun o11 =>
  zf_X8_act_43 (15 : Int32) f_grid o11)
set_option maxHeartbeats 4000000 in
set_option maxRecDepth 100000 in
theorem zc_X8_act (l : Launch) (D : va_G) (y : zY) (a_this a_text a_lattice a_acts a_order a_written a_withOpen a_kept a_flow a_side a_deciders a_trial : Nat) (f_writtenLength : Int32) (f_actCount : Int32) (f_grid : Nat) (f_sideOf : Option Nat) (f_sidePipe : Int32) (c_acts : Nat → Option Nat) (x1 : Nat) (LG : List Nat) (G : Nat → zGD) (hg : f_grid ∈ LG) (out : Int32 × (Nat → Option Nat)) (hf : zf_X8_act f_actCount f_grid c_acts LG = some out) : zC l D y yX8_act cX8_act 3 (none : Option Jvm.ClassFile.FieldType) rm_X8_act [.ref a_this, .ref x1] ([(a_this, .inr (8, [.ref a_text, .ref a_lattice, .ref a_acts, .ref a_order, .ref a_written, .ref a_withOpen, .ref a_kept, .ref a_flow, .ref a_side, .ref a_deciders, .ref a_trial, .int f_writtenLength, .int f_actCount, .ref f_grid, va_rf f_sideOf, .int f_sidePipe])), (a_acts, .inl (y.2.2.2, 16, .inr (.inr (.inr (.inr c_acts)))))] ++ zpl LG G) (zE none ([(a_this, .inr (8, [.ref a_text, .ref a_lattice, .ref a_acts, .ref a_order, .ref a_written, .ref a_withOpen, .ref a_kept, .ref a_flow, .ref a_side, .ref a_deciders, .ref a_trial, .int f_writtenLength, .int out.1, .ref x1, va_rf f_sideOf, .int f_sidePipe])), (a_acts, .inl (y.2.2.2, 16, .inr (.inr (.inr (.inr out.2)))))] ++ zpl LG G)) := by
  refine zmk (by decide) (Nat.le_of_ble_eq_true rfl) ?_
  intro p e s m args below meth c A Q ls X hQ hnm hP hD hS hl
  have X : zX p s m args meth c D y A RX8 cX8_act 3 (none : Option Jvm.ClassFile.FieldType) := X
  obtain ⟨hx, hb, hr, hml, hown, hts, hK, hA, hlocks⟩ := id X
  have hl : lv_has ls 3 [(0, .ref a_this), (1, .ref x1)] := hl
  have L11 : ∀ (n : Nat) (x1 : Nat) (x2 : Int32) (f_actCount : Int32) (c_acts : Nat → Option Nat) (x : (Nat → Option Nat)), zit (fun d => zf_X8_act_l11 LG d.1 d.2) n (x2, c_acts) = some x → ∀ (H : Heap) (locs : List Loc) (ls : Array Slot), lv_has ls 3 [(0, .ref a_this), (1, .ref x1), (2, .int x2)] → va_P D vwCl ([(a_this, .inr (8, [.ref a_text, .ref a_lattice, .ref a_acts, .ref a_order, .ref a_written, .ref a_withOpen, .ref a_kept, .ref a_flow, .ref a_side, .ref a_deciders, .ref a_trial, .int f_writtenLength, .int f_actCount, .ref f_grid, va_rf f_sideOf, .int f_sidePipe])), (a_acts, .inl (y.2.2.2, 16, .inr (.inr (.inr (.inr c_acts)))))] ++ zpl LG G) H → va_D A ([(a_this, .inr (8, [.ref a_text, .ref a_lattice, .ref a_acts, .ref a_order, .ref a_written, .ref a_withOpen, .ref a_kept, .ref a_flow, .ref a_side, .ref a_deciders, .ref a_trial, .int f_writtenLength, .int f_actCount, .ref f_grid, va_rf f_sideOf, .int f_sidePipe])), (a_acts, .inl (y.2.2.2, 16, .inr (.inr (.inr (.inr c_acts)))))] ++ zpl LG G) → va_S A s.heap H locs → (∀ (H : Heap) (locs : List Loc) (ls : Array Slot), lv_has ls 3 [(0, .ref a_this), (1, .ref x1)] → va_P D vwCl ([(a_this, .inr (8, [.ref a_text, .ref a_lattice, .ref a_acts, .ref a_order, .ref a_written, .ref a_withOpen, .ref a_kept, .ref a_flow, .ref a_side, .ref a_deciders, .ref a_trial, .int f_writtenLength, .int f_actCount, .ref f_grid, va_rf f_sideOf, .int f_sidePipe])), (a_acts, .inl (y.2.2.2, 16, .inr (.inr (.inr (.inr x)))))] ++ zpl LG G) H → va_D A ([(a_this, .inr (8, [.ref a_text, .ref a_lattice, .ref a_acts, .ref a_order, .ref a_written, .ref a_withOpen, .ref a_kept, .ref a_flow, .ref a_side, .ref a_deciders, .ref a_trial, .int f_writtenLength, .int f_actCount, .ref f_grid, va_rf f_sideOf, .int f_sidePipe])), (a_acts, .inl (y.2.2.2, 16, .inr (.inr (.inr (.inr x)))))] ++ zpl LG G) → va_S A s.heap H locs → W p l e rm_X8_act s m args below meth c H locs 0 0 Q (F0 m 37 ls [])) → W p l e rm_X8_act s m args below meth c H locs 0 0 Q (F0 m 11 ls []) := by
    intro n
    induction n with
    | zero => intro x1 x2 f_actCount c_acts x h; exact (zi0 h).elim
    | succ n ih =>
      intro x1 x2 f_actCount c_acts x h H locs ls hl hP hD hS K37
      obtain ⟨r, hf, h⟩ := zis h
      have hf : zf_X8_act_l11 LG x2 c_acts = some r := hf
      unfold zf_X8_act_l11 at hf
      refine lv_iload_n hx hb dX8_act_11 rfl (lv_at hl 2 rfl) ?_
      refine lv_bipush (v := 16) hx hb dX8_act_12 (by decide) ?_
      refine lv_icmp_ge (tgt := 37) hx hb dX8_act_14 (by decide) (fun c14 => ?_) (fun c14 => ?_)
      · replace hf := zt c14 hf
        obtain rfl := Option.some.inj hf
        obtain rfl := Option.some.inj h
        exact K37 _ _ _ (lv_sub hl [0, 1] rfl) hP hD hS
      · replace hf := ze c14 hf
        refine lv_aload_n hx hb dX8_act_17 rfl (lv_at hl 0 rfl) ?_
        refine zget X hP 0 rfl rfl inF8 2 (by decide) q_272 rfl dX8_act_18 ?_
        refine lv_iload_n hx hb dX8_act_21 rfl (lv_at hl 2 rfl) ?_
        refine lv_iconst (v := 1) hx hb dX8_act_22 (by decide) ?_
        refine lv_isub hx hb dX8_act_23 ?_
        refine lv_aload_n hx hb dX8_act_24 rfl (lv_at hl 0 rfl) ?_
        refine zget X hP 0 rfl rfl inF8 2 (by decide) q_272 rfl dX8_act_25 ?_
        refine lv_iload_n hx hb dX8_act_28 rfl (lv_at hl 2 rfl) ?_
        obtain ⟨g29, hf⟩ := zg hf
        refine va_aldq hx hb hK hP 1 3 rfl rfl g29 dX8_act_29 ?_
        obtain ⟨g30, hf⟩ := zg hf
        obtain ⟨u30, hf⟩ := zog hf
        refine zaast (o := c_acts x2.toNatClampNeg) X hP hD hS 1 rfl g30 u30 dX8_act_30 (fun H locs hP hD hS => ?_)
        have hP : va_P D vwCl ([(a_this, .inr (8, [.ref a_text, .ref a_lattice, .ref a_acts, .ref a_order, .ref a_written, .ref a_withOpen, .ref a_kept, .ref a_flow, .ref a_side, .ref a_deciders, .ref a_trial, .int f_writtenLength, .int f_actCount, .ref f_grid, va_rf f_sideOf, .int f_sidePipe])), (a_acts, .inl (y.2.2.2, 16, .inr (.inr (.inr (.inr (va_up c_acts (x2 - (1 : Int32)).toNatClampNeg (c_acts x2.toNatClampNeg)))))))] ++ zpl LG G) H := hP
        have hD : va_D A ([(a_this, .inr (8, [.ref a_text, .ref a_lattice, .ref a_acts, .ref a_order, .ref a_written, .ref a_withOpen, .ref a_kept, .ref a_flow, .ref a_side, .ref a_deciders, .ref a_trial, .int f_writtenLength, .int f_actCount, .ref f_grid, va_rf f_sideOf, .int f_sidePipe])), (a_acts, .inl (y.2.2.2, 16, .inr (.inr (.inr (.inr (va_up c_acts (x2 - (1 : Int32)).toNatClampNeg (c_acts x2.toNatClampNeg)))))))] ++ zpl LG G) := hD
        refine lv_iinc (v := x2 + (1 : Int32)) (lv' := [(2, .int (x2 + (1 : Int32))), (0, .ref a_this), (1, .ref x1)]) hx hb dX8_act_31 hl (k := 2) rfl rfl (by decide) rfl (fun ls hl => ?_)
        refine lv_goto (tgt := 11) hx hb dX8_act_34 (by decide) ?_
        obtain rfl := Option.some.inj hf
        exact ih x1 (x2 + (1 : Int32)) f_actCount (va_up c_acts (x2 - (1 : Int32)).toNatClampNeg (c_acts x2.toNatClampNeg)) x h _ _ _ (lv_sub hl [1, 2, 0] rfl) hP hD hS K37
  have J43 : ∀ (f_actCount : Int32) (c_acts : Nat → Option Nat), zf_X8_act_43 f_actCount f_grid c_acts = some out → ∀ (H : Heap) (locs : List Loc) (ls : Array Slot), lv_has ls 3 [(0, .ref a_this), (1, .ref x1)] → va_P D vwCl ([(a_this, .inr (8, [.ref a_text, .ref a_lattice, .ref a_acts, .ref a_order, .ref a_written, .ref a_withOpen, .ref a_kept, .ref a_flow, .ref a_side, .ref a_deciders, .ref a_trial, .int f_writtenLength, .int f_actCount, .ref f_grid, va_rf f_sideOf, .int f_sidePipe])), (a_acts, .inl (y.2.2.2, 16, .inr (.inr (.inr (.inr c_acts)))))] ++ zpl LG G) H → va_D A ([(a_this, .inr (8, [.ref a_text, .ref a_lattice, .ref a_acts, .ref a_order, .ref a_written, .ref a_withOpen, .ref a_kept, .ref a_flow, .ref a_side, .ref a_deciders, .ref a_trial, .int f_writtenLength, .int f_actCount, .ref f_grid, va_rf f_sideOf, .int f_sidePipe])), (a_acts, .inl (y.2.2.2, 16, .inr (.inr (.inr (.inr c_acts)))))] ++ zpl LG G) → va_S A s.heap H locs → W p l e rm_X8_act s m args below meth c H locs 0 0 Q (F0 m 43 ls []) := by
    intro f_actCount c_acts hf H locs ls hl hP hD hS
    unfold zf_X8_act_43 at hf
    refine lv_aload_n hx hb dX8_act_43 rfl (lv_at hl 0 rfl) ?_
    refine zget X hP 0 rfl rfl inF8 2 (by decide) q_272 rfl dX8_act_44 ?_
    refine lv_aload_n hx hb dX8_act_47 rfl (lv_at hl 0 rfl) ?_
    refine zget X hP 0 rfl rfl inF8 12 (by decide) q_282 rfl dX8_act_48 ?_
    refine lv_aload_n hx hb dX8_act_51 rfl (lv_at hl 0 rfl) ?_
    refine zget X hP 0 rfl rfl inF8 13 (by decide) q_283 rfl dX8_act_52 ?_
    obtain ⟨g55, hf⟩ := zg hf
    refine zaast (o := some f_grid) X hP hD hS 1 rfl g55 (fun g h => by cases h; exact hg) dX8_act_55 (fun H locs hP hD hS => ?_)
    have hP : va_P D vwCl ([(a_this, .inr (8, [.ref a_text, .ref a_lattice, .ref a_acts, .ref a_order, .ref a_written, .ref a_withOpen, .ref a_kept, .ref a_flow, .ref a_side, .ref a_deciders, .ref a_trial, .int f_writtenLength, .int f_actCount, .ref f_grid, va_rf f_sideOf, .int f_sidePipe])), (a_acts, .inl (y.2.2.2, 16, .inr (.inr (.inr (.inr (va_up c_acts f_actCount.toNatClampNeg (some f_grid)))))))] ++ zpl LG G) H := hP
    have hD : va_D A ([(a_this, .inr (8, [.ref a_text, .ref a_lattice, .ref a_acts, .ref a_order, .ref a_written, .ref a_withOpen, .ref a_kept, .ref a_flow, .ref a_side, .ref a_deciders, .ref a_trial, .int f_writtenLength, .int f_actCount, .ref f_grid, va_rf f_sideOf, .int f_sidePipe])), (a_acts, .inl (y.2.2.2, 16, .inr (.inr (.inr (.inr (va_up c_acts f_actCount.toNatClampNeg (some f_grid)))))))] ++ zpl LG G) := hD
    refine lv_aload_n hx hb dX8_act_56 rfl (lv_at hl 0 rfl) ?_
    refine lv_dup hx hb dX8_act_57 rfl ?_
    refine zget X hP 0 rfl rfl inF8 12 (by decide) q_282 rfl dX8_act_58 ?_
    refine lv_iconst (v := 1) hx hb dX8_act_61 (by decide) ?_
    refine lv_iadd hx hb dX8_act_62 ?_
    refine zput (ty := .int) X hP hD hS 0 rfl rfl inF8 tyX8_ok nmX8 12 (by decide) q_282 rfl rfl rfl rfl (Nat.le_of_ble_eq_true rfl) dX8_act_63 (fun H locs hP hD hS => ?_)
    have hP : va_P D vwCl ([(a_this, .inr (8, [.ref a_text, .ref a_lattice, .ref a_acts, .ref a_order, .ref a_written, .ref a_withOpen, .ref a_kept, .ref a_flow, .ref a_side, .ref a_deciders, .ref a_trial, .int f_writtenLength, .int (f_actCount + (1 : Int32)), .ref f_grid, va_rf f_sideOf, .int f_sidePipe])), (a_acts, .inl (y.2.2.2, 16, .inr (.inr (.inr (.inr (va_up c_acts f_actCount.toNatClampNeg (some f_grid)))))))] ++ zpl LG G) H := hP
    have hD : va_D A ([(a_this, .inr (8, [.ref a_text, .ref a_lattice, .ref a_acts, .ref a_order, .ref a_written, .ref a_withOpen, .ref a_kept, .ref a_flow, .ref a_side, .ref a_deciders, .ref a_trial, .int f_writtenLength, .int (f_actCount + (1 : Int32)), .ref f_grid, va_rf f_sideOf, .int f_sidePipe])), (a_acts, .inl (y.2.2.2, 16, .inr (.inr (.inr (.inr (va_up c_acts f_actCount.toNatClampNeg (some f_grid)))))))] ++ zpl LG G) := hD
    refine lv_aload_n hx hb dX8_act_66 rfl (lv_at hl 0 rfl) ?_
    refine lv_aload_n hx hb dX8_act_67 rfl (lv_at hl 1 rfl) ?_
    refine zput (ty := (.object "WaterGrid$Grid")) X hP hD hS 0 rfl rfl inF8 tyX8_ok nmX8 13 (by decide) q_283 rfl rfl rfl rfl (Nat.le_of_ble_eq_true rfl) dX8_act_68 (fun H locs hP hD hS => ?_)
    have hP : va_P D vwCl ([(a_this, .inr (8, [.ref a_text, .ref a_lattice, .ref a_acts, .ref a_order, .ref a_written, .ref a_withOpen, .ref a_kept, .ref a_flow, .ref a_side, .ref a_deciders, .ref a_trial, .int f_writtenLength, .int (f_actCount + (1 : Int32)), .ref x1, va_rf f_sideOf, .int f_sidePipe])), (a_acts, .inl (y.2.2.2, 16, .inr (.inr (.inr (.inr (va_up c_acts f_actCount.toNatClampNeg (some f_grid)))))))] ++ zpl LG G) H := hP
    have hD : va_D A ([(a_this, .inr (8, [.ref a_text, .ref a_lattice, .ref a_acts, .ref a_order, .ref a_written, .ref a_withOpen, .ref a_kept, .ref a_flow, .ref a_side, .ref a_deciders, .ref a_trial, .int f_writtenLength, .int (f_actCount + (1 : Int32)), .ref x1, va_rf f_sideOf, .int f_sidePipe])), (a_acts, .inl (y.2.2.2, 16, .inr (.inr (.inr (.inr (va_up c_acts f_actCount.toNatClampNeg (some f_grid)))))))] ++ zpl LG G) := hD
    obtain rfl := Option.some.inj hf
    exact zretv X hQ hP hD hS ⟨rfl, rfl⟩ dX8_act_71 (Nat.le_of_ble_eq_true rfl) (Nat.le_of_ble_eq_true rfl)
  unfold zf_X8_act at hf
  refine lv_aload_n hx hb dX8_act_0 rfl (lv_at hl 0 rfl) ?_
  refine zget X hP 0 rfl rfl inF8 12 (by decide) q_282 rfl dX8_act_1 ?_
  refine lv_bipush (v := 16) hx hb dX8_act_4 (by decide) ?_
  refine lv_icmp_lt (tgt := 43) hx hb dX8_act_6 (by decide) (fun c6 => ?_) (fun c6 => ?_)
  · replace hf := zt c6 hf
    exact J43 f_actCount c_acts hf _ _ _ hl hP hD hS
  · replace hf := ze c6 hf
    refine lv_iconst (v := 1) hx hb dX8_act_9 (by decide) ?_
    refine lv_istore_n (lv' := [(2, .int (1 : Int32)), (0, .ref a_this), (1, .ref x1)]) hx hb dX8_act_10 rfl hl (by decide) rfl (fun ls hl => ?_)
    obtain ⟨o11, ho11, hf⟩ := zb hf
    refine L11 zfu x1 (1 : Int32) f_actCount c_acts o11 ho11 _ _ _ (lv_sub hl [1, 2, 0] rfl) hP hD hS (fun H locs ls hl hP hD hS => ?_)
    refine lv_aload_n hx hb dX8_act_37 rfl (lv_at hl 0 rfl) ?_
    refine lv_bipush (v := 15) hx hb dX8_act_38 (by decide) ?_
    refine zput (ty := .int) X hP hD hS 0 rfl rfl inF8 tyX8_ok nmX8 12 (by decide) q_282 rfl rfl rfl rfl (Nat.le_of_ble_eq_true rfl) dX8_act_40 (fun H locs hP hD hS => ?_)
    have hP : va_P D vwCl ([(a_this, .inr (8, [.ref a_text, .ref a_lattice, .ref a_acts, .ref a_order, .ref a_written, .ref a_withOpen, .ref a_kept, .ref a_flow, .ref a_side, .ref a_deciders, .ref a_trial, .int f_writtenLength, .int (15 : Int32), .ref f_grid, va_rf f_sideOf, .int f_sidePipe])), (a_acts, .inl (y.2.2.2, 16, .inr (.inr (.inr (.inr o11)))))] ++ zpl LG G) H := hP
    have hD : va_D A ([(a_this, .inr (8, [.ref a_text, .ref a_lattice, .ref a_acts, .ref a_order, .ref a_written, .ref a_withOpen, .ref a_kept, .ref a_flow, .ref a_side, .ref a_deciders, .ref a_trial, .int f_writtenLength, .int (15 : Int32), .ref f_grid, va_rf f_sideOf, .int f_sidePipe])), (a_acts, .inl (y.2.2.2, 16, .inr (.inr (.inr (.inr o11)))))] ++ zpl LG G) := hD
    exact J43 (15 : Int32) o11 hf _ _ _ hl hP hD hS

theorem kf_RX8_132 : zCB RX8 132 yX8_demandHow cX8_demandHow 1 (none : Option Jvm.ClassFile.FieldType) 1 ∧ Cond.static yX8_demandHow ∈ wAll := ⟨⟨q_885, q_1, q_883, by decide +kernel⟩, q_884⟩
theorem kf_RX8_135 : zCB RX8 135 yX2_toldOf cX2_toldOf 2 (some .int) 1 ∧ Cond.instanceMethod yX2_toldOf ∈ wAll ∧ Cond.selects yX2_toldOf.cls yX2_toldOf yX2_toldOf ∈ wAll := ⟨⟨q_890, q_8, q_887, by decide +kernel⟩, q_888, q_889⟩
theorem kf_RX8_138 : zCB RX8 138 yX2_withPipe cX2_withPipe 9 (some (.object "WaterGrid$Grid")) 2 ∧ Cond.instanceMethod yX2_withPipe ∈ wAll ∧ Cond.selects yX2_withPipe.cls yX2_withPipe yX2_withPipe ∈ wAll := ⟨⟨q_894, q_8, q_891, by decide +kernel⟩, q_892, q_893⟩
theorem kf_RX8_142 : zCB RX8 142 yX8_demandFewFree cX8_demandFewFree 1 (some (.object "WaterGrid$Grid")) 1 ∧ Cond.static yX8_demandFewFree ∈ wAll := ⟨⟨q_899, q_1, q_897, by decide +kernel⟩, q_898⟩
theorem kf_RX8_146 : zCB RX8 146 yX8_act cX8_act 3 (none : Option Jvm.ClassFile.FieldType) 1 ∧ Cond.instanceMethod yX8_act ∈ wAll ∧ Cond.selects yX8_act.cls yX8_act yX8_act ∈ wAll := ⟨⟨q_919, q_1, q_916, by decide +kernel⟩, q_918, qp_33⟩
abbrev rm_X8_tell : Room := { frames := 7, cells := 4, slots := 26, locals := 113 }
def zf_X8_tell (f_actCount : Int32) (f_grid : Nat) (c_acts : Nat → Option Nat) (x1 : Int32) (x2 : Int32) (x3 : Int32) (x4 : Int32) (LG : List Nat) (g_grid : zGD) : Option ((Int32 × Int32 × (Nat → Option Nat) × zGD) ⊕ (Nat × Int32 × (Nat → Option Nat))) :=
  (zf_X8_demandPipe x1 x2 x3 g_grid).bind fun o4 => Sum.elim (fun o4 =>
  (zf_X8_demandHow x4).bind fun o11 => Sum.elim (fun o11 =>
  (zf_X2_toldOf (g_grid.2.2.1) (g_grid.2.2.2.1) o4).bind fun o20 =>
  (zf_X2_withPipe (g_grid.1) (g_grid.2.1) (g_grid.2.2.1) (g_grid.2.2.2.1) (g_grid.2.2.2.2.1) o4 x4).bind fun o34 =>
  (zf_X8_demandFewFree o34.2.2.2.2.2.2.2).bind fun o37 => Sum.elim (fun o37 =>
  (zf_X8_act f_actCount f_grid c_acts LG).bind fun o40 =>
  some (.inl (o20, o40.1, o40.2, o34))) (fun x37_ => some (.inr (x37_, f_actCount, c_acts))) o37) (fun x11_ => some (.inr (x11_, f_actCount, c_acts))) o11) (fun x4_ => some (.inr (x4_, f_actCount, c_acts))) o4
set_option maxHeartbeats 4000000 in
set_option maxRecDepth 100000 in
theorem zc_X8_tell (l : Launch) (D : va_G) (y : zY) (a_this a_text a_lattice a_acts a_order a_written a_withOpen a_kept a_flow a_side a_deciders a_trial : Nat) (f_writtenLength : Int32) (f_actCount : Int32) (f_grid : Nat) (f_sideOf : Option Nat) (f_sidePipe : Int32) (c_acts : Nat → Option Nat) (x1 : Int32) (x2 : Int32) (x3 : Int32) (x4 : Int32) (LG : List Nat) (G : Nat → zGD) (hst : l.stackTraces = false) (hg : f_grid ∈ LG) (out : (Int32 × Int32 × (Nat → Option Nat) × zGD) ⊕ (Nat × Int32 × (Nat → Option Nat))) (hf : zf_X8_tell f_actCount f_grid c_acts x1 x2 x3 x4 LG (G f_grid) = some out) : zCx l D y yX8_tell cX8_tell 7 (some .int) rm_X8_tell [.ref a_this, .int x1, .int x2, .int x3, .int x4] ([(a_this, .inr (8, [.ref a_text, .ref a_lattice, .ref a_acts, .ref a_order, .ref a_written, .ref a_withOpen, .ref a_kept, .ref a_flow, .ref a_side, .ref a_deciders, .ref a_trial, .int f_writtenLength, .int f_actCount, .ref f_grid, va_rf f_sideOf, .int f_sidePipe])), (a_acts, .inl (y.2.2.2, 16, .inr (.inr (.inr (.inr c_acts)))))] ++ zpl LG G) (fun v w => ∃ o, out = .inl o ∧ ∃ q, q ∉ LG ∧ v = (some (.int o.1)) ∧ w = ([(a_this, .inr (8, [.ref a_text, .ref a_lattice, .ref a_acts, .ref a_order, .ref a_written, .ref a_withOpen, .ref a_kept, .ref a_flow, .ref a_side, .ref a_deciders, .ref a_trial, .int f_writtenLength, .int o.2.1, .ref q, va_rf f_sideOf, .int f_sidePipe])), (a_acts, .inl (y.2.2.2, 16, .inr (.inr (.inr (.inr o.2.2.1)))))] ++ zpl (LG ++ [q]) (va_up G q o.2.2.2))) (fun E w => ∃ x, out = .inr x ∧ E = zex x.1 ∧ w = ([(a_this, .inr (8, [.ref a_text, .ref a_lattice, .ref a_acts, .ref a_order, .ref a_written, .ref a_withOpen, .ref a_kept, .ref a_flow, .ref a_side, .ref a_deciders, .ref a_trial, .int f_writtenLength, .int x.2.1, .ref f_grid, va_rf f_sideOf, .int f_sidePipe])), (a_acts, .inl (y.2.2.2, 16, .inr (.inr (.inr (.inr x.2.2)))))] ++ zpl LG G)) := by
  refine zmkx (by decide) (Nat.le_of_ble_eq_true rfl) ?_
  intro p e s m args below meth c A Q ls X hQ hct hP hD hS hl
  have X : zX p s m args meth c D y A RX8 cX8_tell 7 (some .int) := X
  obtain ⟨hx, hb, hr, hml, hown, hts, hK, hA, hlocks⟩ := id X
  have hl : lv_has ls 7 [(0, .ref a_this), (1, .int x1), (2, .int x2), (3, .int x3), (4, .int x4)] := hl
  unfold zf_X8_tell at hf
  refine lv_aload_n hx hb dX8_tell_0 rfl (lv_at hl 0 rfl) ?_
  refine lv_iload_n hx hb dX8_tell_1 rfl (lv_at hl 1 rfl) ?_
  refine lv_iload_n hx hb dX8_tell_2 rfl (lv_at hl 2 rfl) ?_
  refine lv_iload_n hx hb dX8_tell_3 rfl (lv_at hl 3 rfl) ?_
  obtain ⟨o4, ho4, hf⟩ := zb hf
  refine zxVr (Xs := [(a_this, .inr (8, [.ref a_text, .ref a_lattice, .ref a_acts, .ref a_order, .ref a_written, .ref a_withOpen, .ref a_kept, .ref a_flow, .ref a_side, .ref a_deciders, .ref a_trial, .int f_writtenLength, .int f_actCount, .ref f_grid, va_rf f_sideOf, .int f_sidePipe])), (a_acts, .inl (y.2.2.2, 16, .inr (.inr (.inr (.inr c_acts)))))]) (pl := zpl LG G) (cx := [(a_this, .inr (8, [.ref a_text, .ref a_lattice, .ref a_acts, .ref a_order, .ref a_written, .ref a_withOpen, .ref a_kept, .ref a_flow, .ref a_side, .ref a_deciders, .ref a_trial, .int f_writtenLength, .int f_actCount, .ref f_grid, va_rf f_sideOf, .int f_sidePipe]))]) (wr := [(a_acts, .inl (y.2.2.2, 16, .inr (.inr (.inr (.inr c_acts)))))]) (ro := zpl LG G) (rest := []) X hQ hct (zc_X8_demandPipe l D y a_this a_text a_lattice a_acts a_order a_written a_withOpen a_kept a_flow a_side a_deciders a_trial f_writtenLength f_actCount f_grid f_sideOf f_sidePipe x1 x2 x3 LG G hst hg o4 ho4) kf_RX8_116 ⟨(Nat.le_of_ble_eq_true rfl), (Nat.le_of_ble_eq_true rfl)⟩ hP hD hS [0] [1] rfl rfl rfl (fun _ h => h) (znp hD) rfl rfl (zme (q0 := 0) rfl) rfl rfl hl.1 (Nat.le_of_ble_eq_true rfl) dX8_tell_4 ⟨(Nat.le_of_ble_eq_true rfl), (Nat.le_of_ble_eq_true rfl)⟩ (Nat.le_of_ble_eq_true rfl) (Nat.le_of_ble_eq_true rfl) [1, 0] rfl (fun E w hp => ?_) (fun v w hp => ?_)
  · obtain ⟨x4_, rfl, rfl, rfl⟩ := hp
    replace hf := zsr hf
    obtain rfl := Option.some.inj hf
    exact ⟨[(a_this, .inr (8, [.ref a_text, .ref a_lattice, .ref a_acts, .ref a_order, .ref a_written, .ref a_withOpen, .ref a_kept, .ref a_flow, .ref a_side, .ref a_deciders, .ref a_trial, .int f_writtenLength, .int f_actCount, .ref f_grid, va_rf f_sideOf, .int f_sidePipe]))], [(a_this, .inr (8, [.ref a_text, .ref a_lattice, .ref a_acts, .ref a_order, .ref a_written, .ref a_withOpen, .ref a_kept, .ref a_flow, .ref a_side, .ref a_deciders, .ref a_trial, .int f_writtenLength, .int f_actCount, .ref f_grid, va_rf f_sideOf, .int f_sidePipe])), (a_acts, .inl (y.2.2.2, 16, .inr (.inr (.inr (.inr c_acts)))))], rfl, ⟨_, rfl, rfl, rfl⟩, rfl⟩
  obtain ⟨o4, rfl, rfl, rfl⟩ := hp
  replace hf := zsl hf
  refine ⟨[(a_this, .inr (8, [.ref a_text, .ref a_lattice, .ref a_acts, .ref a_order, .ref a_written, .ref a_withOpen, .ref a_kept, .ref a_flow, .ref a_side, .ref a_deciders, .ref a_trial, .int f_writtenLength, .int f_actCount, .ref f_grid, va_rf f_sideOf, .int f_sidePipe]))], rfl, fun H locs hP hD hS => ?_⟩
  have hP : va_P D vwCl ([(a_acts, .inl (y.2.2.2, 16, .inr (.inr (.inr (.inr c_acts))))), (a_this, .inr (8, [.ref a_text, .ref a_lattice, .ref a_acts, .ref a_order, .ref a_written, .ref a_withOpen, .ref a_kept, .ref a_flow, .ref a_side, .ref a_deciders, .ref a_trial, .int f_writtenLength, .int f_actCount, .ref f_grid, va_rf f_sideOf, .int f_sidePipe]))] ++ zpl LG G) H := hP
  have hD : va_D A ([(a_acts, .inl (y.2.2.2, 16, .inr (.inr (.inr (.inr c_acts))))), (a_this, .inr (8, [.ref a_text, .ref a_lattice, .ref a_acts, .ref a_order, .ref a_written, .ref a_withOpen, .ref a_kept, .ref a_flow, .ref a_side, .ref a_deciders, .ref a_trial, .int f_writtenLength, .int f_actCount, .ref f_grid, va_rf f_sideOf, .int f_sidePipe]))] ++ zpl LG G) := hD
  show W p l e rm_X8_tell s m args below meth c H locs _ _ Q (F0 m 7 ls [.int o4])
  refine lv_istore (lv' := [(5, .int o4), (0, .ref a_this), (1, .int x1), (2, .int x2), (3, .int x3), (4, .int x4)]) hx hb dX8_tell_7 hl (by decide) rfl (fun ls hl => ?_)
  refine lv_iload hx hb dX8_tell_9 (lv_at hl 5 rfl) ?_
  obtain ⟨o11, ho11, hf⟩ := zb hf
  refine zxSr (Xs := [(a_acts, .inl (y.2.2.2, 16, .inr (.inr (.inr (.inr c_acts))))), (a_this, .inr (8, [.ref a_text, .ref a_lattice, .ref a_acts, .ref a_order, .ref a_written, .ref a_withOpen, .ref a_kept, .ref a_flow, .ref a_side, .ref a_deciders, .ref a_trial, .int f_writtenLength, .int f_actCount, .ref f_grid, va_rf f_sideOf, .int f_sidePipe]))]) (pl := zpl LG G) (cx := []) (wr := [(a_acts, .inl (y.2.2.2, 16, .inr (.inr (.inr (.inr c_acts))))), (a_this, .inr (8, [.ref a_text, .ref a_lattice, .ref a_acts, .ref a_order, .ref a_written, .ref a_withOpen, .ref a_kept, .ref a_flow, .ref a_side, .ref a_deciders, .ref a_trial, .int f_writtenLength, .int f_actCount, .ref f_grid, va_rf f_sideOf, .int f_sidePipe]))]) (ro := []) (rest := []) X hQ hct (zc_X8_demandHow l D y x4 hst o11 ho11) kf_RX8_132 ⟨(Nat.le_of_ble_eq_true rfl), (Nat.le_of_ble_eq_true rfl)⟩ hP hD hS [] [0, 1] rfl rfl rfl (fun _ h => absurd h List.not_mem_nil) zn0 rfl rfl rfl hl.1 (Nat.le_of_ble_eq_true rfl) dX8_tell_11 ⟨(Nat.le_of_ble_eq_true rfl), (Nat.le_of_ble_eq_true rfl)⟩ (Nat.le_of_ble_eq_true rfl) (Nat.le_of_ble_eq_true rfl) [1, 0] rfl (fun E w hp => ?_) (fun v w hp => ?_)
  · obtain ⟨x11_, rfl, rfl, rfl⟩ := hp
    replace hf := zsr hf
    obtain rfl := Option.some.inj hf
    exact ⟨[], [(a_this, .inr (8, [.ref a_text, .ref a_lattice, .ref a_acts, .ref a_order, .ref a_written, .ref a_withOpen, .ref a_kept, .ref a_flow, .ref a_side, .ref a_deciders, .ref a_trial, .int f_writtenLength, .int f_actCount, .ref f_grid, va_rf f_sideOf, .int f_sidePipe])), (a_acts, .inl (y.2.2.2, 16, .inr (.inr (.inr (.inr c_acts)))))], rfl, ⟨_, rfl, rfl, rfl⟩, rfl⟩
  obtain ⟨o11, rfl, rfl, rfl⟩ := hp
  replace hf := zsl hf
  refine ⟨[], rfl, fun H locs hP hD hS => ?_⟩
  have hP : va_P D vwCl ([(a_acts, .inl (y.2.2.2, 16, .inr (.inr (.inr (.inr c_acts))))), (a_this, .inr (8, [.ref a_text, .ref a_lattice, .ref a_acts, .ref a_order, .ref a_written, .ref a_withOpen, .ref a_kept, .ref a_flow, .ref a_side, .ref a_deciders, .ref a_trial, .int f_writtenLength, .int f_actCount, .ref f_grid, va_rf f_sideOf, .int f_sidePipe]))] ++ zpl LG G) H := hP
  have hD : va_D A ([(a_acts, .inl (y.2.2.2, 16, .inr (.inr (.inr (.inr c_acts))))), (a_this, .inr (8, [.ref a_text, .ref a_lattice, .ref a_acts, .ref a_order, .ref a_written, .ref a_withOpen, .ref a_kept, .ref a_flow, .ref a_side, .ref a_deciders, .ref a_trial, .int f_writtenLength, .int f_actCount, .ref f_grid, va_rf f_sideOf, .int f_sidePipe]))] ++ zpl LG G) := hD
  show W p l e rm_X8_tell s m args below meth c H locs _ _ Q (F0 m 14 ls [])
  refine lv_aload_n hx hb dX8_tell_14 rfl (lv_at hl 1 rfl) ?_
  refine zget X hP 1 rfl rfl inF8 13 (by decide) q_283 rfl dX8_tell_15 ?_
  refine lv_iload hx hb dX8_tell_18 (lv_at hl 0 rfl) ?_
  obtain ⟨o20, ho20, hf⟩ := zb hf
  refine zVr1 (Xs := [(a_acts, .inl (y.2.2.2, 16, .inr (.inr (.inr (.inr c_acts))))), (a_this, .inr (8, [.ref a_text, .ref a_lattice, .ref a_acts, .ref a_order, .ref a_written, .ref a_withOpen, .ref a_kept, .ref a_flow, .ref a_side, .ref a_deciders, .ref a_trial, .int f_writtenLength, .int f_actCount, .ref f_grid, va_rf f_sideOf, .int f_sidePipe]))]) (pl := zpl LG G) (cx := []) (wr := [(a_acts, .inl (y.2.2.2, 16, .inr (.inr (.inr (.inr c_acts))))), (a_this, .inr (8, [.ref a_text, .ref a_lattice, .ref a_acts, .ref a_order, .ref a_written, .ref a_withOpen, .ref a_kept, .ref a_flow, .ref a_side, .ref a_deciders, .ref a_trial, .int f_writtenLength, .int f_actCount, .ref f_grid, va_rf f_sideOf, .int f_sidePipe]))]) (ro := [(f_grid, zgE (G f_grid))]) (w1 := []) (rest := []) X (zc_X2_toldOf l D y f_grid ((G f_grid).1) ((G f_grid).2.1) ((G f_grid).2.2.1) ((G f_grid).2.2.2.1) ((G f_grid).2.2.2.2.1) ((G f_grid).2.2.2.2.2.1) ((G f_grid).2.2.2.2.2.2.1) ((G f_grid).2.2.2.2.2.2.2) o4 o20 ho20) kf_RX8_135 ⟨(Nat.le_of_ble_eq_true rfl), (Nat.le_of_ble_eq_true rfl)⟩ hP hD hS [] [0, 1] rfl rfl rfl (zro1 hg) zn1 rfl rfl rfl (zmg hg) rfl rfl hl.1 (Nat.le_of_ble_eq_true rfl) dX8_tell_20 ⟨(Nat.le_of_ble_eq_true rfl), (Nat.le_of_ble_eq_true rfl)⟩ (fun H locs hP hD hS => ?_)
  have hP : va_P D vwCl ([(a_acts, .inl (y.2.2.2, 16, .inr (.inr (.inr (.inr c_acts))))), (a_this, .inr (8, [.ref a_text, .ref a_lattice, .ref a_acts, .ref a_order, .ref a_written, .ref a_withOpen, .ref a_kept, .ref a_flow, .ref a_side, .ref a_deciders, .ref a_trial, .int f_writtenLength, .int f_actCount, .ref f_grid, va_rf f_sideOf, .int f_sidePipe]))] ++ zpl LG G) H := hP
  have hD : va_D A ([(a_acts, .inl (y.2.2.2, 16, .inr (.inr (.inr (.inr c_acts))))), (a_this, .inr (8, [.ref a_text, .ref a_lattice, .ref a_acts, .ref a_order, .ref a_written, .ref a_withOpen, .ref a_kept, .ref a_flow, .ref a_side, .ref a_deciders, .ref a_trial, .int f_writtenLength, .int f_actCount, .ref f_grid, va_rf f_sideOf, .int f_sidePipe]))] ++ zpl LG G) := hD
  refine lv_istore (lv' := [(6, .int o20), (5, .int o4), (0, .ref a_this), (1, .int x1), (2, .int x2), (3, .int x3), (4, .int x4)]) hx hb dX8_tell_23 hl (by decide) rfl (fun ls hl => ?_)
  refine lv_aload_n hx hb dX8_tell_25 rfl (lv_at hl 2 rfl) ?_
  refine lv_aload_n hx hb dX8_tell_26 rfl (lv_at hl 2 rfl) ?_
  refine zget X hP 1 rfl rfl inF8 13 (by decide) q_283 rfl dX8_tell_27 ?_
  refine lv_iload hx hb dX8_tell_30 (lv_at hl 1 rfl) ?_
  refine lv_iload hx hb dX8_tell_32 (lv_at hl 6 rfl) ?_
  obtain ⟨o34, ho34, hf⟩ := zb hf
  refine zVrg (Xs := [(a_acts, .inl (y.2.2.2, 16, .inr (.inr (.inr (.inr c_acts))))), (a_this, .inr (8, [.ref a_text, .ref a_lattice, .ref a_acts, .ref a_order, .ref a_written, .ref a_withOpen, .ref a_kept, .ref a_flow, .ref a_side, .ref a_deciders, .ref a_trial, .int f_writtenLength, .int f_actCount, .ref f_grid, va_rf f_sideOf, .int f_sidePipe]))]) (pl := zpl LG G) (cx := []) (wr := [(a_acts, .inl (y.2.2.2, 16, .inr (.inr (.inr (.inr c_acts))))), (a_this, .inr (8, [.ref a_text, .ref a_lattice, .ref a_acts, .ref a_order, .ref a_written, .ref a_withOpen, .ref a_kept, .ref a_flow, .ref a_side, .ref a_deciders, .ref a_trial, .int f_writtenLength, .int f_actCount, .ref f_grid, va_rf f_sideOf, .int f_sidePipe]))]) (ro := [(f_grid, zgE (G f_grid))]) (rest := [.ref a_this]) X (zc_X2_withPipe l D y f_grid ((G f_grid).1) ((G f_grid).2.1) ((G f_grid).2.2.1) ((G f_grid).2.2.2.1) ((G f_grid).2.2.2.2.1) ((G f_grid).2.2.2.2.2.1) ((G f_grid).2.2.2.2.2.2.1) ((G f_grid).2.2.2.2.2.2.2) o4 x4 o34 ho34) kf_RX8_138 ⟨(Nat.le_of_ble_eq_true rfl), (Nat.le_of_ble_eq_true rfl)⟩ hP hD hS [] [0, 1] rfl rfl rfl (zro1 hg) zn1 rfl rfl (zmg hg) rfl rfl hl.1 (Nat.le_of_ble_eq_true rfl) dX8_tell_34 ⟨(Nat.le_of_ble_eq_true rfl), (Nat.le_of_ble_eq_true rfl)⟩ (fun v w hp => ?_)
  obtain ⟨a_nw34, rfl, rfl⟩ := hp
  refine ⟨[(a_nw34, zgE o34)], rfl, fun H locs hP hD hS => ?_⟩
  have hP : va_P D vwCl ([(a_acts, .inl (y.2.2.2, 16, .inr (.inr (.inr (.inr c_acts))))), (a_this, .inr (8, [.ref a_text, .ref a_lattice, .ref a_acts, .ref a_order, .ref a_written, .ref a_withOpen, .ref a_kept, .ref a_flow, .ref a_side, .ref a_deciders, .ref a_trial, .int f_writtenLength, .int f_actCount, .ref f_grid, va_rf f_sideOf, .int f_sidePipe])), (a_nw34, .inr (2, [.int o34.1, .int o34.2.1, .long o34.2.2.1, .long o34.2.2.2.1, .long o34.2.2.2.2.1, .long o34.2.2.2.2.2.1, .long o34.2.2.2.2.2.2.1, .long o34.2.2.2.2.2.2.2]))] ++ zpl LG G) H := hP
  have hD : va_D A ([(a_acts, .inl (y.2.2.2, 16, .inr (.inr (.inr (.inr c_acts))))), (a_this, .inr (8, [.ref a_text, .ref a_lattice, .ref a_acts, .ref a_order, .ref a_written, .ref a_withOpen, .ref a_kept, .ref a_flow, .ref a_side, .ref a_deciders, .ref a_trial, .int f_writtenLength, .int f_actCount, .ref f_grid, va_rf f_sideOf, .int f_sidePipe])), (a_nw34, .inr (2, [.int o34.1, .int o34.2.1, .long o34.2.2.1, .long o34.2.2.2.1, .long o34.2.2.2.2.1, .long o34.2.2.2.2.2.1, .long o34.2.2.2.2.2.2.1, .long o34.2.2.2.2.2.2.2]))] ++ zpl LG G) := hD
  show W p l e rm_X8_tell s m args below meth c H locs _ _ Q (F0 m 37 ls [.ref a_nw34, .ref a_this])
  obtain ⟨o37, ho37, hf⟩ := zb hf
  refine zxSr (Xs := [(a_acts, .inl (y.2.2.2, 16, .inr (.inr (.inr (.inr c_acts))))), (a_this, .inr (8, [.ref a_text, .ref a_lattice, .ref a_acts, .ref a_order, .ref a_written, .ref a_withOpen, .ref a_kept, .ref a_flow, .ref a_side, .ref a_deciders, .ref a_trial, .int f_writtenLength, .int f_actCount, .ref f_grid, va_rf f_sideOf, .int f_sidePipe])), (a_nw34, .inr (2, [.int o34.1, .int o34.2.1, .long o34.2.2.1, .long o34.2.2.2.1, .long o34.2.2.2.2.1, .long o34.2.2.2.2.2.1, .long o34.2.2.2.2.2.2.1, .long o34.2.2.2.2.2.2.2]))]) (pl := zpl LG G) (cx := [(a_nw34, .inr (2, [.int o34.1, .int o34.2.1, .long o34.2.2.1, .long o34.2.2.2.1, .long o34.2.2.2.2.1, .long o34.2.2.2.2.2.1, .long o34.2.2.2.2.2.2.1, .long o34.2.2.2.2.2.2.2]))]) (wr := [(a_acts, .inl (y.2.2.2, 16, .inr (.inr (.inr (.inr c_acts))))), (a_this, .inr (8, [.ref a_text, .ref a_lattice, .ref a_acts, .ref a_order, .ref a_written, .ref a_withOpen, .ref a_kept, .ref a_flow, .ref a_side, .ref a_deciders, .ref a_trial, .int f_writtenLength, .int f_actCount, .ref f_grid, va_rf f_sideOf, .int f_sidePipe]))]) (ro := []) (rest := [.ref a_this]) X hQ hct (zc_X8_demandFewFree l D y a_nw34 o34.1 o34.2.1 o34.2.2.1 o34.2.2.2.1 o34.2.2.2.2.1 o34.2.2.2.2.2.1 o34.2.2.2.2.2.2.1 o34.2.2.2.2.2.2.2 hst o37 ho37) kf_RX8_142 ⟨(Nat.le_of_ble_eq_true rfl), (Nat.le_of_ble_eq_true rfl)⟩ hP hD hS [2] [0, 1] rfl rfl rfl (fun _ h => absurd h List.not_mem_nil) zn0 rfl rfl rfl hl.1 (Nat.le_of_ble_eq_true rfl) dX8_tell_37 ⟨(Nat.le_of_ble_eq_true rfl), (Nat.le_of_ble_eq_true rfl)⟩ (Nat.le_of_ble_eq_true rfl) (Nat.le_of_ble_eq_true rfl) [1, 0] rfl (fun E w hp => ?_) (fun v w hp => ?_)
  · obtain ⟨x37_, rfl, rfl, rfl⟩ := hp
    replace hf := zsr hf
    obtain rfl := Option.some.inj hf
    exact ⟨[(a_nw34, .inr (2, [.int o34.1, .int o34.2.1, .long o34.2.2.1, .long o34.2.2.2.1, .long o34.2.2.2.2.1, .long o34.2.2.2.2.2.1, .long o34.2.2.2.2.2.2.1, .long o34.2.2.2.2.2.2.2]))], [(a_this, .inr (8, [.ref a_text, .ref a_lattice, .ref a_acts, .ref a_order, .ref a_written, .ref a_withOpen, .ref a_kept, .ref a_flow, .ref a_side, .ref a_deciders, .ref a_trial, .int f_writtenLength, .int f_actCount, .ref f_grid, va_rf f_sideOf, .int f_sidePipe])), (a_acts, .inl (y.2.2.2, 16, .inr (.inr (.inr (.inr c_acts)))))], rfl, ⟨_, rfl, rfl, rfl⟩, rfl⟩
  obtain ⟨o37, rfl, rfl, rfl⟩ := hp
  replace hf := zsl hf
  refine ⟨[(a_nw34, .inr (2, [.int o34.1, .int o34.2.1, .long o34.2.2.1, .long o34.2.2.2.1, .long o34.2.2.2.2.1, .long o34.2.2.2.2.2.1, .long o34.2.2.2.2.2.2.1, .long o34.2.2.2.2.2.2.2]))], rfl, fun H locs hP hD hS => ?_⟩
  have hP : va_P D vwCl ([(a_acts, .inl (y.2.2.2, 16, .inr (.inr (.inr (.inr c_acts))))), (a_this, .inr (8, [.ref a_text, .ref a_lattice, .ref a_acts, .ref a_order, .ref a_written, .ref a_withOpen, .ref a_kept, .ref a_flow, .ref a_side, .ref a_deciders, .ref a_trial, .int f_writtenLength, .int f_actCount, .ref f_grid, va_rf f_sideOf, .int f_sidePipe])), (a_nw34, .inr (2, [.int o34.1, .int o34.2.1, .long o34.2.2.1, .long o34.2.2.2.1, .long o34.2.2.2.2.1, .long o34.2.2.2.2.2.1, .long o34.2.2.2.2.2.2.1, .long o34.2.2.2.2.2.2.2]))] ++ zpl LG G) H := hP
  have hD : va_D A ([(a_acts, .inl (y.2.2.2, 16, .inr (.inr (.inr (.inr c_acts))))), (a_this, .inr (8, [.ref a_text, .ref a_lattice, .ref a_acts, .ref a_order, .ref a_written, .ref a_withOpen, .ref a_kept, .ref a_flow, .ref a_side, .ref a_deciders, .ref a_trial, .int f_writtenLength, .int f_actCount, .ref f_grid, va_rf f_sideOf, .int f_sidePipe])), (a_nw34, .inr (2, [.int o34.1, .int o34.2.1, .long o34.2.2.1, .long o34.2.2.2.1, .long o34.2.2.2.2.1, .long o34.2.2.2.2.2.1, .long o34.2.2.2.2.2.2.1, .long o34.2.2.2.2.2.2.2]))] ++ zpl LG G) := hD
  show W p l e rm_X8_tell s m args below meth c H locs _ _ Q (F0 m 40 ls [.ref a_nw34, .ref a_this])
  obtain ⟨o40, ho40, hf⟩ := zb hf
  refine zVr0 (Xs := [(a_acts, .inl (y.2.2.2, 16, .inr (.inr (.inr (.inr c_acts))))), (a_this, .inr (8, [.ref a_text, .ref a_lattice, .ref a_acts, .ref a_order, .ref a_written, .ref a_withOpen, .ref a_kept, .ref a_flow, .ref a_side, .ref a_deciders, .ref a_trial, .int f_writtenLength, .int f_actCount, .ref f_grid, va_rf f_sideOf, .int f_sidePipe])), (a_nw34, .inr (2, [.int o34.1, .int o34.2.1, .long o34.2.2.1, .long o34.2.2.2.1, .long o34.2.2.2.2.1, .long o34.2.2.2.2.2.1, .long o34.2.2.2.2.2.2.1, .long o34.2.2.2.2.2.2.2]))]) (pl := zpl LG G) (cx := [(a_this, .inr (8, [.ref a_text, .ref a_lattice, .ref a_acts, .ref a_order, .ref a_written, .ref a_withOpen, .ref a_kept, .ref a_flow, .ref a_side, .ref a_deciders, .ref a_trial, .int f_writtenLength, .int f_actCount, .ref f_grid, va_rf f_sideOf, .int f_sidePipe])), (a_acts, .inl (y.2.2.2, 16, .inr (.inr (.inr (.inr c_acts)))))]) (wr := [(a_nw34, .inr (2, [.int o34.1, .int o34.2.1, .long o34.2.2.1, .long o34.2.2.2.1, .long o34.2.2.2.2.1, .long o34.2.2.2.2.2.1, .long o34.2.2.2.2.2.2.1, .long o34.2.2.2.2.2.2.2]))]) (ro := zpl LG G) (w1 := [(a_this, .inr (8, [.ref a_text, .ref a_lattice, .ref a_acts, .ref a_order, .ref a_written, .ref a_withOpen, .ref a_kept, .ref a_flow, .ref a_side, .ref a_deciders, .ref a_trial, .int f_writtenLength, .int o40.1, .ref a_nw34, va_rf f_sideOf, .int f_sidePipe])), (a_acts, .inl (y.2.2.2, 16, .inr (.inr (.inr (.inr o40.2)))))]) (rest := []) X (zc_X8_act l D y a_this a_text a_lattice a_acts a_order a_written a_withOpen a_kept a_flow a_side a_deciders a_trial f_writtenLength f_actCount f_grid f_sideOf f_sidePipe c_acts a_nw34 LG G hg o40 ho40) kf_RX8_146 ⟨(Nat.le_of_ble_eq_true rfl), (Nat.le_of_ble_eq_true rfl)⟩ hP hD hS [1, 0] [2] rfl rfl rfl (fun _ h => h) (znp hD) rfl rfl rfl (zme (q0 := 1) rfl) rfl rfl hl.1 (Nat.le_of_ble_eq_true rfl) dX8_tell_40 ⟨(Nat.le_of_ble_eq_true rfl), (Nat.le_of_ble_eq_true rfl)⟩ (fun H locs hP hD hS => ?_)
  have hP : va_P D vwCl ([(a_nw34, .inr (2, [.int o34.1, .int o34.2.1, .long o34.2.2.1, .long o34.2.2.2.1, .long o34.2.2.2.2.1, .long o34.2.2.2.2.2.1, .long o34.2.2.2.2.2.2.1, .long o34.2.2.2.2.2.2.2])), (a_this, .inr (8, [.ref a_text, .ref a_lattice, .ref a_acts, .ref a_order, .ref a_written, .ref a_withOpen, .ref a_kept, .ref a_flow, .ref a_side, .ref a_deciders, .ref a_trial, .int f_writtenLength, .int o40.1, .ref a_nw34, va_rf f_sideOf, .int f_sidePipe])), (a_acts, .inl (y.2.2.2, 16, .inr (.inr (.inr (.inr o40.2)))))] ++ zpl LG G) H := hP
  have hD : va_D A ([(a_nw34, .inr (2, [.int o34.1, .int o34.2.1, .long o34.2.2.1, .long o34.2.2.2.1, .long o34.2.2.2.2.1, .long o34.2.2.2.2.2.1, .long o34.2.2.2.2.2.2.1, .long o34.2.2.2.2.2.2.2])), (a_this, .inr (8, [.ref a_text, .ref a_lattice, .ref a_acts, .ref a_order, .ref a_written, .ref a_withOpen, .ref a_kept, .ref a_flow, .ref a_side, .ref a_deciders, .ref a_trial, .int f_writtenLength, .int o40.1, .ref a_nw34, va_rf f_sideOf, .int f_sidePipe])), (a_acts, .inl (y.2.2.2, 16, .inr (.inr (.inr (.inr o40.2)))))] ++ zpl LG G) := hD
  refine lv_iload hx hb dX8_tell_43 (lv_at hl 0 rfl) ?_
  obtain ⟨hq, hP, hD⟩ := zpush (X := [(a_this, .inr (8, [.ref a_text, .ref a_lattice, .ref a_acts, .ref a_order, .ref a_written, .ref a_withOpen, .ref a_kept, .ref a_flow, .ref a_side, .ref a_deciders, .ref a_trial, .int f_writtenLength, .int o40.1, .ref a_nw34, va_rf f_sideOf, .int f_sidePipe])), (a_acts, .inl (y.2.2.2, 16, .inr (.inr (.inr (.inr o40.2)))))]) (q := a_nw34) (d := o34) (hP.part [1, 2, 0] rfl) (hD.part [1, 2, 0] rfl rfl)
  obtain rfl := Option.some.inj hf
  exact zretix X hQ hP hD hS ⟨_, rfl, ⟨_, hq, rfl, rfl⟩⟩ rfl dX8_tell_45 (Nat.le_of_ble_eq_true rfl) (Nat.le_of_ble_eq_true rfl)

theorem kf_RX8_150 : zCB RX8 150 yX2_withStone cX2_withStone 5 (some (.object "WaterGrid$Grid")) 2 ∧ Cond.instanceMethod yX2_withStone ∈ wAll ∧ Cond.selects yX2_withStone.cls yX2_withStone yX2_withStone ∈ wAll := ⟨⟨q_930, q_8, q_927, by decide +kernel⟩, q_928, q_929⟩
abbrev rm_X8_put : Room := { frames := 7, cells := 3, slots := 20, locals := 112 }
def zf_X8_put (f_actCount : Int32) (f_grid : Nat) (c_acts : Nat → Option Nat) (x1 : Int32) (x2 : Int32) (x3 : Int32) (LG : List Nat) (g_grid : zGD) : Option ((Int32 × Int32 × (Nat → Option Nat) × zGD) ⊕ (Nat × Int32 × (Nat → Option Nat))) :=
  (zf_X8_demandCell x1 x2 g_grid).bind fun o3 => Sum.elim (fun o3 =>
  (zf_X2_isStone (g_grid.2.2.2.2.1) o3).bind fun o14 =>
  (zf_X2_withStone (g_grid.1) (g_grid.2.1) (g_grid.2.2.1) (g_grid.2.2.2.1) (g_grid.2.2.2.2.1) o3 x3).bind fun o27 =>
  (zf_X8_demandFewFree o27.2.2.2.2.2.2.2).bind fun o30 => Sum.elim (fun o30 =>
  (zf_X8_act f_actCount f_grid c_acts LG).bind fun o33 =>
  if zbit o14 = true then some (.inl (o14, o33.1, o33.2, o27)) else none) (fun x30_ => some (.inr (x30_, f_actCount, c_acts))) o30) (fun x3_ => some (.inr (x3_, f_actCount, c_acts))) o3
set_option maxHeartbeats 4000000 in
set_option maxRecDepth 100000 in
theorem zc_X8_put (l : Launch) (D : va_G) (y : zY) (a_this a_text a_lattice a_acts a_order a_written a_withOpen a_kept a_flow a_side a_deciders a_trial : Nat) (f_writtenLength : Int32) (f_actCount : Int32) (f_grid : Nat) (f_sideOf : Option Nat) (f_sidePipe : Int32) (c_acts : Nat → Option Nat) (x1 : Int32) (x2 : Int32) (x3 : Int32) (LG : List Nat) (G : Nat → zGD) (hst : l.stackTraces = false) (hg : f_grid ∈ LG) (out : (Int32 × Int32 × (Nat → Option Nat) × zGD) ⊕ (Nat × Int32 × (Nat → Option Nat))) (hf : zf_X8_put f_actCount f_grid c_acts x1 x2 x3 LG (G f_grid) = some out) : zCx l D y yX8_put cX8_put 6 (some .boolean) rm_X8_put [.ref a_this, .int x1, .int x2, .int x3] ([(a_this, .inr (8, [.ref a_text, .ref a_lattice, .ref a_acts, .ref a_order, .ref a_written, .ref a_withOpen, .ref a_kept, .ref a_flow, .ref a_side, .ref a_deciders, .ref a_trial, .int f_writtenLength, .int f_actCount, .ref f_grid, va_rf f_sideOf, .int f_sidePipe])), (a_acts, .inl (y.2.2.2, 16, .inr (.inr (.inr (.inr c_acts)))))] ++ zpl LG G) (fun v w => ∃ o, out = .inl o ∧ ∃ q, q ∉ LG ∧ v = (some (.int o.1)) ∧ w = ([(a_this, .inr (8, [.ref a_text, .ref a_lattice, .ref a_acts, .ref a_order, .ref a_written, .ref a_withOpen, .ref a_kept, .ref a_flow, .ref a_side, .ref a_deciders, .ref a_trial, .int f_writtenLength, .int o.2.1, .ref q, va_rf f_sideOf, .int f_sidePipe])), (a_acts, .inl (y.2.2.2, 16, .inr (.inr (.inr (.inr o.2.2.1)))))] ++ zpl (LG ++ [q]) (va_up G q o.2.2.2))) (fun E w => ∃ x, out = .inr x ∧ E = zex x.1 ∧ w = ([(a_this, .inr (8, [.ref a_text, .ref a_lattice, .ref a_acts, .ref a_order, .ref a_written, .ref a_withOpen, .ref a_kept, .ref a_flow, .ref a_side, .ref a_deciders, .ref a_trial, .int f_writtenLength, .int x.2.1, .ref f_grid, va_rf f_sideOf, .int f_sidePipe])), (a_acts, .inl (y.2.2.2, 16, .inr (.inr (.inr (.inr x.2.2)))))] ++ zpl LG G)) := by
  refine zmkx (by decide) (Nat.le_of_ble_eq_true rfl) ?_
  intro p e s m args below meth c A Q ls X hQ hct hP hD hS hl
  have X : zX p s m args meth c D y A RX8 cX8_put 6 (some .boolean) := X
  obtain ⟨hx, hb, hr, hml, hown, hts, hK, hA, hlocks⟩ := id X
  have hl : lv_has ls 6 [(0, .ref a_this), (1, .int x1), (2, .int x2), (3, .int x3)] := hl
  unfold zf_X8_put at hf
  refine lv_aload_n hx hb dX8_put_0 rfl (lv_at hl 0 rfl) ?_
  refine lv_iload_n hx hb dX8_put_1 rfl (lv_at hl 1 rfl) ?_
  refine lv_iload_n hx hb dX8_put_2 rfl (lv_at hl 2 rfl) ?_
  obtain ⟨o3, ho3, hf⟩ := zb hf
  refine zxVr (Xs := [(a_this, .inr (8, [.ref a_text, .ref a_lattice, .ref a_acts, .ref a_order, .ref a_written, .ref a_withOpen, .ref a_kept, .ref a_flow, .ref a_side, .ref a_deciders, .ref a_trial, .int f_writtenLength, .int f_actCount, .ref f_grid, va_rf f_sideOf, .int f_sidePipe])), (a_acts, .inl (y.2.2.2, 16, .inr (.inr (.inr (.inr c_acts)))))]) (pl := zpl LG G) (cx := [(a_this, .inr (8, [.ref a_text, .ref a_lattice, .ref a_acts, .ref a_order, .ref a_written, .ref a_withOpen, .ref a_kept, .ref a_flow, .ref a_side, .ref a_deciders, .ref a_trial, .int f_writtenLength, .int f_actCount, .ref f_grid, va_rf f_sideOf, .int f_sidePipe]))]) (wr := [(a_acts, .inl (y.2.2.2, 16, .inr (.inr (.inr (.inr c_acts)))))]) (ro := zpl LG G) (rest := []) X hQ hct (zc_X8_demandCell l D y a_this a_text a_lattice a_acts a_order a_written a_withOpen a_kept a_flow a_side a_deciders a_trial f_writtenLength f_actCount f_grid f_sideOf f_sidePipe x1 x2 LG G hst hg o3 ho3) kf_RX8_124 ⟨(Nat.le_of_ble_eq_true rfl), (Nat.le_of_ble_eq_true rfl)⟩ hP hD hS [0] [1] rfl rfl rfl (fun _ h => h) (znp hD) rfl rfl (zme (q0 := 0) rfl) rfl rfl hl.1 (Nat.le_of_ble_eq_true rfl) dX8_put_3 ⟨(Nat.le_of_ble_eq_true rfl), (Nat.le_of_ble_eq_true rfl)⟩ (Nat.le_of_ble_eq_true rfl) (Nat.le_of_ble_eq_true rfl) [1, 0] rfl (fun E w hp => ?_) (fun v w hp => ?_)
  · obtain ⟨x3_, rfl, rfl, rfl⟩ := hp
    replace hf := zsr hf
    obtain rfl := Option.some.inj hf
    exact ⟨[(a_this, .inr (8, [.ref a_text, .ref a_lattice, .ref a_acts, .ref a_order, .ref a_written, .ref a_withOpen, .ref a_kept, .ref a_flow, .ref a_side, .ref a_deciders, .ref a_trial, .int f_writtenLength, .int f_actCount, .ref f_grid, va_rf f_sideOf, .int f_sidePipe]))], [(a_this, .inr (8, [.ref a_text, .ref a_lattice, .ref a_acts, .ref a_order, .ref a_written, .ref a_withOpen, .ref a_kept, .ref a_flow, .ref a_side, .ref a_deciders, .ref a_trial, .int f_writtenLength, .int f_actCount, .ref f_grid, va_rf f_sideOf, .int f_sidePipe])), (a_acts, .inl (y.2.2.2, 16, .inr (.inr (.inr (.inr c_acts)))))], rfl, ⟨_, rfl, rfl, rfl⟩, rfl⟩
  obtain ⟨o3, rfl, rfl, rfl⟩ := hp
  replace hf := zsl hf
  refine ⟨[(a_this, .inr (8, [.ref a_text, .ref a_lattice, .ref a_acts, .ref a_order, .ref a_written, .ref a_withOpen, .ref a_kept, .ref a_flow, .ref a_side, .ref a_deciders, .ref a_trial, .int f_writtenLength, .int f_actCount, .ref f_grid, va_rf f_sideOf, .int f_sidePipe]))], rfl, fun H locs hP hD hS => ?_⟩
  have hP : va_P D vwCl ([(a_acts, .inl (y.2.2.2, 16, .inr (.inr (.inr (.inr c_acts))))), (a_this, .inr (8, [.ref a_text, .ref a_lattice, .ref a_acts, .ref a_order, .ref a_written, .ref a_withOpen, .ref a_kept, .ref a_flow, .ref a_side, .ref a_deciders, .ref a_trial, .int f_writtenLength, .int f_actCount, .ref f_grid, va_rf f_sideOf, .int f_sidePipe]))] ++ zpl LG G) H := hP
  have hD : va_D A ([(a_acts, .inl (y.2.2.2, 16, .inr (.inr (.inr (.inr c_acts))))), (a_this, .inr (8, [.ref a_text, .ref a_lattice, .ref a_acts, .ref a_order, .ref a_written, .ref a_withOpen, .ref a_kept, .ref a_flow, .ref a_side, .ref a_deciders, .ref a_trial, .int f_writtenLength, .int f_actCount, .ref f_grid, va_rf f_sideOf, .int f_sidePipe]))] ++ zpl LG G) := hD
  show W p l e rm_X8_put s m args below meth c H locs _ _ Q (F0 m 6 ls [.int o3])
  refine lv_istore (lv' := [(4, .int o3), (0, .ref a_this), (1, .int x1), (2, .int x2), (3, .int x3)]) hx hb dX8_put_6 hl (by decide) rfl (fun ls hl => ?_)
  refine lv_aload_n hx hb dX8_put_8 rfl (lv_at hl 1 rfl) ?_
  refine zget X hP 1 rfl rfl inF8 13 (by decide) q_283 rfl dX8_put_9 ?_
  refine lv_iload hx hb dX8_put_12 (lv_at hl 0 rfl) ?_
  obtain ⟨o14, ho14, hf⟩ := zb hf
  refine zVr1 (Xs := [(a_acts, .inl (y.2.2.2, 16, .inr (.inr (.inr (.inr c_acts))))), (a_this, .inr (8, [.ref a_text, .ref a_lattice, .ref a_acts, .ref a_order, .ref a_written, .ref a_withOpen, .ref a_kept, .ref a_flow, .ref a_side, .ref a_deciders, .ref a_trial, .int f_writtenLength, .int f_actCount, .ref f_grid, va_rf f_sideOf, .int f_sidePipe]))]) (pl := zpl LG G) (cx := []) (wr := [(a_acts, .inl (y.2.2.2, 16, .inr (.inr (.inr (.inr c_acts))))), (a_this, .inr (8, [.ref a_text, .ref a_lattice, .ref a_acts, .ref a_order, .ref a_written, .ref a_withOpen, .ref a_kept, .ref a_flow, .ref a_side, .ref a_deciders, .ref a_trial, .int f_writtenLength, .int f_actCount, .ref f_grid, va_rf f_sideOf, .int f_sidePipe]))]) (ro := [(f_grid, zgE (G f_grid))]) (w1 := []) (rest := []) X (zc_X2_isStone l D y f_grid ((G f_grid).1) ((G f_grid).2.1) ((G f_grid).2.2.1) ((G f_grid).2.2.2.1) ((G f_grid).2.2.2.2.1) ((G f_grid).2.2.2.2.2.1) ((G f_grid).2.2.2.2.2.2.1) ((G f_grid).2.2.2.2.2.2.2) o3 o14 ho14) kf_RX8_128 ⟨(Nat.le_of_ble_eq_true rfl), (Nat.le_of_ble_eq_true rfl)⟩ hP hD hS [] [0, 1] rfl rfl rfl (zro1 hg) zn1 rfl rfl rfl (zmg hg) rfl rfl hl.1 (Nat.le_of_ble_eq_true rfl) dX8_put_14 ⟨(Nat.le_of_ble_eq_true rfl), (Nat.le_of_ble_eq_true rfl)⟩ (fun H locs hP hD hS => ?_)
  have hP : va_P D vwCl ([(a_acts, .inl (y.2.2.2, 16, .inr (.inr (.inr (.inr c_acts))))), (a_this, .inr (8, [.ref a_text, .ref a_lattice, .ref a_acts, .ref a_order, .ref a_written, .ref a_withOpen, .ref a_kept, .ref a_flow, .ref a_side, .ref a_deciders, .ref a_trial, .int f_writtenLength, .int f_actCount, .ref f_grid, va_rf f_sideOf, .int f_sidePipe]))] ++ zpl LG G) H := hP
  have hD : va_D A ([(a_acts, .inl (y.2.2.2, 16, .inr (.inr (.inr (.inr c_acts))))), (a_this, .inr (8, [.ref a_text, .ref a_lattice, .ref a_acts, .ref a_order, .ref a_written, .ref a_withOpen, .ref a_kept, .ref a_flow, .ref a_side, .ref a_deciders, .ref a_trial, .int f_writtenLength, .int f_actCount, .ref f_grid, va_rf f_sideOf, .int f_sidePipe]))] ++ zpl LG G) := hD
  refine lv_istore (lv' := [(5, .int o14), (4, .int o3), (0, .ref a_this), (1, .int x1), (2, .int x2), (3, .int x3)]) hx hb dX8_put_17 hl (by decide) rfl (fun ls hl => ?_)
  refine lv_aload_n hx hb dX8_put_19 rfl (lv_at hl 2 rfl) ?_
  refine lv_aload_n hx hb dX8_put_20 rfl (lv_at hl 2 rfl) ?_
  refine zget X hP 1 rfl rfl inF8 13 (by decide) q_283 rfl dX8_put_21 ?_
  refine lv_iload hx hb dX8_put_24 (lv_at hl 1 rfl) ?_
  refine lv_iload_n hx hb dX8_put_26 rfl (lv_at hl 5 rfl) ?_
  obtain ⟨o27, ho27, hf⟩ := zb hf
  refine zVrg (Xs := [(a_acts, .inl (y.2.2.2, 16, .inr (.inr (.inr (.inr c_acts))))), (a_this, .inr (8, [.ref a_text, .ref a_lattice, .ref a_acts, .ref a_order, .ref a_written, .ref a_withOpen, .ref a_kept, .ref a_flow, .ref a_side, .ref a_deciders, .ref a_trial, .int f_writtenLength, .int f_actCount, .ref f_grid, va_rf f_sideOf, .int f_sidePipe]))]) (pl := zpl LG G) (cx := []) (wr := [(a_acts, .inl (y.2.2.2, 16, .inr (.inr (.inr (.inr c_acts))))), (a_this, .inr (8, [.ref a_text, .ref a_lattice, .ref a_acts, .ref a_order, .ref a_written, .ref a_withOpen, .ref a_kept, .ref a_flow, .ref a_side, .ref a_deciders, .ref a_trial, .int f_writtenLength, .int f_actCount, .ref f_grid, va_rf f_sideOf, .int f_sidePipe]))]) (ro := [(f_grid, zgE (G f_grid))]) (rest := [.ref a_this]) X (zc_X2_withStone l D y f_grid ((G f_grid).1) ((G f_grid).2.1) ((G f_grid).2.2.1) ((G f_grid).2.2.2.1) ((G f_grid).2.2.2.2.1) ((G f_grid).2.2.2.2.2.1) ((G f_grid).2.2.2.2.2.2.1) ((G f_grid).2.2.2.2.2.2.2) o3 x3 o27 ho27) kf_RX8_150 ⟨(Nat.le_of_ble_eq_true rfl), (Nat.le_of_ble_eq_true rfl)⟩ hP hD hS [] [0, 1] rfl rfl rfl (zro1 hg) zn1 rfl rfl (zmg hg) rfl rfl hl.1 (Nat.le_of_ble_eq_true rfl) dX8_put_27 ⟨(Nat.le_of_ble_eq_true rfl), (Nat.le_of_ble_eq_true rfl)⟩ (fun v w hp => ?_)
  obtain ⟨a_nw27, rfl, rfl⟩ := hp
  refine ⟨[(a_nw27, zgE o27)], rfl, fun H locs hP hD hS => ?_⟩
  have hP : va_P D vwCl ([(a_acts, .inl (y.2.2.2, 16, .inr (.inr (.inr (.inr c_acts))))), (a_this, .inr (8, [.ref a_text, .ref a_lattice, .ref a_acts, .ref a_order, .ref a_written, .ref a_withOpen, .ref a_kept, .ref a_flow, .ref a_side, .ref a_deciders, .ref a_trial, .int f_writtenLength, .int f_actCount, .ref f_grid, va_rf f_sideOf, .int f_sidePipe])), (a_nw27, .inr (2, [.int o27.1, .int o27.2.1, .long o27.2.2.1, .long o27.2.2.2.1, .long o27.2.2.2.2.1, .long o27.2.2.2.2.2.1, .long o27.2.2.2.2.2.2.1, .long o27.2.2.2.2.2.2.2]))] ++ zpl LG G) H := hP
  have hD : va_D A ([(a_acts, .inl (y.2.2.2, 16, .inr (.inr (.inr (.inr c_acts))))), (a_this, .inr (8, [.ref a_text, .ref a_lattice, .ref a_acts, .ref a_order, .ref a_written, .ref a_withOpen, .ref a_kept, .ref a_flow, .ref a_side, .ref a_deciders, .ref a_trial, .int f_writtenLength, .int f_actCount, .ref f_grid, va_rf f_sideOf, .int f_sidePipe])), (a_nw27, .inr (2, [.int o27.1, .int o27.2.1, .long o27.2.2.1, .long o27.2.2.2.1, .long o27.2.2.2.2.1, .long o27.2.2.2.2.2.1, .long o27.2.2.2.2.2.2.1, .long o27.2.2.2.2.2.2.2]))] ++ zpl LG G) := hD
  show W p l e rm_X8_put s m args below meth c H locs _ _ Q (F0 m 30 ls [.ref a_nw27, .ref a_this])
  obtain ⟨o30, ho30, hf⟩ := zb hf
  refine zxSr (Xs := [(a_acts, .inl (y.2.2.2, 16, .inr (.inr (.inr (.inr c_acts))))), (a_this, .inr (8, [.ref a_text, .ref a_lattice, .ref a_acts, .ref a_order, .ref a_written, .ref a_withOpen, .ref a_kept, .ref a_flow, .ref a_side, .ref a_deciders, .ref a_trial, .int f_writtenLength, .int f_actCount, .ref f_grid, va_rf f_sideOf, .int f_sidePipe])), (a_nw27, .inr (2, [.int o27.1, .int o27.2.1, .long o27.2.2.1, .long o27.2.2.2.1, .long o27.2.2.2.2.1, .long o27.2.2.2.2.2.1, .long o27.2.2.2.2.2.2.1, .long o27.2.2.2.2.2.2.2]))]) (pl := zpl LG G) (cx := [(a_nw27, .inr (2, [.int o27.1, .int o27.2.1, .long o27.2.2.1, .long o27.2.2.2.1, .long o27.2.2.2.2.1, .long o27.2.2.2.2.2.1, .long o27.2.2.2.2.2.2.1, .long o27.2.2.2.2.2.2.2]))]) (wr := [(a_acts, .inl (y.2.2.2, 16, .inr (.inr (.inr (.inr c_acts))))), (a_this, .inr (8, [.ref a_text, .ref a_lattice, .ref a_acts, .ref a_order, .ref a_written, .ref a_withOpen, .ref a_kept, .ref a_flow, .ref a_side, .ref a_deciders, .ref a_trial, .int f_writtenLength, .int f_actCount, .ref f_grid, va_rf f_sideOf, .int f_sidePipe]))]) (ro := []) (rest := [.ref a_this]) X hQ hct (zc_X8_demandFewFree l D y a_nw27 o27.1 o27.2.1 o27.2.2.1 o27.2.2.2.1 o27.2.2.2.2.1 o27.2.2.2.2.2.1 o27.2.2.2.2.2.2.1 o27.2.2.2.2.2.2.2 hst o30 ho30) kf_RX8_142 ⟨(Nat.le_of_ble_eq_true rfl), (Nat.le_of_ble_eq_true rfl)⟩ hP hD hS [2] [0, 1] rfl rfl rfl (fun _ h => absurd h List.not_mem_nil) zn0 rfl rfl rfl hl.1 (Nat.le_of_ble_eq_true rfl) dX8_put_30 ⟨(Nat.le_of_ble_eq_true rfl), (Nat.le_of_ble_eq_true rfl)⟩ (Nat.le_of_ble_eq_true rfl) (Nat.le_of_ble_eq_true rfl) [1, 0] rfl (fun E w hp => ?_) (fun v w hp => ?_)
  · obtain ⟨x30_, rfl, rfl, rfl⟩ := hp
    replace hf := zsr hf
    obtain rfl := Option.some.inj hf
    exact ⟨[(a_nw27, .inr (2, [.int o27.1, .int o27.2.1, .long o27.2.2.1, .long o27.2.2.2.1, .long o27.2.2.2.2.1, .long o27.2.2.2.2.2.1, .long o27.2.2.2.2.2.2.1, .long o27.2.2.2.2.2.2.2]))], [(a_this, .inr (8, [.ref a_text, .ref a_lattice, .ref a_acts, .ref a_order, .ref a_written, .ref a_withOpen, .ref a_kept, .ref a_flow, .ref a_side, .ref a_deciders, .ref a_trial, .int f_writtenLength, .int f_actCount, .ref f_grid, va_rf f_sideOf, .int f_sidePipe])), (a_acts, .inl (y.2.2.2, 16, .inr (.inr (.inr (.inr c_acts)))))], rfl, ⟨_, rfl, rfl, rfl⟩, rfl⟩
  obtain ⟨o30, rfl, rfl, rfl⟩ := hp
  replace hf := zsl hf
  refine ⟨[(a_nw27, .inr (2, [.int o27.1, .int o27.2.1, .long o27.2.2.1, .long o27.2.2.2.1, .long o27.2.2.2.2.1, .long o27.2.2.2.2.2.1, .long o27.2.2.2.2.2.2.1, .long o27.2.2.2.2.2.2.2]))], rfl, fun H locs hP hD hS => ?_⟩
  have hP : va_P D vwCl ([(a_acts, .inl (y.2.2.2, 16, .inr (.inr (.inr (.inr c_acts))))), (a_this, .inr (8, [.ref a_text, .ref a_lattice, .ref a_acts, .ref a_order, .ref a_written, .ref a_withOpen, .ref a_kept, .ref a_flow, .ref a_side, .ref a_deciders, .ref a_trial, .int f_writtenLength, .int f_actCount, .ref f_grid, va_rf f_sideOf, .int f_sidePipe])), (a_nw27, .inr (2, [.int o27.1, .int o27.2.1, .long o27.2.2.1, .long o27.2.2.2.1, .long o27.2.2.2.2.1, .long o27.2.2.2.2.2.1, .long o27.2.2.2.2.2.2.1, .long o27.2.2.2.2.2.2.2]))] ++ zpl LG G) H := hP
  have hD : va_D A ([(a_acts, .inl (y.2.2.2, 16, .inr (.inr (.inr (.inr c_acts))))), (a_this, .inr (8, [.ref a_text, .ref a_lattice, .ref a_acts, .ref a_order, .ref a_written, .ref a_withOpen, .ref a_kept, .ref a_flow, .ref a_side, .ref a_deciders, .ref a_trial, .int f_writtenLength, .int f_actCount, .ref f_grid, va_rf f_sideOf, .int f_sidePipe])), (a_nw27, .inr (2, [.int o27.1, .int o27.2.1, .long o27.2.2.1, .long o27.2.2.2.1, .long o27.2.2.2.2.1, .long o27.2.2.2.2.2.1, .long o27.2.2.2.2.2.2.1, .long o27.2.2.2.2.2.2.2]))] ++ zpl LG G) := hD
  show W p l e rm_X8_put s m args below meth c H locs _ _ Q (F0 m 33 ls [.ref a_nw27, .ref a_this])
  obtain ⟨o33, ho33, hf⟩ := zb hf
  refine zVr0 (Xs := [(a_acts, .inl (y.2.2.2, 16, .inr (.inr (.inr (.inr c_acts))))), (a_this, .inr (8, [.ref a_text, .ref a_lattice, .ref a_acts, .ref a_order, .ref a_written, .ref a_withOpen, .ref a_kept, .ref a_flow, .ref a_side, .ref a_deciders, .ref a_trial, .int f_writtenLength, .int f_actCount, .ref f_grid, va_rf f_sideOf, .int f_sidePipe])), (a_nw27, .inr (2, [.int o27.1, .int o27.2.1, .long o27.2.2.1, .long o27.2.2.2.1, .long o27.2.2.2.2.1, .long o27.2.2.2.2.2.1, .long o27.2.2.2.2.2.2.1, .long o27.2.2.2.2.2.2.2]))]) (pl := zpl LG G) (cx := [(a_this, .inr (8, [.ref a_text, .ref a_lattice, .ref a_acts, .ref a_order, .ref a_written, .ref a_withOpen, .ref a_kept, .ref a_flow, .ref a_side, .ref a_deciders, .ref a_trial, .int f_writtenLength, .int f_actCount, .ref f_grid, va_rf f_sideOf, .int f_sidePipe])), (a_acts, .inl (y.2.2.2, 16, .inr (.inr (.inr (.inr c_acts)))))]) (wr := [(a_nw27, .inr (2, [.int o27.1, .int o27.2.1, .long o27.2.2.1, .long o27.2.2.2.1, .long o27.2.2.2.2.1, .long o27.2.2.2.2.2.1, .long o27.2.2.2.2.2.2.1, .long o27.2.2.2.2.2.2.2]))]) (ro := zpl LG G) (w1 := [(a_this, .inr (8, [.ref a_text, .ref a_lattice, .ref a_acts, .ref a_order, .ref a_written, .ref a_withOpen, .ref a_kept, .ref a_flow, .ref a_side, .ref a_deciders, .ref a_trial, .int f_writtenLength, .int o33.1, .ref a_nw27, va_rf f_sideOf, .int f_sidePipe])), (a_acts, .inl (y.2.2.2, 16, .inr (.inr (.inr (.inr o33.2)))))]) (rest := []) X (zc_X8_act l D y a_this a_text a_lattice a_acts a_order a_written a_withOpen a_kept a_flow a_side a_deciders a_trial f_writtenLength f_actCount f_grid f_sideOf f_sidePipe c_acts a_nw27 LG G hg o33 ho33) kf_RX8_146 ⟨(Nat.le_of_ble_eq_true rfl), (Nat.le_of_ble_eq_true rfl)⟩ hP hD hS [1, 0] [2] rfl rfl rfl (fun _ h => h) (znp hD) rfl rfl rfl (zme (q0 := 1) rfl) rfl rfl hl.1 (Nat.le_of_ble_eq_true rfl) dX8_put_33 ⟨(Nat.le_of_ble_eq_true rfl), (Nat.le_of_ble_eq_true rfl)⟩ (fun H locs hP hD hS => ?_)
  have hP : va_P D vwCl ([(a_nw27, .inr (2, [.int o27.1, .int o27.2.1, .long o27.2.2.1, .long o27.2.2.2.1, .long o27.2.2.2.2.1, .long o27.2.2.2.2.2.1, .long o27.2.2.2.2.2.2.1, .long o27.2.2.2.2.2.2.2])), (a_this, .inr (8, [.ref a_text, .ref a_lattice, .ref a_acts, .ref a_order, .ref a_written, .ref a_withOpen, .ref a_kept, .ref a_flow, .ref a_side, .ref a_deciders, .ref a_trial, .int f_writtenLength, .int o33.1, .ref a_nw27, va_rf f_sideOf, .int f_sidePipe])), (a_acts, .inl (y.2.2.2, 16, .inr (.inr (.inr (.inr o33.2)))))] ++ zpl LG G) H := hP
  have hD : va_D A ([(a_nw27, .inr (2, [.int o27.1, .int o27.2.1, .long o27.2.2.1, .long o27.2.2.2.1, .long o27.2.2.2.2.1, .long o27.2.2.2.2.2.1, .long o27.2.2.2.2.2.2.1, .long o27.2.2.2.2.2.2.2])), (a_this, .inr (8, [.ref a_text, .ref a_lattice, .ref a_acts, .ref a_order, .ref a_written, .ref a_withOpen, .ref a_kept, .ref a_flow, .ref a_side, .ref a_deciders, .ref a_trial, .int f_writtenLength, .int o33.1, .ref a_nw27, va_rf f_sideOf, .int f_sidePipe])), (a_acts, .inl (y.2.2.2, 16, .inr (.inr (.inr (.inr o33.2)))))] ++ zpl LG G) := hD
  refine lv_iload hx hb dX8_put_36 (lv_at hl 0 rfl) ?_
  obtain ⟨nb38, hf⟩ := zbt hf
  obtain ⟨hq, hP, hD⟩ := zpush (X := [(a_this, .inr (8, [.ref a_text, .ref a_lattice, .ref a_acts, .ref a_order, .ref a_written, .ref a_withOpen, .ref a_kept, .ref a_flow, .ref a_side, .ref a_deciders, .ref a_trial, .int f_writtenLength, .int o33.1, .ref a_nw27, va_rf f_sideOf, .int f_sidePipe])), (a_acts, .inl (y.2.2.2, 16, .inr (.inr (.inr (.inr o33.2)))))]) (q := a_nw27) (d := o27) (hP.part [1, 2, 0] rfl) (hD.part [1, 2, 0] rfl rfl)
  obtain rfl := Option.some.inj hf
  exact zretix X hQ hP hD hS ⟨_, rfl, ⟨_, hq, rfl, rfl⟩⟩ nb38.1 dX8_put_38 (Nat.le_of_ble_eq_true rfl) (Nat.le_of_ble_eq_true rfl)

theorem kf_RX8_156 : zCB RX8 156 yX2_turned cX2_turned 14 (some (.object "WaterGrid$Grid")) 1 ∧ Cond.instanceMethod yX2_turned ∈ wAll ∧ Cond.selects yX2_turned.cls yX2_turned yX2_turned ∈ wAll := ⟨⟨q_942, q_8, q_939, by decide +kernel⟩, q_940, q_941⟩
abbrev rm_X8_turn : Room := { frames := 6, cells := 1, slots := 8, locals := 116 }
def zf_X8_turn_9 (f_actCount : Int32) (c_acts : Nat → Option Nat) : Option ((Int32 × (Nat → Option Nat) × zGD) ⊕ (Nat × Int32 × (Nat → Option Nat))) :=
  some (.inr ((2 : Nat), f_actCount, c_acts))
def zf_X8_turn (f_actCount : Int32) (f_grid : Nat) (c_acts : Nat → Option Nat) (x1 : Int32) (LG : List Nat) (g_grid : zGD) : Option ((Int32 × (Nat → Option Nat) × zGD) ⊕ (Nat × Int32 × (Nat → Option Nat))) :=
  if x1 < 0 then (zf_X8_turn_9 f_actCount c_acts) else (if x1 ≤ (2 : Int32) then ((zf_X2_turned (g_grid.1) (g_grid.2.1) (g_grid.2.2.1) (g_grid.2.2.2.1) (g_grid.2.2.2.2.1) x1).bind fun o25 =>
  (zf_X8_act f_actCount f_grid c_acts LG).bind fun o28 =>
  some (.inl (o28.1, o28.2, o25))) else (zf_X8_turn_9 f_actCount c_acts))
set_option maxHeartbeats 4000000 in
set_option maxRecDepth 100000 in
theorem zc_X8_turn (l : Launch) (D : va_G) (y : zY) (a_this a_text a_lattice a_acts a_order a_written a_withOpen a_kept a_flow a_side a_deciders a_trial : Nat) (f_writtenLength : Int32) (f_actCount : Int32) (f_grid : Nat) (f_sideOf : Option Nat) (f_sidePipe : Int32) (c_acts : Nat → Option Nat) (x1 : Int32) (LG : List Nat) (G : Nat → zGD) (hst : l.stackTraces = false) (hg : f_grid ∈ LG) (out : (Int32 × (Nat → Option Nat) × zGD) ⊕ (Nat × Int32 × (Nat → Option Nat))) (hf : zf_X8_turn f_actCount f_grid c_acts x1 LG (G f_grid) = some out) : zCx l D y yX8_turn cX8_turn 2 (none : Option Jvm.ClassFile.FieldType) rm_X8_turn [.ref a_this, .int x1] ([(a_this, .inr (8, [.ref a_text, .ref a_lattice, .ref a_acts, .ref a_order, .ref a_written, .ref a_withOpen, .ref a_kept, .ref a_flow, .ref a_side, .ref a_deciders, .ref a_trial, .int f_writtenLength, .int f_actCount, .ref f_grid, va_rf f_sideOf, .int f_sidePipe])), (a_acts, .inl (y.2.2.2, 16, .inr (.inr (.inr (.inr c_acts)))))] ++ zpl LG G) (fun v w => ∃ o, out = .inl o ∧ ∃ q, q ∉ LG ∧ v = none ∧ w = ([(a_this, .inr (8, [.ref a_text, .ref a_lattice, .ref a_acts, .ref a_order, .ref a_written, .ref a_withOpen, .ref a_kept, .ref a_flow, .ref a_side, .ref a_deciders, .ref a_trial, .int f_writtenLength, .int o.1, .ref q, va_rf f_sideOf, .int f_sidePipe])), (a_acts, .inl (y.2.2.2, 16, .inr (.inr (.inr (.inr o.2.1)))))] ++ zpl (LG ++ [q]) (va_up G q o.2.2))) (fun E w => ∃ x, out = .inr x ∧ E = zex x.1 ∧ w = ([(a_this, .inr (8, [.ref a_text, .ref a_lattice, .ref a_acts, .ref a_order, .ref a_written, .ref a_withOpen, .ref a_kept, .ref a_flow, .ref a_side, .ref a_deciders, .ref a_trial, .int f_writtenLength, .int x.2.1, .ref f_grid, va_rf f_sideOf, .int f_sidePipe])), (a_acts, .inl (y.2.2.2, 16, .inr (.inr (.inr (.inr x.2.2)))))] ++ zpl LG G)) := by
  refine zmkx (by decide) (Nat.le_of_ble_eq_true rfl) ?_
  intro p e s m args below meth c A Q ls X hQ hct hP hD hS hl
  have X : zX p s m args meth c D y A RX8 cX8_turn 2 (none : Option Jvm.ClassFile.FieldType) := X
  obtain ⟨hx, hb, hr, hml, hown, hts, hK, hA, hlocks⟩ := id X
  have hl : lv_has ls 2 [(0, .ref a_this), (1, .int x1)] := hl
  have J9 : ∀ (f_actCount : Int32) (c_acts : Nat → Option Nat), zf_X8_turn_9 f_actCount c_acts = some out → ∀ (H : Heap) (locs : List Loc) (ls : Array Slot), lv_has ls 2 [] → va_P D vwCl ([(a_this, .inr (8, [.ref a_text, .ref a_lattice, .ref a_acts, .ref a_order, .ref a_written, .ref a_withOpen, .ref a_kept, .ref a_flow, .ref a_side, .ref a_deciders, .ref a_trial, .int f_writtenLength, .int f_actCount, .ref f_grid, va_rf f_sideOf, .int f_sidePipe])), (a_acts, .inl (y.2.2.2, 16, .inr (.inr (.inr (.inr c_acts)))))] ++ zpl LG G) H → va_D A ([(a_this, .inr (8, [.ref a_text, .ref a_lattice, .ref a_acts, .ref a_order, .ref a_written, .ref a_withOpen, .ref a_kept, .ref a_flow, .ref a_side, .ref a_deciders, .ref a_trial, .int f_writtenLength, .int f_actCount, .ref f_grid, va_rf f_sideOf, .int f_sidePipe])), (a_acts, .inl (y.2.2.2, 16, .inr (.inr (.inr (.inr c_acts)))))] ++ zpl LG G) → va_S A s.heap H locs → W p l e rm_X8_turn s m args below meth c H locs 0 0 Q (F0 m 9 ls []) := by
    intro f_actCount c_acts hf H locs ls hl hP hD hS
    unfold zf_X8_turn_9 at hf
    obtain rfl := Option.some.inj hf
    exact zthS (cls := "java/lang/IllegalArgumentException") (text := "there is no such turn") (names := ["java/lang/RuntimeException", "java/lang/Exception"]) X hst hQ hct (by decide +kernel) (by decide +kernel) q_761 rfl q_19 rfl (by decide +kernel) zat_IllegalArgumentException hP hD hS hl.1 dX8_turn_9 dX8_turn_12 (Or.inl ⟨dX8_turn_13, dX8_turn_15, dX8_turn_18⟩) (Nat.le_of_ble_eq_true rfl) (Nat.le_of_ble_eq_true rfl) (Nat.le_of_ble_eq_true rfl) (Nat.le_of_ble_eq_true rfl) (Nat.le_of_ble_eq_true rfl) (Nat.le_of_ble_eq_true rfl) ⟨_, rfl, rfl, rfl⟩
  unfold zf_X8_turn at hf
  refine lv_iload_n hx hb dX8_turn_0 rfl (lv_at hl 1 rfl) ?_
  refine lv_if_lt (tgt := 9) hx hb dX8_turn_1 (by decide) (fun c1 => ?_) (fun c1 => ?_)
  · replace hf := zt c1 hf
    exact J9 f_actCount c_acts hf _ _ _ (lv_sub hl [] rfl) hP hD hS
  · replace hf := ze c1 hf
    refine lv_iload_n hx hb dX8_turn_4 rfl (lv_at hl 1 rfl) ?_
    refine lv_iconst (v := 2) hx hb dX8_turn_5 (by decide) ?_
    refine lv_icmp_le (tgt := 19) hx hb dX8_turn_6 (by decide) (fun c6 => ?_) (fun c6 => ?_)
    · replace hf := zt c6 hf
      refine lv_aload_n hx hb dX8_turn_19 rfl (lv_at hl 0 rfl) ?_
      refine lv_aload_n hx hb dX8_turn_20 rfl (lv_at hl 0 rfl) ?_
      refine zget X hP 0 rfl rfl inF8 13 (by decide) q_283 rfl dX8_turn_21 ?_
      refine lv_iload_n hx hb dX8_turn_24 rfl (lv_at hl 1 rfl) ?_
      obtain ⟨o25, ho25, hf⟩ := zb hf
      refine zVrg (Xs := [(a_this, .inr (8, [.ref a_text, .ref a_lattice, .ref a_acts, .ref a_order, .ref a_written, .ref a_withOpen, .ref a_kept, .ref a_flow, .ref a_side, .ref a_deciders, .ref a_trial, .int f_writtenLength, .int f_actCount, .ref f_grid, va_rf f_sideOf, .int f_sidePipe])), (a_acts, .inl (y.2.2.2, 16, .inr (.inr (.inr (.inr c_acts)))))]) (pl := zpl LG G) (cx := []) (wr := [(a_this, .inr (8, [.ref a_text, .ref a_lattice, .ref a_acts, .ref a_order, .ref a_written, .ref a_withOpen, .ref a_kept, .ref a_flow, .ref a_side, .ref a_deciders, .ref a_trial, .int f_writtenLength, .int f_actCount, .ref f_grid, va_rf f_sideOf, .int f_sidePipe])), (a_acts, .inl (y.2.2.2, 16, .inr (.inr (.inr (.inr c_acts)))))]) (ro := [(f_grid, zgE (G f_grid))]) (rest := [.ref a_this]) X (zc_X2_turned l D y f_grid ((G f_grid).1) ((G f_grid).2.1) ((G f_grid).2.2.1) ((G f_grid).2.2.2.1) ((G f_grid).2.2.2.2.1) ((G f_grid).2.2.2.2.2.1) ((G f_grid).2.2.2.2.2.2.1) ((G f_grid).2.2.2.2.2.2.2) x1 o25 ho25) kf_RX8_156 ⟨(Nat.le_of_ble_eq_true rfl), (Nat.le_of_ble_eq_true rfl)⟩ hP hD hS [] [0, 1] rfl rfl rfl (zro1 hg) zn1 rfl rfl (zmg hg) rfl rfl hl.1 (Nat.le_of_ble_eq_true rfl) dX8_turn_25 ⟨(Nat.le_of_ble_eq_true rfl), (Nat.le_of_ble_eq_true rfl)⟩ (fun v w hp => ?_)
      obtain ⟨a_nw25, rfl, rfl⟩ := hp
      refine ⟨[(a_nw25, zgE o25)], rfl, fun H locs hP hD hS => ?_⟩
      have hP : va_P D vwCl ([(a_this, .inr (8, [.ref a_text, .ref a_lattice, .ref a_acts, .ref a_order, .ref a_written, .ref a_withOpen, .ref a_kept, .ref a_flow, .ref a_side, .ref a_deciders, .ref a_trial, .int f_writtenLength, .int f_actCount, .ref f_grid, va_rf f_sideOf, .int f_sidePipe])), (a_acts, .inl (y.2.2.2, 16, .inr (.inr (.inr (.inr c_acts))))), (a_nw25, .inr (2, [.int o25.1, .int o25.2.1, .long o25.2.2.1, .long o25.2.2.2.1, .long o25.2.2.2.2.1, .long o25.2.2.2.2.2.1, .long o25.2.2.2.2.2.2.1, .long o25.2.2.2.2.2.2.2]))] ++ zpl LG G) H := hP
      have hD : va_D A ([(a_this, .inr (8, [.ref a_text, .ref a_lattice, .ref a_acts, .ref a_order, .ref a_written, .ref a_withOpen, .ref a_kept, .ref a_flow, .ref a_side, .ref a_deciders, .ref a_trial, .int f_writtenLength, .int f_actCount, .ref f_grid, va_rf f_sideOf, .int f_sidePipe])), (a_acts, .inl (y.2.2.2, 16, .inr (.inr (.inr (.inr c_acts))))), (a_nw25, .inr (2, [.int o25.1, .int o25.2.1, .long o25.2.2.1, .long o25.2.2.2.1, .long o25.2.2.2.2.1, .long o25.2.2.2.2.2.1, .long o25.2.2.2.2.2.2.1, .long o25.2.2.2.2.2.2.2]))] ++ zpl LG G) := hD
      show W p l e rm_X8_turn s m args below meth c H locs _ _ Q (F0 m 28 ls [.ref a_nw25, .ref a_this])
      obtain ⟨o28, ho28, hf⟩ := zb hf
      refine zVr0 (Xs := [(a_this, .inr (8, [.ref a_text, .ref a_lattice, .ref a_acts, .ref a_order, .ref a_written, .ref a_withOpen, .ref a_kept, .ref a_flow, .ref a_side, .ref a_deciders, .ref a_trial, .int f_writtenLength, .int f_actCount, .ref f_grid, va_rf f_sideOf, .int f_sidePipe])), (a_acts, .inl (y.2.2.2, 16, .inr (.inr (.inr (.inr c_acts))))), (a_nw25, .inr (2, [.int o25.1, .int o25.2.1, .long o25.2.2.1, .long o25.2.2.2.1, .long o25.2.2.2.2.1, .long o25.2.2.2.2.2.1, .long o25.2.2.2.2.2.2.1, .long o25.2.2.2.2.2.2.2]))]) (pl := zpl LG G) (cx := [(a_this, .inr (8, [.ref a_text, .ref a_lattice, .ref a_acts, .ref a_order, .ref a_written, .ref a_withOpen, .ref a_kept, .ref a_flow, .ref a_side, .ref a_deciders, .ref a_trial, .int f_writtenLength, .int f_actCount, .ref f_grid, va_rf f_sideOf, .int f_sidePipe])), (a_acts, .inl (y.2.2.2, 16, .inr (.inr (.inr (.inr c_acts)))))]) (wr := [(a_nw25, .inr (2, [.int o25.1, .int o25.2.1, .long o25.2.2.1, .long o25.2.2.2.1, .long o25.2.2.2.2.1, .long o25.2.2.2.2.2.1, .long o25.2.2.2.2.2.2.1, .long o25.2.2.2.2.2.2.2]))]) (ro := zpl LG G) (w1 := [(a_this, .inr (8, [.ref a_text, .ref a_lattice, .ref a_acts, .ref a_order, .ref a_written, .ref a_withOpen, .ref a_kept, .ref a_flow, .ref a_side, .ref a_deciders, .ref a_trial, .int f_writtenLength, .int o28.1, .ref a_nw25, va_rf f_sideOf, .int f_sidePipe])), (a_acts, .inl (y.2.2.2, 16, .inr (.inr (.inr (.inr o28.2)))))]) (rest := []) X (zc_X8_act l D y a_this a_text a_lattice a_acts a_order a_written a_withOpen a_kept a_flow a_side a_deciders a_trial f_writtenLength f_actCount f_grid f_sideOf f_sidePipe c_acts a_nw25 LG G hg o28 ho28) kf_RX8_146 ⟨(Nat.le_of_ble_eq_true rfl), (Nat.le_of_ble_eq_true rfl)⟩ hP hD hS [0, 1] [2] rfl rfl rfl (fun _ h => h) (znp hD) rfl rfl rfl (zme (q0 := 0) rfl) rfl rfl hl.1 (Nat.le_of_ble_eq_true rfl) dX8_turn_28 ⟨(Nat.le_of_ble_eq_true rfl), (Nat.le_of_ble_eq_true rfl)⟩ (fun H locs hP hD hS => ?_)
      have hP : va_P D vwCl ([(a_nw25, .inr (2, [.int o25.1, .int o25.2.1, .long o25.2.2.1, .long o25.2.2.2.1, .long o25.2.2.2.2.1, .long o25.2.2.2.2.2.1, .long o25.2.2.2.2.2.2.1, .long o25.2.2.2.2.2.2.2])), (a_this, .inr (8, [.ref a_text, .ref a_lattice, .ref a_acts, .ref a_order, .ref a_written, .ref a_withOpen, .ref a_kept, .ref a_flow, .ref a_side, .ref a_deciders, .ref a_trial, .int f_writtenLength, .int o28.1, .ref a_nw25, va_rf f_sideOf, .int f_sidePipe])), (a_acts, .inl (y.2.2.2, 16, .inr (.inr (.inr (.inr o28.2)))))] ++ zpl LG G) H := hP
      have hD : va_D A ([(a_nw25, .inr (2, [.int o25.1, .int o25.2.1, .long o25.2.2.1, .long o25.2.2.2.1, .long o25.2.2.2.2.1, .long o25.2.2.2.2.2.1, .long o25.2.2.2.2.2.2.1, .long o25.2.2.2.2.2.2.2])), (a_this, .inr (8, [.ref a_text, .ref a_lattice, .ref a_acts, .ref a_order, .ref a_written, .ref a_withOpen, .ref a_kept, .ref a_flow, .ref a_side, .ref a_deciders, .ref a_trial, .int f_writtenLength, .int o28.1, .ref a_nw25, va_rf f_sideOf, .int f_sidePipe])), (a_acts, .inl (y.2.2.2, 16, .inr (.inr (.inr (.inr o28.2)))))] ++ zpl LG G) := hD
      obtain ⟨hq, hP, hD⟩ := zpush (X := [(a_this, .inr (8, [.ref a_text, .ref a_lattice, .ref a_acts, .ref a_order, .ref a_written, .ref a_withOpen, .ref a_kept, .ref a_flow, .ref a_side, .ref a_deciders, .ref a_trial, .int f_writtenLength, .int o28.1, .ref a_nw25, va_rf f_sideOf, .int f_sidePipe])), (a_acts, .inl (y.2.2.2, 16, .inr (.inr (.inr (.inr o28.2)))))]) (q := a_nw25) (d := o25) (hP.part [1, 2, 0] rfl) (hD.part [1, 2, 0] rfl rfl)
      obtain rfl := Option.some.inj hf
      exact zretvx X hQ hP hD hS ⟨_, rfl, ⟨_, hq, rfl, rfl⟩⟩ dX8_turn_31 (Nat.le_of_ble_eq_true rfl) (Nat.le_of_ble_eq_true rfl)
    · replace hf := ze c6 hf
      exact J9 f_actCount c_acts hf _ _ _ (lv_sub hl [] rfl) hP hD hS

theorem kf_RX8_168 : zCB RX8 168 yX2_drained cX2_drained 3 (some (.object "WaterGrid$Grid")) 1 ∧ Cond.instanceMethod yX2_drained ∈ wAll ∧ Cond.selects yX2_drained.cls yX2_drained yX2_drained ∈ wAll := ⟨⟨q_968, q_8, q_965, by decide +kernel⟩, q_966, q_967⟩
abbrev rm_X8_drain : Room := { frames := 7, cells := 2, slots := 14, locals := 112 }
def zf_X8_drain (f_actCount : Int32) (f_grid : Nat) (c_acts : Nat → Option Nat) (x1 : Int32) (x2 : Int32) (x3 : Int32) (LG : List Nat) (g_grid : zGD) : Option ((Int32 × Int32 × (Nat → Option Nat) × zGD) ⊕ (Nat × Int32 × (Nat → Option Nat))) :=
  (zf_X8_demandChance x2 x3 (6 : Int32)).bind fun o4 => Sum.elim (fun o4 =>
  (zf_X8_drawOpen x1 x2 x3 g_grid).bind fun o16 =>
  (zf_X2_drained (g_grid.1) (g_grid.2.1) (g_grid.2.2.1) (g_grid.2.2.2.1) (g_grid.2.2.2.2.1) (g_grid.2.2.2.2.2.2.2) o16).bind fun o19 =>
  (zf_X8_act f_actCount f_grid c_acts LG).bind fun o22 =>
  (zf_X2_joinsBy o19.1 o19.2.1 o19.2.2.2.2.1 o19.2.2.2.2.2.1).bind fun o36 =>
  if zbit o36 = true then some (.inl (o36, o22.1, o22.2, o19)) else none) (fun x4_ => some (.inr (x4_, f_actCount, c_acts))) o4
set_option maxHeartbeats 4000000 in
set_option maxRecDepth 100000 in
theorem zc_X8_drain (l : Launch) (D : va_G) (y : zY) (a_this a_text a_lattice a_acts a_order a_written a_withOpen a_kept a_flow a_side a_deciders a_trial : Nat) (f_writtenLength : Int32) (f_actCount : Int32) (f_grid : Nat) (f_sideOf : Option Nat) (f_sidePipe : Int32) (c_acts : Nat → Option Nat) (x1 : Int32) (x2 : Int32) (x3 : Int32) (LG : List Nat) (G : Nat → zGD) (hst : l.stackTraces = false) (hg : f_grid ∈ LG) (out : (Int32 × Int32 × (Nat → Option Nat) × zGD) ⊕ (Nat × Int32 × (Nat → Option Nat))) (hf : zf_X8_drain f_actCount f_grid c_acts x1 x2 x3 LG (G f_grid) = some out) : zCx l D y yX8_drain cX8_drain 4 (some .boolean) rm_X8_drain [.ref a_this, .int x1, .int x2, .int x3] ([(a_this, .inr (8, [.ref a_text, .ref a_lattice, .ref a_acts, .ref a_order, .ref a_written, .ref a_withOpen, .ref a_kept, .ref a_flow, .ref a_side, .ref a_deciders, .ref a_trial, .int f_writtenLength, .int f_actCount, .ref f_grid, va_rf f_sideOf, .int f_sidePipe])), (a_acts, .inl (y.2.2.2, 16, .inr (.inr (.inr (.inr c_acts)))))] ++ zpl LG G) (fun v w => ∃ o, out = .inl o ∧ ∃ q, q ∉ LG ∧ v = (some (.int o.1)) ∧ w = ([(a_this, .inr (8, [.ref a_text, .ref a_lattice, .ref a_acts, .ref a_order, .ref a_written, .ref a_withOpen, .ref a_kept, .ref a_flow, .ref a_side, .ref a_deciders, .ref a_trial, .int f_writtenLength, .int o.2.1, .ref q, va_rf f_sideOf, .int f_sidePipe])), (a_acts, .inl (y.2.2.2, 16, .inr (.inr (.inr (.inr o.2.2.1)))))] ++ zpl (LG ++ [q]) (va_up G q o.2.2.2))) (fun E w => ∃ x, out = .inr x ∧ E = zex x.1 ∧ w = ([(a_this, .inr (8, [.ref a_text, .ref a_lattice, .ref a_acts, .ref a_order, .ref a_written, .ref a_withOpen, .ref a_kept, .ref a_flow, .ref a_side, .ref a_deciders, .ref a_trial, .int f_writtenLength, .int x.2.1, .ref f_grid, va_rf f_sideOf, .int f_sidePipe])), (a_acts, .inl (y.2.2.2, 16, .inr (.inr (.inr (.inr x.2.2)))))] ++ zpl LG G)) := by
  refine zmkx (by decide) (Nat.le_of_ble_eq_true rfl) ?_
  intro p e s m args below meth c A Q ls X hQ hct hP hD hS hl
  have X : zX p s m args meth c D y A RX8 cX8_drain 4 (some .boolean) := X
  obtain ⟨hx, hb, hr, hml, hown, hts, hK, hA, hlocks⟩ := id X
  have hl : lv_has ls 4 [(0, .ref a_this), (1, .int x1), (2, .int x2), (3, .int x3)] := hl
  unfold zf_X8_drain at hf
  refine lv_iload_n hx hb dX8_drain_0 rfl (lv_at hl 2 rfl) ?_
  refine lv_iload_n hx hb dX8_drain_1 rfl (lv_at hl 3 rfl) ?_
  refine lv_bipush (v := 6) hx hb dX8_drain_2 (by decide) ?_
  obtain ⟨o4, ho4, hf⟩ := zb hf
  refine zxSr (Xs := [(a_this, .inr (8, [.ref a_text, .ref a_lattice, .ref a_acts, .ref a_order, .ref a_written, .ref a_withOpen, .ref a_kept, .ref a_flow, .ref a_side, .ref a_deciders, .ref a_trial, .int f_writtenLength, .int f_actCount, .ref f_grid, va_rf f_sideOf, .int f_sidePipe])), (a_acts, .inl (y.2.2.2, 16, .inr (.inr (.inr (.inr c_acts)))))]) (pl := zpl LG G) (cx := []) (wr := [(a_this, .inr (8, [.ref a_text, .ref a_lattice, .ref a_acts, .ref a_order, .ref a_written, .ref a_withOpen, .ref a_kept, .ref a_flow, .ref a_side, .ref a_deciders, .ref a_trial, .int f_writtenLength, .int f_actCount, .ref f_grid, va_rf f_sideOf, .int f_sidePipe])), (a_acts, .inl (y.2.2.2, 16, .inr (.inr (.inr (.inr c_acts)))))]) (ro := []) (rest := []) X hQ hct (zc_X8_demandChance l D y x2 x3 (6 : Int32) hst o4 ho4) kf_RX8_160 ⟨(Nat.le_of_ble_eq_true rfl), (Nat.le_of_ble_eq_true rfl)⟩ hP hD hS [] [0, 1] rfl rfl rfl (fun _ h => absurd h List.not_mem_nil) zn0 rfl rfl rfl hl.1 (Nat.le_of_ble_eq_true rfl) dX8_drain_4 ⟨(Nat.le_of_ble_eq_true rfl), (Nat.le_of_ble_eq_true rfl)⟩ (Nat.le_of_ble_eq_true rfl) (Nat.le_of_ble_eq_true rfl) [0, 1] rfl (fun E w hp => ?_) (fun v w hp => ?_)
  · obtain ⟨x4_, rfl, rfl, rfl⟩ := hp
    replace hf := zsr hf
    obtain rfl := Option.some.inj hf
    exact ⟨[], [(a_this, .inr (8, [.ref a_text, .ref a_lattice, .ref a_acts, .ref a_order, .ref a_written, .ref a_withOpen, .ref a_kept, .ref a_flow, .ref a_side, .ref a_deciders, .ref a_trial, .int f_writtenLength, .int f_actCount, .ref f_grid, va_rf f_sideOf, .int f_sidePipe])), (a_acts, .inl (y.2.2.2, 16, .inr (.inr (.inr (.inr c_acts)))))], rfl, ⟨_, rfl, rfl, rfl⟩, rfl⟩
  obtain ⟨o4, rfl, rfl, rfl⟩ := hp
  replace hf := zsl hf
  refine ⟨[], rfl, fun H locs hP hD hS => ?_⟩
  have hP : va_P D vwCl ([(a_this, .inr (8, [.ref a_text, .ref a_lattice, .ref a_acts, .ref a_order, .ref a_written, .ref a_withOpen, .ref a_kept, .ref a_flow, .ref a_side, .ref a_deciders, .ref a_trial, .int f_writtenLength, .int f_actCount, .ref f_grid, va_rf f_sideOf, .int f_sidePipe])), (a_acts, .inl (y.2.2.2, 16, .inr (.inr (.inr (.inr c_acts)))))] ++ zpl LG G) H := hP
  have hD : va_D A ([(a_this, .inr (8, [.ref a_text, .ref a_lattice, .ref a_acts, .ref a_order, .ref a_written, .ref a_withOpen, .ref a_kept, .ref a_flow, .ref a_side, .ref a_deciders, .ref a_trial, .int f_writtenLength, .int f_actCount, .ref f_grid, va_rf f_sideOf, .int f_sidePipe])), (a_acts, .inl (y.2.2.2, 16, .inr (.inr (.inr (.inr c_acts)))))] ++ zpl LG G) := hD
  show W p l e rm_X8_drain s m args below meth c H locs _ _ Q (F0 m 7 ls [])
  refine lv_aload_n hx hb dX8_drain_7 rfl (lv_at hl 0 rfl) ?_
  refine lv_aload_n hx hb dX8_drain_8 rfl (lv_at hl 0 rfl) ?_
  refine zget X hP 0 rfl rfl inF8 13 (by decide) q_283 rfl dX8_drain_9 ?_
  refine lv_aload_n hx hb dX8_drain_12 rfl (lv_at hl 0 rfl) ?_
  refine lv_iload_n hx hb dX8_drain_13 rfl (lv_at hl 1 rfl) ?_
  refine lv_iload_n hx hb dX8_drain_14 rfl (lv_at hl 2 rfl) ?_
  refine lv_iload_n hx hb dX8_drain_15 rfl (lv_at hl 3 rfl) ?_
  obtain ⟨o16, ho16, hf⟩ := zb hf
  refine zVr1 (Xs := [(a_this, .inr (8, [.ref a_text, .ref a_lattice, .ref a_acts, .ref a_order, .ref a_written, .ref a_withOpen, .ref a_kept, .ref a_flow, .ref a_side, .ref a_deciders, .ref a_trial, .int f_writtenLength, .int f_actCount, .ref f_grid, va_rf f_sideOf, .int f_sidePipe])), (a_acts, .inl (y.2.2.2, 16, .inr (.inr (.inr (.inr c_acts)))))]) (pl := zpl LG G) (cx := [(a_this, .inr (8, [.ref a_text, .ref a_lattice, .ref a_acts, .ref a_order, .ref a_written, .ref a_withOpen, .ref a_kept, .ref a_flow, .ref a_side, .ref a_deciders, .ref a_trial, .int f_writtenLength, .int f_actCount, .ref f_grid, va_rf f_sideOf, .int f_sidePipe]))]) (wr := [(a_acts, .inl (y.2.2.2, 16, .inr (.inr (.inr (.inr c_acts)))))]) (ro := zpl LG G) (w1 := [(a_this, .inr (8, [.ref a_text, .ref a_lattice, .ref a_acts, .ref a_order, .ref a_written, .ref a_withOpen, .ref a_kept, .ref a_flow, .ref a_side, .ref a_deciders, .ref a_trial, .int f_writtenLength, .int f_actCount, .ref f_grid, va_rf f_sideOf, .int f_sidePipe]))]) (rest := [.ref f_grid, .ref a_this]) X (zc_X8_drawOpen l D y a_this a_text a_lattice a_acts a_order a_written a_withOpen a_kept a_flow a_side a_deciders a_trial f_writtenLength f_actCount f_grid f_sideOf f_sidePipe x1 x2 x3 LG G hg o16 ho16) kf_RX8_164 ⟨(Nat.le_of_ble_eq_true rfl), (Nat.le_of_ble_eq_true rfl)⟩ hP hD hS [0] [1] rfl rfl rfl (fun _ h => h) (znp hD) rfl rfl rfl (zme (q0 := 0) rfl) rfl rfl hl.1 (Nat.le_of_ble_eq_true rfl) dX8_drain_16 ⟨(Nat.le_of_ble_eq_true rfl), (Nat.le_of_ble_eq_true rfl)⟩ (fun H locs hP hD hS => ?_)
  have hP : va_P D vwCl ([(a_acts, .inl (y.2.2.2, 16, .inr (.inr (.inr (.inr c_acts))))), (a_this, .inr (8, [.ref a_text, .ref a_lattice, .ref a_acts, .ref a_order, .ref a_written, .ref a_withOpen, .ref a_kept, .ref a_flow, .ref a_side, .ref a_deciders, .ref a_trial, .int f_writtenLength, .int f_actCount, .ref f_grid, va_rf f_sideOf, .int f_sidePipe]))] ++ zpl LG G) H := hP
  have hD : va_D A ([(a_acts, .inl (y.2.2.2, 16, .inr (.inr (.inr (.inr c_acts))))), (a_this, .inr (8, [.ref a_text, .ref a_lattice, .ref a_acts, .ref a_order, .ref a_written, .ref a_withOpen, .ref a_kept, .ref a_flow, .ref a_side, .ref a_deciders, .ref a_trial, .int f_writtenLength, .int f_actCount, .ref f_grid, va_rf f_sideOf, .int f_sidePipe]))] ++ zpl LG G) := hD
  obtain ⟨o19, ho19, hf⟩ := zb hf
  refine zVrg (Xs := [(a_acts, .inl (y.2.2.2, 16, .inr (.inr (.inr (.inr c_acts))))), (a_this, .inr (8, [.ref a_text, .ref a_lattice, .ref a_acts, .ref a_order, .ref a_written, .ref a_withOpen, .ref a_kept, .ref a_flow, .ref a_side, .ref a_deciders, .ref a_trial, .int f_writtenLength, .int f_actCount, .ref f_grid, va_rf f_sideOf, .int f_sidePipe]))]) (pl := zpl LG G) (cx := []) (wr := [(a_acts, .inl (y.2.2.2, 16, .inr (.inr (.inr (.inr c_acts))))), (a_this, .inr (8, [.ref a_text, .ref a_lattice, .ref a_acts, .ref a_order, .ref a_written, .ref a_withOpen, .ref a_kept, .ref a_flow, .ref a_side, .ref a_deciders, .ref a_trial, .int f_writtenLength, .int f_actCount, .ref f_grid, va_rf f_sideOf, .int f_sidePipe]))]) (ro := [(f_grid, zgE (G f_grid))]) (rest := [.ref a_this]) X (zc_X2_drained l D y f_grid ((G f_grid).1) ((G f_grid).2.1) ((G f_grid).2.2.1) ((G f_grid).2.2.2.1) ((G f_grid).2.2.2.2.1) ((G f_grid).2.2.2.2.2.1) ((G f_grid).2.2.2.2.2.2.1) ((G f_grid).2.2.2.2.2.2.2) o16 o19 ho19) kf_RX8_168 ⟨(Nat.le_of_ble_eq_true rfl), (Nat.le_of_ble_eq_true rfl)⟩ hP hD hS [] [0, 1] rfl rfl rfl (zro1 hg) zn1 rfl rfl (zmg hg) rfl rfl hl.1 (Nat.le_of_ble_eq_true rfl) dX8_drain_19 ⟨(Nat.le_of_ble_eq_true rfl), (Nat.le_of_ble_eq_true rfl)⟩ (fun v w hp => ?_)
  obtain ⟨a_nw19, rfl, rfl⟩ := hp
  refine ⟨[(a_nw19, zgE o19)], rfl, fun H locs hP hD hS => ?_⟩
  have hP : va_P D vwCl ([(a_acts, .inl (y.2.2.2, 16, .inr (.inr (.inr (.inr c_acts))))), (a_this, .inr (8, [.ref a_text, .ref a_lattice, .ref a_acts, .ref a_order, .ref a_written, .ref a_withOpen, .ref a_kept, .ref a_flow, .ref a_side, .ref a_deciders, .ref a_trial, .int f_writtenLength, .int f_actCount, .ref f_grid, va_rf f_sideOf, .int f_sidePipe])), (a_nw19, .inr (2, [.int o19.1, .int o19.2.1, .long o19.2.2.1, .long o19.2.2.2.1, .long o19.2.2.2.2.1, .long o19.2.2.2.2.2.1, .long o19.2.2.2.2.2.2.1, .long o19.2.2.2.2.2.2.2]))] ++ zpl LG G) H := hP
  have hD : va_D A ([(a_acts, .inl (y.2.2.2, 16, .inr (.inr (.inr (.inr c_acts))))), (a_this, .inr (8, [.ref a_text, .ref a_lattice, .ref a_acts, .ref a_order, .ref a_written, .ref a_withOpen, .ref a_kept, .ref a_flow, .ref a_side, .ref a_deciders, .ref a_trial, .int f_writtenLength, .int f_actCount, .ref f_grid, va_rf f_sideOf, .int f_sidePipe])), (a_nw19, .inr (2, [.int o19.1, .int o19.2.1, .long o19.2.2.1, .long o19.2.2.2.1, .long o19.2.2.2.2.1, .long o19.2.2.2.2.2.1, .long o19.2.2.2.2.2.2.1, .long o19.2.2.2.2.2.2.2]))] ++ zpl LG G) := hD
  show W p l e rm_X8_drain s m args below meth c H locs _ _ Q (F0 m 22 ls [.ref a_nw19, .ref a_this])
  obtain ⟨o22, ho22, hf⟩ := zb hf
  refine zVr0 (Xs := [(a_acts, .inl (y.2.2.2, 16, .inr (.inr (.inr (.inr c_acts))))), (a_this, .inr (8, [.ref a_text, .ref a_lattice, .ref a_acts, .ref a_order, .ref a_written, .ref a_withOpen, .ref a_kept, .ref a_flow, .ref a_side, .ref a_deciders, .ref a_trial, .int f_writtenLength, .int f_actCount, .ref f_grid, va_rf f_sideOf, .int f_sidePipe])), (a_nw19, .inr (2, [.int o19.1, .int o19.2.1, .long o19.2.2.1, .long o19.2.2.2.1, .long o19.2.2.2.2.1, .long o19.2.2.2.2.2.1, .long o19.2.2.2.2.2.2.1, .long o19.2.2.2.2.2.2.2]))]) (pl := zpl LG G) (cx := [(a_this, .inr (8, [.ref a_text, .ref a_lattice, .ref a_acts, .ref a_order, .ref a_written, .ref a_withOpen, .ref a_kept, .ref a_flow, .ref a_side, .ref a_deciders, .ref a_trial, .int f_writtenLength, .int f_actCount, .ref f_grid, va_rf f_sideOf, .int f_sidePipe])), (a_acts, .inl (y.2.2.2, 16, .inr (.inr (.inr (.inr c_acts)))))]) (wr := [(a_nw19, .inr (2, [.int o19.1, .int o19.2.1, .long o19.2.2.1, .long o19.2.2.2.1, .long o19.2.2.2.2.1, .long o19.2.2.2.2.2.1, .long o19.2.2.2.2.2.2.1, .long o19.2.2.2.2.2.2.2]))]) (ro := zpl LG G) (w1 := [(a_this, .inr (8, [.ref a_text, .ref a_lattice, .ref a_acts, .ref a_order, .ref a_written, .ref a_withOpen, .ref a_kept, .ref a_flow, .ref a_side, .ref a_deciders, .ref a_trial, .int f_writtenLength, .int o22.1, .ref a_nw19, va_rf f_sideOf, .int f_sidePipe])), (a_acts, .inl (y.2.2.2, 16, .inr (.inr (.inr (.inr o22.2)))))]) (rest := []) X (zc_X8_act l D y a_this a_text a_lattice a_acts a_order a_written a_withOpen a_kept a_flow a_side a_deciders a_trial f_writtenLength f_actCount f_grid f_sideOf f_sidePipe c_acts a_nw19 LG G hg o22 ho22) kf_RX8_146 ⟨(Nat.le_of_ble_eq_true rfl), (Nat.le_of_ble_eq_true rfl)⟩ hP hD hS [1, 0] [2] rfl rfl rfl (fun _ h => h) (znp hD) rfl rfl rfl (zme (q0 := 1) rfl) rfl rfl hl.1 (Nat.le_of_ble_eq_true rfl) dX8_drain_22 ⟨(Nat.le_of_ble_eq_true rfl), (Nat.le_of_ble_eq_true rfl)⟩ (fun H locs hP hD hS => ?_)
  have hP : va_P D vwCl ([(a_nw19, .inr (2, [.int o19.1, .int o19.2.1, .long o19.2.2.1, .long o19.2.2.2.1, .long o19.2.2.2.2.1, .long o19.2.2.2.2.2.1, .long o19.2.2.2.2.2.2.1, .long o19.2.2.2.2.2.2.2])), (a_this, .inr (8, [.ref a_text, .ref a_lattice, .ref a_acts, .ref a_order, .ref a_written, .ref a_withOpen, .ref a_kept, .ref a_flow, .ref a_side, .ref a_deciders, .ref a_trial, .int f_writtenLength, .int o22.1, .ref a_nw19, va_rf f_sideOf, .int f_sidePipe])), (a_acts, .inl (y.2.2.2, 16, .inr (.inr (.inr (.inr o22.2)))))] ++ zpl LG G) H := hP
  have hD : va_D A ([(a_nw19, .inr (2, [.int o19.1, .int o19.2.1, .long o19.2.2.1, .long o19.2.2.2.1, .long o19.2.2.2.2.1, .long o19.2.2.2.2.2.1, .long o19.2.2.2.2.2.2.1, .long o19.2.2.2.2.2.2.2])), (a_this, .inr (8, [.ref a_text, .ref a_lattice, .ref a_acts, .ref a_order, .ref a_written, .ref a_withOpen, .ref a_kept, .ref a_flow, .ref a_side, .ref a_deciders, .ref a_trial, .int f_writtenLength, .int o22.1, .ref a_nw19, va_rf f_sideOf, .int f_sidePipe])), (a_acts, .inl (y.2.2.2, 16, .inr (.inr (.inr (.inr o22.2)))))] ++ zpl LG G) := hD
  refine lv_aload_n hx hb dX8_drain_25 rfl (lv_at hl 0 rfl) ?_
  refine zget X hP 1 rfl rfl inF8 13 (by decide) q_283 rfl dX8_drain_26 ?_
  refine lv_aload_n hx hb dX8_drain_29 rfl (lv_at hl 0 rfl) ?_
  refine zget X hP 1 rfl rfl inF8 13 (by decide) q_283 rfl dX8_drain_30 ?_
  refine zget X hP 0 rfl rfl inF2 5 (by decide) q_248 rfl dX8_drain_33 ?_
  obtain ⟨o36, ho36, hf⟩ := zb hf
  refine zVr1 (Xs := [(a_nw19, .inr (2, [.int o19.1, .int o19.2.1, .long o19.2.2.1, .long o19.2.2.2.1, .long o19.2.2.2.2.1, .long o19.2.2.2.2.2.1, .long o19.2.2.2.2.2.2.1, .long o19.2.2.2.2.2.2.2])), (a_this, .inr (8, [.ref a_text, .ref a_lattice, .ref a_acts, .ref a_order, .ref a_written, .ref a_withOpen, .ref a_kept, .ref a_flow, .ref a_side, .ref a_deciders, .ref a_trial, .int f_writtenLength, .int o22.1, .ref a_nw19, va_rf f_sideOf, .int f_sidePipe])), (a_acts, .inl (y.2.2.2, 16, .inr (.inr (.inr (.inr o22.2)))))]) (pl := zpl LG G) (cx := [(a_nw19, .inr (2, [.int o19.1, .int o19.2.1, .long o19.2.2.1, .long o19.2.2.2.1, .long o19.2.2.2.2.1, .long o19.2.2.2.2.2.1, .long o19.2.2.2.2.2.2.1, .long o19.2.2.2.2.2.2.2]))]) (wr := [(a_this, .inr (8, [.ref a_text, .ref a_lattice, .ref a_acts, .ref a_order, .ref a_written, .ref a_withOpen, .ref a_kept, .ref a_flow, .ref a_side, .ref a_deciders, .ref a_trial, .int f_writtenLength, .int o22.1, .ref a_nw19, va_rf f_sideOf, .int f_sidePipe])), (a_acts, .inl (y.2.2.2, 16, .inr (.inr (.inr (.inr o22.2)))))]) (ro := []) (w1 := [(a_nw19, .inr (2, [.int o19.1, .int o19.2.1, .long o19.2.2.1, .long o19.2.2.2.1, .long o19.2.2.2.2.1, .long o19.2.2.2.2.2.1, .long o19.2.2.2.2.2.2.1, .long o19.2.2.2.2.2.2.2]))]) (rest := []) X (zc_X2_joinsBy l D y a_nw19 o19.1 o19.2.1 o19.2.2.1 o19.2.2.2.1 o19.2.2.2.2.1 o19.2.2.2.2.2.1 o19.2.2.2.2.2.2.1 o19.2.2.2.2.2.2.2 o19.2.2.2.2.2.1 o36 ho36) kf_RX8_176 ⟨(Nat.le_of_ble_eq_true rfl), (Nat.le_of_ble_eq_true rfl)⟩ hP hD hS [0] [1, 2] rfl rfl rfl (fun _ h => absurd h List.not_mem_nil) zn0 rfl rfl rfl (zme (q0 := 0) rfl) rfl rfl hl.1 (Nat.le_of_ble_eq_true rfl) dX8_drain_36 ⟨(Nat.le_of_ble_eq_true rfl), (Nat.le_of_ble_eq_true rfl)⟩ (fun H locs hP hD hS => ?_)
  have hP : va_P D vwCl ([(a_this, .inr (8, [.ref a_text, .ref a_lattice, .ref a_acts, .ref a_order, .ref a_written, .ref a_withOpen, .ref a_kept, .ref a_flow, .ref a_side, .ref a_deciders, .ref a_trial, .int f_writtenLength, .int o22.1, .ref a_nw19, va_rf f_sideOf, .int f_sidePipe])), (a_acts, .inl (y.2.2.2, 16, .inr (.inr (.inr (.inr o22.2))))), (a_nw19, .inr (2, [.int o19.1, .int o19.2.1, .long o19.2.2.1, .long o19.2.2.2.1, .long o19.2.2.2.2.1, .long o19.2.2.2.2.2.1, .long o19.2.2.2.2.2.2.1, .long o19.2.2.2.2.2.2.2]))] ++ zpl LG G) H := hP
  have hD : va_D A ([(a_this, .inr (8, [.ref a_text, .ref a_lattice, .ref a_acts, .ref a_order, .ref a_written, .ref a_withOpen, .ref a_kept, .ref a_flow, .ref a_side, .ref a_deciders, .ref a_trial, .int f_writtenLength, .int o22.1, .ref a_nw19, va_rf f_sideOf, .int f_sidePipe])), (a_acts, .inl (y.2.2.2, 16, .inr (.inr (.inr (.inr o22.2))))), (a_nw19, .inr (2, [.int o19.1, .int o19.2.1, .long o19.2.2.1, .long o19.2.2.2.1, .long o19.2.2.2.2.1, .long o19.2.2.2.2.2.1, .long o19.2.2.2.2.2.2.1, .long o19.2.2.2.2.2.2.2]))] ++ zpl LG G) := hD
  obtain ⟨nb39, hf⟩ := zbt hf
  obtain ⟨hq, hP, hD⟩ := zpush (X := [(a_this, .inr (8, [.ref a_text, .ref a_lattice, .ref a_acts, .ref a_order, .ref a_written, .ref a_withOpen, .ref a_kept, .ref a_flow, .ref a_side, .ref a_deciders, .ref a_trial, .int f_writtenLength, .int o22.1, .ref a_nw19, va_rf f_sideOf, .int f_sidePipe])), (a_acts, .inl (y.2.2.2, 16, .inr (.inr (.inr (.inr o22.2)))))]) (q := a_nw19) (d := o19) (hP.part [0, 1, 2] rfl) (hD.part [0, 1, 2] rfl rfl)
  obtain rfl := Option.some.inj hf
  exact zretix X hQ hP hD hS ⟨_, rfl, ⟨_, hq, rfl, rfl⟩⟩ nb39.1 dX8_drain_39 (Nat.le_of_ble_eq_true rfl) (Nat.le_of_ble_eq_true rfl)


abbrev rm_X8_undo : Room := { frames := 0, cells := 0, slots := 0, locals := 0 }
def zf_X8_undo (f_actCount : Int32) (f_grid : Nat) (c_acts : Nat → Option Nat) : Option (Int32 × Int32 × Nat) :=
  if f_actCount ≤ 0 then (some ((-1 : Int32), f_actCount, f_grid)) else (if f_actCount ≤ (16 : Int32) then (if zgd (f_actCount - (1 : Int32)) 16 = true then (Option.elim (c_acts (f_actCount - (1 : Int32)).toNatClampNeg) (some (f_actCount - (1 : Int32), f_actCount - (1 : Int32), f_grid)) (fun y36 => some (f_actCount - (1 : Int32), f_actCount - (1 : Int32), y36))) else none) else (some ((-1 : Int32), f_actCount, f_grid)))
set_option maxHeartbeats 4000000 in
set_option maxRecDepth 100000 in
theorem zc_X8_undo (l : Launch) (D : va_G) (y : zY) (a_this a_text a_lattice a_acts a_order a_written a_withOpen a_kept a_flow a_side a_deciders a_trial : Nat) (f_writtenLength : Int32) (f_actCount : Int32) (f_grid : Nat) (f_sideOf : Option Nat) (f_sidePipe : Int32) (c_acts : Nat → Option Nat) (out : Int32 × Int32 × Nat) (hf : zf_X8_undo f_actCount f_grid c_acts = some out) : zC l D y yX8_undo cX8_undo 2 (some .int) rm_X8_undo [.ref a_this] [(a_this, .inr (8, [.ref a_text, .ref a_lattice, .ref a_acts, .ref a_order, .ref a_written, .ref a_withOpen, .ref a_kept, .ref a_flow, .ref a_side, .ref a_deciders, .ref a_trial, .int f_writtenLength, .int f_actCount, .ref f_grid, va_rf f_sideOf, .int f_sidePipe])), (a_acts, .inl (y.2.2.2, 16, .inr (.inr (.inr (.inr c_acts)))))] (zE (some (.int out.1)) [(a_this, .inr (8, [.ref a_text, .ref a_lattice, .ref a_acts, .ref a_order, .ref a_written, .ref a_withOpen, .ref a_kept, .ref a_flow, .ref a_side, .ref a_deciders, .ref a_trial, .int f_writtenLength, .int out.2.1, .ref out.2.2, va_rf f_sideOf, .int f_sidePipe])), (a_acts, .inl (y.2.2.2, 16, .inr (.inr (.inr (.inr c_acts)))))]) := by
  refine zmk (by decide) (Nat.le_of_ble_eq_true rfl) ?_
  intro p e s m args below meth c A Q ls X hQ hnm hP hD hS hl
  have X : zX p s m args meth c D y A RX8 cX8_undo 2 (some .int) := X
  obtain ⟨hx, hb, hr, hml, hown, hts, hK, hA, hlocks⟩ := id X
  have hl : lv_has ls 2 [(0, .ref a_this)] := hl
  unfold zf_X8_undo at hf
  refine lv_aload_n hx hb dX8_undo_0 rfl (lv_at hl 0 rfl) ?_
  refine zget X hP 0 rfl rfl inF8 12 (by decide) q_282 rfl dX8_undo_1 ?_
  refine lv_if_le (tgt := 16) hx hb dX8_undo_4 (by decide) (fun c4 => ?_) (fun c4 => ?_)
  · replace hf := zt c4 hf
    refine lv_iconst (v := -1) hx hb dX8_undo_16 (by decide) ?_
    obtain rfl := Option.some.inj hf
    exact zreti X hQ hP hD hS ⟨rfl, rfl⟩ rfl dX8_undo_17 (Nat.le_of_ble_eq_true rfl) (Nat.le_of_ble_eq_true rfl)
  · replace hf := ze c4 hf
    refine lv_aload_n hx hb dX8_undo_7 rfl (lv_at hl 0 rfl) ?_
    refine zget X hP 0 rfl rfl inF8 12 (by decide) q_282 rfl dX8_undo_8 ?_
    refine lv_bipush (v := 16) hx hb dX8_undo_11 (by decide) ?_
    refine lv_icmp_le (tgt := 18) hx hb dX8_undo_13 (by decide) (fun c13 => ?_) (fun c13 => ?_)
    · replace hf := zt c13 hf
      refine lv_aload_n hx hb dX8_undo_18 rfl (lv_at hl 0 rfl) ?_
      refine lv_dup hx hb dX8_undo_19 rfl ?_
      refine zget X hP 0 rfl rfl inF8 12 (by decide) q_282 rfl dX8_undo_20 ?_
      refine lv_iconst (v := 1) hx hb dX8_undo_23 (by decide) ?_
      refine lv_isub hx hb dX8_undo_24 ?_
      refine zput (ty := .int) X hP hD hS 0 rfl rfl inF8 tyX8_ok nmX8 12 (by decide) q_282 rfl rfl rfl rfl (Nat.le_of_ble_eq_true rfl) dX8_undo_25 (fun H locs hP hD hS => ?_)
      have hP : va_P D vwCl [(a_this, .inr (8, [.ref a_text, .ref a_lattice, .ref a_acts, .ref a_order, .ref a_written, .ref a_withOpen, .ref a_kept, .ref a_flow, .ref a_side, .ref a_deciders, .ref a_trial, .int f_writtenLength, .int (f_actCount - (1 : Int32)), .ref f_grid, va_rf f_sideOf, .int f_sidePipe])), (a_acts, .inl (y.2.2.2, 16, .inr (.inr (.inr (.inr c_acts)))))] H := hP
      have hD : va_D A [(a_this, .inr (8, [.ref a_text, .ref a_lattice, .ref a_acts, .ref a_order, .ref a_written, .ref a_withOpen, .ref a_kept, .ref a_flow, .ref a_side, .ref a_deciders, .ref a_trial, .int f_writtenLength, .int (f_actCount - (1 : Int32)), .ref f_grid, va_rf f_sideOf, .int f_sidePipe])), (a_acts, .inl (y.2.2.2, 16, .inr (.inr (.inr (.inr c_acts)))))] := hD
      refine lv_aload_n hx hb dX8_undo_28 rfl (lv_at hl 0 rfl) ?_
      refine zget X hP 0 rfl rfl inF8 2 (by decide) q_272 rfl dX8_undo_29 ?_
      refine lv_aload_n hx hb dX8_undo_32 rfl (lv_at hl 0 rfl) ?_
      refine zget X hP 0 rfl rfl inF8 12 (by decide) q_282 rfl dX8_undo_33 ?_
      obtain ⟨g36, hf⟩ := zg hf
      refine va_aldq hx hb hK hP 1 3 rfl rfl g36 dX8_undo_36 ?_
      refine zcaseO (fun c36 => ?_) (fun y36 c36 => ?_)
      · replace hf := zoN c36 hf
        refine lv_astore_nN (lv' := [(1, .null), (0, .ref a_this)]) hx hb dX8_undo_37 rfl hl (by decide) rfl (fun ls hl => ?_)
        refine lv_aload_nN hx hb dX8_undo_38 rfl (lv_at hl 0 rfl) ?_
        refine lv_ifnullN (tgt := 47) hx hb dX8_undo_39 (by decide) ?_
        refine lv_aload_n hx hb dX8_undo_47 rfl (lv_at hl 1 rfl) ?_
        refine zget X hP 0 rfl rfl inF8 12 (by decide) q_282 rfl dX8_undo_48 ?_
        obtain rfl := Option.some.inj hf
        exact zreti X hQ hP hD hS ⟨rfl, rfl⟩ rfl dX8_undo_51 (Nat.le_of_ble_eq_true rfl) (Nat.le_of_ble_eq_true rfl)
      · replace hf := zoS c36 hf
        refine lv_astore_n (lv' := [(1, .ref y36), (0, .ref a_this)]) hx hb dX8_undo_37 rfl hl (by decide) rfl (fun ls hl => ?_)
        refine lv_aload_n hx hb dX8_undo_38 rfl (lv_at hl 0 rfl) ?_
        refine lv_ifnull hx hb dX8_undo_39 ?_
        refine lv_aload_n hx hb dX8_undo_42 rfl (lv_at hl 1 rfl) ?_
        refine lv_aload_n hx hb dX8_undo_43 rfl (lv_at hl 0 rfl) ?_
        refine zput (ty := (.object "WaterGrid$Grid")) X hP hD hS 0 rfl rfl inF8 tyX8_ok nmX8 13 (by decide) q_283 rfl rfl rfl rfl (Nat.le_of_ble_eq_true rfl) dX8_undo_44 (fun H locs hP hD hS => ?_)
        have hP : va_P D vwCl [(a_this, .inr (8, [.ref a_text, .ref a_lattice, .ref a_acts, .ref a_order, .ref a_written, .ref a_withOpen, .ref a_kept, .ref a_flow, .ref a_side, .ref a_deciders, .ref a_trial, .int f_writtenLength, .int (f_actCount - (1 : Int32)), .ref y36, va_rf f_sideOf, .int f_sidePipe])), (a_acts, .inl (y.2.2.2, 16, .inr (.inr (.inr (.inr c_acts)))))] H := hP
        have hD : va_D A [(a_this, .inr (8, [.ref a_text, .ref a_lattice, .ref a_acts, .ref a_order, .ref a_written, .ref a_withOpen, .ref a_kept, .ref a_flow, .ref a_side, .ref a_deciders, .ref a_trial, .int f_writtenLength, .int (f_actCount - (1 : Int32)), .ref y36, va_rf f_sideOf, .int f_sidePipe])), (a_acts, .inl (y.2.2.2, 16, .inr (.inr (.inr (.inr c_acts)))))] := hD
        refine lv_aload_n hx hb dX8_undo_47 rfl (lv_at hl 1 rfl) ?_
        refine zget X hP 0 rfl rfl inF8 12 (by decide) q_282 rfl dX8_undo_48 ?_
        obtain rfl := Option.some.inj hf
        exact zreti X hQ hP hD hS ⟨rfl, rfl⟩ rfl dX8_undo_51 (Nat.le_of_ble_eq_true rfl) (Nat.le_of_ble_eq_true rfl)
    · replace hf := ze c13 hf
      refine lv_iconst (v := -1) hx hb dX8_undo_16 (by decide) ?_
      obtain rfl := Option.some.inj hf
      exact zreti X hQ hP hD hS ⟨rfl, rfl⟩ rfl dX8_undo_17 (Nat.le_of_ble_eq_true rfl) (Nat.le_of_ble_eq_true rfl)


abbrev rm_X8_count : Room := { frames := 2, cells := 0, slots := 0, locals := 41 }
def zf_X8_count (f_writtenLength : Int32) (f_actCount : Int32) (x1 : Int32) (g_grid : zGD) : Option (Int32) :=
  (if x1 = (0 : Int32) then (some (g_grid.1)) else (if x1 = (1 : Int32) then (some (g_grid.2.1)) else (if x1 = (2 : Int32) then ((zf_X2_freeCount (g_grid.2.2.2.2.2.2.2)).bind fun o68 =>
  some o68) else (if x1 = (3 : Int32) then ((zf_J13_bitCount_95d88 (g_grid.2.2.2.2.2.1)).bind fun o79 =>
  some o79) else (if x1 = (4 : Int32) then ((zf_J13_bitCount_95d88 (g_grid.2.2.2.2.2.2.1)).bind fun o90 =>
  some o90) else (if x1 = (5 : Int32) then ((zf_J13_bitCount_95d88 (g_grid.2.2.2.2.1)).bind fun o101 =>
  some o101) else (if x1 = (6 : Int32) then (some f_actCount) else (if x1 = (7 : Int32) then (some f_writtenLength) else (some (-1 : Int32))))))))))
set_option maxHeartbeats 4000000 in
set_option maxRecDepth 100000 in
theorem zc_X8_count (l : Launch) (D : va_G) (y : zY) (a_this a_text a_lattice a_acts a_order a_written a_withOpen a_kept a_flow a_side a_deciders a_trial : Nat) (f_writtenLength : Int32) (f_actCount : Int32) (f_grid : Nat) (f_sideOf : Option Nat) (f_sidePipe : Int32) (x1 : Int32) (LG : List Nat) (G : Nat → zGD) (hg : f_grid ∈ LG) (out : Int32) (hf : zf_X8_count f_writtenLength f_actCount x1 (G f_grid) = some out) : zC l D y yX8_count cX8_count 2 (some .int) rm_X8_count [.ref a_this, .int x1] ([(a_this, .inr (8, [.ref a_text, .ref a_lattice, .ref a_acts, .ref a_order, .ref a_written, .ref a_withOpen, .ref a_kept, .ref a_flow, .ref a_side, .ref a_deciders, .ref a_trial, .int f_writtenLength, .int f_actCount, .ref f_grid, va_rf f_sideOf, .int f_sidePipe]))] ++ zpl LG G) (zE (some (.int out)) ([(a_this, .inr (8, [.ref a_text, .ref a_lattice, .ref a_acts, .ref a_order, .ref a_written, .ref a_withOpen, .ref a_kept, .ref a_flow, .ref a_side, .ref a_deciders, .ref a_trial, .int f_writtenLength, .int f_actCount, .ref f_grid, va_rf f_sideOf, .int f_sidePipe]))] ++ zpl LG G)) := by
  refine zmk (by decide) (Nat.le_of_ble_eq_true rfl) ?_
  intro p e s m args below meth c A Q ls X hQ hnm hP hD hS hl
  have X : zX p s m args meth c D y A RX8 cX8_count 2 (some .int) := X
  obtain ⟨hx, hb, hr, hml, hown, hts, hK, hA, hlocks⟩ := id X
  have hl : lv_has ls 2 [(0, .ref a_this), (1, .int x1)] := hl
  unfold zf_X8_count at hf
  refine lv_iload_n hx hb dX8_count_0 rfl (lv_at hl 1 rfl) ?_
  by_cases c1_0 : x1 = (0 : Int32)
  · replace hf := zt c1_0 hf
    refine lv_tableIn (off := 47) (tgt := 48) hx hb dX8_count_1 (by rw [c1_0]; decide) (by rw [c1_0]; decide) (by rw [c1_0]; decide) (by decide) ?_
    refine lv_aload_n hx hb dX8_count_48 rfl (lv_at hl 0 rfl) ?_
    refine zget X hP 0 rfl rfl inF8 13 (by decide) q_283 rfl dX8_count_49 ?_
    refine zgetg X hP hg 0 (by decide) q_239 rfl dX8_count_52 ?_
    obtain rfl := Option.some.inj hf
    exact zreti X hQ hP hD hS ⟨rfl, rfl⟩ rfl dX8_count_55 (Nat.le_of_ble_eq_true rfl) (Nat.le_of_ble_eq_true rfl)
  replace hf := ze c1_0 hf
  by_cases c1_1 : x1 = (1 : Int32)
  · replace hf := zt c1_1 hf
    refine lv_tableIn (off := 55) (tgt := 56) hx hb dX8_count_1 (by rw [c1_1]; decide) (by rw [c1_1]; decide) (by rw [c1_1]; decide) (by decide) ?_
    refine lv_aload_n hx hb dX8_count_56 rfl (lv_at hl 0 rfl) ?_
    refine zget X hP 0 rfl rfl inF8 13 (by decide) q_283 rfl dX8_count_57 ?_
    refine zgetg X hP hg 1 (by decide) q_242 rfl dX8_count_60 ?_
    obtain rfl := Option.some.inj hf
    exact zreti X hQ hP hD hS ⟨rfl, rfl⟩ rfl dX8_count_63 (Nat.le_of_ble_eq_true rfl) (Nat.le_of_ble_eq_true rfl)
  replace hf := ze c1_1 hf
  by_cases c1_2 : x1 = (2 : Int32)
  · replace hf := zt c1_2 hf
    refine lv_tableIn (off := 63) (tgt := 64) hx hb dX8_count_1 (by rw [c1_2]; decide) (by rw [c1_2]; decide) (by rw [c1_2]; decide) (by decide) ?_
    refine lv_aload_n hx hb dX8_count_64 rfl (lv_at hl 0 rfl) ?_
    refine zget X hP 0 rfl rfl inF8 13 (by decide) q_283 rfl dX8_count_65 ?_
    obtain ⟨o68, ho68, hf⟩ := zb hf
    refine zVr1 (Xs := [(a_this, .inr (8, [.ref a_text, .ref a_lattice, .ref a_acts, .ref a_order, .ref a_written, .ref a_withOpen, .ref a_kept, .ref a_flow, .ref a_side, .ref a_deciders, .ref a_trial, .int f_writtenLength, .int f_actCount, .ref f_grid, va_rf f_sideOf, .int f_sidePipe]))]) (pl := zpl LG G) (cx := []) (wr := [(a_this, .inr (8, [.ref a_text, .ref a_lattice, .ref a_acts, .ref a_order, .ref a_written, .ref a_withOpen, .ref a_kept, .ref a_flow, .ref a_side, .ref a_deciders, .ref a_trial, .int f_writtenLength, .int f_actCount, .ref f_grid, va_rf f_sideOf, .int f_sidePipe]))]) (ro := [(f_grid, zgE (G f_grid))]) (w1 := []) (rest := []) X (zc_X2_freeCount l D y f_grid ((G f_grid).1) ((G f_grid).2.1) ((G f_grid).2.2.1) ((G f_grid).2.2.2.1) ((G f_grid).2.2.2.2.1) ((G f_grid).2.2.2.2.2.1) ((G f_grid).2.2.2.2.2.2.1) ((G f_grid).2.2.2.2.2.2.2) o68 ho68) kf_RX8_109 ⟨(Nat.le_of_ble_eq_true rfl), (Nat.le_of_ble_eq_true rfl)⟩ hP hD hS [] [0] rfl rfl rfl (zro1 hg) zn1 rfl rfl rfl (zmg hg) rfl rfl hl.1 (Nat.le_of_ble_eq_true rfl) dX8_count_68 ⟨(Nat.le_of_ble_eq_true rfl), (Nat.le_of_ble_eq_true rfl)⟩ (fun H locs hP hD hS => ?_)
    have hP : va_P D vwCl ([(a_this, .inr (8, [.ref a_text, .ref a_lattice, .ref a_acts, .ref a_order, .ref a_written, .ref a_withOpen, .ref a_kept, .ref a_flow, .ref a_side, .ref a_deciders, .ref a_trial, .int f_writtenLength, .int f_actCount, .ref f_grid, va_rf f_sideOf, .int f_sidePipe]))] ++ zpl LG G) H := hP
    have hD : va_D A ([(a_this, .inr (8, [.ref a_text, .ref a_lattice, .ref a_acts, .ref a_order, .ref a_written, .ref a_withOpen, .ref a_kept, .ref a_flow, .ref a_side, .ref a_deciders, .ref a_trial, .int f_writtenLength, .int f_actCount, .ref f_grid, va_rf f_sideOf, .int f_sidePipe]))] ++ zpl LG G) := hD
    obtain rfl := Option.some.inj hf
    exact zreti X hQ hP hD hS ⟨rfl, rfl⟩ rfl dX8_count_71 (Nat.le_of_ble_eq_true rfl) (Nat.le_of_ble_eq_true rfl)
  replace hf := ze c1_2 hf
  by_cases c1_3 : x1 = (3 : Int32)
  · replace hf := zt c1_3 hf
    refine lv_tableIn (off := 71) (tgt := 72) hx hb dX8_count_1 (by rw [c1_3]; decide) (by rw [c1_3]; decide) (by rw [c1_3]; decide) (by decide) ?_
    refine lv_aload_n hx hb dX8_count_72 rfl (lv_at hl 0 rfl) ?_
    refine zget X hP 0 rfl rfl inF8 13 (by decide) q_283 rfl dX8_count_73 ?_
    refine zgetg X hP hg 5 (by decide) q_248 rfl dX8_count_76 ?_
    obtain ⟨o79, ho79, hf⟩ := zb hf
    refine zSr1 (Xs := [(a_this, .inr (8, [.ref a_text, .ref a_lattice, .ref a_acts, .ref a_order, .ref a_written, .ref a_withOpen, .ref a_kept, .ref a_flow, .ref a_side, .ref a_deciders, .ref a_trial, .int f_writtenLength, .int f_actCount, .ref f_grid, va_rf f_sideOf, .int f_sidePipe]))]) (pl := zpl LG G) (cx := []) (wr := [(a_this, .inr (8, [.ref a_text, .ref a_lattice, .ref a_acts, .ref a_order, .ref a_written, .ref a_withOpen, .ref a_kept, .ref a_flow, .ref a_side, .ref a_deciders, .ref a_trial, .int f_writtenLength, .int f_actCount, .ref f_grid, va_rf f_sideOf, .int f_sidePipe]))]) (ro := []) (w1 := []) (rest := []) X (zc_J13_bitCount_95d88 l D y ((G f_grid).2.2.2.2.2.1) o79 ho79) kf_RX8_312 ⟨(Nat.le_of_ble_eq_true rfl), (Nat.le_of_ble_eq_true rfl)⟩ hP hD hS [] [0] rfl rfl rfl (fun _ h => absurd h List.not_mem_nil) zn0 rfl rfl rfl rfl hl.1 (Nat.le_of_ble_eq_true rfl) dX8_count_79 ⟨(Nat.le_of_ble_eq_true rfl), (Nat.le_of_ble_eq_true rfl)⟩ (fun H locs hP hD hS => ?_)
    have hP : va_P D vwCl ([(a_this, .inr (8, [.ref a_text, .ref a_lattice, .ref a_acts, .ref a_order, .ref a_written, .ref a_withOpen, .ref a_kept, .ref a_flow, .ref a_side, .ref a_deciders, .ref a_trial, .int f_writtenLength, .int f_actCount, .ref f_grid, va_rf f_sideOf, .int f_sidePipe]))] ++ zpl LG G) H := hP
    have hD : va_D A ([(a_this, .inr (8, [.ref a_text, .ref a_lattice, .ref a_acts, .ref a_order, .ref a_written, .ref a_withOpen, .ref a_kept, .ref a_flow, .ref a_side, .ref a_deciders, .ref a_trial, .int f_writtenLength, .int f_actCount, .ref f_grid, va_rf f_sideOf, .int f_sidePipe]))] ++ zpl LG G) := hD
    obtain rfl := Option.some.inj hf
    exact zreti X hQ hP hD hS ⟨rfl, rfl⟩ rfl dX8_count_82 (Nat.le_of_ble_eq_true rfl) (Nat.le_of_ble_eq_true rfl)
  replace hf := ze c1_3 hf
  by_cases c1_4 : x1 = (4 : Int32)
  · replace hf := zt c1_4 hf
    refine lv_tableIn (off := 82) (tgt := 83) hx hb dX8_count_1 (by rw [c1_4]; decide) (by rw [c1_4]; decide) (by rw [c1_4]; decide) (by decide) ?_
    refine lv_aload_n hx hb dX8_count_83 rfl (lv_at hl 0 rfl) ?_
    refine zget X hP 0 rfl rfl inF8 13 (by decide) q_283 rfl dX8_count_84 ?_
    refine zgetg X hP hg 6 (by decide) q_250 rfl dX8_count_87 ?_
    obtain ⟨o90, ho90, hf⟩ := zb hf
    refine zSr1 (Xs := [(a_this, .inr (8, [.ref a_text, .ref a_lattice, .ref a_acts, .ref a_order, .ref a_written, .ref a_withOpen, .ref a_kept, .ref a_flow, .ref a_side, .ref a_deciders, .ref a_trial, .int f_writtenLength, .int f_actCount, .ref f_grid, va_rf f_sideOf, .int f_sidePipe]))]) (pl := zpl LG G) (cx := []) (wr := [(a_this, .inr (8, [.ref a_text, .ref a_lattice, .ref a_acts, .ref a_order, .ref a_written, .ref a_withOpen, .ref a_kept, .ref a_flow, .ref a_side, .ref a_deciders, .ref a_trial, .int f_writtenLength, .int f_actCount, .ref f_grid, va_rf f_sideOf, .int f_sidePipe]))]) (ro := []) (w1 := []) (rest := []) X (zc_J13_bitCount_95d88 l D y ((G f_grid).2.2.2.2.2.2.1) o90 ho90) kf_RX8_312 ⟨(Nat.le_of_ble_eq_true rfl), (Nat.le_of_ble_eq_true rfl)⟩ hP hD hS [] [0] rfl rfl rfl (fun _ h => absurd h List.not_mem_nil) zn0 rfl rfl rfl rfl hl.1 (Nat.le_of_ble_eq_true rfl) dX8_count_90 ⟨(Nat.le_of_ble_eq_true rfl), (Nat.le_of_ble_eq_true rfl)⟩ (fun H locs hP hD hS => ?_)
    have hP : va_P D vwCl ([(a_this, .inr (8, [.ref a_text, .ref a_lattice, .ref a_acts, .ref a_order, .ref a_written, .ref a_withOpen, .ref a_kept, .ref a_flow, .ref a_side, .ref a_deciders, .ref a_trial, .int f_writtenLength, .int f_actCount, .ref f_grid, va_rf f_sideOf, .int f_sidePipe]))] ++ zpl LG G) H := hP
    have hD : va_D A ([(a_this, .inr (8, [.ref a_text, .ref a_lattice, .ref a_acts, .ref a_order, .ref a_written, .ref a_withOpen, .ref a_kept, .ref a_flow, .ref a_side, .ref a_deciders, .ref a_trial, .int f_writtenLength, .int f_actCount, .ref f_grid, va_rf f_sideOf, .int f_sidePipe]))] ++ zpl LG G) := hD
    obtain rfl := Option.some.inj hf
    exact zreti X hQ hP hD hS ⟨rfl, rfl⟩ rfl dX8_count_93 (Nat.le_of_ble_eq_true rfl) (Nat.le_of_ble_eq_true rfl)
  replace hf := ze c1_4 hf
  by_cases c1_5 : x1 = (5 : Int32)
  · replace hf := zt c1_5 hf
    refine lv_tableIn (off := 93) (tgt := 94) hx hb dX8_count_1 (by rw [c1_5]; decide) (by rw [c1_5]; decide) (by rw [c1_5]; decide) (by decide) ?_
    refine lv_aload_n hx hb dX8_count_94 rfl (lv_at hl 0 rfl) ?_
    refine zget X hP 0 rfl rfl inF8 13 (by decide) q_283 rfl dX8_count_95 ?_
    refine zgetg X hP hg 4 (by decide) q_246 rfl dX8_count_98 ?_
    obtain ⟨o101, ho101, hf⟩ := zb hf
    refine zSr1 (Xs := [(a_this, .inr (8, [.ref a_text, .ref a_lattice, .ref a_acts, .ref a_order, .ref a_written, .ref a_withOpen, .ref a_kept, .ref a_flow, .ref a_side, .ref a_deciders, .ref a_trial, .int f_writtenLength, .int f_actCount, .ref f_grid, va_rf f_sideOf, .int f_sidePipe]))]) (pl := zpl LG G) (cx := []) (wr := [(a_this, .inr (8, [.ref a_text, .ref a_lattice, .ref a_acts, .ref a_order, .ref a_written, .ref a_withOpen, .ref a_kept, .ref a_flow, .ref a_side, .ref a_deciders, .ref a_trial, .int f_writtenLength, .int f_actCount, .ref f_grid, va_rf f_sideOf, .int f_sidePipe]))]) (ro := []) (w1 := []) (rest := []) X (zc_J13_bitCount_95d88 l D y ((G f_grid).2.2.2.2.1) o101 ho101) kf_RX8_312 ⟨(Nat.le_of_ble_eq_true rfl), (Nat.le_of_ble_eq_true rfl)⟩ hP hD hS [] [0] rfl rfl rfl (fun _ h => absurd h List.not_mem_nil) zn0 rfl rfl rfl rfl hl.1 (Nat.le_of_ble_eq_true rfl) dX8_count_101 ⟨(Nat.le_of_ble_eq_true rfl), (Nat.le_of_ble_eq_true rfl)⟩ (fun H locs hP hD hS => ?_)
    have hP : va_P D vwCl ([(a_this, .inr (8, [.ref a_text, .ref a_lattice, .ref a_acts, .ref a_order, .ref a_written, .ref a_withOpen, .ref a_kept, .ref a_flow, .ref a_side, .ref a_deciders, .ref a_trial, .int f_writtenLength, .int f_actCount, .ref f_grid, va_rf f_sideOf, .int f_sidePipe]))] ++ zpl LG G) H := hP
    have hD : va_D A ([(a_this, .inr (8, [.ref a_text, .ref a_lattice, .ref a_acts, .ref a_order, .ref a_written, .ref a_withOpen, .ref a_kept, .ref a_flow, .ref a_side, .ref a_deciders, .ref a_trial, .int f_writtenLength, .int f_actCount, .ref f_grid, va_rf f_sideOf, .int f_sidePipe]))] ++ zpl LG G) := hD
    obtain rfl := Option.some.inj hf
    exact zreti X hQ hP hD hS ⟨rfl, rfl⟩ rfl dX8_count_104 (Nat.le_of_ble_eq_true rfl) (Nat.le_of_ble_eq_true rfl)
  replace hf := ze c1_5 hf
  by_cases c1_6 : x1 = (6 : Int32)
  · replace hf := zt c1_6 hf
    refine lv_tableIn (off := 104) (tgt := 105) hx hb dX8_count_1 (by rw [c1_6]; decide) (by rw [c1_6]; decide) (by rw [c1_6]; decide) (by decide) ?_
    refine lv_aload_n hx hb dX8_count_105 rfl (lv_at hl 0 rfl) ?_
    refine zget X hP 0 rfl rfl inF8 12 (by decide) q_282 rfl dX8_count_106 ?_
    obtain rfl := Option.some.inj hf
    exact zreti X hQ hP hD hS ⟨rfl, rfl⟩ rfl dX8_count_109 (Nat.le_of_ble_eq_true rfl) (Nat.le_of_ble_eq_true rfl)
  replace hf := ze c1_6 hf
  by_cases c1_7 : x1 = (7 : Int32)
  · replace hf := zt c1_7 hf
    refine lv_tableIn (off := 109) (tgt := 110) hx hb dX8_count_1 (by rw [c1_7]; decide) (by rw [c1_7]; decide) (by rw [c1_7]; decide) (by decide) ?_
    refine lv_aload_n hx hb dX8_count_110 rfl (lv_at hl 0 rfl) ?_
    refine zget X hP 0 rfl rfl inF8 11 (by decide) q_281 rfl dX8_count_111 ?_
    obtain rfl := Option.some.inj hf
    exact zreti X hQ hP hD hS ⟨rfl, rfl⟩ rfl dX8_count_114 (Nat.le_of_ble_eq_true rfl) (Nat.le_of_ble_eq_true rfl)
  replace hf := ze c1_7 hf
  refine lv_tableOut (tgt := 115) hx hb dX8_count_1 (ztsO (n := 7) (by decide) (fun k hk => by
    rcases (show k = 0 ∨ k = 1 ∨ k = 2 ∨ k = 3 ∨ k = 4 ∨ k = 5 ∨ k = 6 ∨ k = 7 by omega) with rfl | rfl | rfl | rfl | rfl | rfl | rfl | rfl
    · exact c1_0
    · exact c1_1
    · exact c1_2
    · exact c1_3
    · exact c1_4
    · exact c1_5
    · exact c1_6
    · exact c1_7
    )) (by decide) ?_
  refine lv_iconst (v := -1) hx hb dX8_count_115 (by decide) ?_
  obtain rfl := Option.some.inj hf
  exact zreti X hQ hP hD hS ⟨rfl, rfl⟩ rfl dX8_count_116 (Nat.le_of_ble_eq_true rfl) (Nat.le_of_ble_eq_true rfl)

