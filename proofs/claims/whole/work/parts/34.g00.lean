theorem kf_RX2_28 : zCB RX2 28 yX2_pipesOf cX2_pipesOf 6 (some .long) 2 ∧ Cond.static yX2_pipesOf ∈ wAll := ⟨⟨q_230, q_8, q_228, by decide +kernel⟩, q_229⟩
abbrev rm_X2_init : Room := { frames := 2, cells := 0, slots := 0, locals := 51 }
def zf_X2_init (x1 : Int32) (x2 : Int32) (x3 : Int64) (x5 : Int64) (x7 : Int64) : Option (Int32 × Int32 × Int64 × Int64 × Int64 × Int64 × Int64 × Int64) :=
  (zf_X2_pipesOf x1 x2).bind fun o33 =>
  some (x1, x2, x3, x5, x7, x3 &&& (((((x7 ||| (zlushr x7 (2 : Int32))) ||| (zlshl x7 (1 : Int32))) ||| (zlshl (zlushr x7 (10 : Int32)) (1 : Int32))) &&& o33) ^^^ (-1 : Int64)), x5 ||| ((((x7 ||| (zlushr x7 (2 : Int32))) ||| (zlshl x7 (1 : Int32))) ||| (zlshl (zlushr x7 (10 : Int32)) (1 : Int32))) &&& o33), (o33 &&& ((x3 &&& (((((x7 ||| (zlushr x7 (2 : Int32))) ||| (zlshl x7 (1 : Int32))) ||| (zlshl (zlushr x7 (10 : Int32)) (1 : Int32))) &&& o33) ^^^ (-1 : Int64))) ^^^ (-1 : Int64))) &&& ((x5 ||| ((((x7 ||| (zlushr x7 (2 : Int32))) ||| (zlshl x7 (1 : Int32))) ||| (zlshl (zlushr x7 (10 : Int32)) (1 : Int32))) &&& o33)) ^^^ (-1 : Int64)))
set_option maxHeartbeats 4000000 in
set_option maxRecDepth 100000 in
theorem zc_X2_init (l : Launch) (D : va_G) (y : zY) (a_this : Nat) (x1 : Int32) (x2 : Int32) (x3 : Int64) (x5 : Int64) (x7 : Int64) (out : Int32 × Int32 × Int64 × Int64 × Int64 × Int64 × Int64 × Int64) (hf : zf_X2_init x1 x2 x3 x5 x7 = some out) : zC l D y yX2_init cX2_init 13 (none : Option Jvm.ClassFile.FieldType) rm_X2_init [.ref a_this, .int x1, .int x2, .long x3, .long x5, .long x7] [(a_this, .inr (2, [.int (0 : Int32), .int (0 : Int32), .long (0 : Int64), .long (0 : Int64), .long (0 : Int64), .long (0 : Int64), .long (0 : Int64), .long (0 : Int64)]))] (zE none [(a_this, .inr (2, [.int out.1, .int out.2.1, .long out.2.2.1, .long out.2.2.2.1, .long out.2.2.2.2.1, .long out.2.2.2.2.2.1, .long out.2.2.2.2.2.2.1, .long out.2.2.2.2.2.2.2]))]) := by
  refine zmk (by decide) (Nat.le_of_ble_eq_true rfl) ?_
  intro p e s m args below meth c A Q ls X hQ hnm hP hD hS hl
  have X : zX p s m args meth c D y A RX2 cX2_init 13 (none : Option Jvm.ClassFile.FieldType) := X
  obtain ⟨hx, hb, hr, hml, hown, hts, hK, hA, hlocks⟩ := id X
  have hl : lv_has ls 13 [(0, .ref a_this), (1, .int x1), (2, .int x2), (3, .long x3), (5, .long x5), (7, .long x7)] := hl
  unfold zf_X2_init at hf
  refine lv_aload_n hx hb dX2_init_0 rfl (lv_at hl 0 rfl) ?_
  refine zobj X q_227 q_32 q_33 hl.1 (Nat.le_of_ble_eq_true rfl) (Nat.le_of_ble_eq_true rfl) dX2_init_1 ?_
  refine lv_aload_n hx hb dX2_init_4 rfl (lv_at hl 0 rfl) ?_
  refine lv_iload_n hx hb dX2_init_5 rfl (lv_at hl 1 rfl) ?_
  refine zputF (ty := .int) X hnm hP hD hS 0 rfl rfl inF2 tyX2_ok nmX2 0 (by decide) q_238 rfl rfl rfl rfl rfl (Nat.le_of_ble_eq_true rfl) dX2_init_6 (fun H locs hP hD hS => ?_)
  have hP : va_P D vwCl [(a_this, .inr (2, [.int x1, .int (0 : Int32), .long (0 : Int64), .long (0 : Int64), .long (0 : Int64), .long (0 : Int64), .long (0 : Int64), .long (0 : Int64)]))] H := hP
  have hD : va_D A [(a_this, .inr (2, [.int x1, .int (0 : Int32), .long (0 : Int64), .long (0 : Int64), .long (0 : Int64), .long (0 : Int64), .long (0 : Int64), .long (0 : Int64)]))] := hD
  refine lv_aload_n hx hb dX2_init_9 rfl (lv_at hl 0 rfl) ?_
  refine lv_iload_n hx hb dX2_init_10 rfl (lv_at hl 2 rfl) ?_
  refine zputF (ty := .int) X hnm hP hD hS 0 rfl rfl inF2 tyX2_ok nmX2 1 (by decide) q_240 rfl rfl rfl rfl rfl (Nat.le_of_ble_eq_true rfl) dX2_init_11 (fun H locs hP hD hS => ?_)
  have hP : va_P D vwCl [(a_this, .inr (2, [.int x1, .int x2, .long (0 : Int64), .long (0 : Int64), .long (0 : Int64), .long (0 : Int64), .long (0 : Int64), .long (0 : Int64)]))] H := hP
  have hD : va_D A [(a_this, .inr (2, [.int x1, .int x2, .long (0 : Int64), .long (0 : Int64), .long (0 : Int64), .long (0 : Int64), .long (0 : Int64), .long (0 : Int64)]))] := hD
  refine lv_aload_n hx hb dX2_init_14 rfl (lv_at hl 0 rfl) ?_
  refine lv_lload_n hx hb dX2_init_15 rfl (lv_at hl 3 rfl) ?_
  refine zputF (ty := .long) X hnm hP hD hS 0 rfl rfl inF2 tyX2_ok nmX2 2 (by decide) q_243 rfl rfl rfl rfl rfl (Nat.le_of_ble_eq_true rfl) dX2_init_16 (fun H locs hP hD hS => ?_)
  have hP : va_P D vwCl [(a_this, .inr (2, [.int x1, .int x2, .long x3, .long (0 : Int64), .long (0 : Int64), .long (0 : Int64), .long (0 : Int64), .long (0 : Int64)]))] H := hP
  have hD : va_D A [(a_this, .inr (2, [.int x1, .int x2, .long x3, .long (0 : Int64), .long (0 : Int64), .long (0 : Int64), .long (0 : Int64), .long (0 : Int64)]))] := hD
  refine lv_aload_n hx hb dX2_init_19 rfl (lv_at hl 0 rfl) ?_
  refine lv_lload hx hb dX2_init_20 (lv_at hl 4 rfl) ?_
  refine zputF (ty := .long) X hnm hP hD hS 0 rfl rfl inF2 tyX2_ok nmX2 3 (by decide) q_244 rfl rfl rfl rfl rfl (Nat.le_of_ble_eq_true rfl) dX2_init_22 (fun H locs hP hD hS => ?_)
  have hP : va_P D vwCl [(a_this, .inr (2, [.int x1, .int x2, .long x3, .long x5, .long (0 : Int64), .long (0 : Int64), .long (0 : Int64), .long (0 : Int64)]))] H := hP
  have hD : va_D A [(a_this, .inr (2, [.int x1, .int x2, .long x3, .long x5, .long (0 : Int64), .long (0 : Int64), .long (0 : Int64), .long (0 : Int64)]))] := hD
  refine lv_aload_n hx hb dX2_init_25 rfl (lv_at hl 0 rfl) ?_
  refine lv_lload hx hb dX2_init_26 (lv_at hl 5 rfl) ?_
  refine zputF (ty := .long) X hnm hP hD hS 0 rfl rfl inF2 tyX2_ok nmX2 4 (by decide) q_245 rfl rfl rfl rfl rfl (Nat.le_of_ble_eq_true rfl) dX2_init_28 (fun H locs hP hD hS => ?_)
  have hP : va_P D vwCl [(a_this, .inr (2, [.int x1, .int x2, .long x3, .long x5, .long x7, .long (0 : Int64), .long (0 : Int64), .long (0 : Int64)]))] H := hP
  have hD : va_D A [(a_this, .inr (2, [.int x1, .int x2, .long x3, .long x5, .long x7, .long (0 : Int64), .long (0 : Int64), .long (0 : Int64)]))] := hD
  refine lv_iload_n hx hb dX2_init_31 rfl (lv_at hl 1 rfl) ?_
  refine lv_iload_n hx hb dX2_init_32 rfl (lv_at hl 2 rfl) ?_
  obtain ⟨o33, ho33, hf⟩ := zb hf
  refine zcS1 (wr := [(a_this, .inr (2, [.int x1, .int x2, .long x3, .long x5, .long x7, .long (0 : Int64), .long (0 : Int64), .long (0 : Int64)]))]) (rest := []) X (zc_X2_pipesOf l D y x1 x2 o33 ho33) kf_RX2_28 ⟨(Nat.le_of_ble_eq_true rfl), (Nat.le_of_ble_eq_true rfl)⟩ hP hD hS [] [0] rfl rfl rfl rfl (by decide) rfl rfl hl.1 (Nat.le_of_ble_eq_true rfl) dX2_init_33 ⟨(Nat.le_of_ble_eq_true rfl), (Nat.le_of_ble_eq_true rfl)⟩ (fun H locs hP hD hS => ?_)
  have hP : va_P D vwCl [(a_this, .inr (2, [.int x1, .int x2, .long x3, .long x5, .long x7, .long (0 : Int64), .long (0 : Int64), .long (0 : Int64)]))] H := hP
  have hD : va_D A [(a_this, .inr (2, [.int x1, .int x2, .long x3, .long x5, .long x7, .long (0 : Int64), .long (0 : Int64), .long (0 : Int64)]))] := hD
  refine lv_lstore (lv' := [(9, .long o33), (0, .ref a_this), (1, .int x1), (2, .int x2), (3, .long x3), (5, .long x5), (7, .long x7)]) hx hb dX2_init_36 hl (by decide) rfl (fun ls hl => ?_)
  refine lv_lload hx hb dX2_init_38 (lv_at hl 6 rfl) ?_
  refine lv_lload hx hb dX2_init_40 (lv_at hl 6 rfl) ?_
  refine lv_iconst (v := 2) hx hb dX2_init_42 (by decide) ?_
  refine lv_lushr (v := zlushr x7 (2 : Int32)) hx hb dX2_init_43 rfl ?_
  refine lv_lor hx hb dX2_init_44 ?_
  refine lv_lload hx hb dX2_init_45 (lv_at hl 6 rfl) ?_
  refine lv_iconst (v := 1) hx hb dX2_init_47 (by decide) ?_
  refine lv_lshl (v := zlshl x7 (1 : Int32)) hx hb dX2_init_48 rfl ?_
  refine lv_lor hx hb dX2_init_49 ?_
  refine lv_lload hx hb dX2_init_50 (lv_at hl 6 rfl) ?_
  refine lv_bipush (v := 10) hx hb dX2_init_52 (by decide) ?_
  refine lv_lushr (v := zlushr x7 (10 : Int32)) hx hb dX2_init_54 rfl ?_
  refine lv_iconst (v := 1) hx hb dX2_init_55 (by decide) ?_
  refine lv_lshl (v := zlshl (zlushr x7 (10 : Int32)) (1 : Int32)) hx hb dX2_init_56 rfl ?_
  refine lv_lor hx hb dX2_init_57 ?_
  refine lv_lload hx hb dX2_init_58 (lv_at hl 0 rfl) ?_
  refine lv_land hx hb dX2_init_60 ?_
  refine lv_lstore (lv' := [(11, .long ((((x7 ||| (zlushr x7 (2 : Int32))) ||| (zlshl x7 (1 : Int32))) ||| (zlshl (zlushr x7 (10 : Int32)) (1 : Int32))) &&& o33)), (9, .long o33), (0, .ref a_this), (1, .int x1), (2, .int x2), (3, .long x3), (5, .long x5), (7, .long x7)]) hx hb dX2_init_61 hl (by decide) rfl (fun ls hl => ?_)
  refine lv_aload_n hx hb dX2_init_63 rfl (lv_at hl 2 rfl) ?_
  refine lv_lload_n hx hb dX2_init_64 rfl (lv_at hl 5 rfl) ?_
  refine lv_lload hx hb dX2_init_65 (lv_at hl 0 rfl) ?_
  refine lv_ldc2 (v := -1) hx hb hown (hts _ q_237) dX2_init_67 ?_
  refine lv_lxor hx hb dX2_init_70 ?_
  refine lv_land hx hb dX2_init_71 ?_
  refine zputF (ty := .long) X hnm hP hD hS 0 rfl rfl inF2 tyX2_ok nmX2 5 (by decide) q_247 rfl rfl rfl rfl rfl (Nat.le_of_ble_eq_true rfl) dX2_init_72 (fun H locs hP hD hS => ?_)
  have hP : va_P D vwCl [(a_this, .inr (2, [.int x1, .int x2, .long x3, .long x5, .long x7, .long (x3 &&& (((((x7 ||| (zlushr x7 (2 : Int32))) ||| (zlshl x7 (1 : Int32))) ||| (zlshl (zlushr x7 (10 : Int32)) (1 : Int32))) &&& o33) ^^^ (-1 : Int64))), .long (0 : Int64), .long (0 : Int64)]))] H := hP
  have hD : va_D A [(a_this, .inr (2, [.int x1, .int x2, .long x3, .long x5, .long x7, .long (x3 &&& (((((x7 ||| (zlushr x7 (2 : Int32))) ||| (zlshl x7 (1 : Int32))) ||| (zlshl (zlushr x7 (10 : Int32)) (1 : Int32))) &&& o33) ^^^ (-1 : Int64))), .long (0 : Int64), .long (0 : Int64)]))] := hD
  refine lv_aload_n hx hb dX2_init_75 rfl (lv_at hl 2 rfl) ?_
  refine lv_lload hx hb dX2_init_76 (lv_at hl 6 rfl) ?_
  refine lv_lload hx hb dX2_init_78 (lv_at hl 0 rfl) ?_
  refine lv_lor hx hb dX2_init_80 ?_
  refine zputF (ty := .long) X hnm hP hD hS 0 rfl rfl inF2 tyX2_ok nmX2 6 (by decide) q_249 rfl rfl rfl rfl rfl (Nat.le_of_ble_eq_true rfl) dX2_init_81 (fun H locs hP hD hS => ?_)
  have hP : va_P D vwCl [(a_this, .inr (2, [.int x1, .int x2, .long x3, .long x5, .long x7, .long (x3 &&& (((((x7 ||| (zlushr x7 (2 : Int32))) ||| (zlshl x7 (1 : Int32))) ||| (zlshl (zlushr x7 (10 : Int32)) (1 : Int32))) &&& o33) ^^^ (-1 : Int64))), .long (x5 ||| ((((x7 ||| (zlushr x7 (2 : Int32))) ||| (zlshl x7 (1 : Int32))) ||| (zlshl (zlushr x7 (10 : Int32)) (1 : Int32))) &&& o33)), .long (0 : Int64)]))] H := hP
  have hD : va_D A [(a_this, .inr (2, [.int x1, .int x2, .long x3, .long x5, .long x7, .long (x3 &&& (((((x7 ||| (zlushr x7 (2 : Int32))) ||| (zlshl x7 (1 : Int32))) ||| (zlshl (zlushr x7 (10 : Int32)) (1 : Int32))) &&& o33) ^^^ (-1 : Int64))), .long (x5 ||| ((((x7 ||| (zlushr x7 (2 : Int32))) ||| (zlshl x7 (1 : Int32))) ||| (zlshl (zlushr x7 (10 : Int32)) (1 : Int32))) &&& o33)), .long (0 : Int64)]))] := hD
  refine lv_aload_n hx hb dX2_init_84 rfl (lv_at hl 2 rfl) ?_
  refine lv_lload hx hb dX2_init_85 (lv_at hl 1 rfl) ?_
  refine lv_aload_n hx hb dX2_init_87 rfl (lv_at hl 2 rfl) ?_
  refine zget X hP 0 rfl rfl inF2 5 (by decide) q_247 rfl dX2_init_88 ?_
  refine lv_ldc2 (v := -1) hx hb hown (hts _ q_237) dX2_init_91 ?_
  refine lv_lxor hx hb dX2_init_94 ?_
  refine lv_land hx hb dX2_init_95 ?_
  refine lv_aload_n hx hb dX2_init_96 rfl (lv_at hl 2 rfl) ?_
  refine zget X hP 0 rfl rfl inF2 6 (by decide) q_249 rfl dX2_init_97 ?_
  refine lv_ldc2 (v := -1) hx hb hown (hts _ q_237) dX2_init_100 ?_
  refine lv_lxor hx hb dX2_init_103 ?_
  refine lv_land hx hb dX2_init_104 ?_
  refine zputF (ty := .long) X hnm hP hD hS 0 rfl rfl inF2 tyX2_ok nmX2 7 (by decide) q_251 rfl rfl rfl rfl rfl (Nat.le_of_ble_eq_true rfl) dX2_init_105 (fun H locs hP hD hS => ?_)
  have hP : va_P D vwCl [(a_this, .inr (2, [.int x1, .int x2, .long x3, .long x5, .long x7, .long (x3 &&& (((((x7 ||| (zlushr x7 (2 : Int32))) ||| (zlshl x7 (1 : Int32))) ||| (zlshl (zlushr x7 (10 : Int32)) (1 : Int32))) &&& o33) ^^^ (-1 : Int64))), .long (x5 ||| ((((x7 ||| (zlushr x7 (2 : Int32))) ||| (zlshl x7 (1 : Int32))) ||| (zlshl (zlushr x7 (10 : Int32)) (1 : Int32))) &&& o33)), .long ((o33 &&& ((x3 &&& (((((x7 ||| (zlushr x7 (2 : Int32))) ||| (zlshl x7 (1 : Int32))) ||| (zlshl (zlushr x7 (10 : Int32)) (1 : Int32))) &&& o33) ^^^ (-1 : Int64))) ^^^ (-1 : Int64))) &&& ((x5 ||| ((((x7 ||| (zlushr x7 (2 : Int32))) ||| (zlshl x7 (1 : Int32))) ||| (zlshl (zlushr x7 (10 : Int32)) (1 : Int32))) &&& o33)) ^^^ (-1 : Int64)))]))] H := hP
  have hD : va_D A [(a_this, .inr (2, [.int x1, .int x2, .long x3, .long x5, .long x7, .long (x3 &&& (((((x7 ||| (zlushr x7 (2 : Int32))) ||| (zlshl x7 (1 : Int32))) ||| (zlshl (zlushr x7 (10 : Int32)) (1 : Int32))) &&& o33) ^^^ (-1 : Int64))), .long (x5 ||| ((((x7 ||| (zlushr x7 (2 : Int32))) ||| (zlshl x7 (1 : Int32))) ||| (zlshl (zlushr x7 (10 : Int32)) (1 : Int32))) &&& o33)), .long ((o33 &&& ((x3 &&& (((((x7 ||| (zlushr x7 (2 : Int32))) ||| (zlshl x7 (1 : Int32))) ||| (zlshl (zlushr x7 (10 : Int32)) (1 : Int32))) &&& o33) ^^^ (-1 : Int64))) ^^^ (-1 : Int64))) &&& ((x5 ||| ((((x7 ||| (zlushr x7 (2 : Int32))) ||| (zlshl x7 (1 : Int32))) ||| (zlshl (zlushr x7 (10 : Int32)) (1 : Int32))) &&& o33)) ^^^ (-1 : Int64)))]))] := hD
  obtain rfl := Option.some.inj hf
  exact zretv X hQ hP hD hS ⟨rfl, rfl⟩ dX2_init_108 (Nat.le_of_ble_eq_true rfl) (Nat.le_of_ble_eq_true rfl)

theorem kf_RX2_63 : zCB RX2 63 yX2_init cX2_init 13 (none : Option Jvm.ClassFile.FieldType) 5 ∧ Cond.instanceMethod yX2_init ∈ wAll ∧ yX2_init.name = "<init>" := ⟨⟨q_226, q_8, q_896, by decide +kernel⟩, q_225, rfl⟩
abbrev rm_X2_withPipe : Room := { frames := 3, cells := 1, slots := 8, locals := 83 }
def zf_X2_withPipe_54 (f_columns : Int32) (f_rows : Int32) (f_stones : Int64) (x5 : Int64) (s0 : Int64) : Option (zGD) :=
  (zf_X2_init f_columns f_rows x5 s0 f_stones).bind fun o76 =>
  some o76
def zf_X2_withPipe_28 (f_columns : Int32) (f_rows : Int32) (f_toldShut : Int64) (f_stones : Int64) (x2 : Int32) (x3 : Int64) (s0 : Int64) : Option (zGD) :=
  if x2 = (2 : Int32) then (zf_X2_withPipe_54 f_columns f_rows f_stones s0 (f_toldShut ||| x3)) else (zf_X2_withPipe_54 f_columns f_rows f_stones s0 (f_toldShut &&& (x3 ^^^ (-1 : Int64))))
def zf_X2_withPipe (f_columns : Int32) (f_rows : Int32) (f_toldOpen : Int64) (f_toldShut : Int64) (f_stones : Int64) (x1 : Int32) (x2 : Int32) : Option (zGD) :=
  if x2 = (1 : Int32) then (zf_X2_withPipe_28 f_columns f_rows f_toldShut f_stones x2 (zlshl (1 : Int64) x1) (f_toldOpen ||| (zlshl (1 : Int64) x1))) else (zf_X2_withPipe_28 f_columns f_rows f_toldShut f_stones x2 (zlshl (1 : Int64) x1) (f_toldOpen &&& ((zlshl (1 : Int64) x1) ^^^ (-1 : Int64))))
set_option maxHeartbeats 4000000 in
set_option maxRecDepth 100000 in
theorem zc_X2_withPipe (l : Launch) (D : va_G) (y : zY) (a_this : Nat) (f_columns : Int32) (f_rows : Int32) (f_toldOpen : Int64) (f_toldShut : Int64) (f_stones : Int64) (f_open : Int64) (f_shut : Int64) (f_free : Int64) (x1 : Int32) (x2 : Int32) (out : zGD) (hf : zf_X2_withPipe f_columns f_rows f_toldOpen f_toldShut f_stones x1 x2 = some out) : zC l D y yX2_withPipe cX2_withPipe 9 (some (.object "WaterGrid$Grid")) rm_X2_withPipe [.ref a_this, .int x1, .int x2] [(a_this, .inr (2, [.int f_columns, .int f_rows, .long f_toldOpen, .long f_toldShut, .long f_stones, .long f_open, .long f_shut, .long f_free]))] (fun v w => ∃ q, v = (some (.ref q)) ∧ w = [(q, zgE out), (a_this, .inr (2, [.int f_columns, .int f_rows, .long f_toldOpen, .long f_toldShut, .long f_stones, .long f_open, .long f_shut, .long f_free]))]) := by
  refine zmk (by decide) (Nat.le_of_ble_eq_true rfl) ?_
  intro p e s m args below meth c A Q ls X hQ hnm hP hD hS hl
  have X : zX p s m args meth c D y A RX2 cX2_withPipe 9 (some (.object "WaterGrid$Grid")) := X
  obtain ⟨hx, hb, hr, hml, hown, hts, hK, hA, hlocks⟩ := id X
  have hl : lv_has ls 9 [(0, .ref a_this), (1, .int x1), (2, .int x2)] := hl
  have J54 : ∀ (x5 : Int64) (s0 : Int64), zf_X2_withPipe_54 f_columns f_rows f_stones x5 s0 = some out → ∀ (H : Heap) (locs : List Loc) (ls : Array Slot), lv_has ls 9 [(0, .ref a_this), (5, .long x5)] → va_P D vwCl [(a_this, .inr (2, [.int f_columns, .int f_rows, .long f_toldOpen, .long f_toldShut, .long f_stones, .long f_open, .long f_shut, .long f_free]))] H → va_D A [(a_this, .inr (2, [.int f_columns, .int f_rows, .long f_toldOpen, .long f_toldShut, .long f_stones, .long f_open, .long f_shut, .long f_free]))] → va_S A s.heap H locs → W p l e rm_X2_withPipe s m args below meth c H locs 0 0 Q (F0 m 54 ls [.long s0]) := by
    intro x5 s0 hf H locs ls hl hP hD hS
    unfold zf_X2_withPipe_54 at hf
    refine lv_lstore (lv' := [(7, .long s0), (0, .ref a_this), (5, .long x5)]) hx hb dX2_withPipe_54 hl (by decide) rfl (fun ls hl => ?_)
    refine znew (ci := 2) (ty := tyX2) (fs := [.int (0 : Int32), .int (0 : Int32), .long (0 : Int64), .long (0 : Int64), .long (0 : Int64), .long (0 : Int64), .long (0 : Int64), .long (0 : Int64)]) X rfl inF2 tyX2_ok q_895 q_223 q_8 hP hD hS (by decide) (Nat.le_of_ble_eq_true rfl) (Nat.le_of_ble_eq_true rfl) dX2_withPipe_56 (fun a_new56 H hP hD hS => ?_)
    have hP : va_P D vwCl [(a_this, .inr (2, [.int f_columns, .int f_rows, .long f_toldOpen, .long f_toldShut, .long f_stones, .long f_open, .long f_shut, .long f_free])), (a_new56, .inr (2, [.int (0 : Int32), .int (0 : Int32), .long (0 : Int64), .long (0 : Int64), .long (0 : Int64), .long (0 : Int64), .long (0 : Int64), .long (0 : Int64)]))] H := hP
    have hD : va_D A [(a_this, .inr (2, [.int f_columns, .int f_rows, .long f_toldOpen, .long f_toldShut, .long f_stones, .long f_open, .long f_shut, .long f_free])), (a_new56, .inr (2, [.int (0 : Int32), .int (0 : Int32), .long (0 : Int64), .long (0 : Int64), .long (0 : Int64), .long (0 : Int64), .long (0 : Int64), .long (0 : Int64)]))] := hD
    refine lv_dup hx hb dX2_withPipe_59 rfl ?_
    refine lv_aload_n hx hb dX2_withPipe_60 rfl (lv_at hl 1 rfl) ?_
    refine zget X hP 0 rfl rfl inF2 0 (by decide) q_238 rfl dX2_withPipe_61 ?_
    refine lv_aload_n hx hb dX2_withPipe_64 rfl (lv_at hl 1 rfl) ?_
    refine zget X hP 0 rfl rfl inF2 1 (by decide) q_240 rfl dX2_withPipe_65 ?_
    refine lv_lload hx hb dX2_withPipe_68 (lv_at hl 2 rfl) ?_
    refine lv_lload hx hb dX2_withPipe_70 (lv_at hl 0 rfl) ?_
    refine lv_aload_n hx hb dX2_withPipe_72 rfl (lv_at hl 1 rfl) ?_
    refine zget X hP 0 rfl rfl inF2 4 (by decide) q_245 rfl dX2_withPipe_73 ?_
    obtain ⟨o76, ho76, hf⟩ := zb hf
    refine zcI0 (wr := [(a_this, .inr (2, [.int f_columns, .int f_rows, .long f_toldOpen, .long f_toldShut, .long f_stones, .long f_open, .long f_shut, .long f_free]))]) (rest := [.ref a_new56]) X (zc_X2_init l D y a_new56 f_columns f_rows x5 s0 f_stones o76 ho76) kf_RX2_63 ⟨(Nat.le_of_ble_eq_true rfl), (Nat.le_of_ble_eq_true rfl)⟩ hP hD hS [1] [0] rfl rfl rfl rfl (by decide) rfl rfl hl.1 (Nat.le_of_ble_eq_true rfl) dX2_withPipe_76 ⟨(Nat.le_of_ble_eq_true rfl), (Nat.le_of_ble_eq_true rfl)⟩ (fun H locs hP hD hS => ?_)
    have hP : va_P D vwCl [(a_this, .inr (2, [.int f_columns, .int f_rows, .long f_toldOpen, .long f_toldShut, .long f_stones, .long f_open, .long f_shut, .long f_free])), (a_new56, .inr (2, [.int o76.1, .int o76.2.1, .long o76.2.2.1, .long o76.2.2.2.1, .long o76.2.2.2.2.1, .long o76.2.2.2.2.2.1, .long o76.2.2.2.2.2.2.1, .long o76.2.2.2.2.2.2.2]))] H := hP
    have hD : va_D A [(a_this, .inr (2, [.int f_columns, .int f_rows, .long f_toldOpen, .long f_toldShut, .long f_stones, .long f_open, .long f_shut, .long f_free])), (a_new56, .inr (2, [.int o76.1, .int o76.2.1, .long o76.2.2.1, .long o76.2.2.2.1, .long o76.2.2.2.2.1, .long o76.2.2.2.2.2.1, .long o76.2.2.2.2.2.2.1, .long o76.2.2.2.2.2.2.2]))] := hD
    obtain rfl := Option.some.inj hf
    exact zreta X (Or.inl ⟨_, rfl⟩) (Or.inr ⟨_, rfl⟩) hQ (zPsub (is := [1, 0]) hP rfl) (hD.sub [1, 0] (by decide) rfl) hS ⟨_, rfl, rfl⟩ dX2_withPipe_79 (Nat.le_of_ble_eq_true rfl) (Nat.le_of_ble_eq_true rfl)
  have J28 : ∀ (x3 : Int64) (s0 : Int64), zf_X2_withPipe_28 f_columns f_rows f_toldShut f_stones x2 x3 s0 = some out → ∀ (H : Heap) (locs : List Loc) (ls : Array Slot), lv_has ls 9 [(0, .ref a_this), (2, .int x2), (3, .long x3)] → va_P D vwCl [(a_this, .inr (2, [.int f_columns, .int f_rows, .long f_toldOpen, .long f_toldShut, .long f_stones, .long f_open, .long f_shut, .long f_free]))] H → va_D A [(a_this, .inr (2, [.int f_columns, .int f_rows, .long f_toldOpen, .long f_toldShut, .long f_stones, .long f_open, .long f_shut, .long f_free]))] → va_S A s.heap H locs → W p l e rm_X2_withPipe s m args below meth c H locs 0 0 Q (F0 m 28 ls [.long s0]) := by
    intro x3 s0 hf H locs ls hl hP hD hS
    unfold zf_X2_withPipe_28 at hf
    refine lv_lstore (lv' := [(5, .long s0), (0, .ref a_this), (2, .int x2), (3, .long x3)]) hx hb dX2_withPipe_28 hl (by decide) rfl (fun ls hl => ?_)
    refine lv_iload_n hx hb dX2_withPipe_30 rfl (lv_at hl 2 rfl) ?_
    refine lv_iconst (v := 2) hx hb dX2_withPipe_31 (by decide) ?_
    refine lv_icmp_ne (tgt := 44) hx hb dX2_withPipe_32 (by decide) (fun c32 => ?_) (fun c32 => ?_)
    · replace hf := ze c32 hf
      refine lv_aload_n hx hb dX2_withPipe_44 rfl (lv_at hl 1 rfl) ?_
      refine zget X hP 0 rfl rfl inF2 3 (by decide) q_244 rfl dX2_withPipe_45 ?_
      refine lv_lload_n hx hb dX2_withPipe_48 rfl (lv_at hl 3 rfl) ?_
      refine lv_ldc2 (v := -1) hx hb hown (hts _ q_237) dX2_withPipe_49 ?_
      refine lv_lxor hx hb dX2_withPipe_52 ?_
      refine lv_land hx hb dX2_withPipe_53 ?_
      exact J54 s0 (f_toldShut &&& (x3 ^^^ (-1 : Int64))) hf _ _ _ (lv_sub hl [1, 0] rfl) hP hD hS
    · replace hf := zt c32 hf
      refine lv_aload_n hx hb dX2_withPipe_35 rfl (lv_at hl 1 rfl) ?_
      refine zget X hP 0 rfl rfl inF2 3 (by decide) q_244 rfl dX2_withPipe_36 ?_
      refine lv_lload_n hx hb dX2_withPipe_39 rfl (lv_at hl 3 rfl) ?_
      refine lv_lor hx hb dX2_withPipe_40 ?_
      refine lv_goto (tgt := 54) hx hb dX2_withPipe_41 (by decide) ?_
      exact J54 s0 (f_toldShut ||| x3) hf _ _ _ (lv_sub hl [1, 0] rfl) hP hD hS
  unfold zf_X2_withPipe at hf
  refine lv_lconst (v := 1) hx hb dX2_withPipe_0 (by decide) ?_
  refine lv_iload_n hx hb dX2_withPipe_1 rfl (lv_at hl 1 rfl) ?_
  refine lv_lshl (v := zlshl (1 : Int64) x1) hx hb dX2_withPipe_2 rfl ?_
  refine lv_lstore_n (lv' := [(3, .long (zlshl (1 : Int64) x1)), (0, .ref a_this), (1, .int x1), (2, .int x2)]) hx hb dX2_withPipe_3 rfl hl (by decide) rfl (fun ls hl => ?_)
  refine lv_iload_n hx hb dX2_withPipe_4 rfl (lv_at hl 3 rfl) ?_
  refine lv_iconst (v := 1) hx hb dX2_withPipe_5 (by decide) ?_
  refine lv_icmp_ne (tgt := 18) hx hb dX2_withPipe_6 (by decide) (fun c6 => ?_) (fun c6 => ?_)
  · replace hf := ze c6 hf
    refine lv_aload_n hx hb dX2_withPipe_18 rfl (lv_at hl 1 rfl) ?_
    refine zget X hP 0 rfl rfl inF2 2 (by decide) q_243 rfl dX2_withPipe_19 ?_
    refine lv_lload_n hx hb dX2_withPipe_22 rfl (lv_at hl 0 rfl) ?_
    refine lv_ldc2 (v := -1) hx hb hown (hts _ q_237) dX2_withPipe_23 ?_
    refine lv_lxor hx hb dX2_withPipe_26 ?_
    refine lv_land hx hb dX2_withPipe_27 ?_
    exact J28 (zlshl (1 : Int64) x1) (f_toldOpen &&& ((zlshl (1 : Int64) x1) ^^^ (-1 : Int64))) hf _ _ _ (lv_sub hl [1, 3, 0] rfl) hP hD hS
  · replace hf := zt c6 hf
    refine lv_aload_n hx hb dX2_withPipe_9 rfl (lv_at hl 1 rfl) ?_
    refine zget X hP 0 rfl rfl inF2 2 (by decide) q_243 rfl dX2_withPipe_10 ?_
    refine lv_lload_n hx hb dX2_withPipe_13 rfl (lv_at hl 0 rfl) ?_
    refine lv_lor hx hb dX2_withPipe_14 ?_
    refine lv_goto (tgt := 28) hx hb dX2_withPipe_15 (by decide) ?_
    exact J28 (zlshl (1 : Int64) x1) (f_toldOpen ||| (zlshl (1 : Int64) x1)) hf _ _ _ (lv_sub hl [1, 3, 0] rfl) hP hD hS


abbrev rm_X2_withStone : Room := { frames := 3, cells := 1, slots := 8, locals := 83 }
def zf_X2_withStone_47 (s2 : Int32) (s3 : Int32) (s4 : Int64) (s5 : Int64) (s6 : Int64) : Option (zGD) :=
  (zf_X2_init s2 s3 s4 s5 s6).bind fun o47 =>
  some o47
def zf_X2_withStone (f_columns : Int32) (f_rows : Int32) (f_toldOpen : Int64) (f_toldShut : Int64) (f_stones : Int64) (x1 : Int32) (x2 : Int32) : Option (zGD) :=
  if x2 = 0 then (zf_X2_withStone_47 f_columns f_rows f_toldOpen f_toldShut (f_stones &&& ((zlshl (1 : Int64) x1) ^^^ (-1 : Int64)))) else (zf_X2_withStone_47 f_columns f_rows f_toldOpen f_toldShut (f_stones ||| (zlshl (1 : Int64) x1)))
set_option maxHeartbeats 4000000 in
set_option maxRecDepth 100000 in
theorem zc_X2_withStone (l : Launch) (D : va_G) (y : zY) (a_this : Nat) (f_columns : Int32) (f_rows : Int32) (f_toldOpen : Int64) (f_toldShut : Int64) (f_stones : Int64) (f_open : Int64) (f_shut : Int64) (f_free : Int64) (x1 : Int32) (x2 : Int32) (out : zGD) (hf : zf_X2_withStone f_columns f_rows f_toldOpen f_toldShut f_stones x1 x2 = some out) : zC l D y yX2_withStone cX2_withStone 5 (some (.object "WaterGrid$Grid")) rm_X2_withStone [.ref a_this, .int x1, .int x2] [(a_this, .inr (2, [.int f_columns, .int f_rows, .long f_toldOpen, .long f_toldShut, .long f_stones, .long f_open, .long f_shut, .long f_free]))] (fun v w => ∃ q, v = (some (.ref q)) ∧ w = [(q, zgE out), (a_this, .inr (2, [.int f_columns, .int f_rows, .long f_toldOpen, .long f_toldShut, .long f_stones, .long f_open, .long f_shut, .long f_free]))]) := by
  refine zmk (by decide) (Nat.le_of_ble_eq_true rfl) ?_
  intro p e s m args below meth c A Q ls X hQ hnm hP hD hS hl
  have X : zX p s m args meth c D y A RX2 cX2_withStone 5 (some (.object "WaterGrid$Grid")) := X
  obtain ⟨hx, hb, hr, hml, hown, hts, hK, hA, hlocks⟩ := id X
  have hl : lv_has ls 5 [(0, .ref a_this), (1, .int x1), (2, .int x2)] := hl
  have J47 : ∀ (s2 : Int32) (s3 : Int32) (s4 : Int64) (s5 : Int64) (s6 : Int64) (a_new4 : Nat), zf_X2_withStone_47 s2 s3 s4 s5 s6 = some out → ∀ (H : Heap) (locs : List Loc) (ls : Array Slot), lv_has ls 5 [] → va_P D vwCl [(a_this, .inr (2, [.int f_columns, .int f_rows, .long f_toldOpen, .long f_toldShut, .long f_stones, .long f_open, .long f_shut, .long f_free])), (a_new4, .inr (2, [.int (0 : Int32), .int (0 : Int32), .long (0 : Int64), .long (0 : Int64), .long (0 : Int64), .long (0 : Int64), .long (0 : Int64), .long (0 : Int64)]))] H → va_D A [(a_this, .inr (2, [.int f_columns, .int f_rows, .long f_toldOpen, .long f_toldShut, .long f_stones, .long f_open, .long f_shut, .long f_free])), (a_new4, .inr (2, [.int (0 : Int32), .int (0 : Int32), .long (0 : Int64), .long (0 : Int64), .long (0 : Int64), .long (0 : Int64), .long (0 : Int64), .long (0 : Int64)]))] → va_S A s.heap H locs → W p l e rm_X2_withStone s m args below meth c H locs 1 8 Q (F0 m 47 ls [.long s6, .long s5, .long s4, .int s3, .int s2, .ref a_new4, .ref a_new4]) := by
    intro s2 s3 s4 s5 s6 a_new4 hf H locs ls hl hP hD hS
    unfold zf_X2_withStone_47 at hf
    obtain ⟨o47, ho47, hf⟩ := zb hf
    refine zcI0 (wr := [(a_this, .inr (2, [.int f_columns, .int f_rows, .long f_toldOpen, .long f_toldShut, .long f_stones, .long f_open, .long f_shut, .long f_free]))]) (rest := [.ref a_new4]) X (zc_X2_init l D y a_new4 s2 s3 s4 s5 s6 o47 ho47) kf_RX2_63 ⟨(Nat.le_of_ble_eq_true rfl), (Nat.le_of_ble_eq_true rfl)⟩ hP hD hS [1] [0] rfl rfl rfl rfl (by decide) rfl rfl hl.1 (Nat.le_of_ble_eq_true rfl) dX2_withStone_47 ⟨(Nat.le_of_ble_eq_true rfl), (Nat.le_of_ble_eq_true rfl)⟩ (fun H locs hP hD hS => ?_)
    have hP : va_P D vwCl [(a_this, .inr (2, [.int f_columns, .int f_rows, .long f_toldOpen, .long f_toldShut, .long f_stones, .long f_open, .long f_shut, .long f_free])), (a_new4, .inr (2, [.int o47.1, .int o47.2.1, .long o47.2.2.1, .long o47.2.2.2.1, .long o47.2.2.2.2.1, .long o47.2.2.2.2.2.1, .long o47.2.2.2.2.2.2.1, .long o47.2.2.2.2.2.2.2]))] H := hP
    have hD : va_D A [(a_this, .inr (2, [.int f_columns, .int f_rows, .long f_toldOpen, .long f_toldShut, .long f_stones, .long f_open, .long f_shut, .long f_free])), (a_new4, .inr (2, [.int o47.1, .int o47.2.1, .long o47.2.2.1, .long o47.2.2.2.1, .long o47.2.2.2.2.1, .long o47.2.2.2.2.2.1, .long o47.2.2.2.2.2.2.1, .long o47.2.2.2.2.2.2.2]))] := hD
    obtain rfl := Option.some.inj hf
    exact zreta X (Or.inl ⟨_, rfl⟩) (Or.inr ⟨_, rfl⟩) hQ (zPsub (is := [1, 0]) hP rfl) (hD.sub [1, 0] (by decide) rfl) hS ⟨_, rfl, rfl⟩ dX2_withStone_50 (Nat.le_of_ble_eq_true rfl) (Nat.le_of_ble_eq_true rfl)
  unfold zf_X2_withStone at hf
  refine lv_lconst (v := 1) hx hb dX2_withStone_0 (by decide) ?_
  refine lv_iload_n hx hb dX2_withStone_1 rfl (lv_at hl 1 rfl) ?_
  refine lv_lshl (v := zlshl (1 : Int64) x1) hx hb dX2_withStone_2 rfl ?_
  refine lv_lstore_n (lv' := [(3, .long (zlshl (1 : Int64) x1)), (0, .ref a_this), (1, .int x1), (2, .int x2)]) hx hb dX2_withStone_3 rfl hl (by decide) rfl (fun ls hl => ?_)
  refine znew (ci := 2) (ty := tyX2) (fs := [.int (0 : Int32), .int (0 : Int32), .long (0 : Int64), .long (0 : Int64), .long (0 : Int64), .long (0 : Int64), .long (0 : Int64), .long (0 : Int64)]) X rfl inF2 tyX2_ok q_895 q_223 q_8 hP hD hS (by decide) (Nat.le_of_ble_eq_true rfl) (Nat.le_of_ble_eq_true rfl) dX2_withStone_4 (fun a_new4 H hP hD hS => ?_)
  have hP : va_P D vwCl [(a_this, .inr (2, [.int f_columns, .int f_rows, .long f_toldOpen, .long f_toldShut, .long f_stones, .long f_open, .long f_shut, .long f_free])), (a_new4, .inr (2, [.int (0 : Int32), .int (0 : Int32), .long (0 : Int64), .long (0 : Int64), .long (0 : Int64), .long (0 : Int64), .long (0 : Int64), .long (0 : Int64)]))] H := hP
  have hD : va_D A [(a_this, .inr (2, [.int f_columns, .int f_rows, .long f_toldOpen, .long f_toldShut, .long f_stones, .long f_open, .long f_shut, .long f_free])), (a_new4, .inr (2, [.int (0 : Int32), .int (0 : Int32), .long (0 : Int64), .long (0 : Int64), .long (0 : Int64), .long (0 : Int64), .long (0 : Int64), .long (0 : Int64)]))] := hD
  refine lv_dup hx hb dX2_withStone_7 rfl ?_
  refine lv_aload_n hx hb dX2_withStone_8 rfl (lv_at hl 1 rfl) ?_
  refine zget X hP 0 rfl rfl inF2 0 (by decide) q_238 rfl dX2_withStone_9 ?_
  refine lv_aload_n hx hb dX2_withStone_12 rfl (lv_at hl 1 rfl) ?_
  refine zget X hP 0 rfl rfl inF2 1 (by decide) q_240 rfl dX2_withStone_13 ?_
  refine lv_aload_n hx hb dX2_withStone_16 rfl (lv_at hl 1 rfl) ?_
  refine zget X hP 0 rfl rfl inF2 2 (by decide) q_243 rfl dX2_withStone_17 ?_
  refine lv_aload_n hx hb dX2_withStone_20 rfl (lv_at hl 1 rfl) ?_
  refine zget X hP 0 rfl rfl inF2 3 (by decide) q_244 rfl dX2_withStone_21 ?_
  refine lv_iload_n hx hb dX2_withStone_24 rfl (lv_at hl 3 rfl) ?_
  refine lv_if_eq (tgt := 37) hx hb dX2_withStone_25 (by decide) (fun c25 => ?_) (fun c25 => ?_)
  · replace hf := zt c25 hf
    refine lv_aload_n hx hb dX2_withStone_37 rfl (lv_at hl 1 rfl) ?_
    refine zget X hP 0 rfl rfl inF2 4 (by decide) q_245 rfl dX2_withStone_38 ?_
    refine lv_lload_n hx hb dX2_withStone_41 rfl (lv_at hl 0 rfl) ?_
    refine lv_ldc2 (v := -1) hx hb hown (hts _ q_237) dX2_withStone_42 ?_
    refine lv_lxor hx hb dX2_withStone_45 ?_
    refine lv_land hx hb dX2_withStone_46 ?_
    refine W.widen (k := 1) (n := 8) (Nat.le_of_ble_eq_true rfl) (Nat.le_of_ble_eq_true rfl) ?_
    exact J47 f_columns f_rows f_toldOpen f_toldShut (f_stones &&& ((zlshl (1 : Int64) x1) ^^^ (-1 : Int64))) a_new4 hf _ _ _ (lv_sub hl [] rfl) hP hD hS
  · replace hf := ze c25 hf
    refine lv_aload_n hx hb dX2_withStone_28 rfl (lv_at hl 1 rfl) ?_
    refine zget X hP 0 rfl rfl inF2 4 (by decide) q_245 rfl dX2_withStone_29 ?_
    refine lv_lload_n hx hb dX2_withStone_32 rfl (lv_at hl 0 rfl) ?_
    refine lv_lor hx hb dX2_withStone_33 ?_
    refine lv_goto (tgt := 47) hx hb dX2_withStone_34 (by decide) ?_
    refine W.widen (k := 1) (n := 8) (Nat.le_of_ble_eq_true rfl) (Nat.le_of_ble_eq_true rfl) ?_
    exact J47 f_columns f_rows f_toldOpen f_toldShut (f_stones ||| (zlshl (1 : Int64) x1)) a_new4 hf _ _ _ (lv_sub hl [] rfl) hP hD hS


abbrev rm_X2_drained : Room := { frames := 3, cells := 1, slots := 8, locals := 83 }
def zf_X2_drained (f_columns : Int32) (f_rows : Int32) (f_toldOpen : Int64) (f_toldShut : Int64) (f_stones : Int64) (f_free : Int64) (x1 : Int64) : Option (zGD) :=
  (zf_X2_init f_columns f_rows (f_toldOpen ||| x1) (f_toldShut ||| (f_free &&& (x1 ^^^ (-1 : Int64)))) f_stones).bind fun o37 =>
  some o37
set_option maxHeartbeats 4000000 in
set_option maxRecDepth 100000 in
theorem zc_X2_drained (l : Launch) (D : va_G) (y : zY) (a_this : Nat) (f_columns : Int32) (f_rows : Int32) (f_toldOpen : Int64) (f_toldShut : Int64) (f_stones : Int64) (f_open : Int64) (f_shut : Int64) (f_free : Int64) (x1 : Int64) (out : zGD) (hf : zf_X2_drained f_columns f_rows f_toldOpen f_toldShut f_stones f_free x1 = some out) : zC l D y yX2_drained cX2_drained 3 (some (.object "WaterGrid$Grid")) rm_X2_drained [.ref a_this, .long x1] [(a_this, .inr (2, [.int f_columns, .int f_rows, .long f_toldOpen, .long f_toldShut, .long f_stones, .long f_open, .long f_shut, .long f_free]))] (fun v w => ∃ q, v = (some (.ref q)) ∧ w = [(q, zgE out), (a_this, .inr (2, [.int f_columns, .int f_rows, .long f_toldOpen, .long f_toldShut, .long f_stones, .long f_open, .long f_shut, .long f_free]))]) := by
  refine zmk (by decide) (Nat.le_of_ble_eq_true rfl) ?_
  intro p e s m args below meth c A Q ls X hQ hnm hP hD hS hl
  have X : zX p s m args meth c D y A RX2 cX2_drained 3 (some (.object "WaterGrid$Grid")) := X
  obtain ⟨hx, hb, hr, hml, hown, hts, hK, hA, hlocks⟩ := id X
  have hl : lv_has ls 3 [(0, .ref a_this), (1, .long x1)] := hl
  unfold zf_X2_drained at hf
  refine znew (ci := 2) (ty := tyX2) (fs := [.int (0 : Int32), .int (0 : Int32), .long (0 : Int64), .long (0 : Int64), .long (0 : Int64), .long (0 : Int64), .long (0 : Int64), .long (0 : Int64)]) X rfl inF2 tyX2_ok q_895 q_223 q_8 hP hD hS (by decide) (Nat.le_of_ble_eq_true rfl) (Nat.le_of_ble_eq_true rfl) dX2_drained_0 (fun a_new0 H hP hD hS => ?_)
  have hP : va_P D vwCl [(a_this, .inr (2, [.int f_columns, .int f_rows, .long f_toldOpen, .long f_toldShut, .long f_stones, .long f_open, .long f_shut, .long f_free])), (a_new0, .inr (2, [.int (0 : Int32), .int (0 : Int32), .long (0 : Int64), .long (0 : Int64), .long (0 : Int64), .long (0 : Int64), .long (0 : Int64), .long (0 : Int64)]))] H := hP
  have hD : va_D A [(a_this, .inr (2, [.int f_columns, .int f_rows, .long f_toldOpen, .long f_toldShut, .long f_stones, .long f_open, .long f_shut, .long f_free])), (a_new0, .inr (2, [.int (0 : Int32), .int (0 : Int32), .long (0 : Int64), .long (0 : Int64), .long (0 : Int64), .long (0 : Int64), .long (0 : Int64), .long (0 : Int64)]))] := hD
  refine lv_dup hx hb dX2_drained_3 rfl ?_
  refine lv_aload_n hx hb dX2_drained_4 rfl (lv_at hl 0 rfl) ?_
  refine zget X hP 0 rfl rfl inF2 0 (by decide) q_238 rfl dX2_drained_5 ?_
  refine lv_aload_n hx hb dX2_drained_8 rfl (lv_at hl 0 rfl) ?_
  refine zget X hP 0 rfl rfl inF2 1 (by decide) q_240 rfl dX2_drained_9 ?_
  refine lv_aload_n hx hb dX2_drained_12 rfl (lv_at hl 0 rfl) ?_
  refine zget X hP 0 rfl rfl inF2 2 (by decide) q_243 rfl dX2_drained_13 ?_
  refine lv_lload_n hx hb dX2_drained_16 rfl (lv_at hl 1 rfl) ?_
  refine lv_lor hx hb dX2_drained_17 ?_
  refine lv_aload_n hx hb dX2_drained_18 rfl (lv_at hl 0 rfl) ?_
  refine zget X hP 0 rfl rfl inF2 3 (by decide) q_244 rfl dX2_drained_19 ?_
  refine lv_aload_n hx hb dX2_drained_22 rfl (lv_at hl 0 rfl) ?_
  refine zget X hP 0 rfl rfl inF2 7 (by decide) q_251 rfl dX2_drained_23 ?_
  refine lv_lload_n hx hb dX2_drained_26 rfl (lv_at hl 1 rfl) ?_
  refine lv_ldc2 (v := -1) hx hb hown (hts _ q_237) dX2_drained_27 ?_
  refine lv_lxor hx hb dX2_drained_30 ?_
  refine lv_land hx hb dX2_drained_31 ?_
  refine lv_lor hx hb dX2_drained_32 ?_
  refine lv_aload_n hx hb dX2_drained_33 rfl (lv_at hl 0 rfl) ?_
  refine zget X hP 0 rfl rfl inF2 4 (by decide) q_245 rfl dX2_drained_34 ?_
  obtain ⟨o37, ho37, hf⟩ := zb hf
  refine zcI0 (wr := [(a_this, .inr (2, [.int f_columns, .int f_rows, .long f_toldOpen, .long f_toldShut, .long f_stones, .long f_open, .long f_shut, .long f_free]))]) (rest := [.ref a_new0]) X (zc_X2_init l D y a_new0 f_columns f_rows (f_toldOpen ||| x1) (f_toldShut ||| (f_free &&& (x1 ^^^ (-1 : Int64)))) f_stones o37 ho37) kf_RX2_63 ⟨(Nat.le_of_ble_eq_true rfl), (Nat.le_of_ble_eq_true rfl)⟩ hP hD hS [1] [0] rfl rfl rfl rfl (by decide) rfl rfl hl.1 (Nat.le_of_ble_eq_true rfl) dX2_drained_37 ⟨(Nat.le_of_ble_eq_true rfl), (Nat.le_of_ble_eq_true rfl)⟩ (fun H locs hP hD hS => ?_)
  have hP : va_P D vwCl [(a_this, .inr (2, [.int f_columns, .int f_rows, .long f_toldOpen, .long f_toldShut, .long f_stones, .long f_open, .long f_shut, .long f_free])), (a_new0, .inr (2, [.int o37.1, .int o37.2.1, .long o37.2.2.1, .long o37.2.2.2.1, .long o37.2.2.2.2.1, .long o37.2.2.2.2.2.1, .long o37.2.2.2.2.2.2.1, .long o37.2.2.2.2.2.2.2]))] H := hP
  have hD : va_D A [(a_this, .inr (2, [.int f_columns, .int f_rows, .long f_toldOpen, .long f_toldShut, .long f_stones, .long f_open, .long f_shut, .long f_free])), (a_new0, .inr (2, [.int o37.1, .int o37.2.1, .long o37.2.2.1, .long o37.2.2.2.1, .long o37.2.2.2.2.1, .long o37.2.2.2.2.2.1, .long o37.2.2.2.2.2.2.1, .long o37.2.2.2.2.2.2.2]))] := hD
  obtain rfl := Option.some.inj hf
  exact zreta X (Or.inl ⟨_, rfl⟩) (Or.inr ⟨_, rfl⟩) hQ (zPsub (is := [1, 0]) hP rfl) (hD.sub [1, 0] (by decide) rfl) hS ⟨_, rfl, rfl⟩ dX2_drained_40 (Nat.le_of_ble_eq_true rfl) (Nat.le_of_ble_eq_true rfl)

theorem kf_RX2_66 : zCB RX2 66 yX2_cellTurned cX2_cellTurned 4 (some .int) 3 ∧ Cond.instanceMethod yX2_cellTurned ∈ wAll ∧ Cond.selects yX2_cellTurned.cls yX2_cellTurned yX2_cellTurned ∈ wAll := ⟨⟨q_946, q_8, q_943, by decide +kernel⟩, q_945, qp_34⟩
theorem kf_RX2_70 : zCB RX2 70 yX2_bitMoved cX2_bitMoved 4 (some .long) 3 ∧ Cond.static yX2_bitMoved ∈ wAll := ⟨⟨q_949, q_8, q_947, by decide +kernel⟩, q_948⟩
abbrev rm_X2_turned : Room := { frames := 3, cells := 1, slots := 8, locals := 83 }
def zf_X2_turned_103 (f_columns : Int32) (f_rows : Int32) (f_toldOpen : Int64) (f_toldShut : Int64) (f_stones : Int64) (x1 : Int32) (x2 : Int64) (x4 : Int64) (x6 : Int64) (x8 : Int32) (x9 : Int32) (x10 : Int32) (x11 : Int32) (x12 : Int32) (s0 : Int32) (s1 : Int32) : Option ((Int64 × Int64 × Int64 × Int32) ⊕ ((Int64 × Int64 × Int64))) :=
  (zf_X2_cellTurned f_columns f_rows x9 x10 x1).bind fun o120 =>
  (zf_X2_bitMoved f_stones x11 o120).bind fun o123 =>
  (zf_X2_bitMoved f_toldOpen x11 x12).bind fun o138 =>
  (zf_X2_bitMoved f_toldOpen (x11 + (1 : Int32)) (s0 + s1)).bind fun o151 =>
  (zf_X2_bitMoved f_toldShut x11 x12).bind fun o167 =>
  (zf_X2_bitMoved f_toldShut (x11 + (1 : Int32)) (s0 + s1)).bind fun o180 =>
  some (.inl (x2 ||| (o138 ||| o151), x4 ||| (o167 ||| o180), x6 ||| o123, x8 + (1 : Int32)))
def zf_X2_turned_92 (f_columns : Int32) (f_rows : Int32) (f_toldOpen : Int64) (f_toldShut : Int64) (f_stones : Int64) (x1 : Int32) (x2 : Int64) (x4 : Int64) (x6 : Int64) (x8 : Int32) (x9 : Int32) (x10 : Int32) (x11 : Int32) (x12 : Int32) (s0 : Int32) (s1 : Int32) : Option ((Int64 × Int64 × Int64 × Int32) ⊕ ((Int64 × Int64 × Int64))) :=
  if x1 = (2 : Int32) then (zf_X2_turned_103 f_columns f_rows f_toldOpen f_toldShut f_stones x1 x2 x4 x6 x8 x9 x10 x11 x12 (s0 - s1) (0 : Int32)) else (zf_X2_turned_103 f_columns f_rows f_toldOpen f_toldShut f_stones x1 x2 x4 x6 x8 x9 x10 x11 x12 (s0 - s1) (1 : Int32))
def zf_X2_turned_69 (f_columns : Int32) (f_rows : Int32) (f_toldOpen : Int64) (f_toldShut : Int64) (f_stones : Int64) (x1 : Int32) (x2 : Int64) (x4 : Int64) (x6 : Int64) (x8 : Int32) (x9 : Int32) (x10 : Int32) (x11 : Int32) (s0 : Int32) (s1 : Int32) : Option ((Int64 × Int64 × Int64 × Int32) ⊕ ((Int64 × Int64 × Int64))) :=
  (zf_X2_cellTurned f_columns f_rows x9 x10 x1).bind fun o78 =>
  if x1 = (1 : Int32) then (zf_X2_turned_92 f_columns f_rows f_toldOpen f_toldShut f_stones x1 x2 x4 x6 x8 x9 x10 x11 (s0 + s1) o78 (10 : Int32)) else (zf_X2_turned_92 f_columns f_rows f_toldOpen f_toldShut f_stones x1 x2 x4 x6 x8 x9 x10 x11 (s0 + s1) o78 (0 : Int32))
def zf_X2_turned_58 (f_columns : Int32) (f_rows : Int32) (f_toldOpen : Int64) (f_toldShut : Int64) (f_stones : Int64) (x1 : Int32) (x2 : Int64) (x4 : Int64) (x6 : Int64) (x8 : Int32) (x9 : Int32) (x10 : Int32) (x11 : Int32) (s0 : Int32) (s1 : Int32) : Option ((Int64 × Int64 × Int64 × Int32) ⊕ ((Int64 × Int64 × Int64))) :=
  if x1 = (2 : Int32) then (zf_X2_turned_69 f_columns f_rows f_toldOpen f_toldShut f_stones x1 x2 x4 x6 x8 x9 x10 x11 (s0 - s1) (1 : Int32)) else (zf_X2_turned_69 f_columns f_rows f_toldOpen f_toldShut f_stones x1 x2 x4 x6 x8 x9 x10 x11 (s0 - s1) (0 : Int32))
def zf_X2_turned_l11 (f_columns : Int32) (f_rows : Int32) (f_toldOpen : Int64) (f_toldShut : Int64) (f_stones : Int64) (x1 : Int32) (x2 : Int64) (x4 : Int64) (x6 : Int64) (x8 : Int32) : Option ((Int64 × Int64 × Int64 × Int32) ⊕ ((Int64 × Int64 × Int64))) :=
  if (25 : Int32) ≤ x8 then (some (.inr (x2, x4, x6))) else ((zf_X2_numberOf (zrem x8 (5 : Int32)) (x8 / (5 : Int32)) (0 : Int32)).bind fun o35 =>
  (zf_X2_cellTurned f_columns f_rows (zrem x8 (5 : Int32)) (x8 / (5 : Int32)) x1).bind fun o46 =>
  if x1 = 0 then (zf_X2_turned_58 f_columns f_rows f_toldOpen f_toldShut f_stones x1 x2 x4 x6 x8 (zrem x8 (5 : Int32)) (x8 / (5 : Int32)) o35 o46 (2 : Int32)) else (zf_X2_turned_58 f_columns f_rows f_toldOpen f_toldShut f_stones x1 x2 x4 x6 x8 (zrem x8 (5 : Int32)) (x8 / (5 : Int32)) o35 o46 (0 : Int32)))
def zf_X2_turned_241 (x2 : Int64) (x4 : Int64) (x6 : Int64) (s2 : Int32) (s3 : Int32) : Option (zGD) :=
  (zf_X2_init s2 s3 x2 x4 x6).bind fun o246 =>
  some o246
def zf_X2_turned_225 (f_columns : Int32) (f_rows : Int32) (x2 : Int64) (x4 : Int64) (x6 : Int64) (x8 : Int32) (s2 : Int32) : Option (zGD) :=
  if x8 = 0 then (zf_X2_turned_241 x2 x4 x6 s2 f_rows) else (zf_X2_turned_241 x2 x4 x6 s2 f_columns)
def zf_X2_turned_203 (f_columns : Int32) (f_rows : Int32) (x2 : Int64) (x4 : Int64) (x6 : Int64) (s0 : Int32) : Option (zGD) :=
  if s0 = 0 then (zf_X2_turned_225 f_columns f_rows x2 x4 x6 s0 f_columns) else (zf_X2_turned_225 f_columns f_rows x2 x4 x6 s0 f_rows)
def zf_X2_turned (f_columns : Int32) (f_rows : Int32) (f_toldOpen : Int64) (f_toldShut : Int64) (f_stones : Int64) (x1 : Int32) : Option (zGD) :=
  (zit (fun d => zf_X2_turned_l11 f_columns f_rows f_toldOpen f_toldShut f_stones x1 d.1 d.2.1 d.2.2.1 d.2.2.2) zfu ((0 : Int64), (0 : Int64), (0 : Int64), (0 : Int32))).bind fun o11 =>
  if x1 = (2 : Int32) then (zf_X2_turned_203 f_columns f_rows o11.1 o11.2.1 o11.2.2 (1 : Int32)) else (zf_X2_turned_203 f_columns f_rows o11.1 o11.2.1 o11.2.2 (0 : Int32))
set_option maxHeartbeats 4000000 in
set_option maxRecDepth 100000 in
theorem zc_X2_turned (l : Launch) (D : va_G) (y : zY) (a_this : Nat) (f_columns : Int32) (f_rows : Int32) (f_toldOpen : Int64) (f_toldShut : Int64) (f_stones : Int64) (f_open : Int64) (f_shut : Int64) (f_free : Int64) (x1 : Int32) (out : zGD) (hf : zf_X2_turned f_columns f_rows f_toldOpen f_toldShut f_stones x1 = some out) : zC l D y yX2_turned cX2_turned 14 (some (.object "WaterGrid$Grid")) rm_X2_turned [.ref a_this, .int x1] [(a_this, .inr (2, [.int f_columns, .int f_rows, .long f_toldOpen, .long f_toldShut, .long f_stones, .long f_open, .long f_shut, .long f_free]))] (fun v w => ∃ q, v = (some (.ref q)) ∧ w = [(q, zgE out), (a_this, .inr (2, [.int f_columns, .int f_rows, .long f_toldOpen, .long f_toldShut, .long f_stones, .long f_open, .long f_shut, .long f_free]))]) := by
  refine zmk (by decide) (Nat.le_of_ble_eq_true rfl) ?_
  intro p e s m args below meth c A Q ls X hQ hnm hP hD hS hl
  have X : zX p s m args meth c D y A RX2 cX2_turned 14 (some (.object "WaterGrid$Grid")) := X
  obtain ⟨hx, hb, hr, hml, hown, hts, hK, hA, hlocks⟩ := id X
  have hl : lv_has ls 14 [(0, .ref a_this), (1, .int x1)] := hl
  have L11 : ∀ (n : Nat) (x1 : Int32) (x2 : Int64) (x4 : Int64) (x6 : Int64) (x8 : Int32) (x : (Int64 × Int64 × Int64)), zit (fun d => zf_X2_turned_l11 f_columns f_rows f_toldOpen f_toldShut f_stones x1 d.1 d.2.1 d.2.2.1 d.2.2.2) n (x2, x4, x6, x8) = some x → ∀ (H : Heap) (locs : List Loc) (ls : Array Slot), lv_has ls 14 [(0, .ref a_this), (1, .int x1), (2, .long x2), (4, .long x4), (6, .long x6), (8, .int x8)] → va_P D vwCl [(a_this, .inr (2, [.int f_columns, .int f_rows, .long f_toldOpen, .long f_toldShut, .long f_stones, .long f_open, .long f_shut, .long f_free]))] H → va_D A [(a_this, .inr (2, [.int f_columns, .int f_rows, .long f_toldOpen, .long f_toldShut, .long f_stones, .long f_open, .long f_shut, .long f_free]))] → va_S A s.heap H locs → (∀ (H : Heap) (locs : List Loc) (ls : Array Slot), lv_has ls 14 [(0, .ref a_this), (1, .int x1), (2, .long x.1), (4, .long x.2.1), (6, .long x.2.2)] → va_P D vwCl [(a_this, .inr (2, [.int f_columns, .int f_rows, .long f_toldOpen, .long f_toldShut, .long f_stones, .long f_open, .long f_shut, .long f_free]))] H → va_D A [(a_this, .inr (2, [.int f_columns, .int f_rows, .long f_toldOpen, .long f_toldShut, .long f_stones, .long f_open, .long f_shut, .long f_free]))] → va_S A s.heap H locs → W p l e rm_X2_turned s m args below meth c H locs 0 0 Q (F0 m 193 ls [])) → W p l e rm_X2_turned s m args below meth c H locs 0 0 Q (F0 m 11 ls []) := by
    intro n
    induction n with
    | zero => intro x1 x2 x4 x6 x8 x h; exact (zi0 h).elim
    | succ n ih =>
      intro x1 x2 x4 x6 x8 x h H locs ls hl hP hD hS K193
      obtain ⟨r, hf, h⟩ := zis h
      have hf : zf_X2_turned_l11 f_columns f_rows f_toldOpen f_toldShut f_stones x1 x2 x4 x6 x8 = some r := hf
      have J103 : ∀ (x2 : Int64) (x4 : Int64) (x6 : Int64) (x8 : Int32) (x9 : Int32) (x10 : Int32) (x11 : Int32) (x12 : Int32) (s0 : Int32) (s1 : Int32), zf_X2_turned_103 f_columns f_rows f_toldOpen f_toldShut f_stones x1 x2 x4 x6 x8 x9 x10 x11 x12 s0 s1 = some r → ∀ (H : Heap) (locs : List Loc) (ls : Array Slot), lv_has ls 14 [(0, .ref a_this), (1, .int x1), (2, .long x2), (4, .long x4), (6, .long x6), (8, .int x8), (9, .int x9), (10, .int x10), (11, .int x11), (12, .int x12)] → va_P D vwCl [(a_this, .inr (2, [.int f_columns, .int f_rows, .long f_toldOpen, .long f_toldShut, .long f_stones, .long f_open, .long f_shut, .long f_free]))] H → va_D A [(a_this, .inr (2, [.int f_columns, .int f_rows, .long f_toldOpen, .long f_toldShut, .long f_stones, .long f_open, .long f_shut, .long f_free]))] → va_S A s.heap H locs → W p l e rm_X2_turned s m args below meth c H locs 0 0 Q (F0 m 103 ls [.int s1, .int s0]) := by
        intro x2 x4 x6 x8 x9 x10 x11 x12 s0 s1 hf H locs ls hl hP hD hS
        unfold zf_X2_turned_103 at hf
        refine lv_iadd hx hb dX2_turned_103 ?_
        refine lv_istore (lv' := [(13, .int (s0 + s1)), (0, .ref a_this), (1, .int x1), (2, .long x2), (4, .long x4), (6, .long x6), (8, .int x8), (9, .int x9), (10, .int x10), (11, .int x11), (12, .int x12)]) hx hb dX2_turned_104 hl (by decide) rfl (fun ls hl => ?_)
        refine lv_lload hx hb dX2_turned_106 (lv_at hl 5 rfl) ?_
        refine lv_aload_n hx hb dX2_turned_108 rfl (lv_at hl 1 rfl) ?_
        refine zget X hP 0 rfl rfl inF2 4 (by decide) q_245 rfl dX2_turned_109 ?_
        refine lv_iload hx hb dX2_turned_112 (lv_at hl 9 rfl) ?_
        refine lv_aload_n hx hb dX2_turned_114 rfl (lv_at hl 1 rfl) ?_
        refine lv_iload hx hb dX2_turned_115 (lv_at hl 7 rfl) ?_
        refine lv_iload hx hb dX2_turned_117 (lv_at hl 8 rfl) ?_
        refine lv_iload_n hx hb dX2_turned_119 rfl (lv_at hl 2 rfl) ?_
        obtain ⟨o120, ho120, hf⟩ := zb hf
        refine zcV1 (wr := []) (rest := [.int x11, .long f_stones, .long x6]) X (zc_X2_cellTurned l D y a_this f_columns f_rows f_toldOpen f_toldShut f_stones f_open f_shut f_free x9 x10 x1 o120 ho120) kf_RX2_66 ⟨(Nat.le_of_ble_eq_true rfl), (Nat.le_of_ble_eq_true rfl)⟩ hP hD hS [0] [] rfl rfl rfl rfl (by decide) 0 rfl rfl rfl rfl hl.1 (Nat.le_of_ble_eq_true rfl) dX2_turned_120 ⟨(Nat.le_of_ble_eq_true rfl), (Nat.le_of_ble_eq_true rfl)⟩ (fun H locs hP hD hS => ?_)
        have hP : va_P D vwCl [(a_this, .inr (2, [.int f_columns, .int f_rows, .long f_toldOpen, .long f_toldShut, .long f_stones, .long f_open, .long f_shut, .long f_free]))] H := hP
        have hD : va_D A [(a_this, .inr (2, [.int f_columns, .int f_rows, .long f_toldOpen, .long f_toldShut, .long f_stones, .long f_open, .long f_shut, .long f_free]))] := hD
        obtain ⟨o123, ho123, hf⟩ := zb hf
        refine zcS1 (wr := [(a_this, .inr (2, [.int f_columns, .int f_rows, .long f_toldOpen, .long f_toldShut, .long f_stones, .long f_open, .long f_shut, .long f_free]))]) (rest := [.long x6]) X (zc_X2_bitMoved l D y f_stones x11 o120 o123 ho123) kf_RX2_70 ⟨(Nat.le_of_ble_eq_true rfl), (Nat.le_of_ble_eq_true rfl)⟩ hP hD hS [] [0] rfl rfl rfl rfl (by decide) rfl rfl hl.1 (Nat.le_of_ble_eq_true rfl) dX2_turned_123 ⟨(Nat.le_of_ble_eq_true rfl), (Nat.le_of_ble_eq_true rfl)⟩ (fun H locs hP hD hS => ?_)
        have hP : va_P D vwCl [(a_this, .inr (2, [.int f_columns, .int f_rows, .long f_toldOpen, .long f_toldShut, .long f_stones, .long f_open, .long f_shut, .long f_free]))] H := hP
        have hD : va_D A [(a_this, .inr (2, [.int f_columns, .int f_rows, .long f_toldOpen, .long f_toldShut, .long f_stones, .long f_open, .long f_shut, .long f_free]))] := hD
        refine lv_lor hx hb dX2_turned_126 ?_
        refine lv_lstore (lv' := [(6, .long (x6 ||| o123)), (13, .int (s0 + s1)), (0, .ref a_this), (1, .int x1), (2, .long x2), (4, .long x4), (8, .int x8), (9, .int x9), (10, .int x10), (11, .int x11), (12, .int x12)]) hx hb dX2_turned_127 hl (by decide) rfl (fun ls hl => ?_)
        refine lv_lload_n hx hb dX2_turned_129 rfl (lv_at hl 4 rfl) ?_
        refine lv_aload_n hx hb dX2_turned_130 rfl (lv_at hl 2 rfl) ?_
        refine zget X hP 0 rfl rfl inF2 2 (by decide) q_243 rfl dX2_turned_131 ?_
        refine lv_iload hx hb dX2_turned_134 (lv_at hl 9 rfl) ?_
        refine lv_iload hx hb dX2_turned_136 (lv_at hl 10 rfl) ?_
        obtain ⟨o138, ho138, hf⟩ := zb hf
        refine zcS1 (wr := [(a_this, .inr (2, [.int f_columns, .int f_rows, .long f_toldOpen, .long f_toldShut, .long f_stones, .long f_open, .long f_shut, .long f_free]))]) (rest := [.long x2]) X (zc_X2_bitMoved l D y f_toldOpen x11 x12 o138 ho138) kf_RX2_70 ⟨(Nat.le_of_ble_eq_true rfl), (Nat.le_of_ble_eq_true rfl)⟩ hP hD hS [] [0] rfl rfl rfl rfl (by decide) rfl rfl hl.1 (Nat.le_of_ble_eq_true rfl) dX2_turned_138 ⟨(Nat.le_of_ble_eq_true rfl), (Nat.le_of_ble_eq_true rfl)⟩ (fun H locs hP hD hS => ?_)
        have hP : va_P D vwCl [(a_this, .inr (2, [.int f_columns, .int f_rows, .long f_toldOpen, .long f_toldShut, .long f_stones, .long f_open, .long f_shut, .long f_free]))] H := hP
        have hD : va_D A [(a_this, .inr (2, [.int f_columns, .int f_rows, .long f_toldOpen, .long f_toldShut, .long f_stones, .long f_open, .long f_shut, .long f_free]))] := hD
        refine lv_aload_n hx hb dX2_turned_141 rfl (lv_at hl 2 rfl) ?_
        refine zget X hP 0 rfl rfl inF2 2 (by decide) q_243 rfl dX2_turned_142 ?_
        refine lv_iload hx hb dX2_turned_145 (lv_at hl 9 rfl) ?_
        refine lv_iconst (v := 1) hx hb dX2_turned_147 (by decide) ?_
        refine lv_iadd hx hb dX2_turned_148 ?_
        refine lv_iload hx hb dX2_turned_149 (lv_at hl 1 rfl) ?_
        obtain ⟨o151, ho151, hf⟩ := zb hf
        refine zcS1 (wr := [(a_this, .inr (2, [.int f_columns, .int f_rows, .long f_toldOpen, .long f_toldShut, .long f_stones, .long f_open, .long f_shut, .long f_free]))]) (rest := [.long o138, .long x2]) X (zc_X2_bitMoved l D y f_toldOpen (x11 + (1 : Int32)) (s0 + s1) o151 ho151) kf_RX2_70 ⟨(Nat.le_of_ble_eq_true rfl), (Nat.le_of_ble_eq_true rfl)⟩ hP hD hS [] [0] rfl rfl rfl rfl (by decide) rfl rfl hl.1 (Nat.le_of_ble_eq_true rfl) dX2_turned_151 ⟨(Nat.le_of_ble_eq_true rfl), (Nat.le_of_ble_eq_true rfl)⟩ (fun H locs hP hD hS => ?_)
        have hP : va_P D vwCl [(a_this, .inr (2, [.int f_columns, .int f_rows, .long f_toldOpen, .long f_toldShut, .long f_stones, .long f_open, .long f_shut, .long f_free]))] H := hP
        have hD : va_D A [(a_this, .inr (2, [.int f_columns, .int f_rows, .long f_toldOpen, .long f_toldShut, .long f_stones, .long f_open, .long f_shut, .long f_free]))] := hD
        refine lv_lor hx hb dX2_turned_154 ?_
        refine lv_lor hx hb dX2_turned_155 ?_
        refine lv_lstore_n (lv' := [(2, .long (x2 ||| (o138 ||| o151))), (6, .long (x6 ||| o123)), (13, .int (s0 + s1)), (0, .ref a_this), (1, .int x1), (4, .long x4), (8, .int x8), (9, .int x9), (10, .int x10), (11, .int x11), (12, .int x12)]) hx hb dX2_turned_156 rfl hl (by decide) rfl (fun ls hl => ?_)
        refine lv_lload hx hb dX2_turned_157 (lv_at hl 5 rfl) ?_
        refine lv_aload_n hx hb dX2_turned_159 rfl (lv_at hl 3 rfl) ?_
        refine zget X hP 0 rfl rfl inF2 3 (by decide) q_244 rfl dX2_turned_160 ?_
        refine lv_iload hx hb dX2_turned_163 (lv_at hl 9 rfl) ?_
        refine lv_iload hx hb dX2_turned_165 (lv_at hl 10 rfl) ?_
        obtain ⟨o167, ho167, hf⟩ := zb hf
        refine zcS1 (wr := [(a_this, .inr (2, [.int f_columns, .int f_rows, .long f_toldOpen, .long f_toldShut, .long f_stones, .long f_open, .long f_shut, .long f_free]))]) (rest := [.long x4]) X (zc_X2_bitMoved l D y f_toldShut x11 x12 o167 ho167) kf_RX2_70 ⟨(Nat.le_of_ble_eq_true rfl), (Nat.le_of_ble_eq_true rfl)⟩ hP hD hS [] [0] rfl rfl rfl rfl (by decide) rfl rfl hl.1 (Nat.le_of_ble_eq_true rfl) dX2_turned_167 ⟨(Nat.le_of_ble_eq_true rfl), (Nat.le_of_ble_eq_true rfl)⟩ (fun H locs hP hD hS => ?_)
        have hP : va_P D vwCl [(a_this, .inr (2, [.int f_columns, .int f_rows, .long f_toldOpen, .long f_toldShut, .long f_stones, .long f_open, .long f_shut, .long f_free]))] H := hP
        have hD : va_D A [(a_this, .inr (2, [.int f_columns, .int f_rows, .long f_toldOpen, .long f_toldShut, .long f_stones, .long f_open, .long f_shut, .long f_free]))] := hD
        refine lv_aload_n hx hb dX2_turned_170 rfl (lv_at hl 3 rfl) ?_
        refine zget X hP 0 rfl rfl inF2 3 (by decide) q_244 rfl dX2_turned_171 ?_
        refine lv_iload hx hb dX2_turned_174 (lv_at hl 9 rfl) ?_
        refine lv_iconst (v := 1) hx hb dX2_turned_176 (by decide) ?_
        refine lv_iadd hx hb dX2_turned_177 ?_
        refine lv_iload hx hb dX2_turned_178 (lv_at hl 2 rfl) ?_
        obtain ⟨o180, ho180, hf⟩ := zb hf
        refine zcS1 (wr := [(a_this, .inr (2, [.int f_columns, .int f_rows, .long f_toldOpen, .long f_toldShut, .long f_stones, .long f_open, .long f_shut, .long f_free]))]) (rest := [.long o167, .long x4]) X (zc_X2_bitMoved l D y f_toldShut (x11 + (1 : Int32)) (s0 + s1) o180 ho180) kf_RX2_70 ⟨(Nat.le_of_ble_eq_true rfl), (Nat.le_of_ble_eq_true rfl)⟩ hP hD hS [] [0] rfl rfl rfl rfl (by decide) rfl rfl hl.1 (Nat.le_of_ble_eq_true rfl) dX2_turned_180 ⟨(Nat.le_of_ble_eq_true rfl), (Nat.le_of_ble_eq_true rfl)⟩ (fun H locs hP hD hS => ?_)
        have hP : va_P D vwCl [(a_this, .inr (2, [.int f_columns, .int f_rows, .long f_toldOpen, .long f_toldShut, .long f_stones, .long f_open, .long f_shut, .long f_free]))] H := hP
        have hD : va_D A [(a_this, .inr (2, [.int f_columns, .int f_rows, .long f_toldOpen, .long f_toldShut, .long f_stones, .long f_open, .long f_shut, .long f_free]))] := hD
        refine lv_lor hx hb dX2_turned_183 ?_
        refine lv_lor hx hb dX2_turned_184 ?_
        refine lv_lstore (lv' := [(4, .long (x4 ||| (o167 ||| o180))), (2, .long (x2 ||| (o138 ||| o151))), (6, .long (x6 ||| o123)), (13, .int (s0 + s1)), (0, .ref a_this), (1, .int x1), (8, .int x8), (9, .int x9), (10, .int x10), (11, .int x11), (12, .int x12)]) hx hb dX2_turned_185 hl (by decide) rfl (fun ls hl => ?_)
        refine lv_iinc (v := x8 + (1 : Int32)) (lv' := [(8, .int (x8 + (1 : Int32))), (4, .long (x4 ||| (o167 ||| o180))), (2, .long (x2 ||| (o138 ||| o151))), (6, .long (x6 ||| o123)), (13, .int (s0 + s1)), (0, .ref a_this), (1, .int x1), (9, .int x9), (10, .int x10), (11, .int x11), (12, .int x12)]) hx hb dX2_turned_187 hl (k := 6) rfl rfl (by decide) rfl (fun ls hl => ?_)
        refine lv_goto (tgt := 11) hx hb dX2_turned_190 (by decide) ?_
        obtain rfl := Option.some.inj hf
        exact ih x1 (x2 ||| (o138 ||| o151)) (x4 ||| (o167 ||| o180)) (x6 ||| o123) (x8 + (1 : Int32)) x h _ _ _ (lv_sub hl [5, 6, 2, 1, 3, 0] rfl) hP hD hS K193
      have J92 : ∀ (x2 : Int64) (x4 : Int64) (x6 : Int64) (x8 : Int32) (x9 : Int32) (x10 : Int32) (x11 : Int32) (x12 : Int32) (s0 : Int32) (s1 : Int32), zf_X2_turned_92 f_columns f_rows f_toldOpen f_toldShut f_stones x1 x2 x4 x6 x8 x9 x10 x11 x12 s0 s1 = some r → ∀ (H : Heap) (locs : List Loc) (ls : Array Slot), lv_has ls 14 [(0, .ref a_this), (1, .int x1), (2, .long x2), (4, .long x4), (6, .long x6), (8, .int x8), (9, .int x9), (10, .int x10), (11, .int x11), (12, .int x12)] → va_P D vwCl [(a_this, .inr (2, [.int f_columns, .int f_rows, .long f_toldOpen, .long f_toldShut, .long f_stones, .long f_open, .long f_shut, .long f_free]))] H → va_D A [(a_this, .inr (2, [.int f_columns, .int f_rows, .long f_toldOpen, .long f_toldShut, .long f_stones, .long f_open, .long f_shut, .long f_free]))] → va_S A s.heap H locs → W p l e rm_X2_turned s m args below meth c H locs 0 0 Q (F0 m 92 ls [.int s1, .int s0]) := by
        intro x2 x4 x6 x8 x9 x10 x11 x12 s0 s1 hf H locs ls hl hP hD hS
        unfold zf_X2_turned_92 at hf
        refine lv_isub hx hb dX2_turned_92 ?_
        refine lv_iload_n hx hb dX2_turned_93 rfl (lv_at hl 1 rfl) ?_
        refine lv_iconst (v := 2) hx hb dX2_turned_94 (by decide) ?_
        refine lv_icmp_ne (tgt := 102) hx hb dX2_turned_95 (by decide) (fun c95 => ?_) (fun c95 => ?_)
        · replace hf := ze c95 hf
          refine lv_iconst (v := 1) hx hb dX2_turned_102 (by decide) ?_
          exact J103 x2 x4 x6 x8 x9 x10 x11 x12 (s0 - s1) (1 : Int32) hf _ _ _ hl hP hD hS
        · replace hf := zt c95 hf
          refine lv_iconst (v := 0) hx hb dX2_turned_98 (by decide) ?_
          refine lv_goto (tgt := 103) hx hb dX2_turned_99 (by decide) ?_
          exact J103 x2 x4 x6 x8 x9 x10 x11 x12 (s0 - s1) (0 : Int32) hf _ _ _ hl hP hD hS
      have J69 : ∀ (x2 : Int64) (x4 : Int64) (x6 : Int64) (x8 : Int32) (x9 : Int32) (x10 : Int32) (x11 : Int32) (s0 : Int32) (s1 : Int32), zf_X2_turned_69 f_columns f_rows f_toldOpen f_toldShut f_stones x1 x2 x4 x6 x8 x9 x10 x11 s0 s1 = some r → ∀ (H : Heap) (locs : List Loc) (ls : Array Slot), lv_has ls 14 [(0, .ref a_this), (1, .int x1), (2, .long x2), (4, .long x4), (6, .long x6), (8, .int x8), (9, .int x9), (10, .int x10), (11, .int x11)] → va_P D vwCl [(a_this, .inr (2, [.int f_columns, .int f_rows, .long f_toldOpen, .long f_toldShut, .long f_stones, .long f_open, .long f_shut, .long f_free]))] H → va_D A [(a_this, .inr (2, [.int f_columns, .int f_rows, .long f_toldOpen, .long f_toldShut, .long f_stones, .long f_open, .long f_shut, .long f_free]))] → va_S A s.heap H locs → W p l e rm_X2_turned s m args below meth c H locs 0 0 Q (F0 m 69 ls [.int s1, .int s0]) := by
        intro x2 x4 x6 x8 x9 x10 x11 s0 s1 hf H locs ls hl hP hD hS
        unfold zf_X2_turned_69 at hf
        refine lv_iadd hx hb dX2_turned_69 ?_
        refine lv_istore (lv' := [(12, .int (s0 + s1)), (0, .ref a_this), (1, .int x1), (2, .long x2), (4, .long x4), (6, .long x6), (8, .int x8), (9, .int x9), (10, .int x10), (11, .int x11)]) hx hb dX2_turned_70 hl (by decide) rfl (fun ls hl => ?_)
        refine lv_aload_n hx hb dX2_turned_72 rfl (lv_at hl 1 rfl) ?_
        refine lv_iload hx hb dX2_turned_73 (lv_at hl 7 rfl) ?_
        refine lv_iload hx hb dX2_turned_75 (lv_at hl 8 rfl) ?_
        refine lv_iload_n hx hb dX2_turned_77 rfl (lv_at hl 2 rfl) ?_
        obtain ⟨o78, ho78, hf⟩ := zb hf
        refine zcV1 (wr := []) (rest := []) X (zc_X2_cellTurned l D y a_this f_columns f_rows f_toldOpen f_toldShut f_stones f_open f_shut f_free x9 x10 x1 o78 ho78) kf_RX2_66 ⟨(Nat.le_of_ble_eq_true rfl), (Nat.le_of_ble_eq_true rfl)⟩ hP hD hS [0] [] rfl rfl rfl rfl (by decide) 0 rfl rfl rfl rfl hl.1 (Nat.le_of_ble_eq_true rfl) dX2_turned_78 ⟨(Nat.le_of_ble_eq_true rfl), (Nat.le_of_ble_eq_true rfl)⟩ (fun H locs hP hD hS => ?_)
        have hP : va_P D vwCl [(a_this, .inr (2, [.int f_columns, .int f_rows, .long f_toldOpen, .long f_toldShut, .long f_stones, .long f_open, .long f_shut, .long f_free]))] H := hP
        have hD : va_D A [(a_this, .inr (2, [.int f_columns, .int f_rows, .long f_toldOpen, .long f_toldShut, .long f_stones, .long f_open, .long f_shut, .long f_free]))] := hD
        refine lv_iload_n hx hb dX2_turned_81 rfl (lv_at hl 2 rfl) ?_
        refine lv_iconst (v := 1) hx hb dX2_turned_82 (by decide) ?_
        refine lv_icmp_ne (tgt := 91) hx hb dX2_turned_83 (by decide) (fun c83 => ?_) (fun c83 => ?_)
        · replace hf := ze c83 hf
          refine lv_iconst (v := 0) hx hb dX2_turned_91 (by decide) ?_
          exact J92 x2 x4 x6 x8 x9 x10 x11 (s0 + s1) o78 (0 : Int32) hf _ _ _ (lv_sub hl [1, 2, 3, 4, 5, 6, 7, 8, 9, 0] rfl) hP hD hS
        · replace hf := zt c83 hf
          refine lv_bipush (v := 10) hx hb dX2_turned_86 (by decide) ?_
          refine lv_goto (tgt := 92) hx hb dX2_turned_88 (by decide) ?_
          exact J92 x2 x4 x6 x8 x9 x10 x11 (s0 + s1) o78 (10 : Int32) hf _ _ _ (lv_sub hl [1, 2, 3, 4, 5, 6, 7, 8, 9, 0] rfl) hP hD hS
      have J58 : ∀ (x2 : Int64) (x4 : Int64) (x6 : Int64) (x8 : Int32) (x9 : Int32) (x10 : Int32) (x11 : Int32) (s0 : Int32) (s1 : Int32), zf_X2_turned_58 f_columns f_rows f_toldOpen f_toldShut f_stones x1 x2 x4 x6 x8 x9 x10 x11 s0 s1 = some r → ∀ (H : Heap) (locs : List Loc) (ls : Array Slot), lv_has ls 14 [(0, .ref a_this), (1, .int x1), (2, .long x2), (4, .long x4), (6, .long x6), (8, .int x8), (9, .int x9), (10, .int x10), (11, .int x11)] → va_P D vwCl [(a_this, .inr (2, [.int f_columns, .int f_rows, .long f_toldOpen, .long f_toldShut, .long f_stones, .long f_open, .long f_shut, .long f_free]))] H → va_D A [(a_this, .inr (2, [.int f_columns, .int f_rows, .long f_toldOpen, .long f_toldShut, .long f_stones, .long f_open, .long f_shut, .long f_free]))] → va_S A s.heap H locs → W p l e rm_X2_turned s m args below meth c H locs 0 0 Q (F0 m 58 ls [.int s1, .int s0]) := by
        intro x2 x4 x6 x8 x9 x10 x11 s0 s1 hf H locs ls hl hP hD hS
        unfold zf_X2_turned_58 at hf
        refine lv_isub hx hb dX2_turned_58 ?_
        refine lv_iload_n hx hb dX2_turned_59 rfl (lv_at hl 1 rfl) ?_
        refine lv_iconst (v := 2) hx hb dX2_turned_60 (by decide) ?_
        refine lv_icmp_ne (tgt := 68) hx hb dX2_turned_61 (by decide) (fun c61 => ?_) (fun c61 => ?_)
        · replace hf := ze c61 hf
          refine lv_iconst (v := 0) hx hb dX2_turned_68 (by decide) ?_
          exact J69 x2 x4 x6 x8 x9 x10 x11 (s0 - s1) (0 : Int32) hf _ _ _ hl hP hD hS
        · replace hf := zt c61 hf
          refine lv_iconst (v := 1) hx hb dX2_turned_64 (by decide) ?_
          refine lv_goto (tgt := 69) hx hb dX2_turned_65 (by decide) ?_
          exact J69 x2 x4 x6 x8 x9 x10 x11 (s0 - s1) (1 : Int32) hf _ _ _ hl hP hD hS
      unfold zf_X2_turned_l11 at hf
      refine lv_iload hx hb dX2_turned_11 (lv_at hl 5 rfl) ?_
      refine lv_bipush (v := 25) hx hb dX2_turned_13 (by decide) ?_
      refine lv_icmp_ge (tgt := 193) hx hb dX2_turned_15 (by decide) (fun c15 => ?_) (fun c15 => ?_)
      · replace hf := zt c15 hf
        obtain rfl := Option.some.inj hf
        obtain rfl := Option.some.inj h
        exact K193 _ _ _ (lv_sub hl [0, 1, 2, 3, 4] rfl) hP hD hS
      · replace hf := ze c15 hf
        refine lv_iload hx hb dX2_turned_18 (lv_at hl 5 rfl) ?_
        refine lv_iconst (v := 5) hx hb dX2_turned_20 (by decide) ?_
        refine lv_irem hx hb dX2_turned_21 (by decide) ?_
        refine lv_istore (lv' := [(9, .int (zrem x8 (5 : Int32))), (0, .ref a_this), (1, .int x1), (2, .long x2), (4, .long x4), (6, .long x6), (8, .int x8)]) hx hb dX2_turned_22 hl (by decide) rfl (fun ls hl => ?_)
        refine lv_iload hx hb dX2_turned_24 (lv_at hl 6 rfl) ?_
        refine lv_iconst (v := 5) hx hb dX2_turned_26 (by decide) ?_
        refine lv_idiv hx hb dX2_turned_27 (by decide) ?_
        refine lv_istore (lv' := [(10, .int (x8 / (5 : Int32))), (9, .int (zrem x8 (5 : Int32))), (0, .ref a_this), (1, .int x1), (2, .long x2), (4, .long x4), (6, .long x6), (8, .int x8)]) hx hb dX2_turned_28 hl (by decide) rfl (fun ls hl => ?_)
        refine lv_iload hx hb dX2_turned_30 (lv_at hl 1 rfl) ?_
        refine lv_iload hx hb dX2_turned_32 (lv_at hl 0 rfl) ?_
        refine lv_iconst (v := 0) hx hb dX2_turned_34 (by decide) ?_
        obtain ⟨o35, ho35, hf⟩ := zb hf
        refine zcS1 (wr := [(a_this, .inr (2, [.int f_columns, .int f_rows, .long f_toldOpen, .long f_toldShut, .long f_stones, .long f_open, .long f_shut, .long f_free]))]) (rest := []) X (zc_X2_numberOf l D y (zrem x8 (5 : Int32)) (x8 / (5 : Int32)) (0 : Int32) o35 ho35) kf_RX2_47 ⟨(Nat.le_of_ble_eq_true rfl), (Nat.le_of_ble_eq_true rfl)⟩ hP hD hS [] [0] rfl rfl rfl rfl (by decide) rfl rfl hl.1 (Nat.le_of_ble_eq_true rfl) dX2_turned_35 ⟨(Nat.le_of_ble_eq_true rfl), (Nat.le_of_ble_eq_true rfl)⟩ (fun H locs hP hD hS => ?_)
        have hP : va_P D vwCl [(a_this, .inr (2, [.int f_columns, .int f_rows, .long f_toldOpen, .long f_toldShut, .long f_stones, .long f_open, .long f_shut, .long f_free]))] H := hP
        have hD : va_D A [(a_this, .inr (2, [.int f_columns, .int f_rows, .long f_toldOpen, .long f_toldShut, .long f_stones, .long f_open, .long f_shut, .long f_free]))] := hD
        refine lv_istore (lv' := [(11, .int o35), (10, .int (x8 / (5 : Int32))), (9, .int (zrem x8 (5 : Int32))), (0, .ref a_this), (1, .int x1), (2, .long x2), (4, .long x4), (6, .long x6), (8, .int x8)]) hx hb dX2_turned_38 hl (by decide) rfl (fun ls hl => ?_)
        refine lv_aload_n hx hb dX2_turned_40 rfl (lv_at hl 3 rfl) ?_
        refine lv_iload hx hb dX2_turned_41 (lv_at hl 2 rfl) ?_
        refine lv_iload hx hb dX2_turned_43 (lv_at hl 1 rfl) ?_
        refine lv_iload_n hx hb dX2_turned_45 rfl (lv_at hl 4 rfl) ?_
        obtain ⟨o46, ho46, hf⟩ := zb hf
        refine zcV1 (wr := []) (rest := []) X (zc_X2_cellTurned l D y a_this f_columns f_rows f_toldOpen f_toldShut f_stones f_open f_shut f_free (zrem x8 (5 : Int32)) (x8 / (5 : Int32)) x1 o46 ho46) kf_RX2_66 ⟨(Nat.le_of_ble_eq_true rfl), (Nat.le_of_ble_eq_true rfl)⟩ hP hD hS [0] [] rfl rfl rfl rfl (by decide) 0 rfl rfl rfl rfl hl.1 (Nat.le_of_ble_eq_true rfl) dX2_turned_46 ⟨(Nat.le_of_ble_eq_true rfl), (Nat.le_of_ble_eq_true rfl)⟩ (fun H locs hP hD hS => ?_)
        have hP : va_P D vwCl [(a_this, .inr (2, [.int f_columns, .int f_rows, .long f_toldOpen, .long f_toldShut, .long f_stones, .long f_open, .long f_shut, .long f_free]))] H := hP
        have hD : va_D A [(a_this, .inr (2, [.int f_columns, .int f_rows, .long f_toldOpen, .long f_toldShut, .long f_stones, .long f_open, .long f_shut, .long f_free]))] := hD
        refine lv_iload_n hx hb dX2_turned_49 rfl (lv_at hl 4 rfl) ?_
        refine lv_if_ne (tgt := 57) hx hb dX2_turned_50 (by decide) (fun c50 => ?_) (fun c50 => ?_)
        · replace hf := ze c50 hf
          refine lv_iconst (v := 0) hx hb dX2_turned_57 (by decide) ?_
          exact J58 x2 x4 x6 x8 (zrem x8 (5 : Int32)) (x8 / (5 : Int32)) o35 o46 (0 : Int32) hf _ _ _ (lv_sub hl [3, 4, 5, 6, 7, 8, 2, 1, 0] rfl) hP hD hS
        · replace hf := zt c50 hf
          refine lv_iconst (v := 2) hx hb dX2_turned_53 (by decide) ?_
          refine lv_goto (tgt := 58) hx hb dX2_turned_54 (by decide) ?_
          exact J58 x2 x4 x6 x8 (zrem x8 (5 : Int32)) (x8 / (5 : Int32)) o35 o46 (2 : Int32) hf _ _ _ (lv_sub hl [3, 4, 5, 6, 7, 8, 2, 1, 0] rfl) hP hD hS
  have J241 : ∀ (x2 : Int64) (x4 : Int64) (x6 : Int64) (s2 : Int32) (s3 : Int32) (a_new205 : Nat), zf_X2_turned_241 x2 x4 x6 s2 s3 = some out → ∀ (H : Heap) (locs : List Loc) (ls : Array Slot), lv_has ls 14 [(2, .long x2), (4, .long x4), (6, .long x6)] → va_P D vwCl [(a_this, .inr (2, [.int f_columns, .int f_rows, .long f_toldOpen, .long f_toldShut, .long f_stones, .long f_open, .long f_shut, .long f_free])), (a_new205, .inr (2, [.int (0 : Int32), .int (0 : Int32), .long (0 : Int64), .long (0 : Int64), .long (0 : Int64), .long (0 : Int64), .long (0 : Int64), .long (0 : Int64)]))] H → va_D A [(a_this, .inr (2, [.int f_columns, .int f_rows, .long f_toldOpen, .long f_toldShut, .long f_stones, .long f_open, .long f_shut, .long f_free])), (a_new205, .inr (2, [.int (0 : Int32), .int (0 : Int32), .long (0 : Int64), .long (0 : Int64), .long (0 : Int64), .long (0 : Int64), .long (0 : Int64), .long (0 : Int64)]))] → va_S A s.heap H locs → W p l e rm_X2_turned s m args below meth c H locs 1 8 Q (F0 m 241 ls [.int s3, .int s2, .ref a_new205, .ref a_new205]) := by
    intro x2 x4 x6 s2 s3 a_new205 hf H locs ls hl hP hD hS
    unfold zf_X2_turned_241 at hf
    refine lv_lload_n hx hb dX2_turned_241 rfl (lv_at hl 0 rfl) ?_
    refine lv_lload hx hb dX2_turned_242 (lv_at hl 1 rfl) ?_
    refine lv_lload hx hb dX2_turned_244 (lv_at hl 2 rfl) ?_
    obtain ⟨o246, ho246, hf⟩ := zb hf
    refine zcI0 (wr := [(a_this, .inr (2, [.int f_columns, .int f_rows, .long f_toldOpen, .long f_toldShut, .long f_stones, .long f_open, .long f_shut, .long f_free]))]) (rest := [.ref a_new205]) X (zc_X2_init l D y a_new205 s2 s3 x2 x4 x6 o246 ho246) kf_RX2_63 ⟨(Nat.le_of_ble_eq_true rfl), (Nat.le_of_ble_eq_true rfl)⟩ hP hD hS [1] [0] rfl rfl rfl rfl (by decide) rfl rfl hl.1 (Nat.le_of_ble_eq_true rfl) dX2_turned_246 ⟨(Nat.le_of_ble_eq_true rfl), (Nat.le_of_ble_eq_true rfl)⟩ (fun H locs hP hD hS => ?_)
    have hP : va_P D vwCl [(a_this, .inr (2, [.int f_columns, .int f_rows, .long f_toldOpen, .long f_toldShut, .long f_stones, .long f_open, .long f_shut, .long f_free])), (a_new205, .inr (2, [.int o246.1, .int o246.2.1, .long o246.2.2.1, .long o246.2.2.2.1, .long o246.2.2.2.2.1, .long o246.2.2.2.2.2.1, .long o246.2.2.2.2.2.2.1, .long o246.2.2.2.2.2.2.2]))] H := hP
    have hD : va_D A [(a_this, .inr (2, [.int f_columns, .int f_rows, .long f_toldOpen, .long f_toldShut, .long f_stones, .long f_open, .long f_shut, .long f_free])), (a_new205, .inr (2, [.int o246.1, .int o246.2.1, .long o246.2.2.1, .long o246.2.2.2.1, .long o246.2.2.2.2.1, .long o246.2.2.2.2.2.1, .long o246.2.2.2.2.2.2.1, .long o246.2.2.2.2.2.2.2]))] := hD
    obtain rfl := Option.some.inj hf
    exact zreta X (Or.inl ⟨_, rfl⟩) (Or.inr ⟨_, rfl⟩) hQ (zPsub (is := [1, 0]) hP rfl) (hD.sub [1, 0] (by decide) rfl) hS ⟨_, rfl, rfl⟩ dX2_turned_249 (Nat.le_of_ble_eq_true rfl) (Nat.le_of_ble_eq_true rfl)
  have J225 : ∀ (x2 : Int64) (x4 : Int64) (x6 : Int64) (x8 : Int32) (s2 : Int32) (a_new205 : Nat), zf_X2_turned_225 f_columns f_rows x2 x4 x6 x8 s2 = some out → ∀ (H : Heap) (locs : List Loc) (ls : Array Slot), lv_has ls 14 [(0, .ref a_this), (2, .long x2), (4, .long x4), (6, .long x6), (8, .int x8)] → va_P D vwCl [(a_this, .inr (2, [.int f_columns, .int f_rows, .long f_toldOpen, .long f_toldShut, .long f_stones, .long f_open, .long f_shut, .long f_free])), (a_new205, .inr (2, [.int (0 : Int32), .int (0 : Int32), .long (0 : Int64), .long (0 : Int64), .long (0 : Int64), .long (0 : Int64), .long (0 : Int64), .long (0 : Int64)]))] H → va_D A [(a_this, .inr (2, [.int f_columns, .int f_rows, .long f_toldOpen, .long f_toldShut, .long f_stones, .long f_open, .long f_shut, .long f_free])), (a_new205, .inr (2, [.int (0 : Int32), .int (0 : Int32), .long (0 : Int64), .long (0 : Int64), .long (0 : Int64), .long (0 : Int64), .long (0 : Int64), .long (0 : Int64)]))] → va_S A s.heap H locs → W p l e rm_X2_turned s m args below meth c H locs 1 8 Q (F0 m 225 ls [.int s2, .ref a_new205, .ref a_new205]) := by
    intro x2 x4 x6 x8 s2 a_new205 hf H locs ls hl hP hD hS
    unfold zf_X2_turned_225 at hf
    refine lv_iload hx hb dX2_turned_225 (lv_at hl 4 rfl) ?_
    refine lv_if_eq (tgt := 237) hx hb dX2_turned_227 (by decide) (fun c227 => ?_) (fun c227 => ?_)
    · replace hf := zt c227 hf
      refine lv_aload_n hx hb dX2_turned_237 rfl (lv_at hl 0 rfl) ?_
      refine zget X hP 0 rfl rfl inF2 1 (by decide) q_240 rfl dX2_turned_238 ?_
      refine W.widen (k := 1) (n := 8) (Nat.le_of_ble_eq_true rfl) (Nat.le_of_ble_eq_true rfl) ?_
      exact J241 x2 x4 x6 s2 f_rows a_new205 hf _ _ _ (lv_sub hl [1, 2, 3] rfl) hP hD hS
    · replace hf := ze c227 hf
      refine lv_aload_n hx hb dX2_turned_230 rfl (lv_at hl 0 rfl) ?_
      refine zget X hP 0 rfl rfl inF2 0 (by decide) q_238 rfl dX2_turned_231 ?_
      refine lv_goto (tgt := 241) hx hb dX2_turned_234 (by decide) ?_
      refine W.widen (k := 1) (n := 8) (Nat.le_of_ble_eq_true rfl) (Nat.le_of_ble_eq_true rfl) ?_
      exact J241 x2 x4 x6 s2 f_columns a_new205 hf _ _ _ (lv_sub hl [1, 2, 3] rfl) hP hD hS
  have J203 : ∀ (x2 : Int64) (x4 : Int64) (x6 : Int64) (s0 : Int32), zf_X2_turned_203 f_columns f_rows x2 x4 x6 s0 = some out → ∀ (H : Heap) (locs : List Loc) (ls : Array Slot), lv_has ls 14 [(0, .ref a_this), (2, .long x2), (4, .long x4), (6, .long x6)] → va_P D vwCl [(a_this, .inr (2, [.int f_columns, .int f_rows, .long f_toldOpen, .long f_toldShut, .long f_stones, .long f_open, .long f_shut, .long f_free]))] H → va_D A [(a_this, .inr (2, [.int f_columns, .int f_rows, .long f_toldOpen, .long f_toldShut, .long f_stones, .long f_open, .long f_shut, .long f_free]))] → va_S A s.heap H locs → W p l e rm_X2_turned s m args below meth c H locs 0 0 Q (F0 m 203 ls [.int s0]) := by
    intro x2 x4 x6 s0 hf H locs ls hl hP hD hS
    unfold zf_X2_turned_203 at hf
    refine lv_istore (lv' := [(8, .int s0), (0, .ref a_this), (2, .long x2), (4, .long x4), (6, .long x6)]) hx hb dX2_turned_203 hl (by decide) rfl (fun ls hl => ?_)
    refine znew (ci := 2) (ty := tyX2) (fs := [.int (0 : Int32), .int (0 : Int32), .long (0 : Int64), .long (0 : Int64), .long (0 : Int64), .long (0 : Int64), .long (0 : Int64), .long (0 : Int64)]) X rfl inF2 tyX2_ok q_895 q_223 q_8 hP hD hS (by decide) (Nat.le_of_ble_eq_true rfl) (Nat.le_of_ble_eq_true rfl) dX2_turned_205 (fun a_new205 H hP hD hS => ?_)
    have hP : va_P D vwCl [(a_this, .inr (2, [.int f_columns, .int f_rows, .long f_toldOpen, .long f_toldShut, .long f_stones, .long f_open, .long f_shut, .long f_free])), (a_new205, .inr (2, [.int (0 : Int32), .int (0 : Int32), .long (0 : Int64), .long (0 : Int64), .long (0 : Int64), .long (0 : Int64), .long (0 : Int64), .long (0 : Int64)]))] H := hP
    have hD : va_D A [(a_this, .inr (2, [.int f_columns, .int f_rows, .long f_toldOpen, .long f_toldShut, .long f_stones, .long f_open, .long f_shut, .long f_free])), (a_new205, .inr (2, [.int (0 : Int32), .int (0 : Int32), .long (0 : Int64), .long (0 : Int64), .long (0 : Int64), .long (0 : Int64), .long (0 : Int64), .long (0 : Int64)]))] := hD
    refine lv_dup hx hb dX2_turned_208 rfl ?_
    refine lv_iload hx hb dX2_turned_209 (lv_at hl 0 rfl) ?_
    refine lv_if_eq (tgt := 221) hx hb dX2_turned_211 (by decide) (fun c211 => ?_) (fun c211 => ?_)
    · replace hf := zt c211 hf
      refine lv_aload_n hx hb dX2_turned_221 rfl (lv_at hl 1 rfl) ?_
      refine zget X hP 0 rfl rfl inF2 0 (by decide) q_238 rfl dX2_turned_222 ?_
      refine W.widen (k := 1) (n := 8) (Nat.le_of_ble_eq_true rfl) (Nat.le_of_ble_eq_true rfl) ?_
      exact J225 x2 x4 x6 s0 f_columns a_new205 hf _ _ _ (lv_sub hl [1, 2, 3, 4, 0] rfl) hP hD hS
    · replace hf := ze c211 hf
      refine lv_aload_n hx hb dX2_turned_214 rfl (lv_at hl 1 rfl) ?_
      refine zget X hP 0 rfl rfl inF2 1 (by decide) q_240 rfl dX2_turned_215 ?_
      refine lv_goto (tgt := 225) hx hb dX2_turned_218 (by decide) ?_
      refine W.widen (k := 1) (n := 8) (Nat.le_of_ble_eq_true rfl) (Nat.le_of_ble_eq_true rfl) ?_
      exact J225 x2 x4 x6 s0 f_rows a_new205 hf _ _ _ (lv_sub hl [1, 2, 3, 4, 0] rfl) hP hD hS
  unfold zf_X2_turned at hf
  refine lv_lconst (v := 0) hx hb dX2_turned_0 (by decide) ?_
  refine lv_lstore_n (lv' := [(2, .long (0 : Int64)), (0, .ref a_this), (1, .int x1)]) hx hb dX2_turned_1 rfl hl (by decide) rfl (fun ls hl => ?_)
  refine lv_lconst (v := 0) hx hb dX2_turned_2 (by decide) ?_
  refine lv_lstore (lv' := [(4, .long (0 : Int64)), (2, .long (0 : Int64)), (0, .ref a_this), (1, .int x1)]) hx hb dX2_turned_3 hl (by decide) rfl (fun ls hl => ?_)
  refine lv_lconst (v := 0) hx hb dX2_turned_5 (by decide) ?_
  refine lv_lstore (lv' := [(6, .long (0 : Int64)), (4, .long (0 : Int64)), (2, .long (0 : Int64)), (0, .ref a_this), (1, .int x1)]) hx hb dX2_turned_6 hl (by decide) rfl (fun ls hl => ?_)
  refine lv_iconst (v := 0) hx hb dX2_turned_8 (by decide) ?_
  refine lv_istore (lv' := [(8, .int (0 : Int32)), (6, .long (0 : Int64)), (4, .long (0 : Int64)), (2, .long (0 : Int64)), (0, .ref a_this), (1, .int x1)]) hx hb dX2_turned_9 hl (by decide) rfl (fun ls hl => ?_)
  obtain ⟨o11, ho11, hf⟩ := zb hf
  refine L11 zfu x1 (0 : Int64) (0 : Int64) (0 : Int64) (0 : Int32) o11 ho11 _ _ _ (lv_sub hl [4, 5, 3, 2, 1, 0] rfl) hP hD hS (fun H locs ls hl hP hD hS => ?_)
  refine lv_iload_n hx hb dX2_turned_193 rfl (lv_at hl 1 rfl) ?_
  refine lv_iconst (v := 2) hx hb dX2_turned_194 (by decide) ?_
  refine lv_icmp_ne (tgt := 202) hx hb dX2_turned_195 (by decide) (fun c195 => ?_) (fun c195 => ?_)
  · replace hf := ze c195 hf
    refine lv_iconst (v := 0) hx hb dX2_turned_202 (by decide) ?_
    exact J203 o11.1 o11.2.1 o11.2.2 (0 : Int32) hf _ _ _ (lv_sub hl [0, 2, 3, 4] rfl) hP hD hS
  · replace hf := zt c195 hf
    refine lv_iconst (v := 1) hx hb dX2_turned_198 (by decide) ?_
    refine lv_goto (tgt := 203) hx hb dX2_turned_199 (by decide) ?_
    exact J203 o11.1 o11.2.1 o11.2.2 (1 : Int32) hf _ _ _ (lv_sub hl [0, 2, 3, 4] rfl) hP hD hS

