theorem kf_RX5_24 : zCB RX5 24 yX6_isAtEnd cX6_isAtEnd 1 (some .boolean) 0 ∧ Cond.instanceMethod yX6_isAtEnd ∈ wAll ∧ Cond.selects yX6_isAtEnd.cls yX6_isAtEnd yX6_isAtEnd ∈ wAll := ⟨⟨q_737, q_2, q_738, by decide +kernel⟩, q_735, q_736⟩
theorem kf_RX5_27 : zCB RX5 27 yX5_takeLine cX5_takeLine 5 (some .boolean) 0 ∧ Cond.instanceMethod yX5_takeLine ∈ wAll ∧ Cond.selects yX5_takeLine.cls yX5_takeLine yX5_takeLine ∈ wAll := ⟨⟨q_742, q_10, q_739, by decide +kernel⟩, q_741, qp_27⟩
theorem kf_RX5_52 : zCB RX5 52 yX2_init cX2_init 13 (none : Option Jvm.ClassFile.FieldType) 5 ∧ Cond.instanceMethod yX2_init ∈ wAll ∧ yX2_init.name = "<init>" := ⟨⟨q_226, q_8, q_759, by decide +kernel⟩, q_225, rfl⟩
theorem kf_RX5_55 : zCB RX5 55 yX2_freeCount cX2_freeCount 1 (some .int) 0 ∧ Cond.instanceMethod yX2_freeCount ∈ wAll ∧ Cond.selects yX2_freeCount.cls yX2_freeCount yX2_freeCount ∈ wAll := ⟨⟨q_503, q_8, q_760, by decide +kernel⟩, q_501, q_502⟩
theorem kf_RX5_15 : zCB RX5 15 yX6_restart cX6_restart 1 (none : Option Jvm.ClassFile.FieldType) 0 ∧ Cond.instanceMethod yX6_restart ∈ wAll ∧ Cond.selects yX6_restart.cls yX6_restart yX6_restart ∈ wAll := ⟨⟨q_651, q_2, q_648, by decide +kernel⟩, q_649, q_650⟩
theorem kf_RX5_20 : zCB RX5 20 yX5_takeSize cX5_takeSize 1 (some .boolean) 0 ∧ Cond.instanceMethod yX5_takeSize ∈ wAll ∧ Cond.selects yX5_takeSize.cls yX5_takeSize yX5_takeSize ∈ wAll := ⟨⟨q_655, q_10, q_652, by decide +kernel⟩, q_654, qp_24⟩
abbrev rm_X5_parse : Room := { frames := 7, cells := 1, slots := 8, locals := 157 }
def zf_X5_parse_57 (f_toldOpen : Int64) (f_toldShut : Int64) (f_stones : Int64) (f_text_at : Int32) (f_text_began : Int32) (f_text_fault : Int32) (x2 : Int32) (s0 : Int32) : Option ((Int32 × Int32 × Int64 × Int64 × Int64 × Int32 × Int32 × Int32) ⊕ ((Int32 × Int64 × Int64 × Int64 × Int32 × Int32 × Int32))) :=
  some (.inl (s0, x2 + (1 : Int32), f_toldOpen, f_toldShut, f_stones, f_text_at, f_text_began, f_text_fault))
def zf_X5_parse_56 (f_toldOpen : Int64) (f_toldShut : Int64) (f_stones : Int64) (f_text_at : Int32) (f_text_began : Int32) (f_text_fault : Int32) (x2 : Int32) : Option ((Int32 × Int32 × Int64 × Int64 × Int64 × Int32 × Int32 × Int32) ⊕ ((Int32 × Int64 × Int64 × Int64 × Int32 × Int32 × Int32))) :=
  zf_X5_parse_57 f_toldOpen f_toldShut f_stones f_text_at f_text_began f_text_fault x2 (0 : Int32)
def zf_X5_parse_l14 (f_columns : Int32) (f_rows : Int32) (f_text_length : Int32) (c_text_bytes : Nat → Int32) (x1 : Int32) (x2 : Int32) (f_toldOpen : Int64) (f_toldShut : Int64) (f_stones : Int64) (f_text_at : Int32) (f_text_began : Int32) (f_text_fault : Int32) : Option ((Int32 × Int32 × Int64 × Int64 × Int64 × Int32 × Int32 × Int32) ⊕ ((Int32 × Int64 × Int64 × Int64 × Int32 × Int32 × Int32))) :=
  if (400 : Int32) ≤ x2 then (some (.inr (x1, f_toldOpen, f_toldShut, f_stones, f_text_at, f_text_began, f_text_fault))) else (if x1 = 0 then (some (.inr (x1, f_toldOpen, f_toldShut, f_stones, f_text_at, f_text_began, f_text_fault))) else ((zf_X6_isAtEnd f_text_length f_text_at c_text_bytes).bind fun o29 =>
  if o29.1 = 0 then ((zf_X5_takeLine f_columns f_rows f_toldOpen f_toldShut f_stones f_text_length o29.2 f_text_fault c_text_bytes).bind fun o36 =>
  if o36.1 = 0 then (zf_X5_parse_56 o36.2.1 o36.2.2.1 o36.2.2.2.1 o36.2.2.2.2.1 o36.2.2.2.2.2.1 o36.2.2.2.2.2.2 x2) else ((zf_X6_takeMark f_text_length o36.2.2.2.2.1 o36.2.2.2.2.2.2 c_text_bytes).bind fun o46 =>
  if o46.1 = 0 then (zf_X5_parse_56 o36.2.1 o36.2.2.1 o36.2.2.2.1 o46.2.1 o46.2.2.1 o46.2.2.2 x2) else (zf_X5_parse_57 o36.2.1 o36.2.2.1 o36.2.2.2.1 o46.2.1 o46.2.2.1 o46.2.2.2 x2 (1 : Int32)))) else (some (.inr (x1, f_toldOpen, f_toldShut, f_stones, o29.2, f_text_began, f_text_fault)))))
def zf_X5_parse_64 (f_columns : Int32) (f_rows : Int32) (f_toldOpen : Int64) (f_toldShut : Int64) (f_stones : Int64) (f_text_length : Int32) (f_text_at : Int32) (f_text_began : Int32) (f_text_fault : Int32) (x1 : Int32) : Option (Int32 × Int32 × Int64 × Int64 × Int64 × Int32 × Int32 × Int32 × Option zGD) :=
  if x1 = 0 then (some (f_columns, f_rows, f_toldOpen, f_toldShut, f_stones, f_text_at, f_text_began, f_text_fault, none)) else ((zf_X2_init f_columns f_rows f_toldOpen f_toldShut f_stones).bind fun o94 =>
  (zf_X2_freeCount o94.2.2.2.2.2.2.2).bind fun o99 =>
  if o99 ≤ (24 : Int32) then (some (f_columns, f_rows, f_toldOpen, f_toldShut, f_stones, f_text_at, f_text_began, f_text_fault, some o94)) else (some (f_columns, f_rows, f_toldOpen, f_toldShut, f_stones, f_text_at, f_text_began, f_text_length, none)))
def zf_X5_parse (f_columns : Int32) (f_rows : Int32) (f_toldOpen : Int64) (f_toldShut : Int64) (f_stones : Int64) (f_text_length : Int32) (c_text_bytes : Nat → Int32) : Option (Int32 × Int32 × Int64 × Int64 × Int64 × Int32 × Int32 × Int32 × Option zGD) :=
  (zf_X6_restart).bind fun o4 =>
  (zf_X5_takeSize f_columns f_rows f_text_length o4.1 o4.2.2 c_text_bytes).bind fun o8 =>
  (zit (fun d => zf_X5_parse_l14 o8.2.1 o8.2.2.1 f_text_length c_text_bytes d.1 d.2.1 d.2.2.1 d.2.2.2.1 d.2.2.2.2.1 d.2.2.2.2.2.1 d.2.2.2.2.2.2.1 d.2.2.2.2.2.2.2) zfu (o8.1, (0 : Int32), f_toldOpen, f_toldShut, f_stones, o8.2.2.2.1, o8.2.2.2.2.1, o8.2.2.2.2.2)).bind fun o14 =>
  zf_X5_parse_64 o8.2.1 o8.2.2.1 o14.2.1 o14.2.2.1 o14.2.2.2.1 f_text_length o14.2.2.2.2.1 o14.2.2.2.2.2.1 o14.2.2.2.2.2.2 o14.1
set_option maxHeartbeats 4000000 in
set_option maxRecDepth 100000 in
theorem zc_X5_parse (l : Launch) (D : va_G) (y : zY) (a_this a_text a_text_bytes : Nat) (f_columns : Int32) (f_rows : Int32) (f_toldOpen : Int64) (f_toldShut : Int64) (f_stones : Int64) (f_text_length : Int32) (f_text_at : Int32) (f_text_began : Int32) (f_text_fault : Int32) (c_text_bytes : Nat → Int32) (out : Int32 × Int32 × Int64 × Int64 × Int64 × Int32 × Int32 × Int32 × Option zGD) (hf : zf_X5_parse f_columns f_rows f_toldOpen f_toldShut f_stones f_text_length c_text_bytes = some out) : zC l D y yX5_parse cX5_parse 3 (some (.object "WaterGrid$Grid")) rm_X5_parse [.ref a_this] [(a_this, .inr (5, [.ref a_text, .int f_columns, .int f_rows, .long f_toldOpen, .long f_toldShut, .long f_stones])), (a_text, .inr (6, [.ref a_text_bytes, .int f_text_length, .int f_text_at, .int f_text_began, .int f_text_fault])), (a_text_bytes, .inl (y.1, 400, .inl c_text_bytes))] (fun v w => (out.2.2.2.2.2.2.2.2 = none ∧ v = some .null ∧ w = [(a_this, .inr (5, [.ref a_text, .int out.1, .int out.2.1, .long out.2.2.1, .long out.2.2.2.1, .long out.2.2.2.2.1])), (a_text, .inr (6, [.ref a_text_bytes, .int f_text_length, .int out.2.2.2.2.2.1, .int out.2.2.2.2.2.2.1, .int out.2.2.2.2.2.2.2.1])), (a_text_bytes, .inl (y.1, 400, .inl c_text_bytes))]) ∨ (∃ d q, out.2.2.2.2.2.2.2.2 = some d ∧ v = some (.ref q) ∧ w = [(q, zgE d), (a_this, .inr (5, [.ref a_text, .int out.1, .int out.2.1, .long out.2.2.1, .long out.2.2.2.1, .long out.2.2.2.2.1])), (a_text, .inr (6, [.ref a_text_bytes, .int f_text_length, .int out.2.2.2.2.2.1, .int out.2.2.2.2.2.2.1, .int out.2.2.2.2.2.2.2.1])), (a_text_bytes, .inl (y.1, 400, .inl c_text_bytes))])) := by
  refine zmk (by decide) (Nat.le_of_ble_eq_true rfl) ?_
  intro p e s m args below meth c A Q ls X hQ hnm hP hD hS hl
  have X : zX p s m args meth c D y A RX5 cX5_parse 3 (some (.object "WaterGrid$Grid")) := X
  obtain ⟨hx, hb, hr, hml, hown, hts, hK, hA, hlocks⟩ := id X
  have hl : lv_has ls 3 [(0, .ref a_this)] := hl
  have L14 : ∀ (n : Nat) (x1 : Int32) (x2 : Int32) (f_columns : Int32) (f_rows : Int32) (f_toldOpen : Int64) (f_toldShut : Int64) (f_stones : Int64) (f_text_at : Int32) (f_text_began : Int32) (f_text_fault : Int32) (x : (Int32 × Int64 × Int64 × Int64 × Int32 × Int32 × Int32)), zit (fun d => zf_X5_parse_l14 f_columns f_rows f_text_length c_text_bytes d.1 d.2.1 d.2.2.1 d.2.2.2.1 d.2.2.2.2.1 d.2.2.2.2.2.1 d.2.2.2.2.2.2.1 d.2.2.2.2.2.2.2) n (x1, x2, f_toldOpen, f_toldShut, f_stones, f_text_at, f_text_began, f_text_fault) = some x → ∀ (H : Heap) (locs : List Loc) (ls : Array Slot), lv_has ls 3 [(0, .ref a_this), (1, .int x1), (2, .int x2)] → va_P D vwCl [(a_this, .inr (5, [.ref a_text, .int f_columns, .int f_rows, .long f_toldOpen, .long f_toldShut, .long f_stones])), (a_text, .inr (6, [.ref a_text_bytes, .int f_text_length, .int f_text_at, .int f_text_began, .int f_text_fault])), (a_text_bytes, .inl (y.1, 400, .inl c_text_bytes))] H → va_D A [(a_this, .inr (5, [.ref a_text, .int f_columns, .int f_rows, .long f_toldOpen, .long f_toldShut, .long f_stones])), (a_text, .inr (6, [.ref a_text_bytes, .int f_text_length, .int f_text_at, .int f_text_began, .int f_text_fault])), (a_text_bytes, .inl (y.1, 400, .inl c_text_bytes))] → va_S A s.heap H locs → (∀ (H : Heap) (locs : List Loc) (ls : Array Slot), lv_has ls 3 [(0, .ref a_this), (1, .int x.1)] → va_P D vwCl [(a_this, .inr (5, [.ref a_text, .int f_columns, .int f_rows, .long x.2.1, .long x.2.2.1, .long x.2.2.2.1])), (a_text, .inr (6, [.ref a_text_bytes, .int f_text_length, .int x.2.2.2.2.1, .int x.2.2.2.2.2.1, .int x.2.2.2.2.2.2])), (a_text_bytes, .inl (y.1, 400, .inl c_text_bytes))] H → va_D A [(a_this, .inr (5, [.ref a_text, .int f_columns, .int f_rows, .long x.2.1, .long x.2.2.1, .long x.2.2.2.1])), (a_text, .inr (6, [.ref a_text_bytes, .int f_text_length, .int x.2.2.2.2.1, .int x.2.2.2.2.2.1, .int x.2.2.2.2.2.2])), (a_text_bytes, .inl (y.1, 400, .inl c_text_bytes))] → va_S A s.heap H locs → W p l e rm_X5_parse s m args below meth c H locs 0 0 Q (F0 m 64 ls [])) → W p l e rm_X5_parse s m args below meth c H locs 0 0 Q (F0 m 14 ls []) := by
    intro n
    induction n with
    | zero => intro x1 x2 f_columns f_rows f_toldOpen f_toldShut f_stones f_text_at f_text_began f_text_fault x h; exact (zi0 h).elim
    | succ n ih =>
      intro x1 x2 f_columns f_rows f_toldOpen f_toldShut f_stones f_text_at f_text_began f_text_fault x h H locs ls hl hP hD hS K64
      obtain ⟨r, hf, h⟩ := zis h
      have hf : zf_X5_parse_l14 f_columns f_rows f_text_length c_text_bytes x1 x2 f_toldOpen f_toldShut f_stones f_text_at f_text_began f_text_fault = some r := hf
      have J57 : ∀ (x2 : Int32) (s0 : Int32) (f_toldOpen : Int64) (f_toldShut : Int64) (f_stones : Int64) (f_text_at : Int32) (f_text_began : Int32) (f_text_fault : Int32), zf_X5_parse_57 f_toldOpen f_toldShut f_stones f_text_at f_text_began f_text_fault x2 s0 = some r → ∀ (H : Heap) (locs : List Loc) (ls : Array Slot), lv_has ls 3 [(0, .ref a_this), (2, .int x2)] → va_P D vwCl [(a_this, .inr (5, [.ref a_text, .int f_columns, .int f_rows, .long f_toldOpen, .long f_toldShut, .long f_stones])), (a_text, .inr (6, [.ref a_text_bytes, .int f_text_length, .int f_text_at, .int f_text_began, .int f_text_fault])), (a_text_bytes, .inl (y.1, 400, .inl c_text_bytes))] H → va_D A [(a_this, .inr (5, [.ref a_text, .int f_columns, .int f_rows, .long f_toldOpen, .long f_toldShut, .long f_stones])), (a_text, .inr (6, [.ref a_text_bytes, .int f_text_length, .int f_text_at, .int f_text_began, .int f_text_fault])), (a_text_bytes, .inl (y.1, 400, .inl c_text_bytes))] → va_S A s.heap H locs → W p l e rm_X5_parse s m args below meth c H locs 0 0 Q (F0 m 57 ls [.int s0]) := by
        intro x2 s0 f_toldOpen f_toldShut f_stones f_text_at f_text_began f_text_fault hf H locs ls hl hP hD hS
        unfold zf_X5_parse_57 at hf
        refine lv_istore_n (lv' := [(1, .int s0), (0, .ref a_this), (2, .int x2)]) hx hb dX5_parse_57 rfl hl (by decide) rfl (fun ls hl => ?_)
        refine lv_iinc (v := x2 + (1 : Int32)) (lv' := [(2, .int (x2 + (1 : Int32))), (1, .int s0), (0, .ref a_this)]) hx hb dX5_parse_58 hl (k := 2) rfl rfl (by decide) rfl (fun ls hl => ?_)
        refine lv_goto (tgt := 14) hx hb dX5_parse_61 (by decide) ?_
        obtain rfl := Option.some.inj hf
        exact ih s0 (x2 + (1 : Int32)) f_columns f_rows f_toldOpen f_toldShut f_stones f_text_at f_text_began f_text_fault x h _ _ _ (lv_sub hl [2, 1, 0] rfl) hP hD hS K64
      have J56 : ∀ (x2 : Int32) (f_toldOpen : Int64) (f_toldShut : Int64) (f_stones : Int64) (f_text_at : Int32) (f_text_began : Int32) (f_text_fault : Int32), zf_X5_parse_56 f_toldOpen f_toldShut f_stones f_text_at f_text_began f_text_fault x2 = some r → ∀ (H : Heap) (locs : List Loc) (ls : Array Slot), lv_has ls 3 [(0, .ref a_this), (2, .int x2)] → va_P D vwCl [(a_this, .inr (5, [.ref a_text, .int f_columns, .int f_rows, .long f_toldOpen, .long f_toldShut, .long f_stones])), (a_text, .inr (6, [.ref a_text_bytes, .int f_text_length, .int f_text_at, .int f_text_began, .int f_text_fault])), (a_text_bytes, .inl (y.1, 400, .inl c_text_bytes))] H → va_D A [(a_this, .inr (5, [.ref a_text, .int f_columns, .int f_rows, .long f_toldOpen, .long f_toldShut, .long f_stones])), (a_text, .inr (6, [.ref a_text_bytes, .int f_text_length, .int f_text_at, .int f_text_began, .int f_text_fault])), (a_text_bytes, .inl (y.1, 400, .inl c_text_bytes))] → va_S A s.heap H locs → W p l e rm_X5_parse s m args below meth c H locs 0 0 Q (F0 m 56 ls []) := by
        intro x2 f_toldOpen f_toldShut f_stones f_text_at f_text_began f_text_fault hf H locs ls hl hP hD hS
        unfold zf_X5_parse_56 at hf
        refine lv_iconst (v := 0) hx hb dX5_parse_56 (by decide) ?_
        exact J57 x2 (0 : Int32) f_toldOpen f_toldShut f_stones f_text_at f_text_began f_text_fault hf _ _ _ hl hP hD hS
      unfold zf_X5_parse_l14 at hf
      refine lv_iload_n hx hb dX5_parse_14 rfl (lv_at hl 2 rfl) ?_
      refine lv_sipush (v := 400) hx hb dX5_parse_15 (by decide) ?_
      refine lv_icmp_ge (tgt := 64) hx hb dX5_parse_18 (by decide) (fun c18 => ?_) (fun c18 => ?_)
      · replace hf := zt c18 hf
        obtain rfl := Option.some.inj hf
        obtain rfl := Option.some.inj h
        exact K64 _ _ _ (lv_sub hl [0, 1] rfl) hP hD hS
      · replace hf := ze c18 hf
        refine lv_iload_n hx hb dX5_parse_21 rfl (lv_at hl 1 rfl) ?_
        refine lv_if_eq (tgt := 64) hx hb dX5_parse_22 (by decide) (fun c22 => ?_) (fun c22 => ?_)
        · replace hf := zt c22 hf
          obtain rfl := Option.some.inj hf
          obtain rfl := Option.some.inj h
          exact K64 _ _ _ (lv_sub hl [0, 1] rfl) hP hD hS
        · replace hf := ze c22 hf
          refine lv_aload_n hx hb dX5_parse_25 rfl (lv_at hl 0 rfl) ?_
          refine zget X hP 0 rfl rfl inF5 0 (by decide) q_625 rfl dX5_parse_26 ?_
          obtain ⟨o29, ho29, hf⟩ := zb hf
          refine zcV1 (wr := [(a_this, .inr (5, [.ref a_text, .int f_columns, .int f_rows, .long f_toldOpen, .long f_toldShut, .long f_stones]))]) (rest := []) X (zc_X6_isAtEnd l D y a_text a_text_bytes f_text_length f_text_at f_text_began f_text_fault c_text_bytes o29 ho29) kf_RX5_24 ⟨(Nat.le_of_ble_eq_true rfl), (Nat.le_of_ble_eq_true rfl)⟩ hP hD hS [1, 2] [0] rfl rfl rfl rfl (by decide) 1 rfl rfl rfl rfl hl.1 (Nat.le_of_ble_eq_true rfl) dX5_parse_29 ⟨(Nat.le_of_ble_eq_true rfl), (Nat.le_of_ble_eq_true rfl)⟩ (fun H locs hP hD hS => ?_)
          have hP : va_P D vwCl [(a_this, .inr (5, [.ref a_text, .int f_columns, .int f_rows, .long f_toldOpen, .long f_toldShut, .long f_stones])), (a_text, .inr (6, [.ref a_text_bytes, .int f_text_length, .int o29.2, .int f_text_began, .int f_text_fault])), (a_text_bytes, .inl (y.1, 400, .inl c_text_bytes))] H := hP
          have hD : va_D A [(a_this, .inr (5, [.ref a_text, .int f_columns, .int f_rows, .long f_toldOpen, .long f_toldShut, .long f_stones])), (a_text, .inr (6, [.ref a_text_bytes, .int f_text_length, .int o29.2, .int f_text_began, .int f_text_fault])), (a_text_bytes, .inl (y.1, 400, .inl c_text_bytes))] := hD
          refine lv_if_ne (tgt := 64) hx hb dX5_parse_32 (by decide) (fun c32 => ?_) (fun c32 => ?_)
          · replace hf := ze c32 hf
            obtain rfl := Option.some.inj hf
            obtain rfl := Option.some.inj h
            exact K64 _ _ _ (lv_sub hl [0, 1] rfl) hP hD hS
          · replace hf := zt c32 hf
            refine lv_aload_n hx hb dX5_parse_35 rfl (lv_at hl 0 rfl) ?_
            obtain ⟨o36, ho36, hf⟩ := zb hf
            refine zcV1 (wr := []) (rest := []) X (zc_X5_takeLine l D y a_this a_text a_text_bytes f_columns f_rows f_toldOpen f_toldShut f_stones f_text_length o29.2 f_text_began f_text_fault c_text_bytes o36 ho36) kf_RX5_27 ⟨(Nat.le_of_ble_eq_true rfl), (Nat.le_of_ble_eq_true rfl)⟩ hP hD hS [0, 1, 2] [] rfl rfl rfl rfl (by decide) 0 rfl rfl rfl rfl hl.1 (Nat.le_of_ble_eq_true rfl) dX5_parse_36 ⟨(Nat.le_of_ble_eq_true rfl), (Nat.le_of_ble_eq_true rfl)⟩ (fun H locs hP hD hS => ?_)
            have hP : va_P D vwCl [(a_this, .inr (5, [.ref a_text, .int f_columns, .int f_rows, .long o36.2.1, .long o36.2.2.1, .long o36.2.2.2.1])), (a_text, .inr (6, [.ref a_text_bytes, .int f_text_length, .int o36.2.2.2.2.1, .int o36.2.2.2.2.2.1, .int o36.2.2.2.2.2.2])), (a_text_bytes, .inl (y.1, 400, .inl c_text_bytes))] H := hP
            have hD : va_D A [(a_this, .inr (5, [.ref a_text, .int f_columns, .int f_rows, .long o36.2.1, .long o36.2.2.1, .long o36.2.2.2.1])), (a_text, .inr (6, [.ref a_text_bytes, .int f_text_length, .int o36.2.2.2.2.1, .int o36.2.2.2.2.2.1, .int o36.2.2.2.2.2.2])), (a_text_bytes, .inl (y.1, 400, .inl c_text_bytes))] := hD
            refine lv_if_eq (tgt := 56) hx hb dX5_parse_39 (by decide) (fun c39 => ?_) (fun c39 => ?_)
            · replace hf := zt c39 hf
              exact J56 x2 o36.2.1 o36.2.2.1 o36.2.2.2.1 o36.2.2.2.2.1 o36.2.2.2.2.2.1 o36.2.2.2.2.2.2 hf _ _ _ (lv_sub hl [0, 2] rfl) hP hD hS
            · replace hf := ze c39 hf
              refine lv_aload_n hx hb dX5_parse_42 rfl (lv_at hl 0 rfl) ?_
              refine zget X hP 0 rfl rfl inF5 0 (by decide) q_625 rfl dX5_parse_43 ?_
              obtain ⟨o46, ho46, hf⟩ := zb hf
              refine zcV1 (wr := [(a_this, .inr (5, [.ref a_text, .int f_columns, .int f_rows, .long o36.2.1, .long o36.2.2.1, .long o36.2.2.2.1]))]) (rest := []) X (zc_X6_takeMark l D y a_text a_text_bytes f_text_length o36.2.2.2.2.1 o36.2.2.2.2.2.1 o36.2.2.2.2.2.2 c_text_bytes o46 ho46) kf_RX5_30 ⟨(Nat.le_of_ble_eq_true rfl), (Nat.le_of_ble_eq_true rfl)⟩ hP hD hS [1, 2] [0] rfl rfl rfl rfl (by decide) 1 rfl rfl rfl rfl hl.1 (Nat.le_of_ble_eq_true rfl) dX5_parse_46 ⟨(Nat.le_of_ble_eq_true rfl), (Nat.le_of_ble_eq_true rfl)⟩ (fun H locs hP hD hS => ?_)
              have hP : va_P D vwCl [(a_this, .inr (5, [.ref a_text, .int f_columns, .int f_rows, .long o36.2.1, .long o36.2.2.1, .long o36.2.2.2.1])), (a_text, .inr (6, [.ref a_text_bytes, .int f_text_length, .int o46.2.1, .int o46.2.2.1, .int o46.2.2.2])), (a_text_bytes, .inl (y.1, 400, .inl c_text_bytes))] H := hP
              have hD : va_D A [(a_this, .inr (5, [.ref a_text, .int f_columns, .int f_rows, .long o36.2.1, .long o36.2.2.1, .long o36.2.2.2.1])), (a_text, .inr (6, [.ref a_text_bytes, .int f_text_length, .int o46.2.1, .int o46.2.2.1, .int o46.2.2.2])), (a_text_bytes, .inl (y.1, 400, .inl c_text_bytes))] := hD
              refine lv_if_eq (tgt := 56) hx hb dX5_parse_49 (by decide) (fun c49 => ?_) (fun c49 => ?_)
              · replace hf := zt c49 hf
                exact J56 x2 o36.2.1 o36.2.2.1 o36.2.2.2.1 o46.2.1 o46.2.2.1 o46.2.2.2 hf _ _ _ (lv_sub hl [0, 2] rfl) hP hD hS
              · replace hf := ze c49 hf
                refine lv_iconst (v := 1) hx hb dX5_parse_52 (by decide) ?_
                refine lv_goto (tgt := 57) hx hb dX5_parse_53 (by decide) ?_
                exact J57 x2 (1 : Int32) o36.2.1 o36.2.2.1 o36.2.2.2.1 o46.2.1 o46.2.2.1 o46.2.2.2 hf _ _ _ (lv_sub hl [0, 2] rfl) hP hD hS
  have J64 : ∀ (x1 : Int32) (f_columns : Int32) (f_rows : Int32) (f_toldOpen : Int64) (f_toldShut : Int64) (f_stones : Int64) (f_text_at : Int32) (f_text_began : Int32) (f_text_fault : Int32), zf_X5_parse_64 f_columns f_rows f_toldOpen f_toldShut f_stones f_text_length f_text_at f_text_began f_text_fault x1 = some out → ∀ (H : Heap) (locs : List Loc) (ls : Array Slot), lv_has ls 3 [(0, .ref a_this), (1, .int x1)] → va_P D vwCl [(a_this, .inr (5, [.ref a_text, .int f_columns, .int f_rows, .long f_toldOpen, .long f_toldShut, .long f_stones])), (a_text, .inr (6, [.ref a_text_bytes, .int f_text_length, .int f_text_at, .int f_text_began, .int f_text_fault])), (a_text_bytes, .inl (y.1, 400, .inl c_text_bytes))] H → va_D A [(a_this, .inr (5, [.ref a_text, .int f_columns, .int f_rows, .long f_toldOpen, .long f_toldShut, .long f_stones])), (a_text, .inr (6, [.ref a_text_bytes, .int f_text_length, .int f_text_at, .int f_text_began, .int f_text_fault])), (a_text_bytes, .inl (y.1, 400, .inl c_text_bytes))] → va_S A s.heap H locs → W p l e rm_X5_parse s m args below meth c H locs 0 0 Q (F0 m 64 ls []) := by
    intro x1 f_columns f_rows f_toldOpen f_toldShut f_stones f_text_at f_text_began f_text_fault hf H locs ls hl hP hD hS
    unfold zf_X5_parse_64 at hf
    refine lv_iload_n hx hb dX5_parse_64 rfl (lv_at hl 1 rfl) ?_
    refine lv_if_ne (tgt := 70) hx hb dX5_parse_65 (by decide) (fun c65 => ?_) (fun c65 => ?_)
    · replace hf := ze c65 hf
      refine znew (ci := 2) (ty := tyX2) (fs := [.int (0 : Int32), .int (0 : Int32), .long (0 : Int64), .long (0 : Int64), .long (0 : Int64), .long (0 : Int64), .long (0 : Int64), .long (0 : Int64)]) X rfl inF2 tyX2_ok q_758 q_223 q_8 hP hD hS (by decide) (Nat.le_of_ble_eq_true rfl) (Nat.le_of_ble_eq_true rfl) dX5_parse_70 (fun a_new70 H hP hD hS => ?_)
      have hP : va_P D vwCl [(a_this, .inr (5, [.ref a_text, .int f_columns, .int f_rows, .long f_toldOpen, .long f_toldShut, .long f_stones])), (a_text, .inr (6, [.ref a_text_bytes, .int f_text_length, .int f_text_at, .int f_text_began, .int f_text_fault])), (a_text_bytes, .inl (y.1, 400, .inl c_text_bytes)), (a_new70, .inr (2, [.int (0 : Int32), .int (0 : Int32), .long (0 : Int64), .long (0 : Int64), .long (0 : Int64), .long (0 : Int64), .long (0 : Int64), .long (0 : Int64)]))] H := hP
      have hD : va_D A [(a_this, .inr (5, [.ref a_text, .int f_columns, .int f_rows, .long f_toldOpen, .long f_toldShut, .long f_stones])), (a_text, .inr (6, [.ref a_text_bytes, .int f_text_length, .int f_text_at, .int f_text_began, .int f_text_fault])), (a_text_bytes, .inl (y.1, 400, .inl c_text_bytes)), (a_new70, .inr (2, [.int (0 : Int32), .int (0 : Int32), .long (0 : Int64), .long (0 : Int64), .long (0 : Int64), .long (0 : Int64), .long (0 : Int64), .long (0 : Int64)]))] := hD
      refine lv_dup hx hb dX5_parse_73 rfl ?_
      refine lv_aload_n hx hb dX5_parse_74 rfl (lv_at hl 0 rfl) ?_
      refine zget X hP 0 rfl rfl inF5 1 (by decide) q_626 rfl dX5_parse_75 ?_
      refine lv_aload_n hx hb dX5_parse_78 rfl (lv_at hl 0 rfl) ?_
      refine zget X hP 0 rfl rfl inF5 2 (by decide) q_627 rfl dX5_parse_79 ?_
      refine lv_aload_n hx hb dX5_parse_82 rfl (lv_at hl 0 rfl) ?_
      refine zget X hP 0 rfl rfl inF5 3 (by decide) q_628 rfl dX5_parse_83 ?_
      refine lv_aload_n hx hb dX5_parse_86 rfl (lv_at hl 0 rfl) ?_
      refine zget X hP 0 rfl rfl inF5 4 (by decide) q_629 rfl dX5_parse_87 ?_
      refine lv_aload_n hx hb dX5_parse_90 rfl (lv_at hl 0 rfl) ?_
      refine zget X hP 0 rfl rfl inF5 5 (by decide) q_630 rfl dX5_parse_91 ?_
      obtain ⟨o94, ho94, hf⟩ := zb hf
      refine zcI0 (wr := [(a_this, .inr (5, [.ref a_text, .int f_columns, .int f_rows, .long f_toldOpen, .long f_toldShut, .long f_stones])), (a_text, .inr (6, [.ref a_text_bytes, .int f_text_length, .int f_text_at, .int f_text_began, .int f_text_fault])), (a_text_bytes, .inl (y.1, 400, .inl c_text_bytes))]) (rest := [.ref a_new70]) X (zc_X2_init l D y a_new70 f_columns f_rows f_toldOpen f_toldShut f_stones o94 ho94) kf_RX5_52 ⟨(Nat.le_of_ble_eq_true rfl), (Nat.le_of_ble_eq_true rfl)⟩ hP hD hS [3] [0, 1, 2] rfl rfl rfl rfl (by decide) rfl rfl hl.1 (Nat.le_of_ble_eq_true rfl) dX5_parse_94 ⟨(Nat.le_of_ble_eq_true rfl), (Nat.le_of_ble_eq_true rfl)⟩ (fun H locs hP hD hS => ?_)
      have hP : va_P D vwCl [(a_this, .inr (5, [.ref a_text, .int f_columns, .int f_rows, .long f_toldOpen, .long f_toldShut, .long f_stones])), (a_text, .inr (6, [.ref a_text_bytes, .int f_text_length, .int f_text_at, .int f_text_began, .int f_text_fault])), (a_text_bytes, .inl (y.1, 400, .inl c_text_bytes)), (a_new70, .inr (2, [.int o94.1, .int o94.2.1, .long o94.2.2.1, .long o94.2.2.2.1, .long o94.2.2.2.2.1, .long o94.2.2.2.2.2.1, .long o94.2.2.2.2.2.2.1, .long o94.2.2.2.2.2.2.2]))] H := hP
      have hD : va_D A [(a_this, .inr (5, [.ref a_text, .int f_columns, .int f_rows, .long f_toldOpen, .long f_toldShut, .long f_stones])), (a_text, .inr (6, [.ref a_text_bytes, .int f_text_length, .int f_text_at, .int f_text_began, .int f_text_fault])), (a_text_bytes, .inl (y.1, 400, .inl c_text_bytes)), (a_new70, .inr (2, [.int o94.1, .int o94.2.1, .long o94.2.2.1, .long o94.2.2.2.1, .long o94.2.2.2.2.1, .long o94.2.2.2.2.2.1, .long o94.2.2.2.2.2.2.1, .long o94.2.2.2.2.2.2.2]))] := hD
      refine lv_astore_n (lv' := [(2, .ref a_new70), (0, .ref a_this), (1, .int x1)]) hx hb dX5_parse_97 rfl hl (by decide) rfl (fun ls hl => ?_)
      refine lv_aload_n hx hb dX5_parse_98 rfl (lv_at hl 0 rfl) ?_
      obtain ⟨o99, ho99, hf⟩ := zb hf
      refine zcV1 (wr := [(a_this, .inr (5, [.ref a_text, .int f_columns, .int f_rows, .long f_toldOpen, .long f_toldShut, .long f_stones])), (a_text, .inr (6, [.ref a_text_bytes, .int f_text_length, .int f_text_at, .int f_text_began, .int f_text_fault])), (a_text_bytes, .inl (y.1, 400, .inl c_text_bytes))]) (rest := []) X (zc_X2_freeCount l D y a_new70 o94.1 o94.2.1 o94.2.2.1 o94.2.2.2.1 o94.2.2.2.2.1 o94.2.2.2.2.2.1 o94.2.2.2.2.2.2.1 o94.2.2.2.2.2.2.2 o99 ho99) kf_RX5_55 ⟨(Nat.le_of_ble_eq_true rfl), (Nat.le_of_ble_eq_true rfl)⟩ hP hD hS [3] [0, 1, 2] rfl rfl rfl rfl (by decide) 3 rfl rfl rfl rfl hl.1 (Nat.le_of_ble_eq_true rfl) dX5_parse_99 ⟨(Nat.le_of_ble_eq_true rfl), (Nat.le_of_ble_eq_true rfl)⟩ (fun H locs hP hD hS => ?_)
      have hP : va_P D vwCl [(a_this, .inr (5, [.ref a_text, .int f_columns, .int f_rows, .long f_toldOpen, .long f_toldShut, .long f_stones])), (a_text, .inr (6, [.ref a_text_bytes, .int f_text_length, .int f_text_at, .int f_text_began, .int f_text_fault])), (a_text_bytes, .inl (y.1, 400, .inl c_text_bytes)), (a_new70, .inr (2, [.int o94.1, .int o94.2.1, .long o94.2.2.1, .long o94.2.2.2.1, .long o94.2.2.2.2.1, .long o94.2.2.2.2.2.1, .long o94.2.2.2.2.2.2.1, .long o94.2.2.2.2.2.2.2]))] H := hP
      have hD : va_D A [(a_this, .inr (5, [.ref a_text, .int f_columns, .int f_rows, .long f_toldOpen, .long f_toldShut, .long f_stones])), (a_text, .inr (6, [.ref a_text_bytes, .int f_text_length, .int f_text_at, .int f_text_began, .int f_text_fault])), (a_text_bytes, .inl (y.1, 400, .inl c_text_bytes)), (a_new70, .inr (2, [.int o94.1, .int o94.2.1, .long o94.2.2.1, .long o94.2.2.2.1, .long o94.2.2.2.2.1, .long o94.2.2.2.2.2.1, .long o94.2.2.2.2.2.2.1, .long o94.2.2.2.2.2.2.2]))] := hD
      refine lv_bipush (v := 24) hx hb dX5_parse_102 (by decide) ?_
      refine lv_icmp_le (tgt := 123) hx hb dX5_parse_104 (by decide) (fun c104 => ?_) (fun c104 => ?_)
      · replace hf := zt c104 hf
        refine lv_aload_n hx hb dX5_parse_123 rfl (lv_at hl 0 rfl) ?_
        obtain rfl := Option.some.inj hf
        exact zreta X (Or.inl ⟨_, rfl⟩) (Or.inr ⟨_, rfl⟩) hQ (zPsub (is := [3, 0, 1, 2]) hP rfl) (hD.sub [3, 0, 1, 2] (by decide) rfl) hS (Or.inr ⟨_, _, rfl, rfl, rfl⟩) dX5_parse_124 (Nat.le_of_ble_eq_true rfl) (Nat.le_of_ble_eq_true rfl)
      · replace hf := ze c104 hf
        refine lv_aload_n hx hb dX5_parse_107 rfl (lv_at hl 1 rfl) ?_
        refine zget X hP 0 rfl rfl inF5 0 (by decide) q_625 rfl dX5_parse_108 ?_
        refine lv_aload_n hx hb dX5_parse_111 rfl (lv_at hl 1 rfl) ?_
        refine zget X hP 0 rfl rfl inF5 0 (by decide) q_625 rfl dX5_parse_112 ?_
        refine zget X hP 1 rfl rfl inF6 1 (by decide) q_43 rfl dX5_parse_115 ?_
        refine zput (ty := .int) X hP hD hS 1 rfl rfl inF6 tyX6_ok nmX6 4 (by decide) q_47 rfl rfl rfl rfl (Nat.le_of_ble_eq_true rfl) dX5_parse_118 (fun H locs hP hD hS => ?_)
        have hP : va_P D vwCl [(a_this, .inr (5, [.ref a_text, .int f_columns, .int f_rows, .long f_toldOpen, .long f_toldShut, .long f_stones])), (a_text, .inr (6, [.ref a_text_bytes, .int f_text_length, .int f_text_at, .int f_text_began, .int f_text_length])), (a_text_bytes, .inl (y.1, 400, .inl c_text_bytes)), (a_new70, .inr (2, [.int o94.1, .int o94.2.1, .long o94.2.2.1, .long o94.2.2.2.1, .long o94.2.2.2.2.1, .long o94.2.2.2.2.2.1, .long o94.2.2.2.2.2.2.1, .long o94.2.2.2.2.2.2.2]))] H := hP
        have hD : va_D A [(a_this, .inr (5, [.ref a_text, .int f_columns, .int f_rows, .long f_toldOpen, .long f_toldShut, .long f_stones])), (a_text, .inr (6, [.ref a_text_bytes, .int f_text_length, .int f_text_at, .int f_text_began, .int f_text_length])), (a_text_bytes, .inl (y.1, 400, .inl c_text_bytes)), (a_new70, .inr (2, [.int o94.1, .int o94.2.1, .long o94.2.2.1, .long o94.2.2.2.1, .long o94.2.2.2.2.1, .long o94.2.2.2.2.2.1, .long o94.2.2.2.2.2.2.1, .long o94.2.2.2.2.2.2.2]))] := hD
        refine lv_null hx hb dX5_parse_121 ?_
        obtain rfl := Option.some.inj hf
        exact zreta X (Or.inl ⟨_, rfl⟩) (Or.inl rfl) hQ (zPsub (is := [0, 1, 2]) hP rfl) (hD.sub [0, 1, 2] (by decide) rfl) hS (Or.inl ⟨rfl, rfl, rfl⟩) dX5_parse_122 (Nat.le_of_ble_eq_true rfl) (Nat.le_of_ble_eq_true rfl)
    · replace hf := zt c65 hf
      refine lv_null hx hb dX5_parse_68 ?_
      obtain rfl := Option.some.inj hf
      exact zreta X (Or.inl ⟨_, rfl⟩) (Or.inl rfl) hQ hP hD hS (Or.inl ⟨rfl, rfl, rfl⟩) dX5_parse_69 (Nat.le_of_ble_eq_true rfl) (Nat.le_of_ble_eq_true rfl)
  unfold zf_X5_parse at hf
  refine lv_aload_n hx hb dX5_parse_0 rfl (lv_at hl 0 rfl) ?_
  refine zget X hP 0 rfl rfl inF5 0 (by decide) q_625 rfl dX5_parse_1 ?_
  obtain ⟨o4, ho4, hf⟩ := zb hf
  refine zcV0 (wr := [(a_this, .inr (5, [.ref a_text, .int f_columns, .int f_rows, .long f_toldOpen, .long f_toldShut, .long f_stones])), (a_text_bytes, .inl (y.1, 400, .inl c_text_bytes))]) (rest := []) X (zc_X6_restart l D y a_text a_text_bytes f_text_length f_text_at f_text_began f_text_fault o4 ho4) kf_RX5_15 ⟨(Nat.le_of_ble_eq_true rfl), (Nat.le_of_ble_eq_true rfl)⟩ hP hD hS [1] [0, 2] rfl rfl rfl rfl (by decide) 1 rfl rfl rfl rfl hl.1 (Nat.le_of_ble_eq_true rfl) dX5_parse_4 ⟨(Nat.le_of_ble_eq_true rfl), (Nat.le_of_ble_eq_true rfl)⟩ (fun H locs hP hD hS => ?_)
  have hP : va_P D vwCl [(a_this, .inr (5, [.ref a_text, .int f_columns, .int f_rows, .long f_toldOpen, .long f_toldShut, .long f_stones])), (a_text_bytes, .inl (y.1, 400, .inl c_text_bytes)), (a_text, .inr (6, [.ref a_text_bytes, .int f_text_length, .int o4.1, .int o4.2.1, .int o4.2.2]))] H := hP
  have hD : va_D A [(a_this, .inr (5, [.ref a_text, .int f_columns, .int f_rows, .long f_toldOpen, .long f_toldShut, .long f_stones])), (a_text_bytes, .inl (y.1, 400, .inl c_text_bytes)), (a_text, .inr (6, [.ref a_text_bytes, .int f_text_length, .int o4.1, .int o4.2.1, .int o4.2.2]))] := hD
  refine lv_aload_n hx hb dX5_parse_7 rfl (lv_at hl 0 rfl) ?_
  obtain ⟨o8, ho8, hf⟩ := zb hf
  refine zcV1 (wr := []) (rest := []) X (zc_X5_takeSize l D y a_this a_text a_text_bytes f_columns f_rows f_toldOpen f_toldShut f_stones f_text_length o4.1 o4.2.1 o4.2.2 c_text_bytes o8 ho8) kf_RX5_20 ⟨(Nat.le_of_ble_eq_true rfl), (Nat.le_of_ble_eq_true rfl)⟩ hP hD hS [0, 2, 1] [] rfl rfl rfl rfl (by decide) 0 rfl rfl rfl rfl hl.1 (Nat.le_of_ble_eq_true rfl) dX5_parse_8 ⟨(Nat.le_of_ble_eq_true rfl), (Nat.le_of_ble_eq_true rfl)⟩ (fun H locs hP hD hS => ?_)
  have hP : va_P D vwCl [(a_this, .inr (5, [.ref a_text, .int o8.2.1, .int o8.2.2.1, .long f_toldOpen, .long f_toldShut, .long f_stones])), (a_text, .inr (6, [.ref a_text_bytes, .int f_text_length, .int o8.2.2.2.1, .int o8.2.2.2.2.1, .int o8.2.2.2.2.2])), (a_text_bytes, .inl (y.1, 400, .inl c_text_bytes))] H := hP
  have hD : va_D A [(a_this, .inr (5, [.ref a_text, .int o8.2.1, .int o8.2.2.1, .long f_toldOpen, .long f_toldShut, .long f_stones])), (a_text, .inr (6, [.ref a_text_bytes, .int f_text_length, .int o8.2.2.2.1, .int o8.2.2.2.2.1, .int o8.2.2.2.2.2])), (a_text_bytes, .inl (y.1, 400, .inl c_text_bytes))] := hD
  refine lv_istore_n (lv' := [(1, .int o8.1), (0, .ref a_this)]) hx hb dX5_parse_11 rfl hl (by decide) rfl (fun ls hl => ?_)
  refine lv_iconst (v := 0) hx hb dX5_parse_12 (by decide) ?_
  refine lv_istore_n (lv' := [(2, .int (0 : Int32)), (1, .int o8.1), (0, .ref a_this)]) hx hb dX5_parse_13 rfl hl (by decide) rfl (fun ls hl => ?_)
  obtain ⟨o14, ho14, hf⟩ := zb hf
  refine L14 zfu o8.1 (0 : Int32) o8.2.1 o8.2.2.1 f_toldOpen f_toldShut f_stones o8.2.2.2.1 o8.2.2.2.2.1 o8.2.2.2.2.2 o14 ho14 _ _ _ (lv_sub hl [2, 1, 0] rfl) hP hD hS (fun H locs ls hl hP hD hS => ?_)
  exact J64 o14.1 o8.2.1 o8.2.2.1 o14.2.1 o14.2.2.1 o14.2.2.2.1 o14.2.2.2.2.1 o14.2.2.2.2.2.1 o14.2.2.2.2.2.2 hf _ _ _ hl hP hD hS

