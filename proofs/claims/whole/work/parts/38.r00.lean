theorem kf_RX6_39 : zCB RX6 39 yJ0_length_8abf5 cJ0_length_8abf5 1 (some .int) 0 ∧ Cond.instanceMethod yJ0_length_8abf5 ∈ wAll ∧ Cond.selects yJ0_length_8abf5.cls yJ0_length_8abf5 yJ0_length_8abf5 ∈ wAll := ⟨⟨q_676, q_11, q_673, by decide +kernel⟩, q_674, q_675⟩
theorem kf_RX6_44 : zCB RX6 44 yJ0_charAt_5068e cJ0_charAt_5068e 2 (some .char) 1 ∧ Cond.instanceMethod yJ0_charAt_5068e ∈ wAll ∧ Cond.selects yJ0_charAt_5068e.cls yJ0_charAt_5068e yJ0_charAt_5068e ∈ wAll := ⟨⟨q_686, q_11, q_683, by decide +kernel⟩, q_684, q_685⟩
abbrev rm_X6_isWord : Room := { frames := 4, cells := 0, slots := 0, locals := 85 }
def zf_X6_isWord_l20 (f_began : Int32) (c_bytes : Nat → Int32) (tx : String) (x2 : Int32) : Option ((Int32) ⊕ ((Unit) ⊕ (Unit))) :=
  if (nI tx.toList.length) ≤ x2 then (some (.inr (.inl ()))) else (if zgd (f_began + x2) 400 = true then (if zgd x2 tx.toList.length = true then (if (c_bytes (f_began + x2).toNatClampNeg) = (zi2c (zchr tx x2.toNatClampNeg &&& 255)) then (some (.inl (x2 + (1 : Int32)))) else (some (.inr (.inr ())))) else none) else none)
def zf_X6_isWord (f_at : Int32) (f_began : Int32) (c_bytes : Nat → Int32) (tx : String) : Option (Int32) :=
  if (nI tx.toList.length) = (f_at - f_began) then ((zit (fun d => zf_X6_isWord_l20 f_began c_bytes tx d) zfu (0 : Int32)).bind fun o20 =>
  Sum.elim (fun e20 => some (1 : Int32)) (fun e20 => some (0 : Int32)) o20) else (some (0 : Int32))
set_option maxHeartbeats 4000000 in
set_option maxRecDepth 100000 in
theorem zc_X6_isWord (l : Launch) (D : va_G) (y : zY) (a_this a_bytes : Nat) (f_length : Int32) (f_at : Int32) (f_began : Int32) (f_fault : Int32) (c_bytes : Nat → Int32) (tx : String) (sa : Nat) (htx : tx.toList.length < 1000) (out : Int32) (hf : zf_X6_isWord f_at f_began c_bytes tx = some out) : zCk l D y yX6_isWord cX6_isWord 3 (some .boolean) rm_X6_isWord [.ref a_this, .ref sa] [(a_this, .inr (6, [.ref a_bytes, .int f_length, .int f_at, .int f_began, .int f_fault])), (a_bytes, .inl (y.1, 400, .inl c_bytes))] (zE (some (.int out)) [(a_this, .inr (6, [.ref a_bytes, .int f_length, .int f_at, .int f_began, .int f_fault])), (a_bytes, .inl (y.1, 400, .inl c_bytes))]) (fun A U H => zStr tx sa A U H) := by
  refine zmkk (by decide) (Nat.le_of_ble_eq_true rfl) ?_
  intro p e s m args below meth c A Q ls X hQ hk hP hD hS hl
  have X : zX p s m args meth c D y A RX6 cX6_isWord 3 (some .boolean) := X
  obtain ⟨hx, hb, hr, hml, hown, hts, hK, hA, hlocks⟩ := id X
  have hl : lv_has ls 3 [(0, .ref a_this), (1, .ref sa)] := hl
  obtain ⟨sv9, k1, k2, k3, k4⟩ := id hk
  have L20 : ∀ (n : Nat) (x2 : Int32) (x : (Unit) ⊕ (Unit)), zit (fun d => zf_X6_isWord_l20 f_began c_bytes tx d) n x2 = some x → ∀ (H : Heap) (locs : List Loc) (ls : Array Slot), lv_has ls 3 [(0, .ref a_this), (1, .ref sa), (2, .int x2)] → va_P D vwCl [(a_this, .inr (6, [.ref a_bytes, .int f_length, .int f_at, .int f_began, .int f_fault])), (a_bytes, .inl (y.1, 400, .inl c_bytes))] H → va_D A [(a_this, .inr (6, [.ref a_bytes, .int f_length, .int f_at, .int f_began, .int f_fault])), (a_bytes, .inl (y.1, 400, .inl c_bytes))] → va_S A s.heap H locs → (∀ (ee : Unit), x = .inl ee → ∀ (H : Heap) (locs : List Loc) (ls : Array Slot), lv_has ls 3 [] → va_P D vwCl [(a_this, .inr (6, [.ref a_bytes, .int f_length, .int f_at, .int f_began, .int f_fault])), (a_bytes, .inl (y.1, 400, .inl c_bytes))] H → va_D A [(a_this, .inr (6, [.ref a_bytes, .int f_length, .int f_at, .int f_began, .int f_fault])), (a_bytes, .inl (y.1, 400, .inl c_bytes))] → va_S A s.heap H locs → W p l e rm_X6_isWord s m args below meth c H locs 0 0 Q (F0 m 55 ls [])) → (∀ (ee : Unit), x = (.inr ee) → ∀ (H : Heap) (locs : List Loc) (ls : Array Slot), lv_has ls 3 [] → va_P D vwCl [(a_this, .inr (6, [.ref a_bytes, .int f_length, .int f_at, .int f_began, .int f_fault])), (a_bytes, .inl (y.1, 400, .inl c_bytes))] H → va_D A [(a_this, .inr (6, [.ref a_bytes, .int f_length, .int f_at, .int f_began, .int f_fault])), (a_bytes, .inl (y.1, 400, .inl c_bytes))] → va_S A s.heap H locs → W p l e rm_X6_isWord s m args below meth c H locs 0 0 Q (F0 m 47 ls [])) → W p l e rm_X6_isWord s m args below meth c H locs 0 0 Q (F0 m 20 ls []) := by
    intro n
    induction n with
    | zero => intro x2 x h; exact (zi0 h).elim
    | succ n ih =>
      intro x2 x h H locs ls hl hP hD hS K55 K47
      obtain ⟨r, hf, h⟩ := zis h
      have hf : zf_X6_isWord_l20 f_began c_bytes tx x2 = some r := hf
      unfold zf_X6_isWord_l20 at hf
      refine lv_iload_n hx hb dX6_isWord_20 rfl (lv_at hl 2 rfl) ?_
      refine lv_aload_n hx hb dX6_isWord_21 rfl (lv_at hl 1 rfl) ?_
      refine zcVk (wr := [(a_this, .inr (6, [.ref a_bytes, .int f_length, .int f_at, .int f_began, .int f_fault])), (a_bytes, .inl (y.1, 400, .inl c_bytes))]) (av := []) (rest := [.int x2]) X (zc_J0_length_8abf5 l D y tx sa) (zStr_ok tx sa) hk kf_RX6_39 ⟨(Nat.le_of_ble_eq_true rfl), (Nat.le_of_ble_eq_true rfl)⟩ hP hD hS [] [0, 1] rfl rfl rfl rfl (by decide) (zOrec k1 hS) rfl rfl hl.1 (Nat.le_of_ble_eq_true rfl) dX6_isWord_22 ⟨(Nat.le_of_ble_eq_true rfl), (Nat.le_of_ble_eq_true rfl)⟩ (fun H locs hP hD hS => ?_)
      have hP : va_P D vwCl [(a_this, .inr (6, [.ref a_bytes, .int f_length, .int f_at, .int f_began, .int f_fault])), (a_bytes, .inl (y.1, 400, .inl c_bytes))] H := hP
      have hD : va_D A [(a_this, .inr (6, [.ref a_bytes, .int f_length, .int f_at, .int f_began, .int f_fault])), (a_bytes, .inl (y.1, 400, .inl c_bytes))] := hD
      show W p l e rm_X6_isWord s m args below meth c H locs _ _ Q (F0 m 25 ls [.int (nI tx.toList.length), .int x2])
      refine lv_icmp_ge (tgt := 55) hx hb dX6_isWord_25 (by decide) (fun c25 => ?_) (fun c25 => ?_)
      · replace hf := zt c25 hf
        obtain rfl := Option.some.inj hf
        obtain rfl := Option.some.inj h
        exact K55 _ rfl _ _ _ (lv_sub hl [] rfl) hP hD hS
      · replace hf := ze c25 hf
        refine lv_aload_n hx hb dX6_isWord_28 rfl (lv_at hl 0 rfl) ?_
        refine zget X hP 0 rfl rfl inF6 0 (by decide) q_40 rfl dX6_isWord_29 ?_
        refine lv_aload_n hx hb dX6_isWord_32 rfl (lv_at hl 0 rfl) ?_
        refine zget X hP 0 rfl rfl inF6 3 (by decide) q_45 rfl dX6_isWord_33 ?_
        refine lv_iload_n hx hb dX6_isWord_36 rfl (lv_at hl 2 rfl) ?_
        refine lv_iadd hx hb dX6_isWord_37 ?_
        obtain ⟨g38, hf⟩ := zg hf
        refine va_iald hx hb hK hP 1 0 rfl rfl g38 dX6_isWord_38 ?_
        refine lv_aload_n hx hb dX6_isWord_39 rfl (lv_at hl 1 rfl) ?_
        refine lv_iload_n hx hb dX6_isWord_40 rfl (lv_at hl 2 rfl) ?_
        obtain ⟨g41, hf⟩ := zg hf
        refine zcVk (wr := [(a_this, .inr (6, [.ref a_bytes, .int f_length, .int f_at, .int f_began, .int f_fault])), (a_bytes, .inl (y.1, 400, .inl c_bytes))]) (av := [.int x2]) (rest := [.int (c_bytes (f_began + x2).toNatClampNeg)]) X (zc_J0_charAt_5068e l D y tx sa x2 g41 htx) (zStr_ok tx sa) hk kf_RX6_44 ⟨(Nat.le_of_ble_eq_true rfl), (Nat.le_of_ble_eq_true rfl)⟩ hP hD hS [] [0, 1] rfl rfl rfl rfl (by decide) (zOrec k1 hS) rfl rfl hl.1 (Nat.le_of_ble_eq_true rfl) dX6_isWord_41 ⟨(Nat.le_of_ble_eq_true rfl), (Nat.le_of_ble_eq_true rfl)⟩ (fun H locs hP hD hS => ?_)
        have hP : va_P D vwCl [(a_this, .inr (6, [.ref a_bytes, .int f_length, .int f_at, .int f_began, .int f_fault])), (a_bytes, .inl (y.1, 400, .inl c_bytes))] H := hP
        have hD : va_D A [(a_this, .inr (6, [.ref a_bytes, .int f_length, .int f_at, .int f_began, .int f_fault])), (a_bytes, .inl (y.1, 400, .inl c_bytes))] := hD
        show W p l e rm_X6_isWord s m args below meth c H locs _ _ Q (F0 m 44 ls [.int (zi2c (zchr tx x2.toNatClampNeg &&& 255)), .int (c_bytes (f_began + x2).toNatClampNeg)])
        refine lv_icmp_eq (tgt := 49) hx hb dX6_isWord_44 (by decide) (fun c44 => ?_) (fun c44 => ?_)
        · replace hf := zt c44 hf
          refine lv_iinc (v := x2 + (1 : Int32)) (lv' := [(2, .int (x2 + (1 : Int32))), (0, .ref a_this), (1, .ref sa)]) hx hb dX6_isWord_49 hl (k := 2) rfl rfl (by decide) rfl (fun ls hl => ?_)
          refine lv_goto (tgt := 20) hx hb dX6_isWord_52 (by decide) ?_
          obtain rfl := Option.some.inj hf
          exact ih (x2 + (1 : Int32)) x h _ _ _ (lv_sub hl [1, 2, 0] rfl) hP hD hS K55 K47
        · replace hf := ze c44 hf
          obtain rfl := Option.some.inj hf
          obtain rfl := Option.some.inj h
          exact K47 _ rfl _ _ _ (lv_sub hl [] rfl) hP hD hS
  unfold zf_X6_isWord at hf
  refine lv_aload_n hx hb dX6_isWord_0 rfl (lv_at hl 1 rfl) ?_
  refine zcVk (wr := [(a_this, .inr (6, [.ref a_bytes, .int f_length, .int f_at, .int f_began, .int f_fault])), (a_bytes, .inl (y.1, 400, .inl c_bytes))]) (av := []) (rest := []) X (zc_J0_length_8abf5 l D y tx sa) (zStr_ok tx sa) hk kf_RX6_39 ⟨(Nat.le_of_ble_eq_true rfl), (Nat.le_of_ble_eq_true rfl)⟩ hP hD hS [] [0, 1] rfl rfl rfl rfl (by decide) (zOrec k1 hS) rfl rfl hl.1 (Nat.le_of_ble_eq_true rfl) dX6_isWord_1 ⟨(Nat.le_of_ble_eq_true rfl), (Nat.le_of_ble_eq_true rfl)⟩ (fun H locs hP hD hS => ?_)
  have hP : va_P D vwCl [(a_this, .inr (6, [.ref a_bytes, .int f_length, .int f_at, .int f_began, .int f_fault])), (a_bytes, .inl (y.1, 400, .inl c_bytes))] H := hP
  have hD : va_D A [(a_this, .inr (6, [.ref a_bytes, .int f_length, .int f_at, .int f_began, .int f_fault])), (a_bytes, .inl (y.1, 400, .inl c_bytes))] := hD
  show W p l e rm_X6_isWord s m args below meth c H locs _ _ Q (F0 m 4 ls [.int (nI tx.toList.length)])
  refine lv_aload_n hx hb dX6_isWord_4 rfl (lv_at hl 0 rfl) ?_
  refine zget X hP 0 rfl rfl inF6 2 (by decide) q_44 rfl dX6_isWord_5 ?_
  refine lv_aload_n hx hb dX6_isWord_8 rfl (lv_at hl 0 rfl) ?_
  refine zget X hP 0 rfl rfl inF6 3 (by decide) q_45 rfl dX6_isWord_9 ?_
  refine lv_isub hx hb dX6_isWord_12 ?_
  refine lv_icmp_eq (tgt := 18) hx hb dX6_isWord_13 (by decide) (fun c13 => ?_) (fun c13 => ?_)
  · replace hf := zt c13 hf
    refine lv_iconst (v := 0) hx hb dX6_isWord_18 (by decide) ?_
    refine lv_istore_n (lv' := [(2, .int (0 : Int32)), (0, .ref a_this), (1, .ref sa)]) hx hb dX6_isWord_19 rfl hl (by decide) rfl (fun ls hl => ?_)
    obtain ⟨o20, ho20, hf⟩ := zb hf
    refine L20 zfu (0 : Int32) o20 ho20 _ _ _ (lv_sub hl [1, 2, 0] rfl) hP hD hS (fun e20 he H locs ls hl hP hD hS => ?_) (fun e20 he H locs ls hl hP hD hS => ?_)
    · subst he
      replace hf := zsl hf
      refine lv_iconst (v := 1) hx hb dX6_isWord_55 (by decide) ?_
      obtain rfl := Option.some.inj hf
      exact zreti X hQ hP hD hS ⟨rfl, rfl⟩ rfl dX6_isWord_56 (Nat.le_of_ble_eq_true rfl) (Nat.le_of_ble_eq_true rfl)
    · subst he
      replace hf := zsr hf
      refine lv_iconst (v := 0) hx hb dX6_isWord_47 (by decide) ?_
      obtain rfl := Option.some.inj hf
      exact zreti X hQ hP hD hS ⟨rfl, rfl⟩ rfl dX6_isWord_48 (Nat.le_of_ble_eq_true rfl) (Nat.le_of_ble_eq_true rfl)
  · replace hf := ze c13 hf
    refine lv_iconst (v := 0) hx hb dX6_isWord_16 (by decide) ?_
    obtain rfl := Option.some.inj hf
    exact zreti X hQ hP hD hS ⟨rfl, rfl⟩ rfl dX6_isWord_17 (Nat.le_of_ble_eq_true rfl) (Nat.le_of_ble_eq_true rfl)

theorem kf_RX5_65 : zCB RX5 65 yX6_takeWord cX6_takeWord 1 (none : Option Jvm.ClassFile.FieldType) 0 ∧ Cond.instanceMethod yX6_takeWord ∈ wAll ∧ Cond.selects yX6_takeWord.cls yX6_takeWord yX6_takeWord ∈ wAll := ⟨⟨q_659, q_2, q_656, by decide +kernel⟩, q_657, q_658⟩
theorem kf_RX5_70 : zCB RX5 70 yX6_isWord cX6_isWord 3 (some .boolean) 1 ∧ Cond.instanceMethod yX6_isWord ∈ wAll ∧ Cond.selects yX6_isWord.cls yX6_isWord yX6_isWord ∈ wAll := ⟨⟨q_672, q_2, q_669, by decide +kernel⟩, q_670, q_671⟩
theorem kf_RX5_77 : zCB RX5 77 yX6_takeNumber cX6_takeNumber 4 (some .int) 2 ∧ Cond.instanceMethod yX6_takeNumber ∈ wAll ∧ Cond.selects yX6_takeNumber.cls yX6_takeNumber yX6_takeNumber ∈ wAll := ⟨⟨q_728, q_2, q_725, by decide +kernel⟩, q_726, q_727⟩
theorem kf_RX5_30 : zCB RX5 30 yX6_takeMark cX6_takeMark 2 (some .boolean) 0 ∧ Cond.instanceMethod yX6_takeMark ∈ wAll ∧ Cond.selects yX6_takeMark.cls yX6_takeMark yX6_takeMark ∈ wAll := ⟨⟨q_733, q_2, q_730, by decide +kernel⟩, q_731, q_732⟩
abbrev rm_X5_takeSize : Room := { frames := 5, cells := 0, slots := 0, locals := 107 }
def zf_X5_takeSize (f_columns : Int32) (f_rows : Int32) (f_text_length : Int32) (f_text_at : Int32) (f_text_fault : Int32) (c_text_bytes : Nat → Int32) : Option (Int32 × Int32 × Int32 × Int32 × Int32 × Int32) :=
  (zf_X6_takeWord f_text_length f_text_at c_text_bytes).bind fun o4 =>
  (zf_X6_isWord o4.1 o4.2 c_text_bytes ("grid")).bind fun o13 =>
  if o13 = 0 then ((zf_X6_refuse o4.2).bind fun o23 =>
  if zbit o23.1 = true then some (o23.1, f_columns, f_rows, o4.1, o4.2, o23.2) else none) else ((zf_X6_takeNumber f_text_length o4.1 f_text_fault c_text_bytes (1 : Int32) (5 : Int32)).bind fun o34 =>
  if o34.1 = (-1 : Int32) then (some ((0 : Int32), o34.1, f_rows, o34.2.1, o34.2.2.1, o34.2.2.2)) else ((zf_X6_takeNumber f_text_length o34.2.1 o34.2.2.2 c_text_bytes (1 : Int32) (5 : Int32)).bind fun o57 =>
  if o57.1 = (-1 : Int32) then (some ((0 : Int32), o34.1, o57.1, o57.2.1, o57.2.2.1, o57.2.2.2)) else ((zf_X6_takeMark f_text_length o57.2.1 o57.2.2.2 c_text_bytes).bind fun o75 =>
  if o75.1 = 0 then (some ((0 : Int32), o34.1, o57.1, o75.2.1, o75.2.2.1, o75.2.2.2)) else (some ((1 : Int32), o34.1, o57.1, o75.2.1, o75.2.2.1, o75.2.2.2)))))
set_option maxHeartbeats 4000000 in
set_option maxRecDepth 100000 in
theorem zc_X5_takeSize (l : Launch) (D : va_G) (y : zY) (a_this a_text a_text_bytes : Nat) (f_columns : Int32) (f_rows : Int32) (f_toldOpen : Int64) (f_toldShut : Int64) (f_stones : Int64) (f_text_length : Int32) (f_text_at : Int32) (f_text_began : Int32) (f_text_fault : Int32) (c_text_bytes : Nat → Int32) (out : Int32 × Int32 × Int32 × Int32 × Int32 × Int32) (hf : zf_X5_takeSize f_columns f_rows f_text_length f_text_at f_text_fault c_text_bytes = some out) : zC l D y yX5_takeSize cX5_takeSize 1 (some .boolean) rm_X5_takeSize [.ref a_this] [(a_this, .inr (5, [.ref a_text, .int f_columns, .int f_rows, .long f_toldOpen, .long f_toldShut, .long f_stones])), (a_text, .inr (6, [.ref a_text_bytes, .int f_text_length, .int f_text_at, .int f_text_began, .int f_text_fault])), (a_text_bytes, .inl (y.1, 400, .inl c_text_bytes))] (zE (some (.int out.1)) [(a_this, .inr (5, [.ref a_text, .int out.2.1, .int out.2.2.1, .long f_toldOpen, .long f_toldShut, .long f_stones])), (a_text, .inr (6, [.ref a_text_bytes, .int f_text_length, .int out.2.2.2.1, .int out.2.2.2.2.1, .int out.2.2.2.2.2])), (a_text_bytes, .inl (y.1, 400, .inl c_text_bytes))]) := by
  refine zmk (by decide) (Nat.le_of_ble_eq_true rfl) ?_
  intro p e s m args below meth c A Q ls X hQ hnm hP hD hS hl
  have X : zX p s m args meth c D y A RX5 cX5_takeSize 1 (some .boolean) := X
  obtain ⟨hx, hb, hr, hml, hown, hts, hK, hA, hlocks⟩ := id X
  have hl : lv_has ls 1 [(0, .ref a_this)] := hl
  unfold zf_X5_takeSize at hf
  refine lv_aload_n hx hb dX5_takeSize_0 rfl (lv_at hl 0 rfl) ?_
  refine zget X hP 0 rfl rfl inF5 0 (by decide) q_625 rfl dX5_takeSize_1 ?_
  obtain ⟨o4, ho4, hf⟩ := zb hf
  refine zcV0 (wr := [(a_this, .inr (5, [.ref a_text, .int f_columns, .int f_rows, .long f_toldOpen, .long f_toldShut, .long f_stones]))]) (rest := []) X (zc_X6_takeWord l D y a_text a_text_bytes f_text_length f_text_at f_text_began f_text_fault c_text_bytes o4 ho4) kf_RX5_65 ⟨(Nat.le_of_ble_eq_true rfl), (Nat.le_of_ble_eq_true rfl)⟩ hP hD hS [1, 2] [0] rfl rfl rfl rfl (by decide) 1 rfl rfl rfl rfl hl.1 (Nat.le_of_ble_eq_true rfl) dX5_takeSize_4 ⟨(Nat.le_of_ble_eq_true rfl), (Nat.le_of_ble_eq_true rfl)⟩ (fun H locs hP hD hS => ?_)
  have hP : va_P D vwCl [(a_this, .inr (5, [.ref a_text, .int f_columns, .int f_rows, .long f_toldOpen, .long f_toldShut, .long f_stones])), (a_text, .inr (6, [.ref a_text_bytes, .int f_text_length, .int o4.1, .int o4.2, .int f_text_fault])), (a_text_bytes, .inl (y.1, 400, .inl c_text_bytes))] H := hP
  have hD : va_D A [(a_this, .inr (5, [.ref a_text, .int f_columns, .int f_rows, .long f_toldOpen, .long f_toldShut, .long f_stones])), (a_text, .inr (6, [.ref a_text_bytes, .int f_text_length, .int o4.1, .int o4.2, .int f_text_fault])), (a_text_bytes, .inl (y.1, 400, .inl c_text_bytes))] := hD
  refine lv_aload_n hx hb dX5_takeSize_7 rfl (lv_at hl 0 rfl) ?_
  refine zget X hP 0 rfl rfl inF5 0 (by decide) q_625 rfl dX5_takeSize_8 ?_
  obtain ⟨sa11, hz11, hs11⟩ := hlocks.2.2.2.2.2.1 ("WaterGrid$Reader", 68, "grid") (by decide +kernel)
  refine va_ldcS hx hb hown hz11 dX5_takeSize_11 ?_
  obtain ⟨o13, ho13, hf⟩ := zb hf
  refine zcVk (wr := [(a_this, .inr (5, [.ref a_text, .int f_columns, .int f_rows, .long f_toldOpen, .long f_toldShut, .long f_stones]))]) (av := [.ref sa11]) (rest := []) X (zc_X6_isWord l D y a_text a_text_bytes f_text_length o4.1 o4.2 f_text_fault c_text_bytes "grid" sa11 (by decide) o13 ho13) (zStr_ok "grid" sa11) hs11 kf_RX5_70 ⟨(Nat.le_of_ble_eq_true rfl), (Nat.le_of_ble_eq_true rfl)⟩ hP hD hS [1, 2] [0] rfl rfl rfl rfl (by decide) (va_recv hK hP (ci := 6) (q0 := 1) rfl rfl) rfl rfl hl.1 (Nat.le_of_ble_eq_true rfl) dX5_takeSize_13 ⟨(Nat.le_of_ble_eq_true rfl), (Nat.le_of_ble_eq_true rfl)⟩ (fun H locs hP hD hS => ?_)
  have hP : va_P D vwCl [(a_this, .inr (5, [.ref a_text, .int f_columns, .int f_rows, .long f_toldOpen, .long f_toldShut, .long f_stones])), (a_text, .inr (6, [.ref a_text_bytes, .int f_text_length, .int o4.1, .int o4.2, .int f_text_fault])), (a_text_bytes, .inl (y.1, 400, .inl c_text_bytes))] H := hP
  have hD : va_D A [(a_this, .inr (5, [.ref a_text, .int f_columns, .int f_rows, .long f_toldOpen, .long f_toldShut, .long f_stones])), (a_text, .inr (6, [.ref a_text_bytes, .int f_text_length, .int o4.1, .int o4.2, .int f_text_fault])), (a_text_bytes, .inl (y.1, 400, .inl c_text_bytes))] := hD
  show W p l e rm_X5_takeSize s m args below meth c H locs _ _ Q (F0 m 16 ls [.int o13])
  refine lv_if_ne (tgt := 27) hx hb dX5_takeSize_16 (by decide) (fun c16 => ?_) (fun c16 => ?_)
  · replace hf := ze c16 hf
    refine lv_aload_n hx hb dX5_takeSize_27 rfl (lv_at hl 0 rfl) ?_
    refine lv_aload_n hx hb dX5_takeSize_28 rfl (lv_at hl 0 rfl) ?_
    refine zget X hP 0 rfl rfl inF5 0 (by decide) q_625 rfl dX5_takeSize_29 ?_
    refine lv_iconst (v := 1) hx hb dX5_takeSize_32 (by decide) ?_
    refine lv_iconst (v := 5) hx hb dX5_takeSize_33 (by decide) ?_
    obtain ⟨o34, ho34, hf⟩ := zb hf
    refine zcV1 (wr := [(a_this, .inr (5, [.ref a_text, .int f_columns, .int f_rows, .long f_toldOpen, .long f_toldShut, .long f_stones]))]) (rest := [.ref a_this]) X (zc_X6_takeNumber l D y a_text a_text_bytes f_text_length o4.1 o4.2 f_text_fault c_text_bytes (1 : Int32) (5 : Int32) o34 ho34) kf_RX5_77 ⟨(Nat.le_of_ble_eq_true rfl), (Nat.le_of_ble_eq_true rfl)⟩ hP hD hS [1, 2] [0] rfl rfl rfl rfl (by decide) 1 rfl rfl rfl rfl hl.1 (Nat.le_of_ble_eq_true rfl) dX5_takeSize_34 ⟨(Nat.le_of_ble_eq_true rfl), (Nat.le_of_ble_eq_true rfl)⟩ (fun H locs hP hD hS => ?_)
    have hP : va_P D vwCl [(a_this, .inr (5, [.ref a_text, .int f_columns, .int f_rows, .long f_toldOpen, .long f_toldShut, .long f_stones])), (a_text, .inr (6, [.ref a_text_bytes, .int f_text_length, .int o34.2.1, .int o34.2.2.1, .int o34.2.2.2])), (a_text_bytes, .inl (y.1, 400, .inl c_text_bytes))] H := hP
    have hD : va_D A [(a_this, .inr (5, [.ref a_text, .int f_columns, .int f_rows, .long f_toldOpen, .long f_toldShut, .long f_stones])), (a_text, .inr (6, [.ref a_text_bytes, .int f_text_length, .int o34.2.1, .int o34.2.2.1, .int o34.2.2.2])), (a_text_bytes, .inl (y.1, 400, .inl c_text_bytes))] := hD
    refine zput (ty := .int) X hP hD hS 0 rfl rfl inF5 tyX5_ok nmX5 1 (by decide) q_626 rfl rfl rfl rfl (Nat.le_of_ble_eq_true rfl) dX5_takeSize_37 (fun H locs hP hD hS => ?_)
    have hP : va_P D vwCl [(a_this, .inr (5, [.ref a_text, .int o34.1, .int f_rows, .long f_toldOpen, .long f_toldShut, .long f_stones])), (a_text, .inr (6, [.ref a_text_bytes, .int f_text_length, .int o34.2.1, .int o34.2.2.1, .int o34.2.2.2])), (a_text_bytes, .inl (y.1, 400, .inl c_text_bytes))] H := hP
    have hD : va_D A [(a_this, .inr (5, [.ref a_text, .int o34.1, .int f_rows, .long f_toldOpen, .long f_toldShut, .long f_stones])), (a_text, .inr (6, [.ref a_text_bytes, .int f_text_length, .int o34.2.1, .int o34.2.2.1, .int o34.2.2.2])), (a_text_bytes, .inl (y.1, 400, .inl c_text_bytes))] := hD
    refine lv_aload_n hx hb dX5_takeSize_40 rfl (lv_at hl 0 rfl) ?_
    refine zget X hP 0 rfl rfl inF5 1 (by decide) q_626 rfl dX5_takeSize_41 ?_
    refine lv_iconst (v := -1) hx hb dX5_takeSize_44 (by decide) ?_
    refine lv_icmp_ne (tgt := 50) hx hb dX5_takeSize_45 (by decide) (fun c45 => ?_) (fun c45 => ?_)
    · replace hf := ze c45 hf
      refine lv_aload_n hx hb dX5_takeSize_50 rfl (lv_at hl 0 rfl) ?_
      refine lv_aload_n hx hb dX5_takeSize_51 rfl (lv_at hl 0 rfl) ?_
      refine zget X hP 0 rfl rfl inF5 0 (by decide) q_625 rfl dX5_takeSize_52 ?_
      refine lv_iconst (v := 1) hx hb dX5_takeSize_55 (by decide) ?_
      refine lv_iconst (v := 5) hx hb dX5_takeSize_56 (by decide) ?_
      obtain ⟨o57, ho57, hf⟩ := zb hf
      refine zcV1 (wr := [(a_this, .inr (5, [.ref a_text, .int o34.1, .int f_rows, .long f_toldOpen, .long f_toldShut, .long f_stones]))]) (rest := [.ref a_this]) X (zc_X6_takeNumber l D y a_text a_text_bytes f_text_length o34.2.1 o34.2.2.1 o34.2.2.2 c_text_bytes (1 : Int32) (5 : Int32) o57 ho57) kf_RX5_77 ⟨(Nat.le_of_ble_eq_true rfl), (Nat.le_of_ble_eq_true rfl)⟩ hP hD hS [1, 2] [0] rfl rfl rfl rfl (by decide) 1 rfl rfl rfl rfl hl.1 (Nat.le_of_ble_eq_true rfl) dX5_takeSize_57 ⟨(Nat.le_of_ble_eq_true rfl), (Nat.le_of_ble_eq_true rfl)⟩ (fun H locs hP hD hS => ?_)
      have hP : va_P D vwCl [(a_this, .inr (5, [.ref a_text, .int o34.1, .int f_rows, .long f_toldOpen, .long f_toldShut, .long f_stones])), (a_text, .inr (6, [.ref a_text_bytes, .int f_text_length, .int o57.2.1, .int o57.2.2.1, .int o57.2.2.2])), (a_text_bytes, .inl (y.1, 400, .inl c_text_bytes))] H := hP
      have hD : va_D A [(a_this, .inr (5, [.ref a_text, .int o34.1, .int f_rows, .long f_toldOpen, .long f_toldShut, .long f_stones])), (a_text, .inr (6, [.ref a_text_bytes, .int f_text_length, .int o57.2.1, .int o57.2.2.1, .int o57.2.2.2])), (a_text_bytes, .inl (y.1, 400, .inl c_text_bytes))] := hD
      refine zput (ty := .int) X hP hD hS 0 rfl rfl inF5 tyX5_ok nmX5 2 (by decide) q_627 rfl rfl rfl rfl (Nat.le_of_ble_eq_true rfl) dX5_takeSize_60 (fun H locs hP hD hS => ?_)
      have hP : va_P D vwCl [(a_this, .inr (5, [.ref a_text, .int o34.1, .int o57.1, .long f_toldOpen, .long f_toldShut, .long f_stones])), (a_text, .inr (6, [.ref a_text_bytes, .int f_text_length, .int o57.2.1, .int o57.2.2.1, .int o57.2.2.2])), (a_text_bytes, .inl (y.1, 400, .inl c_text_bytes))] H := hP
      have hD : va_D A [(a_this, .inr (5, [.ref a_text, .int o34.1, .int o57.1, .long f_toldOpen, .long f_toldShut, .long f_stones])), (a_text, .inr (6, [.ref a_text_bytes, .int f_text_length, .int o57.2.1, .int o57.2.2.1, .int o57.2.2.2])), (a_text_bytes, .inl (y.1, 400, .inl c_text_bytes))] := hD
      refine lv_aload_n hx hb dX5_takeSize_63 rfl (lv_at hl 0 rfl) ?_
      refine zget X hP 0 rfl rfl inF5 2 (by decide) q_627 rfl dX5_takeSize_64 ?_
      refine lv_iconst (v := -1) hx hb dX5_takeSize_67 (by decide) ?_
      refine lv_icmp_eq (tgt := 85) hx hb dX5_takeSize_68 (by decide) (fun c68 => ?_) (fun c68 => ?_)
      · replace hf := zt c68 hf
        refine lv_iconst (v := 0) hx hb dX5_takeSize_85 (by decide) ?_
        obtain rfl := Option.some.inj hf
        exact zreti X hQ hP hD hS ⟨rfl, rfl⟩ rfl dX5_takeSize_86 (Nat.le_of_ble_eq_true rfl) (Nat.le_of_ble_eq_true rfl)
      · replace hf := ze c68 hf
        refine lv_aload_n hx hb dX5_takeSize_71 rfl (lv_at hl 0 rfl) ?_
        refine zget X hP 0 rfl rfl inF5 0 (by decide) q_625 rfl dX5_takeSize_72 ?_
        obtain ⟨o75, ho75, hf⟩ := zb hf
        refine zcV1 (wr := [(a_this, .inr (5, [.ref a_text, .int o34.1, .int o57.1, .long f_toldOpen, .long f_toldShut, .long f_stones]))]) (rest := []) X (zc_X6_takeMark l D y a_text a_text_bytes f_text_length o57.2.1 o57.2.2.1 o57.2.2.2 c_text_bytes o75 ho75) kf_RX5_30 ⟨(Nat.le_of_ble_eq_true rfl), (Nat.le_of_ble_eq_true rfl)⟩ hP hD hS [1, 2] [0] rfl rfl rfl rfl (by decide) 1 rfl rfl rfl rfl hl.1 (Nat.le_of_ble_eq_true rfl) dX5_takeSize_75 ⟨(Nat.le_of_ble_eq_true rfl), (Nat.le_of_ble_eq_true rfl)⟩ (fun H locs hP hD hS => ?_)
        have hP : va_P D vwCl [(a_this, .inr (5, [.ref a_text, .int o34.1, .int o57.1, .long f_toldOpen, .long f_toldShut, .long f_stones])), (a_text, .inr (6, [.ref a_text_bytes, .int f_text_length, .int o75.2.1, .int o75.2.2.1, .int o75.2.2.2])), (a_text_bytes, .inl (y.1, 400, .inl c_text_bytes))] H := hP
        have hD : va_D A [(a_this, .inr (5, [.ref a_text, .int o34.1, .int o57.1, .long f_toldOpen, .long f_toldShut, .long f_stones])), (a_text, .inr (6, [.ref a_text_bytes, .int f_text_length, .int o75.2.1, .int o75.2.2.1, .int o75.2.2.2])), (a_text_bytes, .inl (y.1, 400, .inl c_text_bytes))] := hD
        refine lv_if_eq (tgt := 85) hx hb dX5_takeSize_78 (by decide) (fun c78 => ?_) (fun c78 => ?_)
        · replace hf := zt c78 hf
          refine lv_iconst (v := 0) hx hb dX5_takeSize_85 (by decide) ?_
          obtain rfl := Option.some.inj hf
          exact zreti X hQ hP hD hS ⟨rfl, rfl⟩ rfl dX5_takeSize_86 (Nat.le_of_ble_eq_true rfl) (Nat.le_of_ble_eq_true rfl)
        · replace hf := ze c78 hf
          refine lv_iconst (v := 1) hx hb dX5_takeSize_81 (by decide) ?_
          refine lv_goto (tgt := 86) hx hb dX5_takeSize_82 (by decide) ?_
          obtain rfl := Option.some.inj hf
          exact zreti X hQ hP hD hS ⟨rfl, rfl⟩ rfl dX5_takeSize_86 (Nat.le_of_ble_eq_true rfl) (Nat.le_of_ble_eq_true rfl)
    · replace hf := zt c45 hf
      refine lv_iconst (v := 0) hx hb dX5_takeSize_48 (by decide) ?_
      obtain rfl := Option.some.inj hf
      exact zreti X hQ hP hD hS ⟨rfl, rfl⟩ rfl dX5_takeSize_49 (Nat.le_of_ble_eq_true rfl) (Nat.le_of_ble_eq_true rfl)
  · replace hf := zt c16 hf
    refine lv_aload_n hx hb dX5_takeSize_19 rfl (lv_at hl 0 rfl) ?_
    refine zget X hP 0 rfl rfl inF5 0 (by decide) q_625 rfl dX5_takeSize_20 ?_
    obtain ⟨o23, ho23, hf⟩ := zb hf
    refine zcV1 (wr := [(a_this, .inr (5, [.ref a_text, .int f_columns, .int f_rows, .long f_toldOpen, .long f_toldShut, .long f_stones])), (a_text_bytes, .inl (y.1, 400, .inl c_text_bytes))]) (rest := []) X (zc_X6_refuse l D y a_text a_text_bytes f_text_length o4.1 o4.2 f_text_fault o23 ho23) kf_RX5_74 ⟨(Nat.le_of_ble_eq_true rfl), (Nat.le_of_ble_eq_true rfl)⟩ hP hD hS [1] [0, 2] rfl rfl rfl rfl (by decide) 1 rfl rfl rfl rfl hl.1 (Nat.le_of_ble_eq_true rfl) dX5_takeSize_23 ⟨(Nat.le_of_ble_eq_true rfl), (Nat.le_of_ble_eq_true rfl)⟩ (fun H locs hP hD hS => ?_)
    have hP : va_P D vwCl [(a_this, .inr (5, [.ref a_text, .int f_columns, .int f_rows, .long f_toldOpen, .long f_toldShut, .long f_stones])), (a_text_bytes, .inl (y.1, 400, .inl c_text_bytes)), (a_text, .inr (6, [.ref a_text_bytes, .int f_text_length, .int o4.1, .int o4.2, .int o23.2]))] H := hP
    have hD : va_D A [(a_this, .inr (5, [.ref a_text, .int f_columns, .int f_rows, .long f_toldOpen, .long f_toldShut, .long f_stones])), (a_text_bytes, .inl (y.1, 400, .inl c_text_bytes)), (a_text, .inr (6, [.ref a_text_bytes, .int f_text_length, .int o4.1, .int o4.2, .int o23.2]))] := hD
    obtain ⟨nb26, hf⟩ := zbt hf
    obtain rfl := Option.some.inj hf
    exact zreti X hQ (zPsub (is := [0, 2, 1]) hP rfl) (hD.sub [0, 2, 1] (by decide) rfl) hS ⟨rfl, rfl⟩ nb26.1 dX5_takeSize_26 (Nat.le_of_ble_eq_true rfl) (Nat.le_of_ble_eq_true rfl)

theorem kf_RX5_103 : zCB RX5 103 yX2_hasPipe cX2_hasPipe 7 (some .boolean) 5 ∧ Cond.static yX2_hasPipe ∈ wAll := ⟨⟨q_233, q_8, q_757, by decide +kernel⟩, q_232⟩
abbrev rm_X5_takePipe : Room := { frames := 5, cells := 0, slots := 0, locals := 107 }
def zf_X5_takePipe_53 (f_toldOpen : Int64) (f_toldShut : Int64) (f_text_at : Int32) (f_text_began : Int32) : Option (Int32 × Int64 × Int64 × Int32 × Int32 × Int32) :=
  (zf_X6_refuse f_text_began).bind fun o57 =>
  if zbit o57.1 = true then some (o57.1, f_toldOpen, f_toldShut, f_text_at, f_text_began, o57.2) else none
def zf_X5_takePipe_35 (f_columns : Int32) (f_rows : Int32) (f_toldOpen : Int64) (f_toldShut : Int64) (f_text_at : Int32) (f_text_began : Int32) (f_text_fault : Int32) (x1 : Int32) (x2 : Int32) (x3 : Int32) (x4 : Int32) : Option (Int32 × Int64 × Int64 × Int32 × Int32 × Int32) :=
  (zf_X2_hasPipe x1 x2 x4 f_columns f_rows).bind fun o47 =>
  if o47 = 0 then (zf_X5_takePipe_53 f_toldOpen f_toldShut f_text_at f_text_began) else ((zf_X2_numberOf x1 x2 x4).bind fun o66 =>
  if (lg_cmp ((f_toldOpen ||| f_toldShut) &&& (zlshl (1 : Int64) o66)) (0 : Int64)) = 0 then (if x3 = 0 then (some ((1 : Int32), f_toldOpen, f_toldShut ||| (zlshl (1 : Int64) o66), f_text_at, f_text_began, f_text_fault)) else (some ((1 : Int32), f_toldOpen ||| (zlshl (1 : Int64) o66), f_toldShut, f_text_at, f_text_began, f_text_fault))) else ((zf_X6_refuse f_text_began).bind fun o93 =>
  if zbit o93.1 = true then some (o93.1, f_toldOpen, f_toldShut, f_text_at, f_text_began, o93.2) else none))
def zf_X5_takePipe (f_columns : Int32) (f_rows : Int32) (f_toldOpen : Int64) (f_toldShut : Int64) (f_text_length : Int32) (f_text_at : Int32) (f_text_fault : Int32) (c_text_bytes : Nat → Int32) (x1 : Int32) (x2 : Int32) (x3 : Int32) : Option (Int32 × Int64 × Int64 × Int32 × Int32 × Int32) :=
  (zf_X6_takeWord f_text_length f_text_at c_text_bytes).bind fun o4 =>
  (zf_X6_isWord o4.1 o4.2 c_text_bytes ("down")).bind fun o13 =>
  if o13 = 0 then ((zf_X6_isWord o4.1 o4.2 c_text_bytes ("right")).bind fun o29 =>
  if o29 = 0 then (zf_X5_takePipe_53 f_toldOpen f_toldShut o4.1 o4.2) else (zf_X5_takePipe_35 f_columns f_rows f_toldOpen f_toldShut o4.1 o4.2 f_text_fault x1 x2 x3 o13)) else (zf_X5_takePipe_35 f_columns f_rows f_toldOpen f_toldShut o4.1 o4.2 f_text_fault x1 x2 x3 o13)
set_option maxHeartbeats 4000000 in
set_option maxRecDepth 100000 in
theorem zc_X5_takePipe (l : Launch) (D : va_G) (y : zY) (a_this a_text a_text_bytes : Nat) (f_columns : Int32) (f_rows : Int32) (f_toldOpen : Int64) (f_toldShut : Int64) (f_stones : Int64) (f_text_length : Int32) (f_text_at : Int32) (f_text_began : Int32) (f_text_fault : Int32) (c_text_bytes : Nat → Int32) (x1 : Int32) (x2 : Int32) (x3 : Int32) (out : Int32 × Int64 × Int64 × Int32 × Int32 × Int32) (hf : zf_X5_takePipe f_columns f_rows f_toldOpen f_toldShut f_text_length f_text_at f_text_fault c_text_bytes x1 x2 x3 = some out) : zC l D y yX5_takePipe cX5_takePipe 7 (some .boolean) rm_X5_takePipe [.ref a_this, .int x1, .int x2, .int x3] [(a_this, .inr (5, [.ref a_text, .int f_columns, .int f_rows, .long f_toldOpen, .long f_toldShut, .long f_stones])), (a_text, .inr (6, [.ref a_text_bytes, .int f_text_length, .int f_text_at, .int f_text_began, .int f_text_fault])), (a_text_bytes, .inl (y.1, 400, .inl c_text_bytes))] (zE (some (.int out.1)) [(a_this, .inr (5, [.ref a_text, .int f_columns, .int f_rows, .long out.2.1, .long out.2.2.1, .long f_stones])), (a_text, .inr (6, [.ref a_text_bytes, .int f_text_length, .int out.2.2.2.1, .int out.2.2.2.2.1, .int out.2.2.2.2.2])), (a_text_bytes, .inl (y.1, 400, .inl c_text_bytes))]) := by
  refine zmk (by decide) (Nat.le_of_ble_eq_true rfl) ?_
  intro p e s m args below meth c A Q ls X hQ hnm hP hD hS hl
  have X : zX p s m args meth c D y A RX5 cX5_takePipe 7 (some .boolean) := X
  obtain ⟨hx, hb, hr, hml, hown, hts, hK, hA, hlocks⟩ := id X
  have hl : lv_has ls 7 [(0, .ref a_this), (1, .int x1), (2, .int x2), (3, .int x3)] := hl
  have J53 : ∀ (f_toldOpen : Int64) (f_toldShut : Int64) (f_text_at : Int32) (f_text_began : Int32) (f_text_fault : Int32), zf_X5_takePipe_53 f_toldOpen f_toldShut f_text_at f_text_began = some out → ∀ (H : Heap) (locs : List Loc) (ls : Array Slot), lv_has ls 7 [(0, .ref a_this)] → va_P D vwCl [(a_this, .inr (5, [.ref a_text, .int f_columns, .int f_rows, .long f_toldOpen, .long f_toldShut, .long f_stones])), (a_text, .inr (6, [.ref a_text_bytes, .int f_text_length, .int f_text_at, .int f_text_began, .int f_text_fault])), (a_text_bytes, .inl (y.1, 400, .inl c_text_bytes))] H → va_D A [(a_this, .inr (5, [.ref a_text, .int f_columns, .int f_rows, .long f_toldOpen, .long f_toldShut, .long f_stones])), (a_text, .inr (6, [.ref a_text_bytes, .int f_text_length, .int f_text_at, .int f_text_began, .int f_text_fault])), (a_text_bytes, .inl (y.1, 400, .inl c_text_bytes))] → va_S A s.heap H locs → W p l e rm_X5_takePipe s m args below meth c H locs 0 0 Q (F0 m 53 ls []) := by
    intro f_toldOpen f_toldShut f_text_at f_text_began f_text_fault hf H locs ls hl hP hD hS
    unfold zf_X5_takePipe_53 at hf
    refine lv_aload_n hx hb dX5_takePipe_53 rfl (lv_at hl 0 rfl) ?_
    refine zget X hP 0 rfl rfl inF5 0 (by decide) q_625 rfl dX5_takePipe_54 ?_
    obtain ⟨o57, ho57, hf⟩ := zb hf
    refine zcV1 (wr := [(a_this, .inr (5, [.ref a_text, .int f_columns, .int f_rows, .long f_toldOpen, .long f_toldShut, .long f_stones])), (a_text_bytes, .inl (y.1, 400, .inl c_text_bytes))]) (rest := []) X (zc_X6_refuse l D y a_text a_text_bytes f_text_length f_text_at f_text_began f_text_fault o57 ho57) kf_RX5_74 ⟨(Nat.le_of_ble_eq_true rfl), (Nat.le_of_ble_eq_true rfl)⟩ hP hD hS [1] [0, 2] rfl rfl rfl rfl (by decide) 1 rfl rfl rfl rfl hl.1 (Nat.le_of_ble_eq_true rfl) dX5_takePipe_57 ⟨(Nat.le_of_ble_eq_true rfl), (Nat.le_of_ble_eq_true rfl)⟩ (fun H locs hP hD hS => ?_)
    have hP : va_P D vwCl [(a_this, .inr (5, [.ref a_text, .int f_columns, .int f_rows, .long f_toldOpen, .long f_toldShut, .long f_stones])), (a_text_bytes, .inl (y.1, 400, .inl c_text_bytes)), (a_text, .inr (6, [.ref a_text_bytes, .int f_text_length, .int f_text_at, .int f_text_began, .int o57.2]))] H := hP
    have hD : va_D A [(a_this, .inr (5, [.ref a_text, .int f_columns, .int f_rows, .long f_toldOpen, .long f_toldShut, .long f_stones])), (a_text_bytes, .inl (y.1, 400, .inl c_text_bytes)), (a_text, .inr (6, [.ref a_text_bytes, .int f_text_length, .int f_text_at, .int f_text_began, .int o57.2]))] := hD
    obtain ⟨nb60, hf⟩ := zbt hf
    obtain rfl := Option.some.inj hf
    exact zreti X hQ (zPsub (is := [0, 2, 1]) hP rfl) (hD.sub [0, 2, 1] (by decide) rfl) hS ⟨rfl, rfl⟩ nb60.1 dX5_takePipe_60 (Nat.le_of_ble_eq_true rfl) (Nat.le_of_ble_eq_true rfl)
  have J35 : ∀ (x4 : Int32) (f_toldOpen : Int64) (f_toldShut : Int64) (f_text_at : Int32) (f_text_began : Int32) (f_text_fault : Int32), zf_X5_takePipe_35 f_columns f_rows f_toldOpen f_toldShut f_text_at f_text_began f_text_fault x1 x2 x3 x4 = some out → ∀ (H : Heap) (locs : List Loc) (ls : Array Slot), lv_has ls 7 [(0, .ref a_this), (1, .int x1), (2, .int x2), (3, .int x3), (4, .int x4)] → va_P D vwCl [(a_this, .inr (5, [.ref a_text, .int f_columns, .int f_rows, .long f_toldOpen, .long f_toldShut, .long f_stones])), (a_text, .inr (6, [.ref a_text_bytes, .int f_text_length, .int f_text_at, .int f_text_began, .int f_text_fault])), (a_text_bytes, .inl (y.1, 400, .inl c_text_bytes))] H → va_D A [(a_this, .inr (5, [.ref a_text, .int f_columns, .int f_rows, .long f_toldOpen, .long f_toldShut, .long f_stones])), (a_text, .inr (6, [.ref a_text_bytes, .int f_text_length, .int f_text_at, .int f_text_began, .int f_text_fault])), (a_text_bytes, .inl (y.1, 400, .inl c_text_bytes))] → va_S A s.heap H locs → W p l e rm_X5_takePipe s m args below meth c H locs 0 0 Q (F0 m 35 ls []) := by
    intro x4 f_toldOpen f_toldShut f_text_at f_text_began f_text_fault hf H locs ls hl hP hD hS
    unfold zf_X5_takePipe_35 at hf
    refine lv_iload_n hx hb dX5_takePipe_35 rfl (lv_at hl 1 rfl) ?_
    refine lv_iload_n hx hb dX5_takePipe_36 rfl (lv_at hl 2 rfl) ?_
    refine lv_iload hx hb dX5_takePipe_37 (lv_at hl 4 rfl) ?_
    refine lv_aload_n hx hb dX5_takePipe_39 rfl (lv_at hl 0 rfl) ?_
    refine zget X hP 0 rfl rfl inF5 1 (by decide) q_626 rfl dX5_takePipe_40 ?_
    refine lv_aload_n hx hb dX5_takePipe_43 rfl (lv_at hl 0 rfl) ?_
    refine zget X hP 0 rfl rfl inF5 2 (by decide) q_627 rfl dX5_takePipe_44 ?_
    obtain ⟨o47, ho47, hf⟩ := zb hf
    refine zcS1 (wr := [(a_this, .inr (5, [.ref a_text, .int f_columns, .int f_rows, .long f_toldOpen, .long f_toldShut, .long f_stones])), (a_text, .inr (6, [.ref a_text_bytes, .int f_text_length, .int f_text_at, .int f_text_began, .int f_text_fault])), (a_text_bytes, .inl (y.1, 400, .inl c_text_bytes))]) (rest := []) X (zc_X2_hasPipe l D y x1 x2 x4 f_columns f_rows o47 ho47) kf_RX5_103 ⟨(Nat.le_of_ble_eq_true rfl), (Nat.le_of_ble_eq_true rfl)⟩ hP hD hS [] [0, 1, 2] rfl rfl rfl rfl (by decide) rfl rfl hl.1 (Nat.le_of_ble_eq_true rfl) dX5_takePipe_47 ⟨(Nat.le_of_ble_eq_true rfl), (Nat.le_of_ble_eq_true rfl)⟩ (fun H locs hP hD hS => ?_)
    have hP : va_P D vwCl [(a_this, .inr (5, [.ref a_text, .int f_columns, .int f_rows, .long f_toldOpen, .long f_toldShut, .long f_stones])), (a_text, .inr (6, [.ref a_text_bytes, .int f_text_length, .int f_text_at, .int f_text_began, .int f_text_fault])), (a_text_bytes, .inl (y.1, 400, .inl c_text_bytes))] H := hP
    have hD : va_D A [(a_this, .inr (5, [.ref a_text, .int f_columns, .int f_rows, .long f_toldOpen, .long f_toldShut, .long f_stones])), (a_text, .inr (6, [.ref a_text_bytes, .int f_text_length, .int f_text_at, .int f_text_began, .int f_text_fault])), (a_text_bytes, .inl (y.1, 400, .inl c_text_bytes))] := hD
    refine lv_if_ne (tgt := 61) hx hb dX5_takePipe_50 (by decide) (fun c50 => ?_) (fun c50 => ?_)
    · replace hf := ze c50 hf
      refine lv_lconst (v := 1) hx hb dX5_takePipe_61 (by decide) ?_
      refine lv_iload_n hx hb dX5_takePipe_62 rfl (lv_at hl 1 rfl) ?_
      refine lv_iload_n hx hb dX5_takePipe_63 rfl (lv_at hl 2 rfl) ?_
      refine lv_iload hx hb dX5_takePipe_64 (lv_at hl 4 rfl) ?_
      obtain ⟨o66, ho66, hf⟩ := zb hf
      refine zcS1 (wr := [(a_this, .inr (5, [.ref a_text, .int f_columns, .int f_rows, .long f_toldOpen, .long f_toldShut, .long f_stones])), (a_text, .inr (6, [.ref a_text_bytes, .int f_text_length, .int f_text_at, .int f_text_began, .int f_text_fault])), (a_text_bytes, .inl (y.1, 400, .inl c_text_bytes))]) (rest := [.long (1 : Int64)]) X (zc_X2_numberOf l D y x1 x2 x4 o66 ho66) kf_RX5_95 ⟨(Nat.le_of_ble_eq_true rfl), (Nat.le_of_ble_eq_true rfl)⟩ hP hD hS [] [0, 1, 2] rfl rfl rfl rfl (by decide) rfl rfl hl.1 (Nat.le_of_ble_eq_true rfl) dX5_takePipe_66 ⟨(Nat.le_of_ble_eq_true rfl), (Nat.le_of_ble_eq_true rfl)⟩ (fun H locs hP hD hS => ?_)
      have hP : va_P D vwCl [(a_this, .inr (5, [.ref a_text, .int f_columns, .int f_rows, .long f_toldOpen, .long f_toldShut, .long f_stones])), (a_text, .inr (6, [.ref a_text_bytes, .int f_text_length, .int f_text_at, .int f_text_began, .int f_text_fault])), (a_text_bytes, .inl (y.1, 400, .inl c_text_bytes))] H := hP
      have hD : va_D A [(a_this, .inr (5, [.ref a_text, .int f_columns, .int f_rows, .long f_toldOpen, .long f_toldShut, .long f_stones])), (a_text, .inr (6, [.ref a_text_bytes, .int f_text_length, .int f_text_at, .int f_text_began, .int f_text_fault])), (a_text_bytes, .inl (y.1, 400, .inl c_text_bytes))] := hD
      refine lv_lshl (v := zlshl (1 : Int64) o66) hx hb dX5_takePipe_69 rfl ?_
      refine lv_lstore (lv' := [(5, .long (zlshl (1 : Int64) o66)), (0, .ref a_this), (1, .int x1), (2, .int x2), (3, .int x3), (4, .int x4)]) hx hb dX5_takePipe_70 hl (by decide) rfl (fun ls hl => ?_)
      refine lv_aload_n hx hb dX5_takePipe_72 rfl (lv_at hl 1 rfl) ?_
      refine zget X hP 0 rfl rfl inF5 3 (by decide) q_628 rfl dX5_takePipe_73 ?_
      refine lv_aload_n hx hb dX5_takePipe_76 rfl (lv_at hl 1 rfl) ?_
      refine zget X hP 0 rfl rfl inF5 4 (by decide) q_629 rfl dX5_takePipe_77 ?_
      refine lv_lor hx hb dX5_takePipe_80 ?_
      refine lv_lload hx hb dX5_takePipe_81 (lv_at hl 0 rfl) ?_
      refine lv_land hx hb dX5_takePipe_83 ?_
      refine lv_lconst (v := 0) hx hb dX5_takePipe_84 (by decide) ?_
      refine W.lcmp hx hb dX5_takePipe_85 ?_
      refine lv_if_eq (tgt := 97) hx hb dX5_takePipe_86 (by decide) (fun c86 => ?_) (fun c86 => ?_)
      · replace hf := zt c86 hf
        refine lv_iload_n hx hb dX5_takePipe_97 rfl (lv_at hl 4 rfl) ?_
        refine lv_if_eq (tgt := 115) hx hb dX5_takePipe_98 (by decide) (fun c98 => ?_) (fun c98 => ?_)
        · replace hf := zt c98 hf
          refine lv_aload_n hx hb dX5_takePipe_115 rfl (lv_at hl 1 rfl) ?_
          refine lv_dup hx hb dX5_takePipe_116 rfl ?_
          refine zget X hP 0 rfl rfl inF5 4 (by decide) q_629 rfl dX5_takePipe_117 ?_
          refine lv_lload hx hb dX5_takePipe_120 (lv_at hl 0 rfl) ?_
          refine lv_lor hx hb dX5_takePipe_122 ?_
          refine zput (ty := .long) X hP hD hS 0 rfl rfl inF5 tyX5_ok nmX5 4 (by decide) q_629 rfl rfl rfl rfl (Nat.le_of_ble_eq_true rfl) dX5_takePipe_123 (fun H locs hP hD hS => ?_)
          have hP : va_P D vwCl [(a_this, .inr (5, [.ref a_text, .int f_columns, .int f_rows, .long f_toldOpen, .long (f_toldShut ||| (zlshl (1 : Int64) o66)), .long f_stones])), (a_text, .inr (6, [.ref a_text_bytes, .int f_text_length, .int f_text_at, .int f_text_began, .int f_text_fault])), (a_text_bytes, .inl (y.1, 400, .inl c_text_bytes))] H := hP
          have hD : va_D A [(a_this, .inr (5, [.ref a_text, .int f_columns, .int f_rows, .long f_toldOpen, .long (f_toldShut ||| (zlshl (1 : Int64) o66)), .long f_stones])), (a_text, .inr (6, [.ref a_text_bytes, .int f_text_length, .int f_text_at, .int f_text_began, .int f_text_fault])), (a_text_bytes, .inl (y.1, 400, .inl c_text_bytes))] := hD
          refine lv_iconst (v := 1) hx hb dX5_takePipe_126 (by decide) ?_
          obtain rfl := Option.some.inj hf
          exact zreti X hQ hP hD hS ⟨rfl, rfl⟩ rfl dX5_takePipe_127 (Nat.le_of_ble_eq_true rfl) (Nat.le_of_ble_eq_true rfl)
        · replace hf := ze c98 hf
          refine lv_aload_n hx hb dX5_takePipe_101 rfl (lv_at hl 1 rfl) ?_
          refine lv_dup hx hb dX5_takePipe_102 rfl ?_
          refine zget X hP 0 rfl rfl inF5 3 (by decide) q_628 rfl dX5_takePipe_103 ?_
          refine lv_lload hx hb dX5_takePipe_106 (lv_at hl 0 rfl) ?_
          refine lv_lor hx hb dX5_takePipe_108 ?_
          refine zput (ty := .long) X hP hD hS 0 rfl rfl inF5 tyX5_ok nmX5 3 (by decide) q_628 rfl rfl rfl rfl (Nat.le_of_ble_eq_true rfl) dX5_takePipe_109 (fun H locs hP hD hS => ?_)
          have hP : va_P D vwCl [(a_this, .inr (5, [.ref a_text, .int f_columns, .int f_rows, .long (f_toldOpen ||| (zlshl (1 : Int64) o66)), .long f_toldShut, .long f_stones])), (a_text, .inr (6, [.ref a_text_bytes, .int f_text_length, .int f_text_at, .int f_text_began, .int f_text_fault])), (a_text_bytes, .inl (y.1, 400, .inl c_text_bytes))] H := hP
          have hD : va_D A [(a_this, .inr (5, [.ref a_text, .int f_columns, .int f_rows, .long (f_toldOpen ||| (zlshl (1 : Int64) o66)), .long f_toldShut, .long f_stones])), (a_text, .inr (6, [.ref a_text_bytes, .int f_text_length, .int f_text_at, .int f_text_began, .int f_text_fault])), (a_text_bytes, .inl (y.1, 400, .inl c_text_bytes))] := hD
          refine lv_goto (tgt := 126) hx hb dX5_takePipe_112 (by decide) ?_
          refine lv_iconst (v := 1) hx hb dX5_takePipe_126 (by decide) ?_
          obtain rfl := Option.some.inj hf
          exact zreti X hQ hP hD hS ⟨rfl, rfl⟩ rfl dX5_takePipe_127 (Nat.le_of_ble_eq_true rfl) (Nat.le_of_ble_eq_true rfl)
      · replace hf := ze c86 hf
        refine lv_aload_n hx hb dX5_takePipe_89 rfl (lv_at hl 1 rfl) ?_
        refine zget X hP 0 rfl rfl inF5 0 (by decide) q_625 rfl dX5_takePipe_90 ?_
        obtain ⟨o93, ho93, hf⟩ := zb hf
        refine zcV1 (wr := [(a_this, .inr (5, [.ref a_text, .int f_columns, .int f_rows, .long f_toldOpen, .long f_toldShut, .long f_stones])), (a_text_bytes, .inl (y.1, 400, .inl c_text_bytes))]) (rest := []) X (zc_X6_refuse l D y a_text a_text_bytes f_text_length f_text_at f_text_began f_text_fault o93 ho93) kf_RX5_74 ⟨(Nat.le_of_ble_eq_true rfl), (Nat.le_of_ble_eq_true rfl)⟩ hP hD hS [1] [0, 2] rfl rfl rfl rfl (by decide) 1 rfl rfl rfl rfl hl.1 (Nat.le_of_ble_eq_true rfl) dX5_takePipe_93 ⟨(Nat.le_of_ble_eq_true rfl), (Nat.le_of_ble_eq_true rfl)⟩ (fun H locs hP hD hS => ?_)
        have hP : va_P D vwCl [(a_this, .inr (5, [.ref a_text, .int f_columns, .int f_rows, .long f_toldOpen, .long f_toldShut, .long f_stones])), (a_text_bytes, .inl (y.1, 400, .inl c_text_bytes)), (a_text, .inr (6, [.ref a_text_bytes, .int f_text_length, .int f_text_at, .int f_text_began, .int o93.2]))] H := hP
        have hD : va_D A [(a_this, .inr (5, [.ref a_text, .int f_columns, .int f_rows, .long f_toldOpen, .long f_toldShut, .long f_stones])), (a_text_bytes, .inl (y.1, 400, .inl c_text_bytes)), (a_text, .inr (6, [.ref a_text_bytes, .int f_text_length, .int f_text_at, .int f_text_began, .int o93.2]))] := hD
        obtain ⟨nb96, hf⟩ := zbt hf
        obtain rfl := Option.some.inj hf
        exact zreti X hQ (zPsub (is := [0, 2, 1]) hP rfl) (hD.sub [0, 2, 1] (by decide) rfl) hS ⟨rfl, rfl⟩ nb96.1 dX5_takePipe_96 (Nat.le_of_ble_eq_true rfl) (Nat.le_of_ble_eq_true rfl)
    · replace hf := zt c50 hf
      exact J53 f_toldOpen f_toldShut f_text_at f_text_began f_text_fault hf _ _ _ (lv_sub hl [0] rfl) hP hD hS
  unfold zf_X5_takePipe at hf
  refine lv_aload_n hx hb dX5_takePipe_0 rfl (lv_at hl 0 rfl) ?_
  refine zget X hP 0 rfl rfl inF5 0 (by decide) q_625 rfl dX5_takePipe_1 ?_
  obtain ⟨o4, ho4, hf⟩ := zb hf
  refine zcV0 (wr := [(a_this, .inr (5, [.ref a_text, .int f_columns, .int f_rows, .long f_toldOpen, .long f_toldShut, .long f_stones]))]) (rest := []) X (zc_X6_takeWord l D y a_text a_text_bytes f_text_length f_text_at f_text_began f_text_fault c_text_bytes o4 ho4) kf_RX5_65 ⟨(Nat.le_of_ble_eq_true rfl), (Nat.le_of_ble_eq_true rfl)⟩ hP hD hS [1, 2] [0] rfl rfl rfl rfl (by decide) 1 rfl rfl rfl rfl hl.1 (Nat.le_of_ble_eq_true rfl) dX5_takePipe_4 ⟨(Nat.le_of_ble_eq_true rfl), (Nat.le_of_ble_eq_true rfl)⟩ (fun H locs hP hD hS => ?_)
  have hP : va_P D vwCl [(a_this, .inr (5, [.ref a_text, .int f_columns, .int f_rows, .long f_toldOpen, .long f_toldShut, .long f_stones])), (a_text, .inr (6, [.ref a_text_bytes, .int f_text_length, .int o4.1, .int o4.2, .int f_text_fault])), (a_text_bytes, .inl (y.1, 400, .inl c_text_bytes))] H := hP
  have hD : va_D A [(a_this, .inr (5, [.ref a_text, .int f_columns, .int f_rows, .long f_toldOpen, .long f_toldShut, .long f_stones])), (a_text, .inr (6, [.ref a_text_bytes, .int f_text_length, .int o4.1, .int o4.2, .int f_text_fault])), (a_text_bytes, .inl (y.1, 400, .inl c_text_bytes))] := hD
  refine lv_aload_n hx hb dX5_takePipe_7 rfl (lv_at hl 0 rfl) ?_
  refine zget X hP 0 rfl rfl inF5 0 (by decide) q_625 rfl dX5_takePipe_8 ?_
  obtain ⟨sa11, hz11, hs11⟩ := hlocks.2.2.2.2.2.1 ("WaterGrid$Reader", 99, "down") (by decide +kernel)
  refine va_ldcS hx hb hown hz11 dX5_takePipe_11 ?_
  obtain ⟨o13, ho13, hf⟩ := zb hf
  refine zcVk (wr := [(a_this, .inr (5, [.ref a_text, .int f_columns, .int f_rows, .long f_toldOpen, .long f_toldShut, .long f_stones]))]) (av := [.ref sa11]) (rest := []) X (zc_X6_isWord l D y a_text a_text_bytes f_text_length o4.1 o4.2 f_text_fault c_text_bytes "down" sa11 (by decide) o13 ho13) (zStr_ok "down" sa11) hs11 kf_RX5_70 ⟨(Nat.le_of_ble_eq_true rfl), (Nat.le_of_ble_eq_true rfl)⟩ hP hD hS [1, 2] [0] rfl rfl rfl rfl (by decide) (va_recv hK hP (ci := 6) (q0 := 1) rfl rfl) rfl rfl hl.1 (Nat.le_of_ble_eq_true rfl) dX5_takePipe_13 ⟨(Nat.le_of_ble_eq_true rfl), (Nat.le_of_ble_eq_true rfl)⟩ (fun H locs hP hD hS => ?_)
  have hP : va_P D vwCl [(a_this, .inr (5, [.ref a_text, .int f_columns, .int f_rows, .long f_toldOpen, .long f_toldShut, .long f_stones])), (a_text, .inr (6, [.ref a_text_bytes, .int f_text_length, .int o4.1, .int o4.2, .int f_text_fault])), (a_text_bytes, .inl (y.1, 400, .inl c_text_bytes))] H := hP
  have hD : va_D A [(a_this, .inr (5, [.ref a_text, .int f_columns, .int f_rows, .long f_toldOpen, .long f_toldShut, .long f_stones])), (a_text, .inr (6, [.ref a_text_bytes, .int f_text_length, .int o4.1, .int o4.2, .int f_text_fault])), (a_text_bytes, .inl (y.1, 400, .inl c_text_bytes))] := hD
  show W p l e rm_X5_takePipe s m args below meth c H locs _ _ Q (F0 m 16 ls [.int o13])
  refine lv_istore (lv' := [(4, .int o13), (0, .ref a_this), (1, .int x1), (2, .int x2), (3, .int x3)]) hx hb dX5_takePipe_16 hl (by decide) rfl (fun ls hl => ?_)
  refine lv_iload hx hb dX5_takePipe_18 (lv_at hl 0 rfl) ?_
  refine lv_if_ne (tgt := 35) hx hb dX5_takePipe_20 (by decide) (fun c20 => ?_) (fun c20 => ?_)
  · replace hf := ze c20 hf
    exact J35 o13 f_toldOpen f_toldShut o4.1 o4.2 f_text_fault hf _ _ _ (lv_sub hl [1, 2, 3, 4, 0] rfl) hP hD hS
  · replace hf := zt c20 hf
    refine lv_aload_n hx hb dX5_takePipe_23 rfl (lv_at hl 1 rfl) ?_
    refine zget X hP 0 rfl rfl inF5 0 (by decide) q_625 rfl dX5_takePipe_24 ?_
    obtain ⟨sa27, hz27, hs27⟩ := hlocks.2.2.2.2.2.1 ("WaterGrid$Reader", 101, "right") (by decide +kernel)
    refine va_ldcS hx hb hown hz27 dX5_takePipe_27 ?_
    obtain ⟨o29, ho29, hf⟩ := zb hf
    refine zcVk (wr := [(a_this, .inr (5, [.ref a_text, .int f_columns, .int f_rows, .long f_toldOpen, .long f_toldShut, .long f_stones]))]) (av := [.ref sa27]) (rest := []) X (zc_X6_isWord l D y a_text a_text_bytes f_text_length o4.1 o4.2 f_text_fault c_text_bytes "right" sa27 (by decide) o29 ho29) (zStr_ok "right" sa27) hs27 kf_RX5_70 ⟨(Nat.le_of_ble_eq_true rfl), (Nat.le_of_ble_eq_true rfl)⟩ hP hD hS [1, 2] [0] rfl rfl rfl rfl (by decide) (va_recv hK hP (ci := 6) (q0 := 1) rfl rfl) rfl rfl hl.1 (Nat.le_of_ble_eq_true rfl) dX5_takePipe_29 ⟨(Nat.le_of_ble_eq_true rfl), (Nat.le_of_ble_eq_true rfl)⟩ (fun H locs hP hD hS => ?_)
    have hP : va_P D vwCl [(a_this, .inr (5, [.ref a_text, .int f_columns, .int f_rows, .long f_toldOpen, .long f_toldShut, .long f_stones])), (a_text, .inr (6, [.ref a_text_bytes, .int f_text_length, .int o4.1, .int o4.2, .int f_text_fault])), (a_text_bytes, .inl (y.1, 400, .inl c_text_bytes))] H := hP
    have hD : va_D A [(a_this, .inr (5, [.ref a_text, .int f_columns, .int f_rows, .long f_toldOpen, .long f_toldShut, .long f_stones])), (a_text, .inr (6, [.ref a_text_bytes, .int f_text_length, .int o4.1, .int o4.2, .int f_text_fault])), (a_text_bytes, .inl (y.1, 400, .inl c_text_bytes))] := hD
    show W p l e rm_X5_takePipe s m args below meth c H locs _ _ Q (F0 m 32 ls [.int o29])
    refine lv_if_eq (tgt := 53) hx hb dX5_takePipe_32 (by decide) (fun c32 => ?_) (fun c32 => ?_)
    · replace hf := zt c32 hf
      exact J53 f_toldOpen f_toldShut o4.1 o4.2 f_text_fault hf _ _ _ (lv_sub hl [1] rfl) hP hD hS
    · replace hf := ze c32 hf
      exact J35 o13 f_toldOpen f_toldShut o4.1 o4.2 f_text_fault hf _ _ _ (lv_sub hl [1, 2, 3, 4, 0] rfl) hP hD hS

theorem kf_RX5_91 : zCB RX5 91 yX5_takePipe cX5_takePipe 7 (some .boolean) 3 ∧ Cond.instanceMethod yX5_takePipe ∈ wAll ∧ Cond.selects yX5_takePipe.cls yX5_takePipe yX5_takePipe ∈ wAll := ⟨⟨q_754, q_10, q_751, by decide +kernel⟩, q_753, qp_29⟩
theorem kf_RX5_87 : zCB RX5 87 yX5_takeStone cX5_takeStone 5 (some .boolean) 2 ∧ Cond.instanceMethod yX5_takeStone ∈ wAll ∧ Cond.selects yX5_takeStone.cls yX5_takeStone yX5_takeStone ∈ wAll := ⟨⟨q_749, q_10, q_746, by decide +kernel⟩, q_748, qp_28⟩
abbrev rm_X5_takeLine : Room := { frames := 6, cells := 0, slots := 0, locals := 133 }
def zf_X5_takeLine_55 (f_columns : Int32) (f_rows : Int32) (f_toldOpen : Int64) (f_toldShut : Int64) (f_stones : Int64) (f_text_length : Int32) (f_text_at : Int32) (f_text_fault : Int32) (c_text_bytes : Nat → Int32) (x1 : Int32) (x2 : Int32) : Option (Int32 × Int64 × Int64 × Int64 × Int32 × Int32 × Int32) :=
  (zf_X6_takeNumber f_text_length f_text_at f_text_fault c_text_bytes (0 : Int32) (f_columns - (1 : Int32))).bind fun o66 =>
  if o66.1 = (-1 : Int32) then (some ((0 : Int32), f_toldOpen, f_toldShut, f_stones, o66.2.1, o66.2.2.1, o66.2.2.2)) else ((zf_X6_takeNumber f_text_length o66.2.1 o66.2.2.2 c_text_bytes (0 : Int32) (f_rows - (1 : Int32))).bind fun o88 =>
  if o88.1 = (-1 : Int32) then (some ((0 : Int32), f_toldOpen, f_toldShut, f_stones, o88.2.1, o88.2.2.1, o88.2.2.2)) else (if x2 = 0 then ((zf_X5_takePipe f_columns f_rows f_toldOpen f_toldShut f_text_length o88.2.1 o88.2.2.2 c_text_bytes o66.1 o88.1 x1).bind fun o120 =>
  if zbit o120.1 = true then some (o120.1, o120.2.1, o120.2.2.1, f_stones, o120.2.2.2.1, o120.2.2.2.2.1, o120.2.2.2.2.2) else none) else ((zf_X5_takeStone f_stones o88.2.2.1 o88.2.2.2 o66.1 o88.1).bind fun o109 =>
  if zbit o109.1 = true then some (o109.1, f_toldOpen, f_toldShut, o109.2.1, o88.2.1, o88.2.2.1, o109.2.2) else none)))
def zf_X5_takeLine (f_columns : Int32) (f_rows : Int32) (f_toldOpen : Int64) (f_toldShut : Int64) (f_stones : Int64) (f_text_length : Int32) (f_text_at : Int32) (f_text_fault : Int32) (c_text_bytes : Nat → Int32) : Option (Int32 × Int64 × Int64 × Int64 × Int32 × Int32 × Int32) :=
  (zf_X6_takeWord f_text_length f_text_at c_text_bytes).bind fun o4 =>
  (zf_X6_isWord o4.1 o4.2 c_text_bytes ("open")).bind fun o13 =>
  (zf_X6_isWord o4.1 o4.2 c_text_bytes ("stone")).bind fun o23 =>
  if o13 = 0 then (if o23 = 0 then ((zf_X6_isWord o4.1 o4.2 c_text_bytes ("shut")).bind fun o41 =>
  if o41 = 0 then ((zf_X6_refuse o4.2).bind fun o51 =>
  if zbit o51.1 = true then some (o51.1, f_toldOpen, f_toldShut, f_stones, o4.1, o4.2, o51.2) else none) else (zf_X5_takeLine_55 f_columns f_rows f_toldOpen f_toldShut f_stones f_text_length o4.1 f_text_fault c_text_bytes o13 o23)) else (zf_X5_takeLine_55 f_columns f_rows f_toldOpen f_toldShut f_stones f_text_length o4.1 f_text_fault c_text_bytes o13 o23)) else (zf_X5_takeLine_55 f_columns f_rows f_toldOpen f_toldShut f_stones f_text_length o4.1 f_text_fault c_text_bytes o13 o23)
set_option maxHeartbeats 4000000 in
set_option maxRecDepth 100000 in
theorem zc_X5_takeLine (l : Launch) (D : va_G) (y : zY) (a_this a_text a_text_bytes : Nat) (f_columns : Int32) (f_rows : Int32) (f_toldOpen : Int64) (f_toldShut : Int64) (f_stones : Int64) (f_text_length : Int32) (f_text_at : Int32) (f_text_began : Int32) (f_text_fault : Int32) (c_text_bytes : Nat → Int32) (out : Int32 × Int64 × Int64 × Int64 × Int32 × Int32 × Int32) (hf : zf_X5_takeLine f_columns f_rows f_toldOpen f_toldShut f_stones f_text_length f_text_at f_text_fault c_text_bytes = some out) : zC l D y yX5_takeLine cX5_takeLine 5 (some .boolean) rm_X5_takeLine [.ref a_this] [(a_this, .inr (5, [.ref a_text, .int f_columns, .int f_rows, .long f_toldOpen, .long f_toldShut, .long f_stones])), (a_text, .inr (6, [.ref a_text_bytes, .int f_text_length, .int f_text_at, .int f_text_began, .int f_text_fault])), (a_text_bytes, .inl (y.1, 400, .inl c_text_bytes))] (zE (some (.int out.1)) [(a_this, .inr (5, [.ref a_text, .int f_columns, .int f_rows, .long out.2.1, .long out.2.2.1, .long out.2.2.2.1])), (a_text, .inr (6, [.ref a_text_bytes, .int f_text_length, .int out.2.2.2.2.1, .int out.2.2.2.2.2.1, .int out.2.2.2.2.2.2])), (a_text_bytes, .inl (y.1, 400, .inl c_text_bytes))]) := by
  refine zmk (by decide) (Nat.le_of_ble_eq_true rfl) ?_
  intro p e s m args below meth c A Q ls X hQ hnm hP hD hS hl
  have X : zX p s m args meth c D y A RX5 cX5_takeLine 5 (some .boolean) := X
  obtain ⟨hx, hb, hr, hml, hown, hts, hK, hA, hlocks⟩ := id X
  have hl : lv_has ls 5 [(0, .ref a_this)] := hl
  have J55 : ∀ (x1 : Int32) (x2 : Int32) (f_toldOpen : Int64) (f_toldShut : Int64) (f_stones : Int64) (f_text_at : Int32) (f_text_began : Int32) (f_text_fault : Int32), zf_X5_takeLine_55 f_columns f_rows f_toldOpen f_toldShut f_stones f_text_length f_text_at f_text_fault c_text_bytes x1 x2 = some out → ∀ (H : Heap) (locs : List Loc) (ls : Array Slot), lv_has ls 5 [(0, .ref a_this), (1, .int x1), (2, .int x2)] → va_P D vwCl [(a_this, .inr (5, [.ref a_text, .int f_columns, .int f_rows, .long f_toldOpen, .long f_toldShut, .long f_stones])), (a_text, .inr (6, [.ref a_text_bytes, .int f_text_length, .int f_text_at, .int f_text_began, .int f_text_fault])), (a_text_bytes, .inl (y.1, 400, .inl c_text_bytes))] H → va_D A [(a_this, .inr (5, [.ref a_text, .int f_columns, .int f_rows, .long f_toldOpen, .long f_toldShut, .long f_stones])), (a_text, .inr (6, [.ref a_text_bytes, .int f_text_length, .int f_text_at, .int f_text_began, .int f_text_fault])), (a_text_bytes, .inl (y.1, 400, .inl c_text_bytes))] → va_S A s.heap H locs → W p l e rm_X5_takeLine s m args below meth c H locs 0 0 Q (F0 m 55 ls []) := by
    intro x1 x2 f_toldOpen f_toldShut f_stones f_text_at f_text_began f_text_fault hf H locs ls hl hP hD hS
    unfold zf_X5_takeLine_55 at hf
    refine lv_aload_n hx hb dX5_takeLine_55 rfl (lv_at hl 0 rfl) ?_
    refine zget X hP 0 rfl rfl inF5 0 (by decide) q_625 rfl dX5_takeLine_56 ?_
    refine lv_iconst (v := 0) hx hb dX5_takeLine_59 (by decide) ?_
    refine lv_aload_n hx hb dX5_takeLine_60 rfl (lv_at hl 0 rfl) ?_
    refine zget X hP 0 rfl rfl inF5 1 (by decide) q_626 rfl dX5_takeLine_61 ?_
    refine lv_iconst (v := 1) hx hb dX5_takeLine_64 (by decide) ?_
    refine lv_isub hx hb dX5_takeLine_65 ?_
    obtain ⟨o66, ho66, hf⟩ := zb hf
    refine zcV1 (wr := [(a_this, .inr (5, [.ref a_text, .int f_columns, .int f_rows, .long f_toldOpen, .long f_toldShut, .long f_stones]))]) (rest := []) X (zc_X6_takeNumber l D y a_text a_text_bytes f_text_length f_text_at f_text_began f_text_fault c_text_bytes (0 : Int32) (f_columns - (1 : Int32)) o66 ho66) kf_RX5_77 ⟨(Nat.le_of_ble_eq_true rfl), (Nat.le_of_ble_eq_true rfl)⟩ hP hD hS [1, 2] [0] rfl rfl rfl rfl (by decide) 1 rfl rfl rfl rfl hl.1 (Nat.le_of_ble_eq_true rfl) dX5_takeLine_66 ⟨(Nat.le_of_ble_eq_true rfl), (Nat.le_of_ble_eq_true rfl)⟩ (fun H locs hP hD hS => ?_)
    have hP : va_P D vwCl [(a_this, .inr (5, [.ref a_text, .int f_columns, .int f_rows, .long f_toldOpen, .long f_toldShut, .long f_stones])), (a_text, .inr (6, [.ref a_text_bytes, .int f_text_length, .int o66.2.1, .int o66.2.2.1, .int o66.2.2.2])), (a_text_bytes, .inl (y.1, 400, .inl c_text_bytes))] H := hP
    have hD : va_D A [(a_this, .inr (5, [.ref a_text, .int f_columns, .int f_rows, .long f_toldOpen, .long f_toldShut, .long f_stones])), (a_text, .inr (6, [.ref a_text_bytes, .int f_text_length, .int o66.2.1, .int o66.2.2.1, .int o66.2.2.2])), (a_text_bytes, .inl (y.1, 400, .inl c_text_bytes))] := hD
    refine lv_istore_n (lv' := [(3, .int o66.1), (0, .ref a_this), (1, .int x1), (2, .int x2)]) hx hb dX5_takeLine_69 rfl hl (by decide) rfl (fun ls hl => ?_)
    refine lv_iload_n hx hb dX5_takeLine_70 rfl (lv_at hl 0 rfl) ?_
    refine lv_iconst (v := -1) hx hb dX5_takeLine_71 (by decide) ?_
    refine lv_icmp_ne (tgt := 77) hx hb dX5_takeLine_72 (by decide) (fun c72 => ?_) (fun c72 => ?_)
    · replace hf := ze c72 hf
      refine lv_aload_n hx hb dX5_takeLine_77 rfl (lv_at hl 1 rfl) ?_
      refine zget X hP 0 rfl rfl inF5 0 (by decide) q_625 rfl dX5_takeLine_78 ?_
      refine lv_iconst (v := 0) hx hb dX5_takeLine_81 (by decide) ?_
      refine lv_aload_n hx hb dX5_takeLine_82 rfl (lv_at hl 1 rfl) ?_
      refine zget X hP 0 rfl rfl inF5 2 (by decide) q_627 rfl dX5_takeLine_83 ?_
      refine lv_iconst (v := 1) hx hb dX5_takeLine_86 (by decide) ?_
      refine lv_isub hx hb dX5_takeLine_87 ?_
      obtain ⟨o88, ho88, hf⟩ := zb hf
      refine zcV1 (wr := [(a_this, .inr (5, [.ref a_text, .int f_columns, .int f_rows, .long f_toldOpen, .long f_toldShut, .long f_stones]))]) (rest := []) X (zc_X6_takeNumber l D y a_text a_text_bytes f_text_length o66.2.1 o66.2.2.1 o66.2.2.2 c_text_bytes (0 : Int32) (f_rows - (1 : Int32)) o88 ho88) kf_RX5_77 ⟨(Nat.le_of_ble_eq_true rfl), (Nat.le_of_ble_eq_true rfl)⟩ hP hD hS [1, 2] [0] rfl rfl rfl rfl (by decide) 1 rfl rfl rfl rfl hl.1 (Nat.le_of_ble_eq_true rfl) dX5_takeLine_88 ⟨(Nat.le_of_ble_eq_true rfl), (Nat.le_of_ble_eq_true rfl)⟩ (fun H locs hP hD hS => ?_)
      have hP : va_P D vwCl [(a_this, .inr (5, [.ref a_text, .int f_columns, .int f_rows, .long f_toldOpen, .long f_toldShut, .long f_stones])), (a_text, .inr (6, [.ref a_text_bytes, .int f_text_length, .int o88.2.1, .int o88.2.2.1, .int o88.2.2.2])), (a_text_bytes, .inl (y.1, 400, .inl c_text_bytes))] H := hP
      have hD : va_D A [(a_this, .inr (5, [.ref a_text, .int f_columns, .int f_rows, .long f_toldOpen, .long f_toldShut, .long f_stones])), (a_text, .inr (6, [.ref a_text_bytes, .int f_text_length, .int o88.2.1, .int o88.2.2.1, .int o88.2.2.2])), (a_text_bytes, .inl (y.1, 400, .inl c_text_bytes))] := hD
      refine lv_istore (lv' := [(4, .int o88.1), (3, .int o66.1), (0, .ref a_this), (1, .int x1), (2, .int x2)]) hx hb dX5_takeLine_91 hl (by decide) rfl (fun ls hl => ?_)
      refine lv_iload hx hb dX5_takeLine_93 (lv_at hl 0 rfl) ?_
      refine lv_iconst (v := -1) hx hb dX5_takeLine_95 (by decide) ?_
      refine lv_icmp_ne (tgt := 101) hx hb dX5_takeLine_96 (by decide) (fun c96 => ?_) (fun c96 => ?_)
      · replace hf := ze c96 hf
        refine lv_iload_n hx hb dX5_takeLine_101 rfl (lv_at hl 4 rfl) ?_
        refine lv_if_eq (tgt := 115) hx hb dX5_takeLine_102 (by decide) (fun c102 => ?_) (fun c102 => ?_)
        · replace hf := zt c102 hf
          refine lv_aload_n hx hb dX5_takeLine_115 rfl (lv_at hl 2 rfl) ?_
          refine lv_iload_n hx hb dX5_takeLine_116 rfl (lv_at hl 1 rfl) ?_
          refine lv_iload hx hb dX5_takeLine_117 (lv_at hl 0 rfl) ?_
          refine lv_iload_n hx hb dX5_takeLine_119 rfl (lv_at hl 3 rfl) ?_
          obtain ⟨o120, ho120, hf⟩ := zb hf
          refine zcV1 (wr := []) (rest := []) X (zc_X5_takePipe l D y a_this a_text a_text_bytes f_columns f_rows f_toldOpen f_toldShut f_stones f_text_length o88.2.1 o88.2.2.1 o88.2.2.2 c_text_bytes o66.1 o88.1 x1 o120 ho120) kf_RX5_91 ⟨(Nat.le_of_ble_eq_true rfl), (Nat.le_of_ble_eq_true rfl)⟩ hP hD hS [0, 1, 2] [] rfl rfl rfl rfl (by decide) 0 rfl rfl rfl rfl hl.1 (Nat.le_of_ble_eq_true rfl) dX5_takeLine_120 ⟨(Nat.le_of_ble_eq_true rfl), (Nat.le_of_ble_eq_true rfl)⟩ (fun H locs hP hD hS => ?_)
          have hP : va_P D vwCl [(a_this, .inr (5, [.ref a_text, .int f_columns, .int f_rows, .long o120.2.1, .long o120.2.2.1, .long f_stones])), (a_text, .inr (6, [.ref a_text_bytes, .int f_text_length, .int o120.2.2.2.1, .int o120.2.2.2.2.1, .int o120.2.2.2.2.2])), (a_text_bytes, .inl (y.1, 400, .inl c_text_bytes))] H := hP
          have hD : va_D A [(a_this, .inr (5, [.ref a_text, .int f_columns, .int f_rows, .long o120.2.1, .long o120.2.2.1, .long f_stones])), (a_text, .inr (6, [.ref a_text_bytes, .int f_text_length, .int o120.2.2.2.1, .int o120.2.2.2.2.1, .int o120.2.2.2.2.2])), (a_text_bytes, .inl (y.1, 400, .inl c_text_bytes))] := hD
          obtain ⟨nb123, hf⟩ := zbt hf
          obtain rfl := Option.some.inj hf
          exact zreti X hQ hP hD hS ⟨rfl, rfl⟩ nb123.1 dX5_takeLine_123 (Nat.le_of_ble_eq_true rfl) (Nat.le_of_ble_eq_true rfl)
        · replace hf := ze c102 hf
          refine lv_aload_n hx hb dX5_takeLine_105 rfl (lv_at hl 2 rfl) ?_
          refine lv_iload_n hx hb dX5_takeLine_106 rfl (lv_at hl 1 rfl) ?_
          refine lv_iload hx hb dX5_takeLine_107 (lv_at hl 0 rfl) ?_
          obtain ⟨o109, ho109, hf⟩ := zb hf
          refine zcV1 (wr := [(a_text_bytes, .inl (y.1, 400, .inl c_text_bytes))]) (rest := []) X (zc_X5_takeStone l D y a_this a_text a_text_bytes f_columns f_rows f_toldOpen f_toldShut f_stones f_text_length o88.2.1 o88.2.2.1 o88.2.2.2 o66.1 o88.1 o109 ho109) kf_RX5_87 ⟨(Nat.le_of_ble_eq_true rfl), (Nat.le_of_ble_eq_true rfl)⟩ hP hD hS [0, 1] [2] rfl rfl rfl rfl (by decide) 0 rfl rfl rfl rfl hl.1 (Nat.le_of_ble_eq_true rfl) dX5_takeLine_109 ⟨(Nat.le_of_ble_eq_true rfl), (Nat.le_of_ble_eq_true rfl)⟩ (fun H locs hP hD hS => ?_)
          have hP : va_P D vwCl [(a_text_bytes, .inl (y.1, 400, .inl c_text_bytes)), (a_this, .inr (5, [.ref a_text, .int f_columns, .int f_rows, .long f_toldOpen, .long f_toldShut, .long o109.2.1])), (a_text, .inr (6, [.ref a_text_bytes, .int f_text_length, .int o88.2.1, .int o88.2.2.1, .int o109.2.2]))] H := hP
          have hD : va_D A [(a_text_bytes, .inl (y.1, 400, .inl c_text_bytes)), (a_this, .inr (5, [.ref a_text, .int f_columns, .int f_rows, .long f_toldOpen, .long f_toldShut, .long o109.2.1])), (a_text, .inr (6, [.ref a_text_bytes, .int f_text_length, .int o88.2.1, .int o88.2.2.1, .int o109.2.2]))] := hD
          refine lv_goto (tgt := 123) hx hb dX5_takeLine_112 (by decide) ?_
          obtain ⟨nb123, hf⟩ := zbt hf
          obtain rfl := Option.some.inj hf
          exact zreti X hQ (zPsub (is := [1, 2, 0]) hP rfl) (hD.sub [1, 2, 0] (by decide) rfl) hS ⟨rfl, rfl⟩ nb123.1 dX5_takeLine_123 (Nat.le_of_ble_eq_true rfl) (Nat.le_of_ble_eq_true rfl)
      · replace hf := zt c96 hf
        refine lv_iconst (v := 0) hx hb dX5_takeLine_99 (by decide) ?_
        obtain rfl := Option.some.inj hf
        exact zreti X hQ hP hD hS ⟨rfl, rfl⟩ rfl dX5_takeLine_100 (Nat.le_of_ble_eq_true rfl) (Nat.le_of_ble_eq_true rfl)
    · replace hf := zt c72 hf
      refine lv_iconst (v := 0) hx hb dX5_takeLine_75 (by decide) ?_
      obtain rfl := Option.some.inj hf
      exact zreti X hQ hP hD hS ⟨rfl, rfl⟩ rfl dX5_takeLine_76 (Nat.le_of_ble_eq_true rfl) (Nat.le_of_ble_eq_true rfl)
  unfold zf_X5_takeLine at hf
  refine lv_aload_n hx hb dX5_takeLine_0 rfl (lv_at hl 0 rfl) ?_
  refine zget X hP 0 rfl rfl inF5 0 (by decide) q_625 rfl dX5_takeLine_1 ?_
  obtain ⟨o4, ho4, hf⟩ := zb hf
  refine zcV0 (wr := [(a_this, .inr (5, [.ref a_text, .int f_columns, .int f_rows, .long f_toldOpen, .long f_toldShut, .long f_stones]))]) (rest := []) X (zc_X6_takeWord l D y a_text a_text_bytes f_text_length f_text_at f_text_began f_text_fault c_text_bytes o4 ho4) kf_RX5_65 ⟨(Nat.le_of_ble_eq_true rfl), (Nat.le_of_ble_eq_true rfl)⟩ hP hD hS [1, 2] [0] rfl rfl rfl rfl (by decide) 1 rfl rfl rfl rfl hl.1 (Nat.le_of_ble_eq_true rfl) dX5_takeLine_4 ⟨(Nat.le_of_ble_eq_true rfl), (Nat.le_of_ble_eq_true rfl)⟩ (fun H locs hP hD hS => ?_)
  have hP : va_P D vwCl [(a_this, .inr (5, [.ref a_text, .int f_columns, .int f_rows, .long f_toldOpen, .long f_toldShut, .long f_stones])), (a_text, .inr (6, [.ref a_text_bytes, .int f_text_length, .int o4.1, .int o4.2, .int f_text_fault])), (a_text_bytes, .inl (y.1, 400, .inl c_text_bytes))] H := hP
  have hD : va_D A [(a_this, .inr (5, [.ref a_text, .int f_columns, .int f_rows, .long f_toldOpen, .long f_toldShut, .long f_stones])), (a_text, .inr (6, [.ref a_text_bytes, .int f_text_length, .int o4.1, .int o4.2, .int f_text_fault])), (a_text_bytes, .inl (y.1, 400, .inl c_text_bytes))] := hD
  refine lv_aload_n hx hb dX5_takeLine_7 rfl (lv_at hl 0 rfl) ?_
  refine zget X hP 0 rfl rfl inF5 0 (by decide) q_625 rfl dX5_takeLine_8 ?_
  obtain ⟨sa11, hz11, hs11⟩ := hlocks.2.2.2.2.2.1 ("WaterGrid$Reader", 81, "open") (by decide +kernel)
  refine va_ldcS hx hb hown hz11 dX5_takeLine_11 ?_
  obtain ⟨o13, ho13, hf⟩ := zb hf
  refine zcVk (wr := [(a_this, .inr (5, [.ref a_text, .int f_columns, .int f_rows, .long f_toldOpen, .long f_toldShut, .long f_stones]))]) (av := [.ref sa11]) (rest := []) X (zc_X6_isWord l D y a_text a_text_bytes f_text_length o4.1 o4.2 f_text_fault c_text_bytes "open" sa11 (by decide) o13 ho13) (zStr_ok "open" sa11) hs11 kf_RX5_70 ⟨(Nat.le_of_ble_eq_true rfl), (Nat.le_of_ble_eq_true rfl)⟩ hP hD hS [1, 2] [0] rfl rfl rfl rfl (by decide) (va_recv hK hP (ci := 6) (q0 := 1) rfl rfl) rfl rfl hl.1 (Nat.le_of_ble_eq_true rfl) dX5_takeLine_13 ⟨(Nat.le_of_ble_eq_true rfl), (Nat.le_of_ble_eq_true rfl)⟩ (fun H locs hP hD hS => ?_)
  have hP : va_P D vwCl [(a_this, .inr (5, [.ref a_text, .int f_columns, .int f_rows, .long f_toldOpen, .long f_toldShut, .long f_stones])), (a_text, .inr (6, [.ref a_text_bytes, .int f_text_length, .int o4.1, .int o4.2, .int f_text_fault])), (a_text_bytes, .inl (y.1, 400, .inl c_text_bytes))] H := hP
  have hD : va_D A [(a_this, .inr (5, [.ref a_text, .int f_columns, .int f_rows, .long f_toldOpen, .long f_toldShut, .long f_stones])), (a_text, .inr (6, [.ref a_text_bytes, .int f_text_length, .int o4.1, .int o4.2, .int f_text_fault])), (a_text_bytes, .inl (y.1, 400, .inl c_text_bytes))] := hD
  show W p l e rm_X5_takeLine s m args below meth c H locs _ _ Q (F0 m 16 ls [.int o13])
  refine lv_istore_n (lv' := [(1, .int o13), (0, .ref a_this)]) hx hb dX5_takeLine_16 rfl hl (by decide) rfl (fun ls hl => ?_)
  refine lv_aload_n hx hb dX5_takeLine_17 rfl (lv_at hl 1 rfl) ?_
  refine zget X hP 0 rfl rfl inF5 0 (by decide) q_625 rfl dX5_takeLine_18 ?_
  obtain ⟨sa21, hz21, hs21⟩ := hlocks.2.2.2.2.2.1 ("WaterGrid$Reader", 83, "stone") (by decide +kernel)
  refine va_ldcS hx hb hown hz21 dX5_takeLine_21 ?_
  obtain ⟨o23, ho23, hf⟩ := zb hf
  refine zcVk (wr := [(a_this, .inr (5, [.ref a_text, .int f_columns, .int f_rows, .long f_toldOpen, .long f_toldShut, .long f_stones]))]) (av := [.ref sa21]) (rest := []) X (zc_X6_isWord l D y a_text a_text_bytes f_text_length o4.1 o4.2 f_text_fault c_text_bytes "stone" sa21 (by decide) o23 ho23) (zStr_ok "stone" sa21) hs21 kf_RX5_70 ⟨(Nat.le_of_ble_eq_true rfl), (Nat.le_of_ble_eq_true rfl)⟩ hP hD hS [1, 2] [0] rfl rfl rfl rfl (by decide) (va_recv hK hP (ci := 6) (q0 := 1) rfl rfl) rfl rfl hl.1 (Nat.le_of_ble_eq_true rfl) dX5_takeLine_23 ⟨(Nat.le_of_ble_eq_true rfl), (Nat.le_of_ble_eq_true rfl)⟩ (fun H locs hP hD hS => ?_)
  have hP : va_P D vwCl [(a_this, .inr (5, [.ref a_text, .int f_columns, .int f_rows, .long f_toldOpen, .long f_toldShut, .long f_stones])), (a_text, .inr (6, [.ref a_text_bytes, .int f_text_length, .int o4.1, .int o4.2, .int f_text_fault])), (a_text_bytes, .inl (y.1, 400, .inl c_text_bytes))] H := hP
  have hD : va_D A [(a_this, .inr (5, [.ref a_text, .int f_columns, .int f_rows, .long f_toldOpen, .long f_toldShut, .long f_stones])), (a_text, .inr (6, [.ref a_text_bytes, .int f_text_length, .int o4.1, .int o4.2, .int f_text_fault])), (a_text_bytes, .inl (y.1, 400, .inl c_text_bytes))] := hD
  show W p l e rm_X5_takeLine s m args below meth c H locs _ _ Q (F0 m 26 ls [.int o23])
  refine lv_istore_n (lv' := [(2, .int o23), (1, .int o13), (0, .ref a_this)]) hx hb dX5_takeLine_26 rfl hl (by decide) rfl (fun ls hl => ?_)
  refine lv_iload_n hx hb dX5_takeLine_27 rfl (lv_at hl 1 rfl) ?_
  refine lv_if_ne (tgt := 55) hx hb dX5_takeLine_28 (by decide) (fun c28 => ?_) (fun c28 => ?_)
  · replace hf := ze c28 hf
    exact J55 o13 o23 f_toldOpen f_toldShut f_stones o4.1 o4.2 f_text_fault hf _ _ _ (lv_sub hl [2, 1, 0] rfl) hP hD hS
  · replace hf := zt c28 hf
    refine lv_iload_n hx hb dX5_takeLine_31 rfl (lv_at hl 0 rfl) ?_
    refine lv_if_ne (tgt := 55) hx hb dX5_takeLine_32 (by decide) (fun c32 => ?_) (fun c32 => ?_)
    · replace hf := ze c32 hf
      exact J55 o13 o23 f_toldOpen f_toldShut f_stones o4.1 o4.2 f_text_fault hf _ _ _ (lv_sub hl [2, 1, 0] rfl) hP hD hS
    · replace hf := zt c32 hf
      refine lv_aload_n hx hb dX5_takeLine_35 rfl (lv_at hl 2 rfl) ?_
      refine zget X hP 0 rfl rfl inF5 0 (by decide) q_625 rfl dX5_takeLine_36 ?_
      obtain ⟨sa39, hz39, hs39⟩ := hlocks.2.2.2.2.2.1 ("WaterGrid$Reader", 85, "shut") (by decide +kernel)
      refine va_ldcS hx hb hown hz39 dX5_takeLine_39 ?_
      obtain ⟨o41, ho41, hf⟩ := zb hf
      refine zcVk (wr := [(a_this, .inr (5, [.ref a_text, .int f_columns, .int f_rows, .long f_toldOpen, .long f_toldShut, .long f_stones]))]) (av := [.ref sa39]) (rest := []) X (zc_X6_isWord l D y a_text a_text_bytes f_text_length o4.1 o4.2 f_text_fault c_text_bytes "shut" sa39 (by decide) o41 ho41) (zStr_ok "shut" sa39) hs39 kf_RX5_70 ⟨(Nat.le_of_ble_eq_true rfl), (Nat.le_of_ble_eq_true rfl)⟩ hP hD hS [1, 2] [0] rfl rfl rfl rfl (by decide) (va_recv hK hP (ci := 6) (q0 := 1) rfl rfl) rfl rfl hl.1 (Nat.le_of_ble_eq_true rfl) dX5_takeLine_41 ⟨(Nat.le_of_ble_eq_true rfl), (Nat.le_of_ble_eq_true rfl)⟩ (fun H locs hP hD hS => ?_)
      have hP : va_P D vwCl [(a_this, .inr (5, [.ref a_text, .int f_columns, .int f_rows, .long f_toldOpen, .long f_toldShut, .long f_stones])), (a_text, .inr (6, [.ref a_text_bytes, .int f_text_length, .int o4.1, .int o4.2, .int f_text_fault])), (a_text_bytes, .inl (y.1, 400, .inl c_text_bytes))] H := hP
      have hD : va_D A [(a_this, .inr (5, [.ref a_text, .int f_columns, .int f_rows, .long f_toldOpen, .long f_toldShut, .long f_stones])), (a_text, .inr (6, [.ref a_text_bytes, .int f_text_length, .int o4.1, .int o4.2, .int f_text_fault])), (a_text_bytes, .inl (y.1, 400, .inl c_text_bytes))] := hD
      show W p l e rm_X5_takeLine s m args below meth c H locs _ _ Q (F0 m 44 ls [.int o41])
      refine lv_if_ne (tgt := 55) hx hb dX5_takeLine_44 (by decide) (fun c44 => ?_) (fun c44 => ?_)
      · replace hf := ze c44 hf
        exact J55 o13 o23 f_toldOpen f_toldShut f_stones o4.1 o4.2 f_text_fault hf _ _ _ (lv_sub hl [2, 1, 0] rfl) hP hD hS
      · replace hf := zt c44 hf
        refine lv_aload_n hx hb dX5_takeLine_47 rfl (lv_at hl 2 rfl) ?_
        refine zget X hP 0 rfl rfl inF5 0 (by decide) q_625 rfl dX5_takeLine_48 ?_
        obtain ⟨o51, ho51, hf⟩ := zb hf
        refine zcV1 (wr := [(a_this, .inr (5, [.ref a_text, .int f_columns, .int f_rows, .long f_toldOpen, .long f_toldShut, .long f_stones])), (a_text_bytes, .inl (y.1, 400, .inl c_text_bytes))]) (rest := []) X (zc_X6_refuse l D y a_text a_text_bytes f_text_length o4.1 o4.2 f_text_fault o51 ho51) kf_RX5_74 ⟨(Nat.le_of_ble_eq_true rfl), (Nat.le_of_ble_eq_true rfl)⟩ hP hD hS [1] [0, 2] rfl rfl rfl rfl (by decide) 1 rfl rfl rfl rfl hl.1 (Nat.le_of_ble_eq_true rfl) dX5_takeLine_51 ⟨(Nat.le_of_ble_eq_true rfl), (Nat.le_of_ble_eq_true rfl)⟩ (fun H locs hP hD hS => ?_)
        have hP : va_P D vwCl [(a_this, .inr (5, [.ref a_text, .int f_columns, .int f_rows, .long f_toldOpen, .long f_toldShut, .long f_stones])), (a_text_bytes, .inl (y.1, 400, .inl c_text_bytes)), (a_text, .inr (6, [.ref a_text_bytes, .int f_text_length, .int o4.1, .int o4.2, .int o51.2]))] H := hP
        have hD : va_D A [(a_this, .inr (5, [.ref a_text, .int f_columns, .int f_rows, .long f_toldOpen, .long f_toldShut, .long f_stones])), (a_text_bytes, .inl (y.1, 400, .inl c_text_bytes)), (a_text, .inr (6, [.ref a_text_bytes, .int f_text_length, .int o4.1, .int o4.2, .int o51.2]))] := hD
        obtain ⟨nb54, hf⟩ := zbt hf
        obtain rfl := Option.some.inj hf
        exact zreti X hQ (zPsub (is := [0, 2, 1]) hP rfl) (hD.sub [0, 2, 1] (by decide) rfl) hS ⟨rfl, rfl⟩ nb54.1 dX5_takeLine_54 (Nat.le_of_ble_eq_true rfl) (Nat.le_of_ble_eq_true rfl)

