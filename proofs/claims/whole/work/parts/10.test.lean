abbrev rm_X9_isIn : Room := { frames := 0, cells := 0, slots := 0, locals := 0 }
def zf_X9_isIn (x0 : Int32) (x1 : Int32) (x2 : Int32) : Option (Int32) :=
  if x0 < x1 then (some (0 : Int32)) else (if x2 < x0 then (some (0 : Int32)) else (some (1 : Int32)))
set_option maxHeartbeats 4000000 in
set_option maxRecDepth 100000 in
theorem zc_X9_isIn (l : Launch) (D : va_G) (y : zY) (x0 : Int32) (x1 : Int32) (x2 : Int32) (out : Int32) (hf : zf_X9_isIn x0 x1 x2 = some out) : zC l D y yX9_isIn cX9_isIn 3 (some .boolean) rm_X9_isIn [.int x0, .int x1, .int x2] [] (zE (some (.int out)) []) := by
  refine zmk (by decide) (Nat.le_of_ble_eq_true rfl) ?_
  intro p e s m args below meth c A Q ls X hQ hnm hP hD hS hl
  have X : zX p s m args meth c D y A RX9 cX9_isIn 3 (some .boolean) := X
  obtain ⟨hx, hb, hr, hml, hown, hts, hK, hA, hlocks⟩ := id X
  have hl : lv_has ls 3 [(0, .int x0), (1, .int x1), (2, .int x2)] := hl
  unfold zf_X9_isIn at hf
  refine lv_iload_n hx hb dX9_isIn_0 rfl (lv_at hl 0 rfl) ?_
  refine lv_iload_n hx hb dX9_isIn_1 rfl (lv_at hl 1 rfl) ?_
  refine lv_icmp_lt (tgt := 14) hx hb dX9_isIn_2 (by decide) (fun c2 => ?_) (fun c2 => ?_)
  · replace hf := zt c2 hf
    refine lv_iconst (v := 0) hx hb dX9_isIn_14 (by decide) ?_
    obtain rfl := Option.some.inj hf
    exact zreti X hQ hP hD hS ⟨rfl, rfl⟩ rfl dX9_isIn_15 (Nat.le_of_ble_eq_true rfl) (Nat.le_of_ble_eq_true rfl)
  · replace hf := ze c2 hf
    refine lv_iload_n hx hb dX9_isIn_5 rfl (lv_at hl 0 rfl) ?_
    refine lv_iload_n hx hb dX9_isIn_6 rfl (lv_at hl 2 rfl) ?_
    refine lv_icmp_gt (tgt := 14) hx hb dX9_isIn_7 (by decide) (fun c7 => ?_) (fun c7 => ?_)
    · replace hf := zt c7 hf
      refine lv_iconst (v := 0) hx hb dX9_isIn_14 (by decide) ?_
      obtain rfl := Option.some.inj hf
      exact zreti X hQ hP hD hS ⟨rfl, rfl⟩ rfl dX9_isIn_15 (Nat.le_of_ble_eq_true rfl) (Nat.le_of_ble_eq_true rfl)
    · replace hf := ze c7 hf
      refine lv_iconst (v := 1) hx hb dX9_isIn_10 (by decide) ?_
      refine lv_goto (tgt := 15) hx hb dX9_isIn_11 (by decide) ?_
      obtain rfl := Option.some.inj hf
      exact zreti X hQ hP hD hS ⟨rfl, rfl⟩ rfl dX9_isIn_15 (Nat.le_of_ble_eq_true rfl) (Nat.le_of_ble_eq_true rfl)

abbrev rm_X9_choose : Room := { frames := 0, cells := 0, slots := 0, locals := 0 }
def zf_X9_choose_l16 (x0 : Int32) (x1 : Int32) (x2 : Int64) (x4 : Int32) : Option ((Int64 × Int32) ⊕ ((Int64))) :=
  if x1 < x4 then (some (.inr x2)) else (if x4.toInt64 = 0 then none else (some (.inl ((x2 * (((x0 - x1) + x4).toInt64)) / x4.toInt64, x4 + (1 : Int32)))))
def zf_X9_choose (x0 : Int32) (x1 : Int32) : Option (Int64) :=
  if x1 < 0 then (some (0 : Int64)) else (if x1 ≤ x0 then ((zit (fun d => zf_X9_choose_l16 x0 x1 d.1 d.2) zfu ((1 : Int64), (1 : Int32))).bind fun o16 =>
  some o16) else (some (0 : Int64)))
set_option maxHeartbeats 4000000 in
set_option maxRecDepth 100000 in
theorem zc_X9_choose (l : Launch) (D : va_G) (y : zY) (x0 : Int32) (x1 : Int32) (out : Int64) (hf : zf_X9_choose x0 x1 = some out) : zC l D y yX9_choose cX9_choose 5 (some .long) rm_X9_choose [.int x0, .int x1] [] (zE (some (.long out)) []) := by
  refine zmk (by decide) (Nat.le_of_ble_eq_true rfl) ?_
  intro p e s m args below meth c A Q ls X hQ hnm hP hD hS hl
  have X : zX p s m args meth c D y A RX9 cX9_choose 5 (some .long) := X
  obtain ⟨hx, hb, hr, hml, hown, hts, hK, hA, hlocks⟩ := id X
  have hl : lv_has ls 5 [(0, .int x0), (1, .int x1)] := hl
  have L16 : ∀ (n : Nat) (x0 : Int32) (x1 : Int32) (x2 : Int64) (x4 : Int32) (x : (Int64)), zit (fun d => zf_X9_choose_l16 x0 x1 d.1 d.2) n (x2, x4) = some x → ∀ (H : Heap) (locs : List Loc) (ls : Array Slot), lv_has ls 5 [(0, .int x0), (1, .int x1), (2, .long x2), (4, .int x4)] → va_P D vwCl [] H → va_D A [] → va_S A s.heap H locs → (∀ (H : Heap) (locs : List Loc) (ls : Array Slot), lv_has ls 5 [(2, .long x)] → va_P D vwCl [] H → va_D A [] → va_S A s.heap H locs → W p l e rm_X9_choose s m args below meth c H locs 0 0 Q (F0 m 42 ls [])) → W p l e rm_X9_choose s m args below meth c H locs 0 0 Q (F0 m 16 ls []) := by
    intro n
    induction n with
    | zero => intro x0 x1 x2 x4 x h; exact (zi0 h).elim
    | succ n ih =>
      intro x0 x1 x2 x4 x h H locs ls hl hP hD hS K42
      obtain ⟨r, hf, h⟩ := zis h
      have hf : zf_X9_choose_l16 x0 x1 x2 x4 = some r := hf
      unfold zf_X9_choose_l16 at hf
      refine lv_iload hx hb dX9_choose_16 (lv_at hl 3 rfl) ?_
      refine lv_iload_n hx hb dX9_choose_18 rfl (lv_at hl 1 rfl) ?_
      refine lv_icmp_gt (tgt := 42) hx hb dX9_choose_19 (by decide) (fun c19 => ?_) (fun c19 => ?_)
      · replace hf := zt c19 hf
        obtain rfl := Option.some.inj hf
        obtain rfl := Option.some.inj h
        exact K42 _ _ _ (lv_sub hl [2] rfl) hP hD hS
      · replace hf := ze c19 hf
        refine lv_lload_n hx hb dX9_choose_22 rfl (lv_at hl 2 rfl) ?_
        refine lv_iload_n hx hb dX9_choose_23 rfl (lv_at hl 0 rfl) ?_
        refine lv_iload_n hx hb dX9_choose_24 rfl (lv_at hl 1 rfl) ?_
        refine lv_isub hx hb dX9_choose_25 ?_
        refine lv_iload hx hb dX9_choose_26 (lv_at hl 3 rfl) ?_
        refine lv_iadd hx hb dX9_choose_28 ?_
        refine lv_i2l (v := ((x0 - x1) + x4).toInt64) hx hb dX9_choose_29 rfl ?_
        refine lv_lmul hx hb dX9_choose_30 ?_
        refine lv_iload hx hb dX9_choose_31 (lv_at hl 3 rfl) ?_
        refine lv_i2l (v := x4.toInt64) hx hb dX9_choose_33 rfl ?_
        obtain ⟨n34, hf⟩ := zn hf
        refine lv_ldiv hx hb dX9_choose_34 n34 ?_
        refine lv_lstore_n (lv' := [(2, .long ((x2 * (((x0 - x1) + x4).toInt64)) / x4.toInt64)), (0, .int x0), (1, .int x1), (4, .int x4)]) hx hb dX9_choose_35 rfl hl (by decide) rfl (fun ls hl => ?_)
        refine lv_iinc (v := x4 + (1 : Int32)) (lv' := [(4, .int (x4 + (1 : Int32))), (2, .long ((x2 * (((x0 - x1) + x4).toInt64)) / x4.toInt64)), (0, .int x0), (1, .int x1)]) hx hb dX9_choose_36 hl (k := 3) rfl rfl (by decide) rfl (fun ls hl => ?_)
        refine lv_goto (tgt := 16) hx hb dX9_choose_39 (by decide) ?_
        obtain rfl := Option.some.inj hf
        exact ih x0 x1 ((x2 * (((x0 - x1) + x4).toInt64)) / x4.toInt64) (x4 + (1 : Int32)) x h _ _ _ (lv_sub hl [2, 3, 1, 0] rfl) hP hD hS K42
  unfold zf_X9_choose at hf
  refine lv_iload_n hx hb dX9_choose_0 rfl (lv_at hl 1 rfl) ?_
  refine lv_if_lt (tgt := 9) hx hb dX9_choose_1 (by decide) (fun c1 => ?_) (fun c1 => ?_)
  · replace hf := zt c1 hf
    refine lv_lconst (v := 0) hx hb dX9_choose_9 (by decide) ?_
    obtain rfl := Option.some.inj hf
    exact zretl X hQ hP hD hS ⟨rfl, rfl⟩ dX9_choose_10 (Nat.le_of_ble_eq_true rfl) (Nat.le_of_ble_eq_true rfl)
  · replace hf := ze c1 hf
    refine lv_iload_n hx hb dX9_choose_4 rfl (lv_at hl 1 rfl) ?_
    refine lv_iload_n hx hb dX9_choose_5 rfl (lv_at hl 0 rfl) ?_
    refine lv_icmp_le (tgt := 11) hx hb dX9_choose_6 (by decide) (fun c6 => ?_) (fun c6 => ?_)
    · replace hf := zt c6 hf
      refine lv_lconst (v := 1) hx hb dX9_choose_11 (by decide) ?_
      refine lv_lstore_n (lv' := [(2, .long (1 : Int64)), (0, .int x0), (1, .int x1)]) hx hb dX9_choose_12 rfl hl (by decide) rfl (fun ls hl => ?_)
      refine lv_iconst (v := 1) hx hb dX9_choose_13 (by decide) ?_
      refine lv_istore (lv' := [(4, .int (1 : Int32)), (2, .long (1 : Int64)), (0, .int x0), (1, .int x1)]) hx hb dX9_choose_14 hl (by decide) rfl (fun ls hl => ?_)
      obtain ⟨o16, ho16, hf⟩ := zb hf
      refine L16 zfu x0 x1 (1 : Int64) (1 : Int32) o16 ho16 _ _ _ (lv_sub hl [2, 3, 1, 0] rfl) hP hD hS (fun H locs ls hl hP hD hS => ?_)
      refine lv_lload_n hx hb dX9_choose_42 rfl (lv_at hl 0 rfl) ?_
      obtain rfl := Option.some.inj hf
      exact zretl X hQ hP hD hS ⟨rfl, rfl⟩ dX9_choose_43 (Nat.le_of_ble_eq_true rfl) (Nat.le_of_ble_eq_true rfl)
    · replace hf := ze c6 hf
      refine lv_lconst (v := 0) hx hb dX9_choose_9 (by decide) ?_
      obtain rfl := Option.some.inj hf
      exact zretl X hQ hP hD hS ⟨rfl, rfl⟩ dX9_choose_10 (Nat.le_of_ble_eq_true rfl) (Nat.le_of_ble_eq_true rfl)

abbrev rm_X9_from : Room := { frames := 0, cells := 0, slots := 0, locals := 0 }
def zf_X9_from (x0 : Int32) : Option (Int32) :=
  some (((5 : Int32) * (x0 / (10 : Int32))) + ((zrem x0 (10 : Int32)) / (2 : Int32)))
set_option maxHeartbeats 4000000 in
set_option maxRecDepth 100000 in
theorem zc_X9_from (l : Launch) (D : va_G) (y : zY) (x0 : Int32) (out : Int32) (hf : zf_X9_from x0 = some out) : zC l D y yX9_from cX9_from 1 (some .int) rm_X9_from [.int x0] [] (zE (some (.int out)) []) := by
  refine zmk (by decide) (Nat.le_of_ble_eq_true rfl) ?_
  intro p e s m args below meth c A Q ls X hQ hnm hP hD hS hl
  have X : zX p s m args meth c D y A RX9 cX9_from 1 (some .int) := X
  obtain ⟨hx, hb, hr, hml, hown, hts, hK, hA, hlocks⟩ := id X
  have hl : lv_has ls 1 [(0, .int x0)] := hl
  unfold zf_X9_from at hf
  refine lv_iconst (v := 5) hx hb dX9_from_0 (by decide) ?_
  refine lv_iload_n hx hb dX9_from_1 rfl (lv_at hl 0 rfl) ?_
  refine lv_bipush (v := 10) hx hb dX9_from_2 (by decide) ?_
  refine lv_idiv hx hb dX9_from_4 (by decide) ?_
  refine lv_imul hx hb dX9_from_5 ?_
  refine lv_iload_n hx hb dX9_from_6 rfl (lv_at hl 0 rfl) ?_
  refine lv_bipush (v := 10) hx hb dX9_from_7 (by decide) ?_
  refine lv_irem hx hb dX9_from_9 (by decide) ?_
  refine lv_iconst (v := 2) hx hb dX9_from_10 (by decide) ?_
  refine lv_idiv hx hb dX9_from_11 (by decide) ?_
  refine lv_iadd hx hb dX9_from_12 ?_
  obtain rfl := Option.some.inj hf
  exact zreti X hQ hP hD hS ⟨rfl, rfl⟩ rfl dX9_from_13 (Nat.le_of_ble_eq_true rfl) (Nat.le_of_ble_eq_true rfl)

theorem kf_RX9_190 : zCB RX9 190 yX9_from cX9_from 1 (some .int) 1 ∧ Cond.static yX9_from ∈ wAll := ⟨⟨q_1538, q_9, q_1536, by decide +kernel⟩, q_1537⟩
abbrev rm_X9_to : Room := { frames := 1, cells := 0, slots := 0, locals := 20 }
def zf_X9_to (x0 : Int32) : Option (Int32) :=
  (zf_X9_from x0).bind fun o1 =>
  if (zrem x0 (2 : Int32)) = (1 : Int32) then (some (o1 + (5 : Int32))) else (some (o1 + (1 : Int32)))
set_option maxHeartbeats 4000000 in
set_option maxRecDepth 100000 in
theorem zc_X9_to (l : Launch) (D : va_G) (y : zY) (x0 : Int32) (out : Int32) (hf : zf_X9_to x0 = some out) : zC l D y yX9_to cX9_to 1 (some .int) rm_X9_to [.int x0] [] (zE (some (.int out)) []) := by
  refine zmk (by decide) (Nat.le_of_ble_eq_true rfl) ?_
  intro p e s m args below meth c A Q ls X hQ hnm hP hD hS hl
  have X : zX p s m args meth c D y A RX9 cX9_to 1 (some .int) := X
  obtain ⟨hx, hb, hr, hml, hown, hts, hK, hA, hlocks⟩ := id X
  have hl : lv_has ls 1 [(0, .int x0)] := hl
  unfold zf_X9_to at hf
  refine lv_iload_n hx hb dX9_to_0 rfl (lv_at hl 0 rfl) ?_
  obtain ⟨o1, ho1, hf⟩ := zb hf
  refine zcS1 (wr := []) (rest := []) X (zc_X9_from l D y x0 o1 ho1) kf_RX9_190 ⟨(Nat.le_of_ble_eq_true rfl), (Nat.le_of_ble_eq_true rfl)⟩ hP hD hS [] [] rfl rfl rfl rfl (by decide) rfl rfl hl.1 (Nat.le_of_ble_eq_true rfl) dX9_to_1 ⟨(Nat.le_of_ble_eq_true rfl), (Nat.le_of_ble_eq_true rfl)⟩ (fun H locs hP hD hS => ?_)
  have hP : va_P D vwCl [] H := hP
  have hD : va_D A [] := hD
  refine lv_iload_n hx hb dX9_to_4 rfl (lv_at hl 0 rfl) ?_
  refine lv_iconst (v := 2) hx hb dX9_to_5 (by decide) ?_
  refine lv_irem hx hb dX9_to_6 (by decide) ?_
  refine lv_iconst (v := 1) hx hb dX9_to_7 (by decide) ?_
  refine lv_icmp_ne (tgt := 15) hx hb dX9_to_8 (by decide) (fun c8 => ?_) (fun c8 => ?_)
  · replace hf := ze c8 hf
    refine lv_iconst (v := 1) hx hb dX9_to_15 (by decide) ?_
    refine lv_iadd hx hb dX9_to_16 ?_
    obtain rfl := Option.some.inj hf
    exact zreti X hQ hP hD hS ⟨rfl, rfl⟩ rfl dX9_to_17 (Nat.le_of_ble_eq_true rfl) (Nat.le_of_ble_eq_true rfl)
  · replace hf := zt c8 hf
    refine lv_iconst (v := 5) hx hb dX9_to_11 (by decide) ?_
    refine lv_goto (tgt := 16) hx hb dX9_to_12 (by decide) ?_
    refine lv_iadd hx hb dX9_to_16 ?_
    obtain rfl := Option.some.inj hf
    exact zreti X hQ hP hD hS ⟨rfl, rfl⟩ rfl dX9_to_17 (Nat.le_of_ble_eq_true rfl) (Nat.le_of_ble_eq_true rfl)

theorem kf_RX9_194 : zCB RX9 194 yX9_to cX9_to 1 (some .int) 1 ∧ Cond.static yX9_to ∈ wAll := ⟨⟨q_1541, q_9, q_1539, by decide +kernel⟩, q_1540⟩
abbrev rm_X9_howBy : Room := { frames := 2, cells := 0, slots := 0, locals := 40 }
def zf_X9_howBy (c_arg0 : Nat → Int32) (c_arg1 : Nat → Int32) (n_arg0 : Nat) (n_arg1 : Nat) (x2 : Int32) : Option (Int32) :=
  (zf_X9_from x2).bind fun o2 =>
  if zgd o2 n_arg1 = true then (if (c_arg1 o2.toNatClampNeg) = 0 then ((zf_X9_to x2).bind fun o11 =>
  if zgd o11 n_arg1 = true then (if (c_arg1 o11.toNatClampNeg) = 0 then (if zgd x2 n_arg0 = true then (some (c_arg0 x2.toNatClampNeg)) else none) else (some (2 : Int32))) else none) else (some (2 : Int32))) else none
set_option maxHeartbeats 4000000 in
set_option maxRecDepth 100000 in
theorem zc_X9_howBy (l : Launch) (D : va_G) (y : zY) (a_arg0 a_arg1 : Nat) (n_arg0 : Nat) (n_arg1 : Nat) (c_arg0 : Nat → Int32) (c_arg1 : Nat → Int32) (x2 : Int32) (out : Int32) (hf : zf_X9_howBy c_arg0 c_arg1 n_arg0 n_arg1 x2 = some out) : zC l D y yX9_howBy cX9_howBy 3 (some .int) rm_X9_howBy [.ref a_arg0, .ref a_arg1, .int x2] [(a_arg0, .inl (y.1, n_arg0, .inl c_arg0)), (a_arg1, .inl (y.2.2.1, n_arg1, .inl c_arg1))] (zE (some (.int out)) [(a_arg0, .inl (y.1, n_arg0, .inl c_arg0)), (a_arg1, .inl (y.2.2.1, n_arg1, .inl c_arg1))]) := by
  refine zmk (by decide) (Nat.le_of_ble_eq_true rfl) ?_
  intro p e s m args below meth c A Q ls X hQ hnm hP hD hS hl
  have X : zX p s m args meth c D y A RX9 cX9_howBy 3 (some .int) := X
  obtain ⟨hx, hb, hr, hml, hown, hts, hK, hA, hlocks⟩ := id X
  have hl : lv_has ls 3 [(0, .ref a_arg0), (1, .ref a_arg1), (2, .int x2)] := hl
  unfold zf_X9_howBy at hf
  refine lv_aload_n hx hb dX9_howBy_0 rfl (lv_at hl 1 rfl) ?_
  refine lv_iload_n hx hb dX9_howBy_1 rfl (lv_at hl 2 rfl) ?_
  obtain ⟨o2, ho2, hf⟩ := zb hf
  refine zcS1 (wr := [(a_arg0, .inl (y.1, n_arg0, .inl c_arg0)), (a_arg1, .inl (y.2.2.1, n_arg1, .inl c_arg1))]) (rest := [.ref a_arg1]) X (zc_X9_from l D y x2 o2 ho2) kf_RX9_190 ⟨(Nat.le_of_ble_eq_true rfl), (Nat.le_of_ble_eq_true rfl)⟩ hP hD hS [] [0, 1] rfl rfl rfl rfl (by decide) rfl rfl hl.1 (Nat.le_of_ble_eq_true rfl) dX9_howBy_2 ⟨(Nat.le_of_ble_eq_true rfl), (Nat.le_of_ble_eq_true rfl)⟩ (fun H locs hP hD hS => ?_)
  have hP : va_P D vwCl [(a_arg0, .inl (y.1, n_arg0, .inl c_arg0)), (a_arg1, .inl (y.2.2.1, n_arg1, .inl c_arg1))] H := hP
  have hD : va_D A [(a_arg0, .inl (y.1, n_arg0, .inl c_arg0)), (a_arg1, .inl (y.2.2.1, n_arg1, .inl c_arg1))] := hD
  obtain ⟨g5, hf⟩ := zg hf
  refine va_zald hx hb hK hP 1 2 rfl rfl g5 dX9_howBy_5 ?_
  refine lv_if_ne (tgt := 18) hx hb dX9_howBy_6 (by decide) (fun c6 => ?_) (fun c6 => ?_)
  · replace hf := ze c6 hf
    refine lv_iconst (v := 2) hx hb dX9_howBy_18 (by decide) ?_
    refine lv_goto (tgt := 25) hx hb dX9_howBy_19 (by decide) ?_
    obtain rfl := Option.some.inj hf
    exact zreti X hQ hP hD hS ⟨rfl, rfl⟩ rfl dX9_howBy_25 (Nat.le_of_ble_eq_true rfl) (Nat.le_of_ble_eq_true rfl)
  · replace hf := zt c6 hf
    refine lv_aload_n hx hb dX9_howBy_9 rfl (lv_at hl 1 rfl) ?_
    refine lv_iload_n hx hb dX9_howBy_10 rfl (lv_at hl 2 rfl) ?_
    obtain ⟨o11, ho11, hf⟩ := zb hf
    refine zcS1 (wr := [(a_arg0, .inl (y.1, n_arg0, .inl c_arg0)), (a_arg1, .inl (y.2.2.1, n_arg1, .inl c_arg1))]) (rest := [.ref a_arg1]) X (zc_X9_to l D y x2 o11 ho11) kf_RX9_194 ⟨(Nat.le_of_ble_eq_true rfl), (Nat.le_of_ble_eq_true rfl)⟩ hP hD hS [] [0, 1] rfl rfl rfl rfl (by decide) rfl rfl hl.1 (Nat.le_of_ble_eq_true rfl) dX9_howBy_11 ⟨(Nat.le_of_ble_eq_true rfl), (Nat.le_of_ble_eq_true rfl)⟩ (fun H locs hP hD hS => ?_)
    have hP : va_P D vwCl [(a_arg0, .inl (y.1, n_arg0, .inl c_arg0)), (a_arg1, .inl (y.2.2.1, n_arg1, .inl c_arg1))] H := hP
    have hD : va_D A [(a_arg0, .inl (y.1, n_arg0, .inl c_arg0)), (a_arg1, .inl (y.2.2.1, n_arg1, .inl c_arg1))] := hD
    obtain ⟨g14, hf⟩ := zg hf
    refine va_zald hx hb hK hP 1 2 rfl rfl g14 dX9_howBy_14 ?_
    refine lv_if_eq (tgt := 22) hx hb dX9_howBy_15 (by decide) (fun c15 => ?_) (fun c15 => ?_)
    · replace hf := zt c15 hf
      refine lv_aload_n hx hb dX9_howBy_22 rfl (lv_at hl 0 rfl) ?_
      refine lv_iload_n hx hb dX9_howBy_23 rfl (lv_at hl 2 rfl) ?_
      obtain ⟨g24, hf⟩ := zg hf
      refine va_iald hx hb hK hP 0 0 rfl rfl g24 dX9_howBy_24 ?_
      obtain rfl := Option.some.inj hf
      exact zreti X hQ hP hD hS ⟨rfl, rfl⟩ rfl dX9_howBy_25 (Nat.le_of_ble_eq_true rfl) (Nat.le_of_ble_eq_true rfl)
    · replace hf := ze c15 hf
      refine lv_iconst (v := 2) hx hb dX9_howBy_18 (by decide) ?_
      refine lv_goto (tgt := 25) hx hb dX9_howBy_19 (by decide) ?_
      obtain rfl := Option.some.inj hf
      exact zreti X hQ hP hD hS ⟨rfl, rfl⟩ rfl dX9_howBy_25 (Nat.le_of_ble_eq_true rfl) (Nat.le_of_ble_eq_true rfl)

abbrev rm_X9_isThere : Room := { frames := 0, cells := 0, slots := 0, locals := 0 }
def zf_X9_isThere_25 (x1 : Int32) (x2 : Int32) (x3 : Int32) (x4 : Int32) (s0 : Int32) : Option (Int32) :=
  if x1 ≤ x3 then (some (0 : Int32)) else (if x2 ≤ x4 then (some (0 : Int32)) else (if s0 = 0 then (if x1 ≤ (x3 + (1 : Int32)) then (some (0 : Int32)) else (some (1 : Int32))) else (if x2 ≤ (x4 + (1 : Int32)) then (some (0 : Int32)) else (some (1 : Int32)))))
def zf_X9_isThere (x0 : Int32) (x1 : Int32) (x2 : Int32) : Option (Int32) :=
  if (zrem x0 (2 : Int32)) = (1 : Int32) then (zf_X9_isThere_25 x1 x2 ((zrem x0 (10 : Int32)) / (2 : Int32)) (x0 / (10 : Int32)) (1 : Int32)) else (zf_X9_isThere_25 x1 x2 ((zrem x0 (10 : Int32)) / (2 : Int32)) (x0 / (10 : Int32)) (0 : Int32))
set_option maxHeartbeats 4000000 in
set_option maxRecDepth 100000 in
theorem zc_X9_isThere (l : Launch) (D : va_G) (y : zY) (x0 : Int32) (x1 : Int32) (x2 : Int32) (out : Int32) (hf : zf_X9_isThere x0 x1 x2 = some out) : zC l D y yX9_isThere cX9_isThere 6 (some .boolean) rm_X9_isThere [.int x0, .int x1, .int x2] [] (zE (some (.int out)) []) := by
  refine zmk (by decide) (Nat.le_of_ble_eq_true rfl) ?_
  intro p e s m args below meth c A Q ls X hQ hnm hP hD hS hl
  have X : zX p s m args meth c D y A RX9 cX9_isThere 6 (some .boolean) := X
  obtain ⟨hx, hb, hr, hml, hown, hts, hK, hA, hlocks⟩ := id X
  have hl : lv_has ls 6 [(0, .int x0), (1, .int x1), (2, .int x2)] := hl
  have J25 : ∀ (x3 : Int32) (x4 : Int32) (s0 : Int32), zf_X9_isThere_25 x1 x2 x3 x4 s0 = some out → ∀ (H : Heap) (locs : List Loc) (ls : Array Slot), lv_has ls 6 [(1, .int x1), (2, .int x2), (3, .int x3), (4, .int x4)] → va_P D vwCl [] H → va_D A [] → va_S A s.heap H locs → W p l e rm_X9_isThere s m args below meth c H locs 0 0 Q (F0 m 25 ls [.int s0]) := by
    intro x3 x4 s0 hf H locs ls hl hP hD hS
    unfold zf_X9_isThere_25 at hf
    refine lv_istore (lv' := [(5, .int s0), (1, .int x1), (2, .int x2), (3, .int x3), (4, .int x4)]) hx hb dX9_isThere_25 hl (by decide) rfl (fun ls hl => ?_)
    refine lv_iload_n hx hb dX9_isThere_27 rfl (lv_at hl 3 rfl) ?_
    refine lv_iload_n hx hb dX9_isThere_28 rfl (lv_at hl 1 rfl) ?_
    refine lv_icmp_ge (tgt := 65) hx hb dX9_isThere_29 (by decide) (fun c29 => ?_) (fun c29 => ?_)
    · replace hf := zt c29 hf
      refine lv_iconst (v := 0) hx hb dX9_isThere_65 (by decide) ?_
      obtain rfl := Option.some.inj hf
      exact zreti X hQ hP hD hS ⟨rfl, rfl⟩ rfl dX9_isThere_66 (Nat.le_of_ble_eq_true rfl) (Nat.le_of_ble_eq_true rfl)
    · replace hf := ze c29 hf
      refine lv_iload hx hb dX9_isThere_32 (lv_at hl 4 rfl) ?_
      refine lv_iload_n hx hb dX9_isThere_34 rfl (lv_at hl 2 rfl) ?_
      refine lv_icmp_ge (tgt := 65) hx hb dX9_isThere_35 (by decide) (fun c35 => ?_) (fun c35 => ?_)
      · replace hf := zt c35 hf
        refine lv_iconst (v := 0) hx hb dX9_isThere_65 (by decide) ?_
        obtain rfl := Option.some.inj hf
        exact zreti X hQ hP hD hS ⟨rfl, rfl⟩ rfl dX9_isThere_66 (Nat.le_of_ble_eq_true rfl) (Nat.le_of_ble_eq_true rfl)
      · replace hf := ze c35 hf
        refine lv_iload hx hb dX9_isThere_38 (lv_at hl 0 rfl) ?_
        refine lv_if_eq (tgt := 54) hx hb dX9_isThere_40 (by decide) (fun c40 => ?_) (fun c40 => ?_)
        · replace hf := zt c40 hf
          refine lv_iload_n hx hb dX9_isThere_54 rfl (lv_at hl 3 rfl) ?_
          refine lv_iconst (v := 1) hx hb dX9_isThere_55 (by decide) ?_
          refine lv_iadd hx hb dX9_isThere_56 ?_
          refine lv_iload_n hx hb dX9_isThere_57 rfl (lv_at hl 1 rfl) ?_
          refine lv_icmp_ge (tgt := 65) hx hb dX9_isThere_58 (by decide) (fun c58 => ?_) (fun c58 => ?_)
          · replace hf := zt c58 hf
            refine lv_iconst (v := 0) hx hb dX9_isThere_65 (by decide) ?_
            obtain rfl := Option.some.inj hf
            exact zreti X hQ hP hD hS ⟨rfl, rfl⟩ rfl dX9_isThere_66 (Nat.le_of_ble_eq_true rfl) (Nat.le_of_ble_eq_true rfl)
          · replace hf := ze c58 hf
            refine lv_iconst (v := 1) hx hb dX9_isThere_61 (by decide) ?_
            refine lv_goto (tgt := 66) hx hb dX9_isThere_62 (by decide) ?_
            obtain rfl := Option.some.inj hf
            exact zreti X hQ hP hD hS ⟨rfl, rfl⟩ rfl dX9_isThere_66 (Nat.le_of_ble_eq_true rfl) (Nat.le_of_ble_eq_true rfl)
        · replace hf := ze c40 hf
          refine lv_iload hx hb dX9_isThere_43 (lv_at hl 4 rfl) ?_
          refine lv_iconst (v := 1) hx hb dX9_isThere_45 (by decide) ?_
          refine lv_iadd hx hb dX9_isThere_46 ?_
          refine lv_iload_n hx hb dX9_isThere_47 rfl (lv_at hl 2 rfl) ?_
          refine lv_icmp_ge (tgt := 65) hx hb dX9_isThere_48 (by decide) (fun c48 => ?_) (fun c48 => ?_)
          · replace hf := zt c48 hf
            refine lv_iconst (v := 0) hx hb dX9_isThere_65 (by decide) ?_
            obtain rfl := Option.some.inj hf
            exact zreti X hQ hP hD hS ⟨rfl, rfl⟩ rfl dX9_isThere_66 (Nat.le_of_ble_eq_true rfl) (Nat.le_of_ble_eq_true rfl)
          · replace hf := ze c48 hf
            refine lv_goto (tgt := 61) hx hb dX9_isThere_51 (by decide) ?_
            refine lv_iconst (v := 1) hx hb dX9_isThere_61 (by decide) ?_
            refine lv_goto (tgt := 66) hx hb dX9_isThere_62 (by decide) ?_
            obtain rfl := Option.some.inj hf
            exact zreti X hQ hP hD hS ⟨rfl, rfl⟩ rfl dX9_isThere_66 (Nat.le_of_ble_eq_true rfl) (Nat.le_of_ble_eq_true rfl)
  unfold zf_X9_isThere at hf
  refine lv_iload_n hx hb dX9_isThere_0 rfl (lv_at hl 0 rfl) ?_
  refine lv_bipush (v := 10) hx hb dX9_isThere_1 (by decide) ?_
  refine lv_irem hx hb dX9_isThere_3 (by decide) ?_
  refine lv_iconst (v := 2) hx hb dX9_isThere_4 (by decide) ?_
  refine lv_idiv hx hb dX9_isThere_5 (by decide) ?_
  refine lv_istore_n (lv' := [(3, .int ((zrem x0 (10 : Int32)) / (2 : Int32))), (0, .int x0), (1, .int x1), (2, .int x2)]) hx hb dX9_isThere_6 rfl hl (by decide) rfl (fun ls hl => ?_)
  refine lv_iload_n hx hb dX9_isThere_7 rfl (lv_at hl 1 rfl) ?_
  refine lv_bipush (v := 10) hx hb dX9_isThere_8 (by decide) ?_
  refine lv_idiv hx hb dX9_isThere_10 (by decide) ?_
  refine lv_istore (lv' := [(4, .int (x0 / (10 : Int32))), (3, .int ((zrem x0 (10 : Int32)) / (2 : Int32))), (0, .int x0), (1, .int x1), (2, .int x2)]) hx hb dX9_isThere_11 hl (by decide) rfl (fun ls hl => ?_)
  refine lv_iload_n hx hb dX9_isThere_13 rfl (lv_at hl 2 rfl) ?_
  refine lv_iconst (v := 2) hx hb dX9_isThere_14 (by decide) ?_
  refine lv_irem hx hb dX9_isThere_15 (by decide) ?_
  refine lv_iconst (v := 1) hx hb dX9_isThere_16 (by decide) ?_
  refine lv_icmp_ne (tgt := 24) hx hb dX9_isThere_17 (by decide) (fun c17 => ?_) (fun c17 => ?_)
  · replace hf := ze c17 hf
    refine lv_iconst (v := 0) hx hb dX9_isThere_24 (by decide) ?_
    exact J25 ((zrem x0 (10 : Int32)) / (2 : Int32)) (x0 / (10 : Int32)) (0 : Int32) hf _ _ _ (lv_sub hl [3, 4, 1, 0] rfl) hP hD hS
  · replace hf := zt c17 hf
    refine lv_iconst (v := 1) hx hb dX9_isThere_20 (by decide) ?_
    refine lv_goto (tgt := 25) hx hb dX9_isThere_21 (by decide) ?_
    exact J25 ((zrem x0 (10 : Int32)) / (2 : Int32)) (x0 / (10 : Int32)) (1 : Int32) hf _ _ _ (lv_sub hl [3, 4, 1, 0] rfl) hP hD hS

theorem kf_RX9_197 : zCB RX9 197 yX9_isThere cX9_isThere 6 (some .boolean) 3 ∧ Cond.static yX9_isThere ∈ wAll := ⟨⟨q_1532, q_9, q_1530, by decide +kernel⟩, q_1531⟩
theorem kf_RX9_200 : zCB RX9 200 yX9_howBy cX9_howBy 3 (some .int) 3 ∧ Cond.static yX9_howBy ∈ wAll := ⟨⟨q_1535, q_9, q_1533, by decide +kernel⟩, q_1534⟩
abbrev rm_X9_freeBy : Room := { frames := 3, cells := 0, slots := 0, locals := 62 }
def zf_X9_freeBy_40 (x5 : Int32) (s0 : Int32) (s1 : Int32) : Option ((Int32 × Int32) ⊕ ((Int32))) :=
  some (.inl (s0 + s1, x5 + (1 : Int32)))
def zf_X9_freeBy_39 (x5 : Int32) (s0 : Int32) : Option ((Int32 × Int32) ⊕ ((Int32))) :=
  zf_X9_freeBy_40 x5 s0 (0 : Int32)
def zf_X9_freeBy_l6 (c_arg0 : Nat → Int32) (c_arg1 : Nat → Int32) (n_arg0 : Nat) (n_arg1 : Nat) (x2 : Int32) (x3 : Int32) (x4 : Int32) (x5 : Int32) : Option ((Int32 × Int32) ⊕ ((Int32))) :=
  if (50 : Int32) ≤ x5 then (some (.inr x4)) else ((zf_X9_isThere x5 x2 x3).bind fun o19 =>
  if o19 = 0 then (zf_X9_freeBy_39 x5 x4) else ((zf_X9_howBy c_arg0 c_arg1 n_arg0 n_arg1 x5).bind fun o29 =>
  if o29 = 0 then (zf_X9_freeBy_40 x5 x4 (1 : Int32)) else (zf_X9_freeBy_39 x5 x4)))
def zf_X9_freeBy (c_arg0 : Nat → Int32) (c_arg1 : Nat → Int32) (n_arg0 : Nat) (n_arg1 : Nat) (x2 : Int32) (x3 : Int32) : Option (Int32) :=
  (zit (fun d => zf_X9_freeBy_l6 c_arg0 c_arg1 n_arg0 n_arg1 x2 x3 d.1 d.2) zfu ((0 : Int32), (0 : Int32))).bind fun o6 =>
  some o6
set_option maxHeartbeats 4000000 in
set_option maxRecDepth 100000 in
theorem zc_X9_freeBy (l : Launch) (D : va_G) (y : zY) (a_arg0 a_arg1 : Nat) (n_arg0 : Nat) (n_arg1 : Nat) (c_arg0 : Nat → Int32) (c_arg1 : Nat → Int32) (x2 : Int32) (x3 : Int32) (out : Int32) (hf : zf_X9_freeBy c_arg0 c_arg1 n_arg0 n_arg1 x2 x3 = some out) : zC l D y yX9_freeBy cX9_freeBy 6 (some .int) rm_X9_freeBy [.ref a_arg0, .ref a_arg1, .int x2, .int x3] [(a_arg0, .inl (y.1, n_arg0, .inl c_arg0)), (a_arg1, .inl (y.2.2.1, n_arg1, .inl c_arg1))] (zE (some (.int out)) [(a_arg0, .inl (y.1, n_arg0, .inl c_arg0)), (a_arg1, .inl (y.2.2.1, n_arg1, .inl c_arg1))]) := by
  refine zmk (by decide) (Nat.le_of_ble_eq_true rfl) ?_
  intro p e s m args below meth c A Q ls X hQ hnm hP hD hS hl
  have X : zX p s m args meth c D y A RX9 cX9_freeBy 6 (some .int) := X
  obtain ⟨hx, hb, hr, hml, hown, hts, hK, hA, hlocks⟩ := id X
  have hl : lv_has ls 6 [(0, .ref a_arg0), (1, .ref a_arg1), (2, .int x2), (3, .int x3)] := hl
  have L6 : ∀ (n : Nat) (x2 : Int32) (x3 : Int32) (x4 : Int32) (x5 : Int32) (x : (Int32)), zit (fun d => zf_X9_freeBy_l6 c_arg0 c_arg1 n_arg0 n_arg1 x2 x3 d.1 d.2) n (x4, x5) = some x → ∀ (H : Heap) (locs : List Loc) (ls : Array Slot), lv_has ls 6 [(0, .ref a_arg0), (1, .ref a_arg1), (2, .int x2), (3, .int x3), (4, .int x4), (5, .int x5)] → va_P D vwCl [(a_arg0, .inl (y.1, n_arg0, .inl c_arg0)), (a_arg1, .inl (y.2.2.1, n_arg1, .inl c_arg1))] H → va_D A [(a_arg0, .inl (y.1, n_arg0, .inl c_arg0)), (a_arg1, .inl (y.2.2.1, n_arg1, .inl c_arg1))] → va_S A s.heap H locs → (∀ (H : Heap) (locs : List Loc) (ls : Array Slot), lv_has ls 6 [(4, .int x)] → va_P D vwCl [(a_arg0, .inl (y.1, n_arg0, .inl c_arg0)), (a_arg1, .inl (y.2.2.1, n_arg1, .inl c_arg1))] H → va_D A [(a_arg0, .inl (y.1, n_arg0, .inl c_arg0)), (a_arg1, .inl (y.2.2.1, n_arg1, .inl c_arg1))] → va_S A s.heap H locs → W p l e rm_X9_freeBy s m args below meth c H locs 0 0 Q (F0 m 49 ls [])) → W p l e rm_X9_freeBy s m args below meth c H locs 0 0 Q (F0 m 6 ls []) := by
    intro n
    induction n with
    | zero => intro x2 x3 x4 x5 x h; exact (zi0 h).elim
    | succ n ih =>
      intro x2 x3 x4 x5 x h H locs ls hl hP hD hS K49
      obtain ⟨r, hf, h⟩ := zis h
      have hf : zf_X9_freeBy_l6 c_arg0 c_arg1 n_arg0 n_arg1 x2 x3 x4 x5 = some r := hf
      have J40 : ∀ (x5 : Int32) (s0 : Int32) (s1 : Int32), zf_X9_freeBy_40 x5 s0 s1 = some r → ∀ (H : Heap) (locs : List Loc) (ls : Array Slot), lv_has ls 6 [(0, .ref a_arg0), (1, .ref a_arg1), (2, .int x2), (3, .int x3), (5, .int x5)] → va_P D vwCl [(a_arg0, .inl (y.1, n_arg0, .inl c_arg0)), (a_arg1, .inl (y.2.2.1, n_arg1, .inl c_arg1))] H → va_D A [(a_arg0, .inl (y.1, n_arg0, .inl c_arg0)), (a_arg1, .inl (y.2.2.1, n_arg1, .inl c_arg1))] → va_S A s.heap H locs → W p l e rm_X9_freeBy s m args below meth c H locs 0 0 Q (F0 m 40 ls [.int s1, .int s0]) := by
        intro x5 s0 s1 hf H locs ls hl hP hD hS
        unfold zf_X9_freeBy_40 at hf
        refine lv_iadd hx hb dX9_freeBy_40 ?_
        refine lv_istore (lv' := [(4, .int (s0 + s1)), (0, .ref a_arg0), (1, .ref a_arg1), (2, .int x2), (3, .int x3), (5, .int x5)]) hx hb dX9_freeBy_41 hl (by decide) rfl (fun ls hl => ?_)
        refine lv_iinc (v := x5 + (1 : Int32)) (lv' := [(5, .int (x5 + (1 : Int32))), (4, .int (s0 + s1)), (0, .ref a_arg0), (1, .ref a_arg1), (2, .int x2), (3, .int x3)]) hx hb dX9_freeBy_43 hl (k := 5) rfl rfl (by decide) rfl (fun ls hl => ?_)
        refine lv_goto (tgt := 6) hx hb dX9_freeBy_46 (by decide) ?_
        obtain rfl := Option.some.inj hf
        exact ih x2 x3 (s0 + s1) (x5 + (1 : Int32)) x h _ _ _ (lv_sub hl [2, 3, 4, 5, 1, 0] rfl) hP hD hS K49
      have J39 : ∀ (x5 : Int32) (s0 : Int32), zf_X9_freeBy_39 x5 s0 = some r → ∀ (H : Heap) (locs : List Loc) (ls : Array Slot), lv_has ls 6 [(0, .ref a_arg0), (1, .ref a_arg1), (2, .int x2), (3, .int x3), (5, .int x5)] → va_P D vwCl [(a_arg0, .inl (y.1, n_arg0, .inl c_arg0)), (a_arg1, .inl (y.2.2.1, n_arg1, .inl c_arg1))] H → va_D A [(a_arg0, .inl (y.1, n_arg0, .inl c_arg0)), (a_arg1, .inl (y.2.2.1, n_arg1, .inl c_arg1))] → va_S A s.heap H locs → W p l e rm_X9_freeBy s m args below meth c H locs 0 0 Q (F0 m 39 ls [.int s0]) := by
        intro x5 s0 hf H locs ls hl hP hD hS
        unfold zf_X9_freeBy_39 at hf
        refine lv_iconst (v := 0) hx hb dX9_freeBy_39 (by decide) ?_
        exact J40 x5 s0 (0 : Int32) hf _ _ _ hl hP hD hS
      unfold zf_X9_freeBy_l6 at hf
      refine lv_iload hx hb dX9_freeBy_6 (lv_at hl 5 rfl) ?_
      refine lv_bipush (v := 50) hx hb dX9_freeBy_8 (by decide) ?_
      refine lv_icmp_ge (tgt := 49) hx hb dX9_freeBy_10 (by decide) (fun c10 => ?_) (fun c10 => ?_)
      · replace hf := zt c10 hf
        obtain rfl := Option.some.inj hf
        obtain rfl := Option.some.inj h
        exact K49 _ _ _ (lv_sub hl [4] rfl) hP hD hS
      · replace hf := ze c10 hf
        refine lv_iload hx hb dX9_freeBy_13 (lv_at hl 4 rfl) ?_
        refine lv_iload hx hb dX9_freeBy_15 (lv_at hl 5 rfl) ?_
        refine lv_iload_n hx hb dX9_freeBy_17 rfl (lv_at hl 2 rfl) ?_
        refine lv_iload_n hx hb dX9_freeBy_18 rfl (lv_at hl 3 rfl) ?_
        obtain ⟨o19, ho19, hf⟩ := zb hf
        refine zcS1 (wr := [(a_arg0, .inl (y.1, n_arg0, .inl c_arg0)), (a_arg1, .inl (y.2.2.1, n_arg1, .inl c_arg1))]) (rest := [.int x4]) X (zc_X9_isThere l D y x5 x2 x3 o19 ho19) kf_RX9_197 ⟨(Nat.le_of_ble_eq_true rfl), (Nat.le_of_ble_eq_true rfl)⟩ hP hD hS [] [0, 1] rfl rfl rfl rfl (by decide) rfl rfl hl.1 (Nat.le_of_ble_eq_true rfl) dX9_freeBy_19 ⟨(Nat.le_of_ble_eq_true rfl), (Nat.le_of_ble_eq_true rfl)⟩ (fun H locs hP hD hS => ?_)
        have hP : va_P D vwCl [(a_arg0, .inl (y.1, n_arg0, .inl c_arg0)), (a_arg1, .inl (y.2.2.1, n_arg1, .inl c_arg1))] H := hP
        have hD : va_D A [(a_arg0, .inl (y.1, n_arg0, .inl c_arg0)), (a_arg1, .inl (y.2.2.1, n_arg1, .inl c_arg1))] := hD
        refine lv_if_eq (tgt := 39) hx hb dX9_freeBy_22 (by decide) (fun c22 => ?_) (fun c22 => ?_)
        · replace hf := zt c22 hf
          exact J39 x5 x4 hf _ _ _ (lv_sub hl [0, 1, 2, 3, 5] rfl) hP hD hS
        · replace hf := ze c22 hf
          refine lv_aload_n hx hb dX9_freeBy_25 rfl (lv_at hl 0 rfl) ?_
          refine lv_aload_n hx hb dX9_freeBy_26 rfl (lv_at hl 1 rfl) ?_
          refine lv_iload hx hb dX9_freeBy_27 (lv_at hl 5 rfl) ?_
          obtain ⟨o29, ho29, hf⟩ := zb hf
          refine zcS1 (wr := []) (rest := [.int x4]) X (zc_X9_howBy l D y a_arg0 a_arg1 n_arg0 n_arg1 c_arg0 c_arg1 x5 o29 ho29) kf_RX9_200 ⟨(Nat.le_of_ble_eq_true rfl), (Nat.le_of_ble_eq_true rfl)⟩ hP hD hS [0, 1] [] rfl rfl rfl rfl (by decide) rfl rfl hl.1 (Nat.le_of_ble_eq_true rfl) dX9_freeBy_29 ⟨(Nat.le_of_ble_eq_true rfl), (Nat.le_of_ble_eq_true rfl)⟩ (fun H locs hP hD hS => ?_)
          have hP : va_P D vwCl [(a_arg0, .inl (y.1, n_arg0, .inl c_arg0)), (a_arg1, .inl (y.2.2.1, n_arg1, .inl c_arg1))] H := hP
          have hD : va_D A [(a_arg0, .inl (y.1, n_arg0, .inl c_arg0)), (a_arg1, .inl (y.2.2.1, n_arg1, .inl c_arg1))] := hD
          refine lv_if_ne (tgt := 39) hx hb dX9_freeBy_32 (by decide) (fun c32 => ?_) (fun c32 => ?_)
          · replace hf := ze c32 hf
            exact J39 x5 x4 hf _ _ _ (lv_sub hl [0, 1, 2, 3, 5] rfl) hP hD hS
          · replace hf := zt c32 hf
            refine lv_iconst (v := 1) hx hb dX9_freeBy_35 (by decide) ?_
            refine lv_goto (tgt := 40) hx hb dX9_freeBy_36 (by decide) ?_
            exact J40 x5 x4 (1 : Int32) hf _ _ _ (lv_sub hl [0, 1, 2, 3, 5] rfl) hP hD hS
  unfold zf_X9_freeBy at hf
  refine lv_iconst (v := 0) hx hb dX9_freeBy_0 (by decide) ?_
  refine lv_istore (lv' := [(4, .int (0 : Int32)), (0, .ref a_arg0), (1, .ref a_arg1), (2, .int x2), (3, .int x3)]) hx hb dX9_freeBy_1 hl (by decide) rfl (fun ls hl => ?_)
  refine lv_iconst (v := 0) hx hb dX9_freeBy_3 (by decide) ?_
  refine lv_istore (lv' := [(5, .int (0 : Int32)), (4, .int (0 : Int32)), (0, .ref a_arg0), (1, .ref a_arg1), (2, .int x2), (3, .int x3)]) hx hb dX9_freeBy_4 hl (by decide) rfl (fun ls hl => ?_)
  obtain ⟨o6, ho6, hf⟩ := zb hf
  refine L6 zfu x2 x3 (0 : Int32) (0 : Int32) o6 ho6 _ _ _ (lv_sub hl [2, 3, 4, 5, 1, 0] rfl) hP hD hS (fun H locs ls hl hP hD hS => ?_)
  refine lv_iload hx hb dX9_freeBy_49 (lv_at hl 0 rfl) ?_
  obtain rfl := Option.some.inj hf
  exact zreti X hQ hP hD hS ⟨rfl, rfl⟩ rfl dX9_freeBy_51 (Nat.le_of_ble_eq_true rfl) (Nat.le_of_ble_eq_true rfl)

theorem kf_RX9_180 : zCB RX9 180 yX9_freeBy cX9_freeBy 6 (some .int) 4 ∧ Cond.static yX9_freeBy ∈ wAll := ⟨⟨q_1529, q_9, q_1527, by decide +kernel⟩, q_1528⟩
abbrev rm_X9_free : Room := { frames := 4, cells := 0, slots := 0, locals := 87 }
def zf_X9_free (f_columns : Int32) (f_rows : Int32) (c_told : Nat → Int32) (c_stone : Nat → Int32) : Option (Int32) :=
  (zf_X9_freeBy c_told c_stone 50 25 f_columns f_rows).bind fun o16 =>
  some o16
set_option maxHeartbeats 4000000 in
set_option maxRecDepth 100000 in
theorem zc_X9_free (l : Launch) (D : va_G) (y : zY) (a_this a_tape a_newTold a_newHas a_newStone a_told a_stone a_pastTold a_pastStone a_pastColumns a_pastRows a_many a_number a_ways a_placeOf a_label a_old a_isOpen a_freeOnes a_joins a_given a_decided a_wet a_order a_kept a_written : Nat) (f_thrown : Int32) (f_taped : Int32) (f_size : Int32) (f_at : Int32) (f_fault : Int32) (f_newColumns : Int32) (f_newRows : Int32) (f_columns : Int32) (f_rows : Int32) (f_acts : Int32) (f_isLaid : Int32) (f_seed : Int32) (f_frees : Int32) (f_isKept : Int32) (f_keptHalf : Int32) (f_keptFree : Int32) (f_writtenMany : Int32) (c_told : Nat → Int32) (c_stone : Nat → Int32) (out : Int32) (hf : zf_X9_free f_columns f_rows c_told c_stone = some out) : zC l D y yX9_free cX9_free 1 (some .int) rm_X9_free [.ref a_this] [(a_this, .inr (9, .int f_thrown :: .ref a_tape :: .int f_taped :: .int f_size :: .int f_at :: .int f_fault :: .int f_newColumns :: .int f_newRows :: .ref a_newTold :: .ref a_newHas :: .ref a_newStone :: .int f_columns :: .int f_rows :: .ref a_told :: .ref a_stone :: .int f_acts :: .ref a_pastTold :: .ref a_pastStone :: .ref a_pastColumns :: .ref a_pastRows :: .int f_isLaid :: .ref a_many :: .ref a_number :: .ref a_ways :: .ref a_placeOf :: .ref a_label :: .ref a_old :: .ref a_isOpen :: .ref a_freeOnes :: .ref a_joins :: .ref a_given :: .ref a_decided :: .ref a_wet :: .int f_seed :: .int f_frees :: .ref a_order :: .int f_isKept :: .int f_keptHalf :: .int f_keptFree :: .ref a_kept :: .ref a_written :: .int f_writtenMany :: [])), (a_told, .inl (y.1, 50, .inl c_told)), (a_stone, .inl (y.2.2.1, 25, .inl c_stone))] (zE (some (.int out)) [(a_this, .inr (9, .int f_thrown :: .ref a_tape :: .int f_taped :: .int f_size :: .int f_at :: .int f_fault :: .int f_newColumns :: .int f_newRows :: .ref a_newTold :: .ref a_newHas :: .ref a_newStone :: .int f_columns :: .int f_rows :: .ref a_told :: .ref a_stone :: .int f_acts :: .ref a_pastTold :: .ref a_pastStone :: .ref a_pastColumns :: .ref a_pastRows :: .int f_isLaid :: .ref a_many :: .ref a_number :: .ref a_ways :: .ref a_placeOf :: .ref a_label :: .ref a_old :: .ref a_isOpen :: .ref a_freeOnes :: .ref a_joins :: .ref a_given :: .ref a_decided :: .ref a_wet :: .int f_seed :: .int f_frees :: .ref a_order :: .int f_isKept :: .int f_keptHalf :: .int f_keptFree :: .ref a_kept :: .ref a_written :: .int f_writtenMany :: [])), (a_told, .inl (y.1, 50, .inl c_told)), (a_stone, .inl (y.2.2.1, 25, .inl c_stone))]) := by
  refine zmk (by decide) (Nat.le_of_ble_eq_true rfl) ?_
  intro p e s m args below meth c A Q ls X hQ hnm hP hD hS hl
  have X : zX p s m args meth c D y A RX9 cX9_free 1 (some .int) := X
  obtain ⟨hx, hb, hr, hml, hown, hts, hK, hA, hlocks⟩ := id X
  have hl : lv_has ls 1 [(0, .ref a_this)] := hl
  unfold zf_X9_free at hf
  refine lv_aload_n hx hb dX9_free_0 rfl (lv_at hl 0 rfl) ?_
  refine zget X hP 0 rfl rfl inF9 13 (by decide) q_1345 rfl dX9_free_1 ?_
  refine lv_aload_n hx hb dX9_free_4 rfl (lv_at hl 0 rfl) ?_
  refine zget X hP 0 rfl rfl inF9 14 (by decide) q_1346 rfl dX9_free_5 ?_
  refine lv_aload_n hx hb dX9_free_8 rfl (lv_at hl 0 rfl) ?_
  refine zget X hP 0 rfl rfl inF9 11 (by decide) q_1343 rfl dX9_free_9 ?_
  refine lv_aload_n hx hb dX9_free_12 rfl (lv_at hl 0 rfl) ?_
  refine zget X hP 0 rfl rfl inF9 12 (by decide) q_1344 rfl dX9_free_13 ?_
  obtain ⟨o16, ho16, hf⟩ := zb hf
  refine zcS1 (wr := [(a_this, .inr (9, .int f_thrown :: .ref a_tape :: .int f_taped :: .int f_size :: .int f_at :: .int f_fault :: .int f_newColumns :: .int f_newRows :: .ref a_newTold :: .ref a_newHas :: .ref a_newStone :: .int f_columns :: .int f_rows :: .ref a_told :: .ref a_stone :: .int f_acts :: .ref a_pastTold :: .ref a_pastStone :: .ref a_pastColumns :: .ref a_pastRows :: .int f_isLaid :: .ref a_many :: .ref a_number :: .ref a_ways :: .ref a_placeOf :: .ref a_label :: .ref a_old :: .ref a_isOpen :: .ref a_freeOnes :: .ref a_joins :: .ref a_given :: .ref a_decided :: .ref a_wet :: .int f_seed :: .int f_frees :: .ref a_order :: .int f_isKept :: .int f_keptHalf :: .int f_keptFree :: .ref a_kept :: .ref a_written :: .int f_writtenMany :: []))]) (rest := []) X (zc_X9_freeBy l D y a_told a_stone 50 25 c_told c_stone f_columns f_rows o16 ho16) kf_RX9_180 ⟨(Nat.le_of_ble_eq_true rfl), (Nat.le_of_ble_eq_true rfl)⟩ hP hD hS [1, 2] [0] rfl rfl rfl rfl (by decide) rfl rfl hl.1 (Nat.le_of_ble_eq_true rfl) dX9_free_16 ⟨(Nat.le_of_ble_eq_true rfl), (Nat.le_of_ble_eq_true rfl)⟩ (fun H locs hP hD hS => ?_)
  have hP : va_P D vwCl [(a_this, .inr (9, .int f_thrown :: .ref a_tape :: .int f_taped :: .int f_size :: .int f_at :: .int f_fault :: .int f_newColumns :: .int f_newRows :: .ref a_newTold :: .ref a_newHas :: .ref a_newStone :: .int f_columns :: .int f_rows :: .ref a_told :: .ref a_stone :: .int f_acts :: .ref a_pastTold :: .ref a_pastStone :: .ref a_pastColumns :: .ref a_pastRows :: .int f_isLaid :: .ref a_many :: .ref a_number :: .ref a_ways :: .ref a_placeOf :: .ref a_label :: .ref a_old :: .ref a_isOpen :: .ref a_freeOnes :: .ref a_joins :: .ref a_given :: .ref a_decided :: .ref a_wet :: .int f_seed :: .int f_frees :: .ref a_order :: .int f_isKept :: .int f_keptHalf :: .int f_keptFree :: .ref a_kept :: .ref a_written :: .int f_writtenMany :: [])), (a_told, .inl (y.1, 50, .inl c_told)), (a_stone, .inl (y.2.2.1, 25, .inl c_stone))] H := hP
  have hD : va_D A [(a_this, .inr (9, .int f_thrown :: .ref a_tape :: .int f_taped :: .int f_size :: .int f_at :: .int f_fault :: .int f_newColumns :: .int f_newRows :: .ref a_newTold :: .ref a_newHas :: .ref a_newStone :: .int f_columns :: .int f_rows :: .ref a_told :: .ref a_stone :: .int f_acts :: .ref a_pastTold :: .ref a_pastStone :: .ref a_pastColumns :: .ref a_pastRows :: .int f_isLaid :: .ref a_many :: .ref a_number :: .ref a_ways :: .ref a_placeOf :: .ref a_label :: .ref a_old :: .ref a_isOpen :: .ref a_freeOnes :: .ref a_joins :: .ref a_given :: .ref a_decided :: .ref a_wet :: .int f_seed :: .int f_frees :: .ref a_order :: .int f_isKept :: .int f_keptHalf :: .int f_keptFree :: .ref a_kept :: .ref a_written :: .int f_writtenMany :: [])), (a_told, .inl (y.1, 50, .inl c_told)), (a_stone, .inl (y.2.2.1, 25, .inl c_stone))] := hD
  obtain rfl := Option.some.inj hf
  exact zreti X hQ hP hD hS ⟨rfl, rfl⟩ rfl dX9_free_19 (Nat.le_of_ble_eq_true rfl) (Nat.le_of_ble_eq_true rfl)

abbrev rm_X9_wrong : Room := { frames := 0, cells := 0, slots := 0, locals := 0 }
def zf_X9_wrong (f_at : Int32) (f_fault : Int32) : Option (Int32) :=
  if f_fault = (-1 : Int32) then (some f_at) else (some f_fault)
set_option maxHeartbeats 4000000 in
set_option maxRecDepth 100000 in
theorem zc_X9_wrong (l : Launch) (D : va_G) (y : zY) (a_this a_tape a_newTold a_newHas a_newStone a_told a_stone a_pastTold a_pastStone a_pastColumns a_pastRows a_many a_number a_ways a_placeOf a_label a_old a_isOpen a_freeOnes a_joins a_given a_decided a_wet a_order a_kept a_written : Nat) (f_thrown : Int32) (f_taped : Int32) (f_size : Int32) (f_at : Int32) (f_fault : Int32) (f_newColumns : Int32) (f_newRows : Int32) (f_columns : Int32) (f_rows : Int32) (f_acts : Int32) (f_isLaid : Int32) (f_seed : Int32) (f_frees : Int32) (f_isKept : Int32) (f_keptHalf : Int32) (f_keptFree : Int32) (f_writtenMany : Int32) (out : Int32) (hf : zf_X9_wrong f_at f_fault = some out) : zC l D y yX9_wrong cX9_wrong 1 (none : Option Jvm.ClassFile.FieldType) rm_X9_wrong [.ref a_this] [(a_this, .inr (9, .int f_thrown :: .ref a_tape :: .int f_taped :: .int f_size :: .int f_at :: .int f_fault :: .int f_newColumns :: .int f_newRows :: .ref a_newTold :: .ref a_newHas :: .ref a_newStone :: .int f_columns :: .int f_rows :: .ref a_told :: .ref a_stone :: .int f_acts :: .ref a_pastTold :: .ref a_pastStone :: .ref a_pastColumns :: .ref a_pastRows :: .int f_isLaid :: .ref a_many :: .ref a_number :: .ref a_ways :: .ref a_placeOf :: .ref a_label :: .ref a_old :: .ref a_isOpen :: .ref a_freeOnes :: .ref a_joins :: .ref a_given :: .ref a_decided :: .ref a_wet :: .int f_seed :: .int f_frees :: .ref a_order :: .int f_isKept :: .int f_keptHalf :: .int f_keptFree :: .ref a_kept :: .ref a_written :: .int f_writtenMany :: []))] (zE none [(a_this, .inr (9, .int f_thrown :: .ref a_tape :: .int f_taped :: .int f_size :: .int f_at :: .int out :: .int f_newColumns :: .int f_newRows :: .ref a_newTold :: .ref a_newHas :: .ref a_newStone :: .int f_columns :: .int f_rows :: .ref a_told :: .ref a_stone :: .int f_acts :: .ref a_pastTold :: .ref a_pastStone :: .ref a_pastColumns :: .ref a_pastRows :: .int f_isLaid :: .ref a_many :: .ref a_number :: .ref a_ways :: .ref a_placeOf :: .ref a_label :: .ref a_old :: .ref a_isOpen :: .ref a_freeOnes :: .ref a_joins :: .ref a_given :: .ref a_decided :: .ref a_wet :: .int f_seed :: .int f_frees :: .ref a_order :: .int f_isKept :: .int f_keptHalf :: .int f_keptFree :: .ref a_kept :: .ref a_written :: .int f_writtenMany :: []))]) := by
  refine zmk (by decide) (Nat.le_of_ble_eq_true rfl) ?_
  intro p e s m args below meth c A Q ls X hQ hnm hP hD hS hl
  have X : zX p s m args meth c D y A RX9 cX9_wrong 1 (none : Option Jvm.ClassFile.FieldType) := X
  obtain ⟨hx, hb, hr, hml, hown, hts, hK, hA, hlocks⟩ := id X
  have hl : lv_has ls 1 [(0, .ref a_this)] := hl
  unfold zf_X9_wrong at hf
  refine lv_aload_n hx hb dX9_wrong_0 rfl (lv_at hl 0 rfl) ?_
  refine zget X hP 0 rfl rfl inF9 5 (by decide) q_1337 rfl dX9_wrong_1 ?_
  refine lv_iconst (v := -1) hx hb dX9_wrong_4 (by decide) ?_
  refine lv_icmp_ne (tgt := 16) hx hb dX9_wrong_5 (by decide) (fun c5 => ?_) (fun c5 => ?_)
  · replace hf := ze c5 hf
    obtain rfl := Option.some.inj hf
    exact zretv X hQ hP hD hS ⟨rfl, rfl⟩ dX9_wrong_16 (Nat.le_of_ble_eq_true rfl) (Nat.le_of_ble_eq_true rfl)
  · replace hf := zt c5 hf
    refine lv_aload_n hx hb dX9_wrong_8 rfl (lv_at hl 0 rfl) ?_
    refine lv_aload_n hx hb dX9_wrong_9 rfl (lv_at hl 0 rfl) ?_
    refine zget X hP 0 rfl rfl inF9 4 (by decide) q_1336 rfl dX9_wrong_10 ?_
    refine zput (ty := .int) X hP hD hS 0 rfl rfl inF9 tyX9_ok nmX9 5 (by decide) q_1337 rfl rfl rfl rfl (Nat.le_of_ble_eq_true rfl) dX9_wrong_13 (fun H locs hP hD hS => ?_)
    have hP : va_P D vwCl [(a_this, .inr (9, .int f_thrown :: .ref a_tape :: .int f_taped :: .int f_size :: .int f_at :: .int f_at :: .int f_newColumns :: .int f_newRows :: .ref a_newTold :: .ref a_newHas :: .ref a_newStone :: .int f_columns :: .int f_rows :: .ref a_told :: .ref a_stone :: .int f_acts :: .ref a_pastTold :: .ref a_pastStone :: .ref a_pastColumns :: .ref a_pastRows :: .int f_isLaid :: .ref a_many :: .ref a_number :: .ref a_ways :: .ref a_placeOf :: .ref a_label :: .ref a_old :: .ref a_isOpen :: .ref a_freeOnes :: .ref a_joins :: .ref a_given :: .ref a_decided :: .ref a_wet :: .int f_seed :: .int f_frees :: .ref a_order :: .int f_isKept :: .int f_keptHalf :: .int f_keptFree :: .ref a_kept :: .ref a_written :: .int f_writtenMany :: []))] H := hP
    have hD : va_D A [(a_this, .inr (9, .int f_thrown :: .ref a_tape :: .int f_taped :: .int f_size :: .int f_at :: .int f_at :: .int f_newColumns :: .int f_newRows :: .ref a_newTold :: .ref a_newHas :: .ref a_newStone :: .int f_columns :: .int f_rows :: .ref a_told :: .ref a_stone :: .int f_acts :: .ref a_pastTold :: .ref a_pastStone :: .ref a_pastColumns :: .ref a_pastRows :: .int f_isLaid :: .ref a_many :: .ref a_number :: .ref a_ways :: .ref a_placeOf :: .ref a_label :: .ref a_old :: .ref a_isOpen :: .ref a_freeOnes :: .ref a_joins :: .ref a_given :: .ref a_decided :: .ref a_wet :: .int f_seed :: .int f_frees :: .ref a_order :: .int f_isKept :: .int f_keptHalf :: .int f_keptFree :: .ref a_kept :: .ref a_written :: .int f_writtenMany :: []))] := hD
    obtain rfl := Option.some.inj hf
    exact zretv X hQ hP hD hS ⟨rfl, rfl⟩ dX9_wrong_16 (Nat.le_of_ble_eq_true rfl) (Nat.le_of_ble_eq_true rfl)

abbrev rm_X9_here : Room := { frames := 0, cells := 0, slots := 0, locals := 0 }
def zf_X9_here_53 (f_at : Int32) : Option ((Int32) ⊕ ((Int32))) :=
  some (.inl (f_at + (1 : Int32)))
def zf_X9_here_l0 (f_size : Int32) (c_tape : Nat → Int32) (f_at : Int32) : Option ((Int32) ⊕ ((Int32))) :=
  if f_size ≤ f_at then (some (.inr f_at)) else (if zgd f_at 400 = true then (if (c_tape f_at.toNatClampNeg) = (32 : Int32) then (zf_X9_here_53 f_at) else (if zgd f_at 400 = true then (if (c_tape f_at.toNatClampNeg) = (9 : Int32) then (zf_X9_here_53 f_at) else (if zgd f_at 400 = true then (if (c_tape f_at.toNatClampNeg) = (10 : Int32) then (zf_X9_here_53 f_at) else (some (.inr f_at))) else none)) else none)) else none)
def zf_X9_here_66 (f_size : Int32) (f_at : Int32) (c_tape : Nat → Int32) : Option (Int32 × Int32) :=
  if f_size ≤ f_at then (some ((-1 : Int32), f_at)) else (if zgd f_at 400 = true then (some (c_tape f_at.toNatClampNeg, f_at)) else none)
def zf_X9_here (f_size : Int32) (f_at : Int32) (c_tape : Nat → Int32) : Option (Int32 × Int32) :=
  if f_size ≤ f_at then (zf_X9_here_66 f_size f_at c_tape) else (if zgd f_at 400 = true then (if (c_tape f_at.toNatClampNeg) = (32 : Int32) then ((zit (fun d => zf_X9_here_l0 f_size c_tape d) zfu (f_at + (1 : Int32))).bind fun o0 =>
  zf_X9_here_66 f_size o0 c_tape) else (if zgd f_at 400 = true then (if (c_tape f_at.toNatClampNeg) = (9 : Int32) then ((zit (fun d => zf_X9_here_l0 f_size c_tape d) zfu (f_at + (1 : Int32))).bind fun o0 =>
  zf_X9_here_66 f_size o0 c_tape) else (if zgd f_at 400 = true then (if (c_tape f_at.toNatClampNeg) = (10 : Int32) then ((zit (fun d => zf_X9_here_l0 f_size c_tape d) zfu (f_at + (1 : Int32))).bind fun o0 =>
  zf_X9_here_66 f_size o0 c_tape) else (zf_X9_here_66 f_size f_at c_tape)) else none)) else none)) else none)
set_option maxHeartbeats 4000000 in
set_option maxRecDepth 100000 in
theorem zc_X9_here (l : Launch) (D : va_G) (y : zY) (a_this a_tape a_newTold a_newHas a_newStone a_told a_stone a_pastTold a_pastStone a_pastColumns a_pastRows a_many a_number a_ways a_placeOf a_label a_old a_isOpen a_freeOnes a_joins a_given a_decided a_wet a_order a_kept a_written : Nat) (f_thrown : Int32) (f_taped : Int32) (f_size : Int32) (f_at : Int32) (f_fault : Int32) (f_newColumns : Int32) (f_newRows : Int32) (f_columns : Int32) (f_rows : Int32) (f_acts : Int32) (f_isLaid : Int32) (f_seed : Int32) (f_frees : Int32) (f_isKept : Int32) (f_keptHalf : Int32) (f_keptFree : Int32) (f_writtenMany : Int32) (c_tape : Nat → Int32) (out : Int32 × Int32) (hf : zf_X9_here f_size f_at c_tape = some out) : zC l D y yX9_here cX9_here 1 (some .int) rm_X9_here [.ref a_this] [(a_this, .inr (9, .int f_thrown :: .ref a_tape :: .int f_taped :: .int f_size :: .int f_at :: .int f_fault :: .int f_newColumns :: .int f_newRows :: .ref a_newTold :: .ref a_newHas :: .ref a_newStone :: .int f_columns :: .int f_rows :: .ref a_told :: .ref a_stone :: .int f_acts :: .ref a_pastTold :: .ref a_pastStone :: .ref a_pastColumns :: .ref a_pastRows :: .int f_isLaid :: .ref a_many :: .ref a_number :: .ref a_ways :: .ref a_placeOf :: .ref a_label :: .ref a_old :: .ref a_isOpen :: .ref a_freeOnes :: .ref a_joins :: .ref a_given :: .ref a_decided :: .ref a_wet :: .int f_seed :: .int f_frees :: .ref a_order :: .int f_isKept :: .int f_keptHalf :: .int f_keptFree :: .ref a_kept :: .ref a_written :: .int f_writtenMany :: [])), (a_tape, .inl (y.1, 400, .inl c_tape))] (zE (some (.int out.1)) [(a_this, .inr (9, .int f_thrown :: .ref a_tape :: .int f_taped :: .int f_size :: .int out.2 :: .int f_fault :: .int f_newColumns :: .int f_newRows :: .ref a_newTold :: .ref a_newHas :: .ref a_newStone :: .int f_columns :: .int f_rows :: .ref a_told :: .ref a_stone :: .int f_acts :: .ref a_pastTold :: .ref a_pastStone :: .ref a_pastColumns :: .ref a_pastRows :: .int f_isLaid :: .ref a_many :: .ref a_number :: .ref a_ways :: .ref a_placeOf :: .ref a_label :: .ref a_old :: .ref a_isOpen :: .ref a_freeOnes :: .ref a_joins :: .ref a_given :: .ref a_decided :: .ref a_wet :: .int f_seed :: .int f_frees :: .ref a_order :: .int f_isKept :: .int f_keptHalf :: .int f_keptFree :: .ref a_kept :: .ref a_written :: .int f_writtenMany :: [])), (a_tape, .inl (y.1, 400, .inl c_tape))]) := by
  refine zmk (by decide) (Nat.le_of_ble_eq_true rfl) ?_
  intro p e s m args below meth c A Q ls X hQ hnm hP hD hS hl
  have X : zX p s m args meth c D y A RX9 cX9_here 1 (some .int) := X
  obtain ⟨hx, hb, hr, hml, hown, hts, hK, hA, hlocks⟩ := id X
  have hl : lv_has ls 1 [(0, .ref a_this)] := hl
  have L0 : ∀ (n : Nat) (f_at : Int32) (x : (Int32)), zit (fun d => zf_X9_here_l0 f_size c_tape d) n f_at = some x → ∀ (H : Heap) (locs : List Loc) (ls : Array Slot), lv_has ls 1 [(0, .ref a_this)] → va_P D vwCl [(a_this, .inr (9, .int f_thrown :: .ref a_tape :: .int f_taped :: .int f_size :: .int f_at :: .int f_fault :: .int f_newColumns :: .int f_newRows :: .ref a_newTold :: .ref a_newHas :: .ref a_newStone :: .int f_columns :: .int f_rows :: .ref a_told :: .ref a_stone :: .int f_acts :: .ref a_pastTold :: .ref a_pastStone :: .ref a_pastColumns :: .ref a_pastRows :: .int f_isLaid :: .ref a_many :: .ref a_number :: .ref a_ways :: .ref a_placeOf :: .ref a_label :: .ref a_old :: .ref a_isOpen :: .ref a_freeOnes :: .ref a_joins :: .ref a_given :: .ref a_decided :: .ref a_wet :: .int f_seed :: .int f_frees :: .ref a_order :: .int f_isKept :: .int f_keptHalf :: .int f_keptFree :: .ref a_kept :: .ref a_written :: .int f_writtenMany :: [])), (a_tape, .inl (y.1, 400, .inl c_tape))] H → va_D A [(a_this, .inr (9, .int f_thrown :: .ref a_tape :: .int f_taped :: .int f_size :: .int f_at :: .int f_fault :: .int f_newColumns :: .int f_newRows :: .ref a_newTold :: .ref a_newHas :: .ref a_newStone :: .int f_columns :: .int f_rows :: .ref a_told :: .ref a_stone :: .int f_acts :: .ref a_pastTold :: .ref a_pastStone :: .ref a_pastColumns :: .ref a_pastRows :: .int f_isLaid :: .ref a_many :: .ref a_number :: .ref a_ways :: .ref a_placeOf :: .ref a_label :: .ref a_old :: .ref a_isOpen :: .ref a_freeOnes :: .ref a_joins :: .ref a_given :: .ref a_decided :: .ref a_wet :: .int f_seed :: .int f_frees :: .ref a_order :: .int f_isKept :: .int f_keptHalf :: .int f_keptFree :: .ref a_kept :: .ref a_written :: .int f_writtenMany :: [])), (a_tape, .inl (y.1, 400, .inl c_tape))] → va_S A s.heap H locs → (∀ (H : Heap) (locs : List Loc) (ls : Array Slot), lv_has ls 1 [(0, .ref a_this)] → va_P D vwCl [(a_this, .inr (9, .int f_thrown :: .ref a_tape :: .int f_taped :: .int f_size :: .int x :: .int f_fault :: .int f_newColumns :: .int f_newRows :: .ref a_newTold :: .ref a_newHas :: .ref a_newStone :: .int f_columns :: .int f_rows :: .ref a_told :: .ref a_stone :: .int f_acts :: .ref a_pastTold :: .ref a_pastStone :: .ref a_pastColumns :: .ref a_pastRows :: .int f_isLaid :: .ref a_many :: .ref a_number :: .ref a_ways :: .ref a_placeOf :: .ref a_label :: .ref a_old :: .ref a_isOpen :: .ref a_freeOnes :: .ref a_joins :: .ref a_given :: .ref a_decided :: .ref a_wet :: .int f_seed :: .int f_frees :: .ref a_order :: .int f_isKept :: .int f_keptHalf :: .int f_keptFree :: .ref a_kept :: .ref a_written :: .int f_writtenMany :: [])), (a_tape, .inl (y.1, 400, .inl c_tape))] H → va_D A [(a_this, .inr (9, .int f_thrown :: .ref a_tape :: .int f_taped :: .int f_size :: .int x :: .int f_fault :: .int f_newColumns :: .int f_newRows :: .ref a_newTold :: .ref a_newHas :: .ref a_newStone :: .int f_columns :: .int f_rows :: .ref a_told :: .ref a_stone :: .int f_acts :: .ref a_pastTold :: .ref a_pastStone :: .ref a_pastColumns :: .ref a_pastRows :: .int f_isLaid :: .ref a_many :: .ref a_number :: .ref a_ways :: .ref a_placeOf :: .ref a_label :: .ref a_old :: .ref a_isOpen :: .ref a_freeOnes :: .ref a_joins :: .ref a_given :: .ref a_decided :: .ref a_wet :: .int f_seed :: .int f_frees :: .ref a_order :: .int f_isKept :: .int f_keptHalf :: .int f_keptFree :: .ref a_kept :: .ref a_written :: .int f_writtenMany :: [])), (a_tape, .inl (y.1, 400, .inl c_tape))] → va_S A s.heap H locs → W p l e rm_X9_here s m args below meth c H locs 0 0 Q (F0 m 66 ls [])) → W p l e rm_X9_here s m args below meth c H locs 0 0 Q (F0 m 0 ls []) := by
    intro n
    induction n with
    | zero => intro f_at x h; exact (zi0 h).elim
    | succ n ih =>
      intro f_at x h H locs ls hl hP hD hS K66
      obtain ⟨r, hf, h⟩ := zis h
      have hf : zf_X9_here_l0 f_size c_tape f_at = some r := hf
      have J53 : ∀ (f_at : Int32), zf_X9_here_53 f_at = some r → ∀ (H : Heap) (locs : List Loc) (ls : Array Slot), lv_has ls 1 [(0, .ref a_this)] → va_P D vwCl [(a_this, .inr (9, .int f_thrown :: .ref a_tape :: .int f_taped :: .int f_size :: .int f_at :: .int f_fault :: .int f_newColumns :: .int f_newRows :: .ref a_newTold :: .ref a_newHas :: .ref a_newStone :: .int f_columns :: .int f_rows :: .ref a_told :: .ref a_stone :: .int f_acts :: .ref a_pastTold :: .ref a_pastStone :: .ref a_pastColumns :: .ref a_pastRows :: .int f_isLaid :: .ref a_many :: .ref a_number :: .ref a_ways :: .ref a_placeOf :: .ref a_label :: .ref a_old :: .ref a_isOpen :: .ref a_freeOnes :: .ref a_joins :: .ref a_given :: .ref a_decided :: .ref a_wet :: .int f_seed :: .int f_frees :: .ref a_order :: .int f_isKept :: .int f_keptHalf :: .int f_keptFree :: .ref a_kept :: .ref a_written :: .int f_writtenMany :: [])), (a_tape, .inl (y.1, 400, .inl c_tape))] H → va_D A [(a_this, .inr (9, .int f_thrown :: .ref a_tape :: .int f_taped :: .int f_size :: .int f_at :: .int f_fault :: .int f_newColumns :: .int f_newRows :: .ref a_newTold :: .ref a_newHas :: .ref a_newStone :: .int f_columns :: .int f_rows :: .ref a_told :: .ref a_stone :: .int f_acts :: .ref a_pastTold :: .ref a_pastStone :: .ref a_pastColumns :: .ref a_pastRows :: .int f_isLaid :: .ref a_many :: .ref a_number :: .ref a_ways :: .ref a_placeOf :: .ref a_label :: .ref a_old :: .ref a_isOpen :: .ref a_freeOnes :: .ref a_joins :: .ref a_given :: .ref a_decided :: .ref a_wet :: .int f_seed :: .int f_frees :: .ref a_order :: .int f_isKept :: .int f_keptHalf :: .int f_keptFree :: .ref a_kept :: .ref a_written :: .int f_writtenMany :: [])), (a_tape, .inl (y.1, 400, .inl c_tape))] → va_S A s.heap H locs → W p l e rm_X9_here s m args below meth c H locs 0 0 Q (F0 m 53 ls []) := by
        intro f_at hf H locs ls hl hP hD hS
        unfold zf_X9_here_53 at hf
        refine lv_aload_n hx hb dX9_here_53 rfl (lv_at hl 0 rfl) ?_
        refine lv_dup hx hb dX9_here_54 rfl ?_
        refine zget X hP 0 rfl rfl inF9 4 (by decide) q_1336 rfl dX9_here_55 ?_
        refine lv_iconst (v := 1) hx hb dX9_here_58 (by decide) ?_
        refine lv_iadd hx hb dX9_here_59 ?_
        refine zput (ty := .int) X hP hD hS 0 rfl rfl inF9 tyX9_ok nmX9 4 (by decide) q_1336 rfl rfl rfl rfl (Nat.le_of_ble_eq_true rfl) dX9_here_60 (fun H locs hP hD hS => ?_)
        have hP : va_P D vwCl [(a_this, .inr (9, .int f_thrown :: .ref a_tape :: .int f_taped :: .int f_size :: .int (f_at + (1 : Int32)) :: .int f_fault :: .int f_newColumns :: .int f_newRows :: .ref a_newTold :: .ref a_newHas :: .ref a_newStone :: .int f_columns :: .int f_rows :: .ref a_told :: .ref a_stone :: .int f_acts :: .ref a_pastTold :: .ref a_pastStone :: .ref a_pastColumns :: .ref a_pastRows :: .int f_isLaid :: .ref a_many :: .ref a_number :: .ref a_ways :: .ref a_placeOf :: .ref a_label :: .ref a_old :: .ref a_isOpen :: .ref a_freeOnes :: .ref a_joins :: .ref a_given :: .ref a_decided :: .ref a_wet :: .int f_seed :: .int f_frees :: .ref a_order :: .int f_isKept :: .int f_keptHalf :: .int f_keptFree :: .ref a_kept :: .ref a_written :: .int f_writtenMany :: [])), (a_tape, .inl (y.1, 400, .inl c_tape))] H := hP
        have hD : va_D A [(a_this, .inr (9, .int f_thrown :: .ref a_tape :: .int f_taped :: .int f_size :: .int (f_at + (1 : Int32)) :: .int f_fault :: .int f_newColumns :: .int f_newRows :: .ref a_newTold :: .ref a_newHas :: .ref a_newStone :: .int f_columns :: .int f_rows :: .ref a_told :: .ref a_stone :: .int f_acts :: .ref a_pastTold :: .ref a_pastStone :: .ref a_pastColumns :: .ref a_pastRows :: .int f_isLaid :: .ref a_many :: .ref a_number :: .ref a_ways :: .ref a_placeOf :: .ref a_label :: .ref a_old :: .ref a_isOpen :: .ref a_freeOnes :: .ref a_joins :: .ref a_given :: .ref a_decided :: .ref a_wet :: .int f_seed :: .int f_frees :: .ref a_order :: .int f_isKept :: .int f_keptHalf :: .int f_keptFree :: .ref a_kept :: .ref a_written :: .int f_writtenMany :: [])), (a_tape, .inl (y.1, 400, .inl c_tape))] := hD
        refine lv_goto (tgt := 0) hx hb dX9_here_63 (by decide) ?_
        obtain rfl := Option.some.inj hf
        exact ih (f_at + (1 : Int32)) x h _ _ _ hl hP hD hS K66
      unfold zf_X9_here_l0 at hf
      refine lv_aload_n hx hb dX9_here_0 rfl (lv_at hl 0 rfl) ?_
      refine zget X hP 0 rfl rfl inF9 4 (by decide) q_1336 rfl dX9_here_1 ?_
      refine lv_aload_n hx hb dX9_here_4 rfl (lv_at hl 0 rfl) ?_
      refine zget X hP 0 rfl rfl inF9 3 (by decide) q_1335 rfl dX9_here_5 ?_
      refine lv_icmp_ge (tgt := 66) hx hb dX9_here_8 (by decide) (fun c8 => ?_) (fun c8 => ?_)
      · replace hf := zt c8 hf
        obtain rfl := Option.some.inj hf
        obtain rfl := Option.some.inj h
        exact K66 _ _ _ hl hP hD hS
      · replace hf := ze c8 hf
        refine lv_aload_n hx hb dX9_here_11 rfl (lv_at hl 0 rfl) ?_
        refine zget X hP 0 rfl rfl inF9 1 (by decide) q_1333 rfl dX9_here_12 ?_
        refine lv_aload_n hx hb dX9_here_15 rfl (lv_at hl 0 rfl) ?_
        refine zget X hP 0 rfl rfl inF9 4 (by decide) q_1336 rfl dX9_here_16 ?_
        obtain ⟨g19, hf⟩ := zg hf
        refine va_iald hx hb hK hP 1 0 rfl rfl g19 dX9_here_19 ?_
        refine lv_bipush (v := 32) hx hb dX9_here_20 (by decide) ?_
        refine lv_icmp_eq (tgt := 53) hx hb dX9_here_22 (by decide) (fun c22 => ?_) (fun c22 => ?_)
        · replace hf := zt c22 hf
          exact J53 f_at hf _ _ _ hl hP hD hS
        · replace hf := ze c22 hf
          refine lv_aload_n hx hb dX9_here_25 rfl (lv_at hl 0 rfl) ?_
          refine zget X hP 0 rfl rfl inF9 1 (by decide) q_1333 rfl dX9_here_26 ?_
          refine lv_aload_n hx hb dX9_here_29 rfl (lv_at hl 0 rfl) ?_
          refine zget X hP 0 rfl rfl inF9 4 (by decide) q_1336 rfl dX9_here_30 ?_
          obtain ⟨g33, hf⟩ := zg hf
          refine va_iald hx hb hK hP 1 0 rfl rfl g33 dX9_here_33 ?_
          refine lv_bipush (v := 9) hx hb dX9_here_34 (by decide) ?_
          refine lv_icmp_eq (tgt := 53) hx hb dX9_here_36 (by decide) (fun c36 => ?_) (fun c36 => ?_)
          · replace hf := zt c36 hf
            exact J53 f_at hf _ _ _ hl hP hD hS
          · replace hf := ze c36 hf
            refine lv_aload_n hx hb dX9_here_39 rfl (lv_at hl 0 rfl) ?_
            refine zget X hP 0 rfl rfl inF9 1 (by decide) q_1333 rfl dX9_here_40 ?_
            refine lv_aload_n hx hb dX9_here_43 rfl (lv_at hl 0 rfl) ?_
            refine zget X hP 0 rfl rfl inF9 4 (by decide) q_1336 rfl dX9_here_44 ?_
            obtain ⟨g47, hf⟩ := zg hf
            refine va_iald hx hb hK hP 1 0 rfl rfl g47 dX9_here_47 ?_
            refine lv_bipush (v := 10) hx hb dX9_here_48 (by decide) ?_
            refine lv_icmp_ne (tgt := 66) hx hb dX9_here_50 (by decide) (fun c50 => ?_) (fun c50 => ?_)
            · replace hf := ze c50 hf
              obtain rfl := Option.some.inj hf
              obtain rfl := Option.some.inj h
              exact K66 _ _ _ hl hP hD hS
            · replace hf := zt c50 hf
              exact J53 f_at hf _ _ _ hl hP hD hS
  have J66 : ∀ (f_at : Int32), zf_X9_here_66 f_size f_at c_tape = some out → ∀ (H : Heap) (locs : List Loc) (ls : Array Slot), lv_has ls 1 [(0, .ref a_this)] → va_P D vwCl [(a_this, .inr (9, .int f_thrown :: .ref a_tape :: .int f_taped :: .int f_size :: .int f_at :: .int f_fault :: .int f_newColumns :: .int f_newRows :: .ref a_newTold :: .ref a_newHas :: .ref a_newStone :: .int f_columns :: .int f_rows :: .ref a_told :: .ref a_stone :: .int f_acts :: .ref a_pastTold :: .ref a_pastStone :: .ref a_pastColumns :: .ref a_pastRows :: .int f_isLaid :: .ref a_many :: .ref a_number :: .ref a_ways :: .ref a_placeOf :: .ref a_label :: .ref a_old :: .ref a_isOpen :: .ref a_freeOnes :: .ref a_joins :: .ref a_given :: .ref a_decided :: .ref a_wet :: .int f_seed :: .int f_frees :: .ref a_order :: .int f_isKept :: .int f_keptHalf :: .int f_keptFree :: .ref a_kept :: .ref a_written :: .int f_writtenMany :: [])), (a_tape, .inl (y.1, 400, .inl c_tape))] H → va_D A [(a_this, .inr (9, .int f_thrown :: .ref a_tape :: .int f_taped :: .int f_size :: .int f_at :: .int f_fault :: .int f_newColumns :: .int f_newRows :: .ref a_newTold :: .ref a_newHas :: .ref a_newStone :: .int f_columns :: .int f_rows :: .ref a_told :: .ref a_stone :: .int f_acts :: .ref a_pastTold :: .ref a_pastStone :: .ref a_pastColumns :: .ref a_pastRows :: .int f_isLaid :: .ref a_many :: .ref a_number :: .ref a_ways :: .ref a_placeOf :: .ref a_label :: .ref a_old :: .ref a_isOpen :: .ref a_freeOnes :: .ref a_joins :: .ref a_given :: .ref a_decided :: .ref a_wet :: .int f_seed :: .int f_frees :: .ref a_order :: .int f_isKept :: .int f_keptHalf :: .int f_keptFree :: .ref a_kept :: .ref a_written :: .int f_writtenMany :: [])), (a_tape, .inl (y.1, 400, .inl c_tape))] → va_S A s.heap H locs → W p l e rm_X9_here s m args below meth c H locs 0 0 Q (F0 m 66 ls []) := by
    intro f_at hf H locs ls hl hP hD hS
    unfold zf_X9_here_66 at hf
    refine lv_aload_n hx hb dX9_here_66 rfl (lv_at hl 0 rfl) ?_
    refine zget X hP 0 rfl rfl inF9 4 (by decide) q_1336 rfl dX9_here_67 ?_
    refine lv_aload_n hx hb dX9_here_70 rfl (lv_at hl 0 rfl) ?_
    refine zget X hP 0 rfl rfl inF9 3 (by decide) q_1335 rfl dX9_here_71 ?_
    refine lv_icmp_ge (tgt := 89) hx hb dX9_here_74 (by decide) (fun c74 => ?_) (fun c74 => ?_)
    · replace hf := zt c74 hf
      refine lv_iconst (v := -1) hx hb dX9_here_89 (by decide) ?_
      obtain rfl := Option.some.inj hf
      exact zreti X hQ hP hD hS ⟨rfl, rfl⟩ rfl dX9_here_90 (Nat.le_of_ble_eq_true rfl) (Nat.le_of_ble_eq_true rfl)
    · replace hf := ze c74 hf
      refine lv_aload_n hx hb dX9_here_77 rfl (lv_at hl 0 rfl) ?_
      refine zget X hP 0 rfl rfl inF9 1 (by decide) q_1333 rfl dX9_here_78 ?_
      refine lv_aload_n hx hb dX9_here_81 rfl (lv_at hl 0 rfl) ?_
      refine zget X hP 0 rfl rfl inF9 4 (by decide) q_1336 rfl dX9_here_82 ?_
      obtain ⟨g85, hf⟩ := zg hf
      refine va_iald hx hb hK hP 1 0 rfl rfl g85 dX9_here_85 ?_
      refine lv_goto (tgt := 90) hx hb dX9_here_86 (by decide) ?_
      obtain rfl := Option.some.inj hf
      exact zreti X hQ hP hD hS ⟨rfl, rfl⟩ rfl dX9_here_90 (Nat.le_of_ble_eq_true rfl) (Nat.le_of_ble_eq_true rfl)
  unfold zf_X9_here at hf
  refine lv_aload_n hx hb dX9_here_0 rfl (lv_at hl 0 rfl) ?_
  refine zget X hP 0 rfl rfl inF9 4 (by decide) q_1336 rfl dX9_here_1 ?_
  refine lv_aload_n hx hb dX9_here_4 rfl (lv_at hl 0 rfl) ?_
  refine zget X hP 0 rfl rfl inF9 3 (by decide) q_1335 rfl dX9_here_5 ?_
  refine lv_icmp_ge (tgt := 66) hx hb dX9_here_8 (by decide) (fun c8 => ?_) (fun c8 => ?_)
  · replace hf := zt c8 hf
    exact J66 f_at hf _ _ _ hl hP hD hS
  · replace hf := ze c8 hf
    refine lv_aload_n hx hb dX9_here_11 rfl (lv_at hl 0 rfl) ?_
    refine zget X hP 0 rfl rfl inF9 1 (by decide) q_1333 rfl dX9_here_12 ?_
    refine lv_aload_n hx hb dX9_here_15 rfl (lv_at hl 0 rfl) ?_
    refine zget X hP 0 rfl rfl inF9 4 (by decide) q_1336 rfl dX9_here_16 ?_
    obtain ⟨g19, hf⟩ := zg hf
    refine va_iald hx hb hK hP 1 0 rfl rfl g19 dX9_here_19 ?_
    refine lv_bipush (v := 32) hx hb dX9_here_20 (by decide) ?_
    refine lv_icmp_eq (tgt := 53) hx hb dX9_here_22 (by decide) (fun c22 => ?_) (fun c22 => ?_)
    · replace hf := zt c22 hf
      refine lv_aload_n hx hb dX9_here_53 rfl (lv_at hl 0 rfl) ?_
      refine lv_dup hx hb dX9_here_54 rfl ?_
      refine zget X hP 0 rfl rfl inF9 4 (by decide) q_1336 rfl dX9_here_55 ?_
      refine lv_iconst (v := 1) hx hb dX9_here_58 (by decide) ?_
      refine lv_iadd hx hb dX9_here_59 ?_
      refine zput (ty := .int) X hP hD hS 0 rfl rfl inF9 tyX9_ok nmX9 4 (by decide) q_1336 rfl rfl rfl rfl (Nat.le_of_ble_eq_true rfl) dX9_here_60 (fun H locs hP hD hS => ?_)
      have hP : va_P D vwCl [(a_this, .inr (9, .int f_thrown :: .ref a_tape :: .int f_taped :: .int f_size :: .int (f_at + (1 : Int32)) :: .int f_fault :: .int f_newColumns :: .int f_newRows :: .ref a_newTold :: .ref a_newHas :: .ref a_newStone :: .int f_columns :: .int f_rows :: .ref a_told :: .ref a_stone :: .int f_acts :: .ref a_pastTold :: .ref a_pastStone :: .ref a_pastColumns :: .ref a_pastRows :: .int f_isLaid :: .ref a_many :: .ref a_number :: .ref a_ways :: .ref a_placeOf :: .ref a_label :: .ref a_old :: .ref a_isOpen :: .ref a_freeOnes :: .ref a_joins :: .ref a_given :: .ref a_decided :: .ref a_wet :: .int f_seed :: .int f_frees :: .ref a_order :: .int f_isKept :: .int f_keptHalf :: .int f_keptFree :: .ref a_kept :: .ref a_written :: .int f_writtenMany :: [])), (a_tape, .inl (y.1, 400, .inl c_tape))] H := hP
      have hD : va_D A [(a_this, .inr (9, .int f_thrown :: .ref a_tape :: .int f_taped :: .int f_size :: .int (f_at + (1 : Int32)) :: .int f_fault :: .int f_newColumns :: .int f_newRows :: .ref a_newTold :: .ref a_newHas :: .ref a_newStone :: .int f_columns :: .int f_rows :: .ref a_told :: .ref a_stone :: .int f_acts :: .ref a_pastTold :: .ref a_pastStone :: .ref a_pastColumns :: .ref a_pastRows :: .int f_isLaid :: .ref a_many :: .ref a_number :: .ref a_ways :: .ref a_placeOf :: .ref a_label :: .ref a_old :: .ref a_isOpen :: .ref a_freeOnes :: .ref a_joins :: .ref a_given :: .ref a_decided :: .ref a_wet :: .int f_seed :: .int f_frees :: .ref a_order :: .int f_isKept :: .int f_keptHalf :: .int f_keptFree :: .ref a_kept :: .ref a_written :: .int f_writtenMany :: [])), (a_tape, .inl (y.1, 400, .inl c_tape))] := hD
      refine lv_goto (tgt := 0) hx hb dX9_here_63 (by decide) ?_
      obtain ⟨o0, ho0, hf⟩ := zb hf
      refine L0 zfu (f_at + (1 : Int32)) o0 ho0 _ _ _ hl hP hD hS (fun H locs ls hl hP hD hS => ?_)
      exact J66 o0 hf _ _ _ hl hP hD hS
    · replace hf := ze c22 hf
      refine lv_aload_n hx hb dX9_here_25 rfl (lv_at hl 0 rfl) ?_
      refine zget X hP 0 rfl rfl inF9 1 (by decide) q_1333 rfl dX9_here_26 ?_
      refine lv_aload_n hx hb dX9_here_29 rfl (lv_at hl 0 rfl) ?_
      refine zget X hP 0 rfl rfl inF9 4 (by decide) q_1336 rfl dX9_here_30 ?_
      obtain ⟨g33, hf⟩ := zg hf
      refine va_iald hx hb hK hP 1 0 rfl rfl g33 dX9_here_33 ?_
      refine lv_bipush (v := 9) hx hb dX9_here_34 (by decide) ?_
      refine lv_icmp_eq (tgt := 53) hx hb dX9_here_36 (by decide) (fun c36 => ?_) (fun c36 => ?_)
      · replace hf := zt c36 hf
        refine lv_aload_n hx hb dX9_here_53 rfl (lv_at hl 0 rfl) ?_
        refine lv_dup hx hb dX9_here_54 rfl ?_
        refine zget X hP 0 rfl rfl inF9 4 (by decide) q_1336 rfl dX9_here_55 ?_
        refine lv_iconst (v := 1) hx hb dX9_here_58 (by decide) ?_
        refine lv_iadd hx hb dX9_here_59 ?_
        refine zput (ty := .int) X hP hD hS 0 rfl rfl inF9 tyX9_ok nmX9 4 (by decide) q_1336 rfl rfl rfl rfl (Nat.le_of_ble_eq_true rfl) dX9_here_60 (fun H locs hP hD hS => ?_)
        have hP : va_P D vwCl [(a_this, .inr (9, .int f_thrown :: .ref a_tape :: .int f_taped :: .int f_size :: .int (f_at + (1 : Int32)) :: .int f_fault :: .int f_newColumns :: .int f_newRows :: .ref a_newTold :: .ref a_newHas :: .ref a_newStone :: .int f_columns :: .int f_rows :: .ref a_told :: .ref a_stone :: .int f_acts :: .ref a_pastTold :: .ref a_pastStone :: .ref a_pastColumns :: .ref a_pastRows :: .int f_isLaid :: .ref a_many :: .ref a_number :: .ref a_ways :: .ref a_placeOf :: .ref a_label :: .ref a_old :: .ref a_isOpen :: .ref a_freeOnes :: .ref a_joins :: .ref a_given :: .ref a_decided :: .ref a_wet :: .int f_seed :: .int f_frees :: .ref a_order :: .int f_isKept :: .int f_keptHalf :: .int f_keptFree :: .ref a_kept :: .ref a_written :: .int f_writtenMany :: [])), (a_tape, .inl (y.1, 400, .inl c_tape))] H := hP
        have hD : va_D A [(a_this, .inr (9, .int f_thrown :: .ref a_tape :: .int f_taped :: .int f_size :: .int (f_at + (1 : Int32)) :: .int f_fault :: .int f_newColumns :: .int f_newRows :: .ref a_newTold :: .ref a_newHas :: .ref a_newStone :: .int f_columns :: .int f_rows :: .ref a_told :: .ref a_stone :: .int f_acts :: .ref a_pastTold :: .ref a_pastStone :: .ref a_pastColumns :: .ref a_pastRows :: .int f_isLaid :: .ref a_many :: .ref a_number :: .ref a_ways :: .ref a_placeOf :: .ref a_label :: .ref a_old :: .ref a_isOpen :: .ref a_freeOnes :: .ref a_joins :: .ref a_given :: .ref a_decided :: .ref a_wet :: .int f_seed :: .int f_frees :: .ref a_order :: .int f_isKept :: .int f_keptHalf :: .int f_keptFree :: .ref a_kept :: .ref a_written :: .int f_writtenMany :: [])), (a_tape, .inl (y.1, 400, .inl c_tape))] := hD
        refine lv_goto (tgt := 0) hx hb dX9_here_63 (by decide) ?_
        obtain ⟨o0, ho0, hf⟩ := zb hf
        refine L0 zfu (f_at + (1 : Int32)) o0 ho0 _ _ _ hl hP hD hS (fun H locs ls hl hP hD hS => ?_)
        exact J66 o0 hf _ _ _ hl hP hD hS
      · replace hf := ze c36 hf
        refine lv_aload_n hx hb dX9_here_39 rfl (lv_at hl 0 rfl) ?_
        refine zget X hP 0 rfl rfl inF9 1 (by decide) q_1333 rfl dX9_here_40 ?_
        refine lv_aload_n hx hb dX9_here_43 rfl (lv_at hl 0 rfl) ?_
        refine zget X hP 0 rfl rfl inF9 4 (by decide) q_1336 rfl dX9_here_44 ?_
        obtain ⟨g47, hf⟩ := zg hf
        refine va_iald hx hb hK hP 1 0 rfl rfl g47 dX9_here_47 ?_
        refine lv_bipush (v := 10) hx hb dX9_here_48 (by decide) ?_
        refine lv_icmp_ne (tgt := 66) hx hb dX9_here_50 (by decide) (fun c50 => ?_) (fun c50 => ?_)
        · replace hf := ze c50 hf
          exact J66 f_at hf _ _ _ hl hP hD hS
        · replace hf := zt c50 hf
          refine lv_aload_n hx hb dX9_here_53 rfl (lv_at hl 0 rfl) ?_
          refine lv_dup hx hb dX9_here_54 rfl ?_
          refine zget X hP 0 rfl rfl inF9 4 (by decide) q_1336 rfl dX9_here_55 ?_
          refine lv_iconst (v := 1) hx hb dX9_here_58 (by decide) ?_
          refine lv_iadd hx hb dX9_here_59 ?_
          refine zput (ty := .int) X hP hD hS 0 rfl rfl inF9 tyX9_ok nmX9 4 (by decide) q_1336 rfl rfl rfl rfl (Nat.le_of_ble_eq_true rfl) dX9_here_60 (fun H locs hP hD hS => ?_)
          have hP : va_P D vwCl [(a_this, .inr (9, .int f_thrown :: .ref a_tape :: .int f_taped :: .int f_size :: .int (f_at + (1 : Int32)) :: .int f_fault :: .int f_newColumns :: .int f_newRows :: .ref a_newTold :: .ref a_newHas :: .ref a_newStone :: .int f_columns :: .int f_rows :: .ref a_told :: .ref a_stone :: .int f_acts :: .ref a_pastTold :: .ref a_pastStone :: .ref a_pastColumns :: .ref a_pastRows :: .int f_isLaid :: .ref a_many :: .ref a_number :: .ref a_ways :: .ref a_placeOf :: .ref a_label :: .ref a_old :: .ref a_isOpen :: .ref a_freeOnes :: .ref a_joins :: .ref a_given :: .ref a_decided :: .ref a_wet :: .int f_seed :: .int f_frees :: .ref a_order :: .int f_isKept :: .int f_keptHalf :: .int f_keptFree :: .ref a_kept :: .ref a_written :: .int f_writtenMany :: [])), (a_tape, .inl (y.1, 400, .inl c_tape))] H := hP
          have hD : va_D A [(a_this, .inr (9, .int f_thrown :: .ref a_tape :: .int f_taped :: .int f_size :: .int (f_at + (1 : Int32)) :: .int f_fault :: .int f_newColumns :: .int f_newRows :: .ref a_newTold :: .ref a_newHas :: .ref a_newStone :: .int f_columns :: .int f_rows :: .ref a_told :: .ref a_stone :: .int f_acts :: .ref a_pastTold :: .ref a_pastStone :: .ref a_pastColumns :: .ref a_pastRows :: .int f_isLaid :: .ref a_many :: .ref a_number :: .ref a_ways :: .ref a_placeOf :: .ref a_label :: .ref a_old :: .ref a_isOpen :: .ref a_freeOnes :: .ref a_joins :: .ref a_given :: .ref a_decided :: .ref a_wet :: .int f_seed :: .int f_frees :: .ref a_order :: .int f_isKept :: .int f_keptHalf :: .int f_keptFree :: .ref a_kept :: .ref a_written :: .int f_writtenMany :: [])), (a_tape, .inl (y.1, 400, .inl c_tape))] := hD
          refine lv_goto (tgt := 0) hx hb dX9_here_63 (by decide) ?_
          obtain ⟨o0, ho0, hf⟩ := zb hf
          refine L0 zfu (f_at + (1 : Int32)) o0 ho0 _ _ _ hl hP hD hS (fun H locs ls hl hP hD hS => ?_)
          exact J66 o0 hf _ _ _ hl hP hD hS

