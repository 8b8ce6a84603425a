
abbrev rm_X6_append : Room := { frames := 0, cells := 0, slots := 0, locals := 0 }
def zf_X6_append_45 (f_length : Int32) (c_bytes : Nat → Int32) (x2 : Int32) : Option ((Int32 × Int32 × (Nat → Int32)) ⊕ ((Int32 × (Nat → Int32)))) :=
  some (.inl (x2 + (-8 : Int32), f_length, c_bytes))
def zf_X6_append_l3 (x1 : Int32) (x2 : Int32) (f_length : Int32) (c_bytes : Nat → Int32) : Option ((Int32 × Int32 × (Nat → Int32)) ⊕ ((Int32 × (Nat → Int32)))) :=
  if x2 < 0 then (some (.inr (f_length, c_bytes))) else (if (400 : Int32) ≤ f_length then (zf_X6_append_45 f_length c_bytes x2) else (if zgd f_length 400 = true then (zf_X6_append_45 (f_length + (1 : Int32)) (upd c_bytes f_length.toNatClampNeg ((zushr x1 x2) &&& (255 : Int32))) x2) else none))
def zf_X6_append (f_length : Int32) (c_bytes : Nat → Int32) (x1 : Int32) : Option (Int32 × (Nat → Int32)) :=
  (zit (fun d => zf_X6_append_l3 x1 d.1 d.2.1 d.2.2) zfu ((24 : Int32), f_length, c_bytes)).bind fun o3 =>
  some (o3.1, o3.2)
set_option maxHeartbeats 4000000 in
set_option maxRecDepth 100000 in
theorem zc_X6_append (l : Launch) (D : va_G) (y : zY) (a_this a_bytes : Nat) (f_length : Int32) (f_at : Int32) (f_began : Int32) (f_fault : Int32) (c_bytes : Nat → Int32) (x1 : Int32) (out : Int32 × (Nat → Int32)) (hf : zf_X6_append f_length c_bytes x1 = some out) : zC l D y yX6_append cX6_append 3 (none : Option Jvm.ClassFile.FieldType) rm_X6_append [.ref a_this, .int x1] [(a_this, .inr (6, [.ref a_bytes, .int f_length, .int f_at, .int f_began, .int f_fault])), (a_bytes, .inl (y.1, 400, .inl c_bytes))] (zE none [(a_this, .inr (6, [.ref a_bytes, .int out.1, .int f_at, .int f_began, .int f_fault])), (a_bytes, .inl (y.1, 400, .inl out.2))]) := by
  refine zmk (by decide) (Nat.le_of_ble_eq_true rfl) ?_
  intro p e s m args below meth c A Q ls X hQ hnm hP hD hS hl
  have X : zX p s m args meth c D y A RX6 cX6_append 3 (none : Option Jvm.ClassFile.FieldType) := X
  obtain ⟨hx, hb, hr, hml, hown, hts, hK, hA, hlocks⟩ := id X
  have hl : lv_has ls 3 [(0, .ref a_this), (1, .int x1)] := hl
  have L3 : ∀ (n : Nat) (x1 : Int32) (x2 : Int32) (f_length : Int32) (c_bytes : Nat → Int32) (x : (Int32 × (Nat → Int32))), zit (fun d => zf_X6_append_l3 x1 d.1 d.2.1 d.2.2) n (x2, f_length, c_bytes) = some x → ∀ (H : Heap) (locs : List Loc) (ls : Array Slot), lv_has ls 3 [(0, .ref a_this), (1, .int x1), (2, .int x2)] → va_P D vwCl [(a_this, .inr (6, [.ref a_bytes, .int f_length, .int f_at, .int f_began, .int f_fault])), (a_bytes, .inl (y.1, 400, .inl c_bytes))] H → va_D A [(a_this, .inr (6, [.ref a_bytes, .int f_length, .int f_at, .int f_began, .int f_fault])), (a_bytes, .inl (y.1, 400, .inl c_bytes))] → va_S A s.heap H locs → (∀ (H : Heap) (locs : List Loc) (ls : Array Slot), lv_has ls 3 [] → va_P D vwCl [(a_this, .inr (6, [.ref a_bytes, .int x.1, .int f_at, .int f_began, .int f_fault])), (a_bytes, .inl (y.1, 400, .inl x.2))] H → va_D A [(a_this, .inr (6, [.ref a_bytes, .int x.1, .int f_at, .int f_began, .int f_fault])), (a_bytes, .inl (y.1, 400, .inl x.2))] → va_S A s.heap H locs → W p l e rm_X6_append s m args below meth c H locs 0 0 Q (F0 m 51 ls [])) → W p l e rm_X6_append s m args below meth c H locs 0 0 Q (F0 m 3 ls []) := by
    intro n
    induction n with
    | zero => intro x1 x2 f_length c_bytes x h; exact (zi0 h).elim
    | succ n ih =>
      intro x1 x2 f_length c_bytes x h H locs ls hl hP hD hS K51
      obtain ⟨r, hf, h⟩ := zis h
      have hf : zf_X6_append_l3 x1 x2 f_length c_bytes = some r := hf
      have J45 : ∀ (x2 : Int32) (f_length : Int32) (c_bytes : Nat → Int32), zf_X6_append_45 f_length c_bytes x2 = some r → ∀ (H : Heap) (locs : List Loc) (ls : Array Slot), lv_has ls 3 [(0, .ref a_this), (1, .int x1), (2, .int x2)] → va_P D vwCl [(a_this, .inr (6, [.ref a_bytes, .int f_length, .int f_at, .int f_began, .int f_fault])), (a_bytes, .inl (y.1, 400, .inl c_bytes))] H → va_D A [(a_this, .inr (6, [.ref a_bytes, .int f_length, .int f_at, .int f_began, .int f_fault])), (a_bytes, .inl (y.1, 400, .inl c_bytes))] → va_S A s.heap H locs → W p l e rm_X6_append s m args below meth c H locs 0 0 Q (F0 m 45 ls []) := by
        intro x2 f_length c_bytes hf H locs ls hl hP hD hS
        unfold zf_X6_append_45 at hf
        refine lv_iinc (v := x2 + (-8 : Int32)) (lv' := [(2, .int (x2 + (-8 : Int32))), (0, .ref a_this), (1, .int x1)]) hx hb dX6_append_45 hl (k := 2) rfl rfl (by decide) rfl (fun ls hl => ?_)
        refine lv_goto (tgt := 3) hx hb dX6_append_48 (by decide) ?_
        obtain rfl := Option.some.inj hf
        exact ih x1 (x2 + (-8 : Int32)) f_length c_bytes x h _ _ _ (lv_sub hl [1, 2, 0] rfl) hP hD hS K51
      unfold zf_X6_append_l3 at hf
      refine lv_iload_n hx hb dX6_append_3 rfl (lv_at hl 2 rfl) ?_
      refine lv_if_lt (tgt := 51) hx hb dX6_append_4 (by decide) (fun c4 => ?_) (fun c4 => ?_)
      · replace hf := zt c4 hf
        obtain rfl := Option.some.inj hf
        obtain rfl := Option.some.inj h
        exact K51 _ _ _ (lv_sub hl [] rfl) hP hD hS
      · replace hf := ze c4 hf
        refine lv_aload_n hx hb dX6_append_7 rfl (lv_at hl 0 rfl) ?_
        refine zget X hP 0 rfl rfl inF6 1 (by decide) q_42 rfl dX6_append_8 ?_
        refine lv_aload_n hx hb dX6_append_11 rfl (lv_at hl 0 rfl) ?_
        refine zget X hP 0 rfl rfl inF6 0 (by decide) q_40 rfl dX6_append_12 ?_
        refine va_alen (v := (400 : Int32)) hx hb hK hP 1 0 rfl rfl rfl dX6_append_15 ?_
        refine lv_icmp_ge (tgt := 45) hx hb dX6_append_16 (by decide) (fun c16 => ?_) (fun c16 => ?_)
        · replace hf := zt c16 hf
          exact J45 x2 f_length c_bytes hf _ _ _ hl hP hD hS
        · replace hf := ze c16 hf
          refine lv_aload_n hx hb dX6_append_19 rfl (lv_at hl 0 rfl) ?_
          refine zget X hP 0 rfl rfl inF6 0 (by decide) q_40 rfl dX6_append_20 ?_
          refine lv_aload_n hx hb dX6_append_23 rfl (lv_at hl 0 rfl) ?_
          refine zget X hP 0 rfl rfl inF6 1 (by decide) q_42 rfl dX6_append_24 ?_
          refine lv_iload_n hx hb dX6_append_27 rfl (lv_at hl 1 rfl) ?_
          refine lv_iload_n hx hb dX6_append_28 rfl (lv_at hl 2 rfl) ?_
          refine lv_iushr (v := zushr x1 x2) hx hb dX6_append_29 rfl ?_
          refine lv_sipush (v := 255) hx hb dX6_append_30 (by decide) ?_
          refine lv_iand hx hb dX6_append_33 ?_
          obtain ⟨g34, hf⟩ := zg hf
          refine va_iast hx hb hK hP hD hS 1 0 rfl rfl g34 dX6_append_34 (fun H locs hP hD hS => ?_)
          have hP : va_P D vwCl [(a_this, .inr (6, [.ref a_bytes, .int f_length, .int f_at, .int f_began, .int f_fault])), (a_bytes, .inl (y.1, 400, .inl (upd c_bytes f_length.toNatClampNeg ((zushr x1 x2) &&& (255 : Int32)))))] H := hP
          have hD : va_D A [(a_this, .inr (6, [.ref a_bytes, .int f_length, .int f_at, .int f_began, .int f_fault])), (a_bytes, .inl (y.1, 400, .inl (upd c_bytes f_length.toNatClampNeg ((zushr x1 x2) &&& (255 : Int32)))))] := hD
          refine lv_aload_n hx hb dX6_append_35 rfl (lv_at hl 0 rfl) ?_
          refine lv_dup hx hb dX6_append_36 rfl ?_
          refine zget X hP 0 rfl rfl inF6 1 (by decide) q_42 rfl dX6_append_37 ?_
          refine lv_iconst (v := 1) hx hb dX6_append_40 (by decide) ?_
          refine lv_iadd hx hb dX6_append_41 ?_
          refine zput (ty := .int) X hP hD hS 0 rfl rfl inF6 tyX6_ok nmX6 1 (by decide) q_42 rfl rfl rfl rfl (Nat.le_of_ble_eq_true rfl) dX6_append_42 (fun H locs hP hD hS => ?_)
          have hP : va_P D vwCl [(a_this, .inr (6, [.ref a_bytes, .int (f_length + (1 : Int32)), .int f_at, .int f_began, .int f_fault])), (a_bytes, .inl (y.1, 400, .inl (upd c_bytes f_length.toNatClampNeg ((zushr x1 x2) &&& (255 : Int32)))))] H := hP
          have hD : va_D A [(a_this, .inr (6, [.ref a_bytes, .int (f_length + (1 : Int32)), .int f_at, .int f_began, .int f_fault])), (a_bytes, .inl (y.1, 400, .inl (upd c_bytes f_length.toNatClampNeg ((zushr x1 x2) &&& (255 : Int32)))))] := hD
          exact J45 x2 (f_length + (1 : Int32)) (upd c_bytes f_length.toNatClampNeg ((zushr x1 x2) &&& (255 : Int32))) hf _ _ _ hl hP hD hS
  unfold zf_X6_append at hf
  refine lv_bipush (v := 24) hx hb dX6_append_0 (by decide) ?_
  refine lv_istore_n (lv' := [(2, .int (24 : Int32)), (0, .ref a_this), (1, .int x1)]) hx hb dX6_append_2 rfl hl (by decide) rfl (fun ls hl => ?_)
  obtain ⟨o3, ho3, hf⟩ := zb hf
  refine L3 zfu x1 (24 : Int32) f_length c_bytes o3 ho3 _ _ _ (lv_sub hl [1, 2, 0] rfl) hP hD hS (fun H locs ls hl hP hD hS => ?_)
  obtain rfl := Option.some.inj hf
  exact zretv X hQ hP hD hS ⟨rfl, rfl⟩ dX6_append_51 (Nat.le_of_ble_eq_true rfl) (Nat.le_of_ble_eq_true rfl)


abbrev rm_X6_restart : Room := { frames := 0, cells := 0, slots := 0, locals := 0 }
def zf_X6_restart  : Option (Int32 × Int32 × Int32) :=
  some ((0 : Int32), (0 : Int32), (-1 : Int32))
set_option maxHeartbeats 4000000 in
set_option maxRecDepth 100000 in
theorem zc_X6_restart (l : Launch) (D : va_G) (y : zY) (a_this a_bytes : Nat) (f_length : Int32) (f_at : Int32) (f_began : Int32) (f_fault : Int32) (out : Int32 × Int32 × Int32) (hf : zf_X6_restart = some out) : zC l D y yX6_restart cX6_restart 1 (none : Option Jvm.ClassFile.FieldType) rm_X6_restart [.ref a_this] [(a_this, .inr (6, [.ref a_bytes, .int f_length, .int f_at, .int f_began, .int f_fault]))] (zE none [(a_this, .inr (6, [.ref a_bytes, .int f_length, .int out.1, .int out.2.1, .int out.2.2]))]) := by
  refine zmk (by decide) (Nat.le_of_ble_eq_true rfl) ?_
  intro p e s m args below meth c A Q ls X hQ hnm hP hD hS hl
  have X : zX p s m args meth c D y A RX6 cX6_restart 1 (none : Option Jvm.ClassFile.FieldType) := X
  obtain ⟨hx, hb, hr, hml, hown, hts, hK, hA, hlocks⟩ := id X
  have hl : lv_has ls 1 [(0, .ref a_this)] := hl
  unfold zf_X6_restart at hf
  refine lv_aload_n hx hb dX6_restart_0 rfl (lv_at hl 0 rfl) ?_
  refine lv_iconst (v := 0) hx hb dX6_restart_1 (by decide) ?_
  refine zput (ty := .int) X hP hD hS 0 rfl rfl inF6 tyX6_ok nmX6 2 (by decide) q_44 rfl rfl rfl rfl (Nat.le_of_ble_eq_true rfl) dX6_restart_2 (fun H locs hP hD hS => ?_)
  have hP : va_P D vwCl [(a_this, .inr (6, [.ref a_bytes, .int f_length, .int (0 : Int32), .int f_began, .int f_fault]))] H := hP
  have hD : va_D A [(a_this, .inr (6, [.ref a_bytes, .int f_length, .int (0 : Int32), .int f_began, .int f_fault]))] := hD
  refine lv_aload_n hx hb dX6_restart_5 rfl (lv_at hl 0 rfl) ?_
  refine lv_iconst (v := 0) hx hb dX6_restart_6 (by decide) ?_
  refine zput (ty := .int) X hP hD hS 0 rfl rfl inF6 tyX6_ok nmX6 3 (by decide) q_45 rfl rfl rfl rfl (Nat.le_of_ble_eq_true rfl) dX6_restart_7 (fun H locs hP hD hS => ?_)
  have hP : va_P D vwCl [(a_this, .inr (6, [.ref a_bytes, .int f_length, .int (0 : Int32), .int (0 : Int32), .int f_fault]))] H := hP
  have hD : va_D A [(a_this, .inr (6, [.ref a_bytes, .int f_length, .int (0 : Int32), .int (0 : Int32), .int f_fault]))] := hD
  refine lv_aload_n hx hb dX6_restart_10 rfl (lv_at hl 0 rfl) ?_
  refine lv_iconst (v := -1) hx hb dX6_restart_11 (by decide) ?_
  refine zput (ty := .int) X hP hD hS 0 rfl rfl inF6 tyX6_ok nmX6 4 (by decide) q_46 rfl rfl rfl rfl (Nat.le_of_ble_eq_true rfl) dX6_restart_12 (fun H locs hP hD hS => ?_)
  have hP : va_P D vwCl [(a_this, .inr (6, [.ref a_bytes, .int f_length, .int (0 : Int32), .int (0 : Int32), .int (-1 : Int32)]))] H := hP
  have hD : va_D A [(a_this, .inr (6, [.ref a_bytes, .int f_length, .int (0 : Int32), .int (0 : Int32), .int (-1 : Int32)]))] := hD
  obtain rfl := Option.some.inj hf
  exact zretv X hQ hP hD hS ⟨rfl, rfl⟩ dX6_restart_15 (Nat.le_of_ble_eq_true rfl) (Nat.le_of_ble_eq_true rfl)


abbrev rm_X6_skipBlanks : Room := { frames := 0, cells := 0, slots := 0, locals := 0 }
def zf_X6_skipBlanks_49 (x1 : Int32) : Option ((Int32 × Int32) ⊕ ((Int32) ⊕ (Int32))) :=
  some (.inl (x1 + (1 : Int32), x1 + (1 : Int32)))
def zf_X6_skipBlanks_l5 (f_length : Int32) (c_bytes : Nat → Int32) (x1 : Int32) (f_at : Int32) : Option ((Int32 × Int32) ⊕ ((Int32) ⊕ (Int32))) :=
  if f_length ≤ x1 then (some (.inr (.inl f_at))) else (if zgd x1 400 = true then (if (c_bytes x1.toNatClampNeg) = (9 : Int32) then (zf_X6_skipBlanks_49 x1) else (if zgd x1 400 = true then (if (c_bytes x1.toNatClampNeg) = (10 : Int32) then (zf_X6_skipBlanks_49 x1) else (if zgd x1 400 = true then (if (c_bytes x1.toNatClampNeg) = (32 : Int32) then (zf_X6_skipBlanks_49 x1) else (some (.inr (.inr f_at)))) else none)) else none)) else none)
def zf_X6_skipBlanks (f_length : Int32) (f_at : Int32) (c_bytes : Nat → Int32) : Option (Int32) :=
  (zit (fun d => zf_X6_skipBlanks_l5 f_length c_bytes d.1 d.2) zfu (f_at, f_at)).bind fun o5 =>
  Sum.elim (fun e5 => some e5) (fun e5 => some e5) o5
set_option maxHeartbeats 4000000 in
set_option maxRecDepth 100000 in
theorem zc_X6_skipBlanks (l : Launch) (D : va_G) (y : zY) (a_this a_bytes : Nat) (f_length : Int32) (f_at : Int32) (f_began : Int32) (f_fault : Int32) (c_bytes : Nat → Int32) (out : Int32) (hf : zf_X6_skipBlanks f_length f_at c_bytes = some out) : zC l D y yX6_skipBlanks cX6_skipBlanks 2 (none : Option Jvm.ClassFile.FieldType) rm_X6_skipBlanks [.ref a_this] [(a_this, .inr (6, [.ref a_bytes, .int f_length, .int f_at, .int f_began, .int f_fault])), (a_bytes, .inl (y.1, 400, .inl c_bytes))] (zE none [(a_this, .inr (6, [.ref a_bytes, .int f_length, .int out, .int f_began, .int f_fault])), (a_bytes, .inl (y.1, 400, .inl c_bytes))]) := by
  refine zmk (by decide) (Nat.le_of_ble_eq_true rfl) ?_
  intro p e s m args below meth c A Q ls X hQ hnm hP hD hS hl
  have X : zX p s m args meth c D y A RX6 cX6_skipBlanks 2 (none : Option Jvm.ClassFile.FieldType) := X
  obtain ⟨hx, hb, hr, hml, hown, hts, hK, hA, hlocks⟩ := id X
  have hl : lv_has ls 2 [(0, .ref a_this)] := hl
  have L5 : ∀ (n : Nat) (x1 : Int32) (f_at : Int32) (x : (Int32) ⊕ (Int32)), zit (fun d => zf_X6_skipBlanks_l5 f_length c_bytes d.1 d.2) n (x1, f_at) = some x → ∀ (H : Heap) (locs : List Loc) (ls : Array Slot), lv_has ls 2 [(0, .ref a_this), (1, .int x1)] → va_P D vwCl [(a_this, .inr (6, [.ref a_bytes, .int f_length, .int f_at, .int f_began, .int f_fault])), (a_bytes, .inl (y.1, 400, .inl c_bytes))] H → va_D A [(a_this, .inr (6, [.ref a_bytes, .int f_length, .int f_at, .int f_began, .int f_fault])), (a_bytes, .inl (y.1, 400, .inl c_bytes))] → va_S A s.heap H locs → (∀ (ee : Int32), x = .inl ee → ∀ (H : Heap) (locs : List Loc) (ls : Array Slot), lv_has ls 2 [] → va_P D vwCl [(a_this, .inr (6, [.ref a_bytes, .int f_length, .int ee, .int f_began, .int f_fault])), (a_bytes, .inl (y.1, 400, .inl c_bytes))] H → va_D A [(a_this, .inr (6, [.ref a_bytes, .int f_length, .int ee, .int f_began, .int f_fault])), (a_bytes, .inl (y.1, 400, .inl c_bytes))] → va_S A s.heap H locs → W p l e rm_X6_skipBlanks s m args below meth c H locs 0 0 Q (F0 m 62 ls [])) → (∀ (ee : Int32), x = (.inr ee) → ∀ (H : Heap) (locs : List Loc) (ls : Array Slot), lv_has ls 2 [] → va_P D vwCl [(a_this, .inr (6, [.ref a_bytes, .int f_length, .int ee, .int f_began, .int f_fault])), (a_bytes, .inl (y.1, 400, .inl c_bytes))] H → va_D A [(a_this, .inr (6, [.ref a_bytes, .int f_length, .int ee, .int f_began, .int f_fault])), (a_bytes, .inl (y.1, 400, .inl c_bytes))] → va_S A s.heap H locs → W p l e rm_X6_skipBlanks s m args below meth c H locs 0 0 Q (F0 m 46 ls [])) → W p l e rm_X6_skipBlanks s m args below meth c H locs 0 0 Q (F0 m 5 ls []) := by
    intro n
    induction n with
    | zero => intro x1 f_at x h; exact (zi0 h).elim
    | succ n ih =>
      intro x1 f_at x h H locs ls hl hP hD hS K62 K46
      obtain ⟨r, hf, h⟩ := zis h
      have hf : zf_X6_skipBlanks_l5 f_length c_bytes x1 f_at = some r := hf
      have J49 : ∀ (x1 : Int32) (f_at : Int32), zf_X6_skipBlanks_49 x1 = some r → ∀ (H : Heap) (locs : List Loc) (ls : Array Slot), lv_has ls 2 [(0, .ref a_this), (1, .int x1)] → va_P D vwCl [(a_this, .inr (6, [.ref a_bytes, .int f_length, .int f_at, .int f_began, .int f_fault])), (a_bytes, .inl (y.1, 400, .inl c_bytes))] H → va_D A [(a_this, .inr (6, [.ref a_bytes, .int f_length, .int f_at, .int f_began, .int f_fault])), (a_bytes, .inl (y.1, 400, .inl c_bytes))] → va_S A s.heap H locs → W p l e rm_X6_skipBlanks s m args below meth c H locs 0 0 Q (F0 m 49 ls []) := by
        intro x1 f_at hf H locs ls hl hP hD hS
        unfold zf_X6_skipBlanks_49 at hf
        refine lv_aload_n hx hb dX6_skipBlanks_49 rfl (lv_at hl 0 rfl) ?_
        refine lv_iload_n hx hb dX6_skipBlanks_50 rfl (lv_at hl 1 rfl) ?_
        refine lv_iconst (v := 1) hx hb dX6_skipBlanks_51 (by decide) ?_
        refine lv_iadd hx hb dX6_skipBlanks_52 ?_
        refine zput (ty := .int) X hP hD hS 0 rfl rfl inF6 tyX6_ok nmX6 2 (by decide) q_44 rfl rfl rfl rfl (Nat.le_of_ble_eq_true rfl) dX6_skipBlanks_53 (fun H locs hP hD hS => ?_)
        have hP : va_P D vwCl [(a_this, .inr (6, [.ref a_bytes, .int f_length, .int (x1 + (1 : Int32)), .int f_began, .int f_fault])), (a_bytes, .inl (y.1, 400, .inl c_bytes))] H := hP
        have hD : va_D A [(a_this, .inr (6, [.ref a_bytes, .int f_length, .int (x1 + (1 : Int32)), .int f_began, .int f_fault])), (a_bytes, .inl (y.1, 400, .inl c_bytes))] := hD
        refine lv_iinc (v := x1 + (1 : Int32)) (lv' := [(1, .int (x1 + (1 : Int32))), (0, .ref a_this)]) hx hb dX6_skipBlanks_56 hl (k := 1) rfl rfl (by decide) rfl (fun ls hl => ?_)
        refine lv_goto (tgt := 5) hx hb dX6_skipBlanks_59 (by decide) ?_
        obtain rfl := Option.some.inj hf
        exact ih (x1 + (1 : Int32)) (x1 + (1 : Int32)) x h _ _ _ (lv_sub hl [1, 0] rfl) hP hD hS K62 K46
      unfold zf_X6_skipBlanks_l5 at hf
      refine lv_iload_n hx hb dX6_skipBlanks_5 rfl (lv_at hl 1 rfl) ?_
      refine lv_aload_n hx hb dX6_skipBlanks_6 rfl (lv_at hl 0 rfl) ?_
      refine zget X hP 0 rfl rfl inF6 1 (by decide) q_42 rfl dX6_skipBlanks_7 ?_
      refine lv_icmp_ge (tgt := 62) hx hb dX6_skipBlanks_10 (by decide) (fun c10 => ?_) (fun c10 => ?_)
      · replace hf := zt c10 hf
        obtain rfl := Option.some.inj hf
        obtain rfl := Option.some.inj h
        exact K62 _ rfl _ _ _ (lv_sub hl [] rfl) hP hD hS
      · replace hf := ze c10 hf
        refine lv_aload_n hx hb dX6_skipBlanks_13 rfl (lv_at hl 0 rfl) ?_
        refine zget X hP 0 rfl rfl inF6 0 (by decide) q_40 rfl dX6_skipBlanks_14 ?_
        refine lv_iload_n hx hb dX6_skipBlanks_17 rfl (lv_at hl 1 rfl) ?_
        obtain ⟨g18, hf⟩ := zg hf
        refine va_iald hx hb hK hP 1 0 rfl rfl g18 dX6_skipBlanks_18 ?_
        refine lv_bipush (v := 9) hx hb dX6_skipBlanks_19 (by decide) ?_
        refine lv_icmp_eq (tgt := 49) hx hb dX6_skipBlanks_21 (by decide) (fun c21 => ?_) (fun c21 => ?_)
        · replace hf := zt c21 hf
          exact J49 x1 f_at hf _ _ _ hl hP hD hS
        · replace hf := ze c21 hf
          refine lv_aload_n hx hb dX6_skipBlanks_24 rfl (lv_at hl 0 rfl) ?_
          refine zget X hP 0 rfl rfl inF6 0 (by decide) q_40 rfl dX6_skipBlanks_25 ?_
          refine lv_iload_n hx hb dX6_skipBlanks_28 rfl (lv_at hl 1 rfl) ?_
          obtain ⟨g29, hf⟩ := zg hf
          refine va_iald hx hb hK hP 1 0 rfl rfl g29 dX6_skipBlanks_29 ?_
          refine lv_bipush (v := 10) hx hb dX6_skipBlanks_30 (by decide) ?_
          refine lv_icmp_eq (tgt := 49) hx hb dX6_skipBlanks_32 (by decide) (fun c32 => ?_) (fun c32 => ?_)
          · replace hf := zt c32 hf
            exact J49 x1 f_at hf _ _ _ hl hP hD hS
          · replace hf := ze c32 hf
            refine lv_aload_n hx hb dX6_skipBlanks_35 rfl (lv_at hl 0 rfl) ?_
            refine zget X hP 0 rfl rfl inF6 0 (by decide) q_40 rfl dX6_skipBlanks_36 ?_
            refine lv_iload_n hx hb dX6_skipBlanks_39 rfl (lv_at hl 1 rfl) ?_
            obtain ⟨g40, hf⟩ := zg hf
            refine va_iald hx hb hK hP 1 0 rfl rfl g40 dX6_skipBlanks_40 ?_
            refine lv_bipush (v := 32) hx hb dX6_skipBlanks_41 (by decide) ?_
            refine lv_icmp_eq (tgt := 49) hx hb dX6_skipBlanks_43 (by decide) (fun c43 => ?_) (fun c43 => ?_)
            · replace hf := zt c43 hf
              exact J49 x1 f_at hf _ _ _ hl hP hD hS
            · replace hf := ze c43 hf
              obtain rfl := Option.some.inj hf
              obtain rfl := Option.some.inj h
              exact K46 _ rfl _ _ _ (lv_sub hl [] rfl) hP hD hS
  unfold zf_X6_skipBlanks at hf
  refine lv_aload_n hx hb dX6_skipBlanks_0 rfl (lv_at hl 0 rfl) ?_
  refine zget X hP 0 rfl rfl inF6 2 (by decide) q_44 rfl dX6_skipBlanks_1 ?_
  refine lv_istore_n (lv' := [(1, .int f_at), (0, .ref a_this)]) hx hb dX6_skipBlanks_4 rfl hl (by decide) rfl (fun ls hl => ?_)
  obtain ⟨o5, ho5, hf⟩ := zb hf
  refine L5 zfu f_at f_at o5 ho5 _ _ _ (lv_sub hl [1, 0] rfl) hP hD hS (fun e5 he H locs ls hl hP hD hS => ?_) (fun e5 he H locs ls hl hP hD hS => ?_)
  · subst he
    replace hf := zsl hf
    obtain rfl := Option.some.inj hf
    exact zretv X hQ hP hD hS ⟨rfl, rfl⟩ dX6_skipBlanks_62 (Nat.le_of_ble_eq_true rfl) (Nat.le_of_ble_eq_true rfl)
  · subst he
    replace hf := zsr hf
    refine lv_goto (tgt := 62) hx hb dX6_skipBlanks_46 (by decide) ?_
    obtain rfl := Option.some.inj hf
    exact zretv X hQ hP hD hS ⟨rfl, rfl⟩ dX6_skipBlanks_62 (Nat.le_of_ble_eq_true rfl) (Nat.le_of_ble_eq_true rfl)

theorem kf_RX6_28 : zCB RX6 28 yX6_skipBlanks cX6_skipBlanks 2 (none : Option Jvm.ClassFile.FieldType) 0 ∧ Cond.instanceMethod yX6_skipBlanks ∈ wAll ∧ Cond.selects yX6_skipBlanks.cls yX6_skipBlanks yX6_skipBlanks ∈ wAll := ⟨⟨q_667, q_2, q_664, by decide +kernel⟩, q_666, qp_26⟩
abbrev rm_X6_isAtEnd : Room := { frames := 1, cells := 0, slots := 0, locals := 21 }
def zf_X6_isAtEnd (f_length : Int32) (f_at : Int32) (c_bytes : Nat → Int32) : Option (Int32 × Int32) :=
  (zf_X6_skipBlanks f_length f_at c_bytes).bind fun o1 =>
  if o1 < f_length then (some ((0 : Int32), o1)) else (some ((1 : Int32), o1))
set_option maxHeartbeats 4000000 in
set_option maxRecDepth 100000 in
theorem zc_X6_isAtEnd (l : Launch) (D : va_G) (y : zY) (a_this a_bytes : Nat) (f_length : Int32) (f_at : Int32) (f_began : Int32) (f_fault : Int32) (c_bytes : Nat → Int32) (out : Int32 × Int32) (hf : zf_X6_isAtEnd f_length f_at c_bytes = some out) : zC l D y yX6_isAtEnd cX6_isAtEnd 1 (some .boolean) rm_X6_isAtEnd [.ref a_this] [(a_this, .inr (6, [.ref a_bytes, .int f_length, .int f_at, .int f_began, .int f_fault])), (a_bytes, .inl (y.1, 400, .inl c_bytes))] (zE (some (.int out.1)) [(a_this, .inr (6, [.ref a_bytes, .int f_length, .int out.2, .int f_began, .int f_fault])), (a_bytes, .inl (y.1, 400, .inl c_bytes))]) := by
  refine zmk (by decide) (Nat.le_of_ble_eq_true rfl) ?_
  intro p e s m args below meth c A Q ls X hQ hnm hP hD hS hl
  have X : zX p s m args meth c D y A RX6 cX6_isAtEnd 1 (some .boolean) := X
  obtain ⟨hx, hb, hr, hml, hown, hts, hK, hA, hlocks⟩ := id X
  have hl : lv_has ls 1 [(0, .ref a_this)] := hl
  unfold zf_X6_isAtEnd at hf
  refine lv_aload_n hx hb dX6_isAtEnd_0 rfl (lv_at hl 0 rfl) ?_
  obtain ⟨o1, ho1, hf⟩ := zb hf
  refine zcV0 (wr := []) (rest := []) X (zc_X6_skipBlanks l D y a_this a_bytes f_length f_at f_began f_fault c_bytes o1 ho1) kf_RX6_28 ⟨(Nat.le_of_ble_eq_true rfl), (Nat.le_of_ble_eq_true rfl)⟩ hP hD hS [0, 1] [] rfl rfl rfl rfl (by decide) 0 rfl rfl rfl rfl hl.1 (Nat.le_of_ble_eq_true rfl) dX6_isAtEnd_1 ⟨(Nat.le_of_ble_eq_true rfl), (Nat.le_of_ble_eq_true rfl)⟩ (fun H locs hP hD hS => ?_)
  have hP : va_P D vwCl [(a_this, .inr (6, [.ref a_bytes, .int f_length, .int o1, .int f_began, .int f_fault])), (a_bytes, .inl (y.1, 400, .inl c_bytes))] H := hP
  have hD : va_D A [(a_this, .inr (6, [.ref a_bytes, .int f_length, .int o1, .int f_began, .int f_fault])), (a_bytes, .inl (y.1, 400, .inl c_bytes))] := hD
  refine lv_aload_n hx hb dX6_isAtEnd_4 rfl (lv_at hl 0 rfl) ?_
  refine zget X hP 0 rfl rfl inF6 2 (by decide) q_44 rfl dX6_isAtEnd_5 ?_
  refine lv_aload_n hx hb dX6_isAtEnd_8 rfl (lv_at hl 0 rfl) ?_
  refine zget X hP 0 rfl rfl inF6 1 (by decide) q_42 rfl dX6_isAtEnd_9 ?_
  refine lv_icmp_lt (tgt := 19) hx hb dX6_isAtEnd_12 (by decide) (fun c12 => ?_) (fun c12 => ?_)
  · replace hf := zt c12 hf
    refine lv_iconst (v := 0) hx hb dX6_isAtEnd_19 (by decide) ?_
    obtain rfl := Option.some.inj hf
    exact zreti X hQ hP hD hS ⟨rfl, rfl⟩ rfl dX6_isAtEnd_20 (Nat.le_of_ble_eq_true rfl) (Nat.le_of_ble_eq_true rfl)
  · replace hf := ze c12 hf
    refine lv_iconst (v := 1) hx hb dX6_isAtEnd_15 (by decide) ?_
    refine lv_goto (tgt := 20) hx hb dX6_isAtEnd_16 (by decide) ?_
    obtain rfl := Option.some.inj hf
    exact zreti X hQ hP hD hS ⟨rfl, rfl⟩ rfl dX6_isAtEnd_20 (Nat.le_of_ble_eq_true rfl) (Nat.le_of_ble_eq_true rfl)


abbrev rm_X6_takeSpan : Room := { frames := 1, cells := 0, slots := 0, locals := 21 }
def zf_X6_takeSpan_l17 (f_length : Int32) (c_bytes : Nat → Int32) (x1 : Int32) (x2 : Int32) (x3 : Int32) (f_at : Int32) : Option ((Int32 × Int32) ⊕ ((Int32) ⊕ (Int32))) :=
  if f_length ≤ x3 then (some (.inr (.inl f_at))) else (if zgd x3 400 = true then (if (c_bytes x3.toNatClampNeg) < x1 then (some (.inr (.inl f_at))) else (if zgd x3 400 = true then (if (c_bytes x3.toNatClampNeg) ≤ x2 then (some (.inl (x3 + (1 : Int32), x3 + (1 : Int32)))) else (some (.inr (.inr f_at)))) else none)) else none)
def zf_X6_takeSpan_61 (f_at : Int32) (f_began : Int32) : Option (Int32 × Int32 × Int32) :=
  some (f_at - f_began, f_at, f_began)
def zf_X6_takeSpan (f_length : Int32) (f_at : Int32) (c_bytes : Nat → Int32) (x1 : Int32) (x2 : Int32) : Option (Int32 × Int32 × Int32) :=
  (zf_X6_skipBlanks f_length f_at c_bytes).bind fun o1 =>
  (zit (fun d => zf_X6_takeSpan_l17 f_length c_bytes x1 x2 d.1 d.2) zfu (o1, o1)).bind fun o17 =>
  Sum.elim (fun e17 => zf_X6_takeSpan_61 e17 o1) (fun e17 => zf_X6_takeSpan_61 e17 o1) o17
set_option maxHeartbeats 4000000 in
set_option maxRecDepth 100000 in
theorem zc_X6_takeSpan (l : Launch) (D : va_G) (y : zY) (a_this a_bytes : Nat) (f_length : Int32) (f_at : Int32) (f_began : Int32) (f_fault : Int32) (c_bytes : Nat → Int32) (x1 : Int32) (x2 : Int32) (out : Int32 × Int32 × Int32) (hf : zf_X6_takeSpan f_length f_at c_bytes x1 x2 = some out) : zC l D y yX6_takeSpan cX6_takeSpan 4 (some .int) rm_X6_takeSpan [.ref a_this, .int x1, .int x2] [(a_this, .inr (6, [.ref a_bytes, .int f_length, .int f_at, .int f_began, .int f_fault])), (a_bytes, .inl (y.1, 400, .inl c_bytes))] (zE (some (.int out.1)) [(a_this, .inr (6, [.ref a_bytes, .int f_length, .int out.2.1, .int out.2.2, .int f_fault])), (a_bytes, .inl (y.1, 400, .inl c_bytes))]) := by
  refine zmk (by decide) (Nat.le_of_ble_eq_true rfl) ?_
  intro p e s m args below meth c A Q ls X hQ hnm hP hD hS hl
  have X : zX p s m args meth c D y A RX6 cX6_takeSpan 4 (some .int) := X
  obtain ⟨hx, hb, hr, hml, hown, hts, hK, hA, hlocks⟩ := id X
  have hl : lv_has ls 4 [(0, .ref a_this), (1, .int x1), (2, .int x2)] := hl
  have L17 : ∀ (n : Nat) (x1 : Int32) (x2 : Int32) (x3 : Int32) (f_at : Int32) (f_began : Int32) (x : (Int32) ⊕ (Int32)), zit (fun d => zf_X6_takeSpan_l17 f_length c_bytes x1 x2 d.1 d.2) n (x3, f_at) = some x → ∀ (H : Heap) (locs : List Loc) (ls : Array Slot), lv_has ls 4 [(0, .ref a_this), (1, .int x1), (2, .int x2), (3, .int x3)] → va_P D vwCl [(a_this, .inr (6, [.ref a_bytes, .int f_length, .int f_at, .int f_began, .int f_fault])), (a_bytes, .inl (y.1, 400, .inl c_bytes))] H → va_D A [(a_this, .inr (6, [.ref a_bytes, .int f_length, .int f_at, .int f_began, .int f_fault])), (a_bytes, .inl (y.1, 400, .inl c_bytes))] → va_S A s.heap H locs → (∀ (ee : Int32), x = .inl ee → ∀ (H : Heap) (locs : List Loc) (ls : Array Slot), lv_has ls 4 [(0, .ref a_this)] → va_P D vwCl [(a_this, .inr (6, [.ref a_bytes, .int f_length, .int ee, .int f_began, .int f_fault])), (a_bytes, .inl (y.1, 400, .inl c_bytes))] H → va_D A [(a_this, .inr (6, [.ref a_bytes, .int f_length, .int ee, .int f_began, .int f_fault])), (a_bytes, .inl (y.1, 400, .inl c_bytes))] → va_S A s.heap H locs → W p l e rm_X6_takeSpan s m args below meth c H locs 0 0 Q (F0 m 61 ls [])) → (∀ (ee : Int32), x = (.inr ee) → ∀ (H : Heap) (locs : List Loc) (ls : Array Slot), lv_has ls 4 [(0, .ref a_this)] → va_P D vwCl [(a_this, .inr (6, [.ref a_bytes, .int f_length, .int ee, .int f_began, .int f_fault])), (a_bytes, .inl (y.1, 400, .inl c_bytes))] H → va_D A [(a_this, .inr (6, [.ref a_bytes, .int f_length, .int ee, .int f_began, .int f_fault])), (a_bytes, .inl (y.1, 400, .inl c_bytes))] → va_S A s.heap H locs → W p l e rm_X6_takeSpan s m args below meth c H locs 0 0 Q (F0 m 45 ls [])) → W p l e rm_X6_takeSpan s m args below meth c H locs 0 0 Q (F0 m 17 ls []) := by
    intro n
    induction n with
    | zero => intro x1 x2 x3 f_at f_began x h; exact (zi0 h).elim
    | succ n ih =>
      intro x1 x2 x3 f_at f_began x h H locs ls hl hP hD hS K61 K45
      obtain ⟨r, hf, h⟩ := zis h
      have hf : zf_X6_takeSpan_l17 f_length c_bytes x1 x2 x3 f_at = some r := hf
      unfold zf_X6_takeSpan_l17 at hf
      refine lv_iload_n hx hb dX6_takeSpan_17 rfl (lv_at hl 3 rfl) ?_
      refine lv_aload_n hx hb dX6_takeSpan_18 rfl (lv_at hl 0 rfl) ?_
      refine zget X hP 0 rfl rfl inF6 1 (by decide) q_42 rfl dX6_takeSpan_19 ?_
      refine lv_icmp_ge (tgt := 61) hx hb dX6_takeSpan_22 (by decide) (fun c22 => ?_) (fun c22 => ?_)
      · replace hf := zt c22 hf
        obtain rfl := Option.some.inj hf
        obtain rfl := Option.some.inj h
        exact K61 _ rfl _ _ _ (lv_sub hl [0] rfl) hP hD hS
      · replace hf := ze c22 hf
        refine lv_aload_n hx hb dX6_takeSpan_25 rfl (lv_at hl 0 rfl) ?_
        refine zget X hP 0 rfl rfl inF6 0 (by decide) q_40 rfl dX6_takeSpan_26 ?_
        refine lv_iload_n hx hb dX6_takeSpan_29 rfl (lv_at hl 3 rfl) ?_
        obtain ⟨g30, hf⟩ := zg hf
        refine va_iald hx hb hK hP 1 0 rfl rfl g30 dX6_takeSpan_30 ?_
        refine lv_iload_n hx hb dX6_takeSpan_31 rfl (lv_at hl 1 rfl) ?_
        refine lv_icmp_lt (tgt := 61) hx hb dX6_takeSpan_32 (by decide) (fun c32 => ?_) (fun c32 => ?_)
        · replace hf := zt c32 hf
          obtain rfl := Option.some.inj hf
          obtain rfl := Option.some.inj h
          exact K61 _ rfl _ _ _ (lv_sub hl [0] rfl) hP hD hS
        · replace hf := ze c32 hf
          refine lv_aload_n hx hb dX6_takeSpan_35 rfl (lv_at hl 0 rfl) ?_
          refine zget X hP 0 rfl rfl inF6 0 (by decide) q_40 rfl dX6_takeSpan_36 ?_
          refine lv_iload_n hx hb dX6_takeSpan_39 rfl (lv_at hl 3 rfl) ?_
          obtain ⟨g40, hf⟩ := zg hf
          refine va_iald hx hb hK hP 1 0 rfl rfl g40 dX6_takeSpan_40 ?_
          refine lv_iload_n hx hb dX6_takeSpan_41 rfl (lv_at hl 2 rfl) ?_
          refine lv_icmp_le (tgt := 48) hx hb dX6_takeSpan_42 (by decide) (fun c42 => ?_) (fun c42 => ?_)
          · replace hf := zt c42 hf
            refine lv_aload_n hx hb dX6_takeSpan_48 rfl (lv_at hl 0 rfl) ?_
            refine lv_iload_n hx hb dX6_takeSpan_49 rfl (lv_at hl 3 rfl) ?_
            refine lv_iconst (v := 1) hx hb dX6_takeSpan_50 (by decide) ?_
            refine lv_iadd hx hb dX6_takeSpan_51 ?_
            refine zput (ty := .int) X hP hD hS 0 rfl rfl inF6 tyX6_ok nmX6 2 (by decide) q_44 rfl rfl rfl rfl (Nat.le_of_ble_eq_true rfl) dX6_takeSpan_52 (fun H locs hP hD hS => ?_)
            have hP : va_P D vwCl [(a_this, .inr (6, [.ref a_bytes, .int f_length, .int (x3 + (1 : Int32)), .int f_began, .int f_fault])), (a_bytes, .inl (y.1, 400, .inl c_bytes))] H := hP
            have hD : va_D A [(a_this, .inr (6, [.ref a_bytes, .int f_length, .int (x3 + (1 : Int32)), .int f_began, .int f_fault])), (a_bytes, .inl (y.1, 400, .inl c_bytes))] := hD
            refine lv_iinc (v := x3 + (1 : Int32)) (lv' := [(3, .int (x3 + (1 : Int32))), (0, .ref a_this), (1, .int x1), (2, .int x2)]) hx hb dX6_takeSpan_55 hl (k := 3) rfl rfl (by decide) rfl (fun ls hl => ?_)
            refine lv_goto (tgt := 17) hx hb dX6_takeSpan_58 (by decide) ?_
            obtain rfl := Option.some.inj hf
            exact ih x1 x2 (x3 + (1 : Int32)) (x3 + (1 : Int32)) f_began x h _ _ _ (lv_sub hl [1, 2, 3, 0] rfl) hP hD hS K61 K45
          · replace hf := ze c42 hf
            obtain rfl := Option.some.inj hf
            obtain rfl := Option.some.inj h
            exact K45 _ rfl _ _ _ (lv_sub hl [0] rfl) hP hD hS
  have J61 : ∀ (f_at : Int32) (f_began : Int32), zf_X6_takeSpan_61 f_at f_began = some out → ∀ (H : Heap) (locs : List Loc) (ls : Array Slot), lv_has ls 4 [(0, .ref a_this)] → va_P D vwCl [(a_this, .inr (6, [.ref a_bytes, .int f_length, .int f_at, .int f_began, .int f_fault])), (a_bytes, .inl (y.1, 400, .inl c_bytes))] H → va_D A [(a_this, .inr (6, [.ref a_bytes, .int f_length, .int f_at, .int f_began, .int f_fault])), (a_bytes, .inl (y.1, 400, .inl c_bytes))] → va_S A s.heap H locs → W p l e rm_X6_takeSpan s m args below meth c H locs 0 0 Q (F0 m 61 ls []) := by
    intro f_at f_began hf H locs ls hl hP hD hS
    unfold zf_X6_takeSpan_61 at hf
    refine lv_aload_n hx hb dX6_takeSpan_61 rfl (lv_at hl 0 rfl) ?_
    refine zget X hP 0 rfl rfl inF6 2 (by decide) q_44 rfl dX6_takeSpan_62 ?_
    refine lv_aload_n hx hb dX6_takeSpan_65 rfl (lv_at hl 0 rfl) ?_
    refine zget X hP 0 rfl rfl inF6 3 (by decide) q_45 rfl dX6_takeSpan_66 ?_
    refine lv_isub hx hb dX6_takeSpan_69 ?_
    obtain rfl := Option.some.inj hf
    exact zreti X hQ hP hD hS ⟨rfl, rfl⟩ rfl dX6_takeSpan_70 (Nat.le_of_ble_eq_true rfl) (Nat.le_of_ble_eq_true rfl)
  unfold zf_X6_takeSpan at hf
  refine lv_aload_n hx hb dX6_takeSpan_0 rfl (lv_at hl 0 rfl) ?_
  obtain ⟨o1, ho1, hf⟩ := zb hf
  refine zcV0 (wr := []) (rest := []) X (zc_X6_skipBlanks l D y a_this a_bytes f_length f_at f_began f_fault c_bytes o1 ho1) kf_RX6_28 ⟨(Nat.le_of_ble_eq_true rfl), (Nat.le_of_ble_eq_true rfl)⟩ hP hD hS [0, 1] [] rfl rfl rfl rfl (by decide) 0 rfl rfl rfl rfl hl.1 (Nat.le_of_ble_eq_true rfl) dX6_takeSpan_1 ⟨(Nat.le_of_ble_eq_true rfl), (Nat.le_of_ble_eq_true rfl)⟩ (fun H locs hP hD hS => ?_)
  have hP : va_P D vwCl [(a_this, .inr (6, [.ref a_bytes, .int f_length, .int o1, .int f_began, .int f_fault])), (a_bytes, .inl (y.1, 400, .inl c_bytes))] H := hP
  have hD : va_D A [(a_this, .inr (6, [.ref a_bytes, .int f_length, .int o1, .int f_began, .int f_fault])), (a_bytes, .inl (y.1, 400, .inl c_bytes))] := hD
  refine lv_aload_n hx hb dX6_takeSpan_4 rfl (lv_at hl 0 rfl) ?_
  refine lv_aload_n hx hb dX6_takeSpan_5 rfl (lv_at hl 0 rfl) ?_
  refine zget X hP 0 rfl rfl inF6 2 (by decide) q_44 rfl dX6_takeSpan_6 ?_
  refine zput (ty := .int) X hP hD hS 0 rfl rfl inF6 tyX6_ok nmX6 3 (by decide) q_45 rfl rfl rfl rfl (Nat.le_of_ble_eq_true rfl) dX6_takeSpan_9 (fun H locs hP hD hS => ?_)
  have hP : va_P D vwCl [(a_this, .inr (6, [.ref a_bytes, .int f_length, .int o1, .int o1, .int f_fault])), (a_bytes, .inl (y.1, 400, .inl c_bytes))] H := hP
  have hD : va_D A [(a_this, .inr (6, [.ref a_bytes, .int f_length, .int o1, .int o1, .int f_fault])), (a_bytes, .inl (y.1, 400, .inl c_bytes))] := hD
  refine lv_aload_n hx hb dX6_takeSpan_12 rfl (lv_at hl 0 rfl) ?_
  refine zget X hP 0 rfl rfl inF6 2 (by decide) q_44 rfl dX6_takeSpan_13 ?_
  refine lv_istore_n (lv' := [(3, .int o1), (0, .ref a_this), (1, .int x1), (2, .int x2)]) hx hb dX6_takeSpan_16 rfl hl (by decide) rfl (fun ls hl => ?_)
  obtain ⟨o17, ho17, hf⟩ := zb hf
  refine L17 zfu x1 x2 o1 o1 o1 o17 ho17 _ _ _ (lv_sub hl [1, 2, 3, 0] rfl) hP hD hS (fun e17 he H locs ls hl hP hD hS => ?_) (fun e17 he H locs ls hl hP hD hS => ?_)
  · subst he
    replace hf := zsl hf
    exact J61 e17 o1 hf _ _ _ hl hP hD hS
  · subst he
    replace hf := zsr hf
    refine lv_goto (tgt := 61) hx hb dX6_takeSpan_45 (by decide) ?_
    exact J61 e17 o1 hf _ _ _ hl hP hD hS


abbrev rm_X6_refuse : Room := { frames := 0, cells := 0, slots := 0, locals := 0 }
def zf_X6_refuse (f_began : Int32) : Option (Int32 × Int32) :=
  some ((0 : Int32), f_began)
set_option maxHeartbeats 4000000 in
set_option maxRecDepth 100000 in
theorem zc_X6_refuse (l : Launch) (D : va_G) (y : zY) (a_this a_bytes : Nat) (f_length : Int32) (f_at : Int32) (f_began : Int32) (f_fault : Int32) (out : Int32 × Int32) (hf : zf_X6_refuse f_began = some out) : zC l D y yX6_refuse cX6_refuse 1 (some .boolean) rm_X6_refuse [.ref a_this] [(a_this, .inr (6, [.ref a_bytes, .int f_length, .int f_at, .int f_began, .int f_fault]))] (zE (some (.int out.1)) [(a_this, .inr (6, [.ref a_bytes, .int f_length, .int f_at, .int f_began, .int out.2]))]) := by
  refine zmk (by decide) (Nat.le_of_ble_eq_true rfl) ?_
  intro p e s m args below meth c A Q ls X hQ hnm hP hD hS hl
  have X : zX p s m args meth c D y A RX6 cX6_refuse 1 (some .boolean) := X
  obtain ⟨hx, hb, hr, hml, hown, hts, hK, hA, hlocks⟩ := id X
  have hl : lv_has ls 1 [(0, .ref a_this)] := hl
  unfold zf_X6_refuse at hf
  refine lv_aload_n hx hb dX6_refuse_0 rfl (lv_at hl 0 rfl) ?_
  refine lv_aload_n hx hb dX6_refuse_1 rfl (lv_at hl 0 rfl) ?_
  refine zget X hP 0 rfl rfl inF6 3 (by decide) q_45 rfl dX6_refuse_2 ?_
  refine zput (ty := .int) X hP hD hS 0 rfl rfl inF6 tyX6_ok nmX6 4 (by decide) q_46 rfl rfl rfl rfl (Nat.le_of_ble_eq_true rfl) dX6_refuse_5 (fun H locs hP hD hS => ?_)
  have hP : va_P D vwCl [(a_this, .inr (6, [.ref a_bytes, .int f_length, .int f_at, .int f_began, .int f_began]))] H := hP
  have hD : va_D A [(a_this, .inr (6, [.ref a_bytes, .int f_length, .int f_at, .int f_began, .int f_began]))] := hD
  refine lv_iconst (v := 0) hx hb dX6_refuse_8 (by decide) ?_
  obtain rfl := Option.some.inj hf
  exact zreti X hQ hP hD hS ⟨rfl, rfl⟩ rfl dX6_refuse_9 (Nat.le_of_ble_eq_true rfl) (Nat.le_of_ble_eq_true rfl)

theorem kf_RX6_35 : zCB RX6 35 yX6_refuse cX6_refuse 1 (some .boolean) 0 ∧ Cond.instanceMethod yX6_refuse ∈ wAll ∧ Cond.selects yX6_refuse.cls yX6_refuse yX6_refuse ∈ wAll := ⟨⟨q_724, q_2, q_729, by decide +kernel⟩, q_722, q_723⟩
theorem kf_RX6_31 : zCB RX6 31 yX6_takeSpan cX6_takeSpan 4 (some .int) 2 ∧ Cond.instanceMethod yX6_takeSpan ∈ wAll ∧ Cond.selects yX6_takeSpan.cls yX6_takeSpan yX6_takeSpan ∈ wAll := ⟨⟨q_663, q_2, q_660, by decide +kernel⟩, q_662, qp_25⟩
abbrev rm_X6_takeNumber : Room := { frames := 2, cells := 0, slots := 0, locals := 44 }
def zf_X6_takeNumber_37 (f_at : Int32) (f_began : Int32) : Option (Int32 × Int32 × Int32 × Int32) :=
  (zf_X6_refuse f_began).bind fun o38 =>
  some ((-1 : Int32), f_at, f_began, o38.2)
def zf_X6_takeNumber (f_length : Int32) (f_at : Int32) (f_fault : Int32) (c_bytes : Nat → Int32) (x1 : Int32) (x2 : Int32) : Option (Int32 × Int32 × Int32 × Int32) :=
  (zf_X6_takeSpan f_length f_at c_bytes (48 : Int32) (57 : Int32)).bind fun o5 =>
  if o5.1 = (1 : Int32) then (if zgd o5.2.2 400 = true then (if ((c_bytes o5.2.2.toNatClampNeg) - (48 : Int32)) < x1 then (zf_X6_takeNumber_37 o5.2.1 o5.2.2) else (if x2 < ((c_bytes o5.2.2.toNatClampNeg) - (48 : Int32)) then (zf_X6_takeNumber_37 o5.2.1 o5.2.2) else (some ((c_bytes o5.2.2.toNatClampNeg) - (48 : Int32), o5.2.1, o5.2.2, f_fault)))) else none) else (zf_X6_takeNumber_37 o5.2.1 o5.2.2)
set_option maxHeartbeats 4000000 in
set_option maxRecDepth 100000 in
theorem zc_X6_takeNumber (l : Launch) (D : va_G) (y : zY) (a_this a_bytes : Nat) (f_length : Int32) (f_at : Int32) (f_began : Int32) (f_fault : Int32) (c_bytes : Nat → Int32) (x1 : Int32) (x2 : Int32) (out : Int32 × Int32 × Int32 × Int32) (hf : zf_X6_takeNumber f_length f_at f_fault c_bytes x1 x2 = some out) : zC l D y yX6_takeNumber cX6_takeNumber 4 (some .int) rm_X6_takeNumber [.ref a_this, .int x1, .int x2] [(a_this, .inr (6, [.ref a_bytes, .int f_length, .int f_at, .int f_began, .int f_fault])), (a_bytes, .inl (y.1, 400, .inl c_bytes))] (zE (some (.int out.1)) [(a_this, .inr (6, [.ref a_bytes, .int f_length, .int out.2.1, .int out.2.2.1, .int out.2.2.2])), (a_bytes, .inl (y.1, 400, .inl c_bytes))]) := by
  refine zmk (by decide) (Nat.le_of_ble_eq_true rfl) ?_
  intro p e s m args below meth c A Q ls X hQ hnm hP hD hS hl
  have X : zX p s m args meth c D y A RX6 cX6_takeNumber 4 (some .int) := X
  obtain ⟨hx, hb, hr, hml, hown, hts, hK, hA, hlocks⟩ := id X
  have hl : lv_has ls 4 [(0, .ref a_this), (1, .int x1), (2, .int x2)] := hl
  have J37 : ∀ (f_at : Int32) (f_began : Int32) (f_fault : Int32), zf_X6_takeNumber_37 f_at f_began = some out → ∀ (H : Heap) (locs : List Loc) (ls : Array Slot), lv_has ls 4 [(0, .ref a_this)] → va_P D vwCl [(a_this, .inr (6, [.ref a_bytes, .int f_length, .int f_at, .int f_began, .int f_fault])), (a_bytes, .inl (y.1, 400, .inl c_bytes))] H → va_D A [(a_this, .inr (6, [.ref a_bytes, .int f_length, .int f_at, .int f_began, .int f_fault])), (a_bytes, .inl (y.1, 400, .inl c_bytes))] → va_S A s.heap H locs → W p l e rm_X6_takeNumber s m args below meth c H locs 0 0 Q (F0 m 37 ls []) := by
    intro f_at f_began f_fault hf H locs ls hl hP hD hS
    unfold zf_X6_takeNumber_37 at hf
    refine lv_aload_n hx hb dX6_takeNumber_37 rfl (lv_at hl 0 rfl) ?_
    obtain ⟨o38, ho38, hf⟩ := zb hf
    refine zcV1 (wr := [(a_bytes, .inl (y.1, 400, .inl c_bytes))]) (rest := []) X (zc_X6_refuse l D y a_this a_bytes f_length f_at f_began f_fault o38 ho38) kf_RX6_35 ⟨(Nat.le_of_ble_eq_true rfl), (Nat.le_of_ble_eq_true rfl)⟩ hP hD hS [0] [1] rfl rfl rfl rfl (by decide) 0 rfl rfl rfl rfl hl.1 (Nat.le_of_ble_eq_true rfl) dX6_takeNumber_38 ⟨(Nat.le_of_ble_eq_true rfl), (Nat.le_of_ble_eq_true rfl)⟩ (fun H locs hP hD hS => ?_)
    have hP : va_P D vwCl [(a_bytes, .inl (y.1, 400, .inl c_bytes)), (a_this, .inr (6, [.ref a_bytes, .int f_length, .int f_at, .int f_began, .int o38.2]))] H := hP
    have hD : va_D A [(a_bytes, .inl (y.1, 400, .inl c_bytes)), (a_this, .inr (6, [.ref a_bytes, .int f_length, .int f_at, .int f_began, .int o38.2]))] := hD
    refine lv_pop hx hb dX6_takeNumber_41 rfl ?_
    refine lv_iconst (v := -1) hx hb dX6_takeNumber_42 (by decide) ?_
    obtain rfl := Option.some.inj hf
    exact zreti X hQ (zPsub (is := [1, 0]) hP rfl) (hD.sub [1, 0] (by decide) rfl) hS ⟨rfl, rfl⟩ rfl dX6_takeNumber_43 (Nat.le_of_ble_eq_true rfl) (Nat.le_of_ble_eq_true rfl)
  unfold zf_X6_takeNumber at hf
  refine lv_aload_n hx hb dX6_takeNumber_0 rfl (lv_at hl 0 rfl) ?_
  refine lv_bipush (v := 48) hx hb dX6_takeNumber_1 (by decide) ?_
  refine lv_bipush (v := 57) hx hb dX6_takeNumber_3 (by decide) ?_
  obtain ⟨o5, ho5, hf⟩ := zb hf
  refine zcV1 (wr := []) (rest := []) X (zc_X6_takeSpan l D y a_this a_bytes f_length f_at f_began f_fault c_bytes (48 : Int32) (57 : Int32) o5 ho5) kf_RX6_31 ⟨(Nat.le_of_ble_eq_true rfl), (Nat.le_of_ble_eq_true rfl)⟩ hP hD hS [0, 1] [] rfl rfl rfl rfl (by decide) 0 rfl rfl rfl rfl hl.1 (Nat.le_of_ble_eq_true rfl) dX6_takeNumber_5 ⟨(Nat.le_of_ble_eq_true rfl), (Nat.le_of_ble_eq_true rfl)⟩ (fun H locs hP hD hS => ?_)
  have hP : va_P D vwCl [(a_this, .inr (6, [.ref a_bytes, .int f_length, .int o5.2.1, .int o5.2.2, .int f_fault])), (a_bytes, .inl (y.1, 400, .inl c_bytes))] H := hP
  have hD : va_D A [(a_this, .inr (6, [.ref a_bytes, .int f_length, .int o5.2.1, .int o5.2.2, .int f_fault])), (a_bytes, .inl (y.1, 400, .inl c_bytes))] := hD
  refine lv_iconst (v := 1) hx hb dX6_takeNumber_8 (by decide) ?_
  refine lv_icmp_ne (tgt := 37) hx hb dX6_takeNumber_9 (by decide) (fun c9 => ?_) (fun c9 => ?_)
  · replace hf := ze c9 hf
    exact J37 o5.2.1 o5.2.2 f_fault hf _ _ _ (lv_sub hl [0] rfl) hP hD hS
  · replace hf := zt c9 hf
    refine lv_aload_n hx hb dX6_takeNumber_12 rfl (lv_at hl 0 rfl) ?_
    refine zget X hP 0 rfl rfl inF6 0 (by decide) q_40 rfl dX6_takeNumber_13 ?_
    refine lv_aload_n hx hb dX6_takeNumber_16 rfl (lv_at hl 0 rfl) ?_
    refine zget X hP 0 rfl rfl inF6 3 (by decide) q_45 rfl dX6_takeNumber_17 ?_
    obtain ⟨g20, hf⟩ := zg hf
    refine va_iald hx hb hK hP 1 0 rfl rfl g20 dX6_takeNumber_20 ?_
    refine lv_bipush (v := 48) hx hb dX6_takeNumber_21 (by decide) ?_
    refine lv_isub hx hb dX6_takeNumber_23 ?_
    refine lv_istore_n (lv' := [(3, .int ((c_bytes o5.2.2.toNatClampNeg) - (48 : Int32))), (0, .ref a_this), (1, .int x1), (2, .int x2)]) hx hb dX6_takeNumber_24 rfl hl (by decide) rfl (fun ls hl => ?_)
    refine lv_iload_n hx hb dX6_takeNumber_25 rfl (lv_at hl 0 rfl) ?_
    refine lv_iload_n hx hb dX6_takeNumber_26 rfl (lv_at hl 2 rfl) ?_
    refine lv_icmp_lt (tgt := 37) hx hb dX6_takeNumber_27 (by decide) (fun c27 => ?_) (fun c27 => ?_)
    · replace hf := zt c27 hf
      exact J37 o5.2.1 o5.2.2 f_fault hf _ _ _ (lv_sub hl [1] rfl) hP hD hS
    · replace hf := ze c27 hf
      refine lv_iload_n hx hb dX6_takeNumber_30 rfl (lv_at hl 0 rfl) ?_
      refine lv_iload_n hx hb dX6_takeNumber_31 rfl (lv_at hl 3 rfl) ?_
      refine lv_icmp_gt (tgt := 37) hx hb dX6_takeNumber_32 (by decide) (fun c32 => ?_) (fun c32 => ?_)
      · replace hf := zt c32 hf
        exact J37 o5.2.1 o5.2.2 f_fault hf _ _ _ (lv_sub hl [1] rfl) hP hD hS
      · replace hf := ze c32 hf
        refine lv_iload_n hx hb dX6_takeNumber_35 rfl (lv_at hl 0 rfl) ?_
        obtain rfl := Option.some.inj hf
        exact zreti X hQ hP hD hS ⟨rfl, rfl⟩ rfl dX6_takeNumber_36 (Nat.le_of_ble_eq_true rfl) (Nat.le_of_ble_eq_true rfl)


abbrev rm_X6_takeWord : Room := { frames := 2, cells := 0, slots := 0, locals := 44 }
def zf_X6_takeWord (f_length : Int32) (f_at : Int32) (c_bytes : Nat → Int32) : Option (Int32 × Int32) :=
  (zf_X6_takeSpan f_length f_at c_bytes (97 : Int32) (122 : Int32)).bind fun o5 =>
  some (o5.2.1, o5.2.2)
set_option maxHeartbeats 4000000 in
set_option maxRecDepth 100000 in
theorem zc_X6_takeWord (l : Launch) (D : va_G) (y : zY) (a_this a_bytes : Nat) (f_length : Int32) (f_at : Int32) (f_began : Int32) (f_fault : Int32) (c_bytes : Nat → Int32) (out : Int32 × Int32) (hf : zf_X6_takeWord f_length f_at c_bytes = some out) : zC l D y yX6_takeWord cX6_takeWord 1 (none : Option Jvm.ClassFile.FieldType) rm_X6_takeWord [.ref a_this] [(a_this, .inr (6, [.ref a_bytes, .int f_length, .int f_at, .int f_began, .int f_fault])), (a_bytes, .inl (y.1, 400, .inl c_bytes))] (zE none [(a_this, .inr (6, [.ref a_bytes, .int f_length, .int out.1, .int out.2, .int f_fault])), (a_bytes, .inl (y.1, 400, .inl c_bytes))]) := by
  refine zmk (by decide) (Nat.le_of_ble_eq_true rfl) ?_
  intro p e s m args below meth c A Q ls X hQ hnm hP hD hS hl
  have X : zX p s m args meth c D y A RX6 cX6_takeWord 1 (none : Option Jvm.ClassFile.FieldType) := X
  obtain ⟨hx, hb, hr, hml, hown, hts, hK, hA, hlocks⟩ := id X
  have hl : lv_has ls 1 [(0, .ref a_this)] := hl
  unfold zf_X6_takeWord at hf
  refine lv_aload_n hx hb dX6_takeWord_0 rfl (lv_at hl 0 rfl) ?_
  refine lv_bipush (v := 97) hx hb dX6_takeWord_1 (by decide) ?_
  refine lv_bipush (v := 122) hx hb dX6_takeWord_3 (by decide) ?_
  obtain ⟨o5, ho5, hf⟩ := zb hf
  refine zcV1 (wr := []) (rest := []) X (zc_X6_takeSpan l D y a_this a_bytes f_length f_at f_began f_fault c_bytes (97 : Int32) (122 : Int32) o5 ho5) kf_RX6_31 ⟨(Nat.le_of_ble_eq_true rfl), (Nat.le_of_ble_eq_true rfl)⟩ hP hD hS [0, 1] [] rfl rfl rfl rfl (by decide) 0 rfl rfl rfl rfl hl.1 (Nat.le_of_ble_eq_true rfl) dX6_takeWord_5 ⟨(Nat.le_of_ble_eq_true rfl), (Nat.le_of_ble_eq_true rfl)⟩ (fun H locs hP hD hS => ?_)
  have hP : va_P D vwCl [(a_this, .inr (6, [.ref a_bytes, .int f_length, .int o5.2.1, .int o5.2.2, .int f_fault])), (a_bytes, .inl (y.1, 400, .inl c_bytes))] H := hP
  have hD : va_D A [(a_this, .inr (6, [.ref a_bytes, .int f_length, .int o5.2.1, .int o5.2.2, .int f_fault])), (a_bytes, .inl (y.1, 400, .inl c_bytes))] := hD
  refine lv_pop hx hb dX6_takeWord_8 rfl ?_
  obtain rfl := Option.some.inj hf
  exact zretv X hQ hP hD hS ⟨rfl, rfl⟩ dX6_takeWord_9 (Nat.le_of_ble_eq_true rfl) (Nat.le_of_ble_eq_true rfl)

theorem kf_RX6_48 : zCB RX6 48 yX6_isAtEnd cX6_isAtEnd 1 (some .boolean) 0 ∧ Cond.instanceMethod yX6_isAtEnd ∈ wAll ∧ Cond.selects yX6_isAtEnd.cls yX6_isAtEnd yX6_isAtEnd ∈ wAll := ⟨⟨q_737, q_2, q_734, by decide +kernel⟩, q_735, q_736⟩
abbrev rm_X6_takeMark : Room := { frames := 2, cells := 0, slots := 0, locals := 41 }
def zf_X6_takeMark_31 (f_at : Int32) (f_began : Int32) : Option (Int32 × Int32 × Int32 × Int32) :=
  (zf_X6_refuse f_began).bind fun o32 =>
  if zbit o32.1 = true then some (o32.1, f_at, f_began, o32.2) else none
def zf_X6_takeMark (f_length : Int32) (f_at : Int32) (f_fault : Int32) (c_bytes : Nat → Int32) : Option (Int32 × Int32 × Int32 × Int32) :=
  (zf_X6_isAtEnd f_length f_at c_bytes).bind fun o1 =>
  if o1.1 = 0 then (if zgd o1.2 400 = true then (if (c_bytes o1.2.toNatClampNeg) = (59 : Int32) then (some ((1 : Int32), o1.2 + (1 : Int32), o1.2, f_fault)) else (zf_X6_takeMark_31 o1.2 o1.2)) else none) else (zf_X6_takeMark_31 o1.2 o1.2)
set_option maxHeartbeats 4000000 in
set_option maxRecDepth 100000 in
theorem zc_X6_takeMark (l : Launch) (D : va_G) (y : zY) (a_this a_bytes : Nat) (f_length : Int32) (f_at : Int32) (f_began : Int32) (f_fault : Int32) (c_bytes : Nat → Int32) (out : Int32 × Int32 × Int32 × Int32) (hf : zf_X6_takeMark f_length f_at f_fault c_bytes = some out) : zC l D y yX6_takeMark cX6_takeMark 2 (some .boolean) rm_X6_takeMark [.ref a_this] [(a_this, .inr (6, [.ref a_bytes, .int f_length, .int f_at, .int f_began, .int f_fault])), (a_bytes, .inl (y.1, 400, .inl c_bytes))] (zE (some (.int out.1)) [(a_this, .inr (6, [.ref a_bytes, .int f_length, .int out.2.1, .int out.2.2.1, .int out.2.2.2])), (a_bytes, .inl (y.1, 400, .inl c_bytes))]) := by
  refine zmk (by decide) (Nat.le_of_ble_eq_true rfl) ?_
  intro p e s m args below meth c A Q ls X hQ hnm hP hD hS hl
  have X : zX p s m args meth c D y A RX6 cX6_takeMark 2 (some .boolean) := X
  obtain ⟨hx, hb, hr, hml, hown, hts, hK, hA, hlocks⟩ := id X
  have hl : lv_has ls 2 [(0, .ref a_this)] := hl
  have J31 : ∀ (f_at : Int32) (f_began : Int32) (f_fault : Int32), zf_X6_takeMark_31 f_at f_began = some out → ∀ (H : Heap) (locs : List Loc) (ls : Array Slot), lv_has ls 2 [(0, .ref a_this)] → va_P D vwCl [(a_this, .inr (6, [.ref a_bytes, .int f_length, .int f_at, .int f_began, .int f_fault])), (a_bytes, .inl (y.1, 400, .inl c_bytes))] H → va_D A [(a_this, .inr (6, [.ref a_bytes, .int f_length, .int f_at, .int f_began, .int f_fault])), (a_bytes, .inl (y.1, 400, .inl c_bytes))] → va_S A s.heap H locs → W p l e rm_X6_takeMark s m args below meth c H locs 0 0 Q (F0 m 31 ls []) := by
    intro f_at f_began f_fault hf H locs ls hl hP hD hS
    unfold zf_X6_takeMark_31 at hf
    refine lv_aload_n hx hb dX6_takeMark_31 rfl (lv_at hl 0 rfl) ?_
    obtain ⟨o32, ho32, hf⟩ := zb hf
    refine zcV1 (wr := [(a_bytes, .inl (y.1, 400, .inl c_bytes))]) (rest := []) X (zc_X6_refuse l D y a_this a_bytes f_length f_at f_began f_fault o32 ho32) kf_RX6_35 ⟨(Nat.le_of_ble_eq_true rfl), (Nat.le_of_ble_eq_true rfl)⟩ hP hD hS [0] [1] rfl rfl rfl rfl (by decide) 0 rfl rfl rfl rfl hl.1 (Nat.le_of_ble_eq_true rfl) dX6_takeMark_32 ⟨(Nat.le_of_ble_eq_true rfl), (Nat.le_of_ble_eq_true rfl)⟩ (fun H locs hP hD hS => ?_)
    have hP : va_P D vwCl [(a_bytes, .inl (y.1, 400, .inl c_bytes)), (a_this, .inr (6, [.ref a_bytes, .int f_length, .int f_at, .int f_began, .int o32.2]))] H := hP
    have hD : va_D A [(a_bytes, .inl (y.1, 400, .inl c_bytes)), (a_this, .inr (6, [.ref a_bytes, .int f_length, .int f_at, .int f_began, .int o32.2]))] := hD
    obtain ⟨nb35, hf⟩ := zbt hf
    obtain rfl := Option.some.inj hf
    exact zreti X hQ (zPsub (is := [1, 0]) hP rfl) (hD.sub [1, 0] (by decide) rfl) hS ⟨rfl, rfl⟩ nb35.1 dX6_takeMark_35 (Nat.le_of_ble_eq_true rfl) (Nat.le_of_ble_eq_true rfl)
  unfold zf_X6_takeMark at hf
  refine lv_aload_n hx hb dX6_takeMark_0 rfl (lv_at hl 0 rfl) ?_
  obtain ⟨o1, ho1, hf⟩ := zb hf
  refine zcV1 (wr := []) (rest := []) X (zc_X6_isAtEnd l D y a_this a_bytes f_length f_at f_began f_fault c_bytes o1 ho1) kf_RX6_48 ⟨(Nat.le_of_ble_eq_true rfl), (Nat.le_of_ble_eq_true rfl)⟩ hP hD hS [0, 1] [] rfl rfl rfl rfl (by decide) 0 rfl rfl rfl rfl hl.1 (Nat.le_of_ble_eq_true rfl) dX6_takeMark_1 ⟨(Nat.le_of_ble_eq_true rfl), (Nat.le_of_ble_eq_true rfl)⟩ (fun H locs hP hD hS => ?_)
  have hP : va_P D vwCl [(a_this, .inr (6, [.ref a_bytes, .int f_length, .int o1.2, .int f_began, .int f_fault])), (a_bytes, .inl (y.1, 400, .inl c_bytes))] H := hP
  have hD : va_D A [(a_this, .inr (6, [.ref a_bytes, .int f_length, .int o1.2, .int f_began, .int f_fault])), (a_bytes, .inl (y.1, 400, .inl c_bytes))] := hD
  refine lv_istore_n (lv' := [(1, .int o1.1), (0, .ref a_this)]) hx hb dX6_takeMark_4 rfl hl (by decide) rfl (fun ls hl => ?_)
  refine lv_aload_n hx hb dX6_takeMark_5 rfl (lv_at hl 1 rfl) ?_
  refine lv_aload_n hx hb dX6_takeMark_6 rfl (lv_at hl 1 rfl) ?_
  refine zget X hP 0 rfl rfl inF6 2 (by decide) q_44 rfl dX6_takeMark_7 ?_
  refine zput (ty := .int) X hP hD hS 0 rfl rfl inF6 tyX6_ok nmX6 3 (by decide) q_45 rfl rfl rfl rfl (Nat.le_of_ble_eq_true rfl) dX6_takeMark_10 (fun H locs hP hD hS => ?_)
  have hP : va_P D vwCl [(a_this, .inr (6, [.ref a_bytes, .int f_length, .int o1.2, .int o1.2, .int f_fault])), (a_bytes, .inl (y.1, 400, .inl c_bytes))] H := hP
  have hD : va_D A [(a_this, .inr (6, [.ref a_bytes, .int f_length, .int o1.2, .int o1.2, .int f_fault])), (a_bytes, .inl (y.1, 400, .inl c_bytes))] := hD
  refine lv_iload_n hx hb dX6_takeMark_13 rfl (lv_at hl 0 rfl) ?_
  refine lv_if_ne (tgt := 31) hx hb dX6_takeMark_14 (by decide) (fun c14 => ?_) (fun c14 => ?_)
  · replace hf := ze c14 hf
    exact J31 o1.2 o1.2 f_fault hf _ _ _ (lv_sub hl [1] rfl) hP hD hS
  · replace hf := zt c14 hf
    refine lv_aload_n hx hb dX6_takeMark_17 rfl (lv_at hl 1 rfl) ?_
    refine zget X hP 0 rfl rfl inF6 0 (by decide) q_40 rfl dX6_takeMark_18 ?_
    refine lv_aload_n hx hb dX6_takeMark_21 rfl (lv_at hl 1 rfl) ?_
    refine zget X hP 0 rfl rfl inF6 2 (by decide) q_44 rfl dX6_takeMark_22 ?_
    obtain ⟨g25, hf⟩ := zg hf
    refine va_iald hx hb hK hP 1 0 rfl rfl g25 dX6_takeMark_25 ?_
    refine lv_bipush (v := 59) hx hb dX6_takeMark_26 (by decide) ?_
    refine lv_icmp_eq (tgt := 36) hx hb dX6_takeMark_28 (by decide) (fun c28 => ?_) (fun c28 => ?_)
    · replace hf := zt c28 hf
      refine lv_aload_n hx hb dX6_takeMark_36 rfl (lv_at hl 1 rfl) ?_
      refine lv_dup hx hb dX6_takeMark_37 rfl ?_
      refine zget X hP 0 rfl rfl inF6 2 (by decide) q_44 rfl dX6_takeMark_38 ?_
      refine lv_iconst (v := 1) hx hb dX6_takeMark_41 (by decide) ?_
      refine lv_iadd hx hb dX6_takeMark_42 ?_
      refine zput (ty := .int) X hP hD hS 0 rfl rfl inF6 tyX6_ok nmX6 2 (by decide) q_44 rfl rfl rfl rfl (Nat.le_of_ble_eq_true rfl) dX6_takeMark_43 (fun H locs hP hD hS => ?_)
      have hP : va_P D vwCl [(a_this, .inr (6, [.ref a_bytes, .int f_length, .int (o1.2 + (1 : Int32)), .int o1.2, .int f_fault])), (a_bytes, .inl (y.1, 400, .inl c_bytes))] H := hP
      have hD : va_D A [(a_this, .inr (6, [.ref a_bytes, .int f_length, .int (o1.2 + (1 : Int32)), .int o1.2, .int f_fault])), (a_bytes, .inl (y.1, 400, .inl c_bytes))] := hD
      refine lv_iconst (v := 1) hx hb dX6_takeMark_46 (by decide) ?_
      obtain rfl := Option.some.inj hf
      exact zreti X hQ hP hD hS ⟨rfl, rfl⟩ rfl dX6_takeMark_47 (Nat.le_of_ble_eq_true rfl) (Nat.le_of_ble_eq_true rfl)
    · replace hf := ze c28 hf
      exact J31 o1.2 o1.2 f_fault hf _ _ _ (lv_sub hl [1] rfl) hP hD hS


abbrev rm_X3_take : Room := { frames := 0, cells := 0, slots := 0, locals := 0 }
def zf_X3_take_l3 (c_arg2 : Nat → Int64) (n_arg2 : Nat) (x4 : Int32) (c_joining : Nat → Int64) : Option ((Int32 × (Nat → Int64)) ⊕ ((Nat → Int64))) :=
  if (25 : Int32) ≤ x4 then (some (.inr c_joining)) else (if (Int32.ofNat n_arg2) ≤ x4 then (some (.inr c_joining)) else (if zgd x4 n_arg2 = true then (if zgd x4 25 = true then (some (.inl (x4 + (1 : Int32), vp_updL c_joining x4.toNatClampNeg (c_arg2 x4.toNatClampNeg)))) else none) else none))
def zf_X3_take_34 (c_joining : Nat → Int64) (x1 : Int32) (x2 : Int32) : Option (Int32 × Int32 × Int32 × (Nat → Int64)) :=
  some ((1 : Int32), x1, x2, c_joining)
def zf_X3_take (c_joining : Nat → Int64) (c_arg2 : Nat → Int64) (n_arg2 : Nat) (x1 : Int32) (x2 : Int32) : Option (Int32 × Int32 × Int32 × (Nat → Int64)) :=
  (zit (fun d => zf_X3_take_l3 c_arg2 n_arg2 d.1 d.2) zfu ((0 : Int32), c_joining)).bind fun o3 =>
  zf_X3_take_34 o3 x1 x2
set_option maxHeartbeats 4000000 in
set_option maxRecDepth 100000 in
theorem zc_X3_take (l : Launch) (D : va_G) (y : zY) (a_this a_joining a_arg2 : Nat) (f_isThere : Int32) (f_free : Int32) (f_half : Int32) (n_arg2 : Nat) (c_joining : Nat → Int64) (c_arg2 : Nat → Int64) (x1 : Int32) (x2 : Int32) (out : Int32 × Int32 × Int32 × (Nat → Int64)) (hf : zf_X3_take c_joining c_arg2 n_arg2 x1 x2 = some out) : zC l D y yX3_take cX3_take 5 (none : Option Jvm.ClassFile.FieldType) rm_X3_take [.ref a_this, .int x1, .int x2, .ref a_arg2] [(a_this, .inr (3, [.ref a_joining, .int f_isThere, .int f_free, .int f_half])), (a_joining, .inl (y.2.1, 25, .inr (.inl c_joining))), (a_arg2, .inl (y.2.1, n_arg2, .inr (.inl c_arg2)))] (zE none [(a_this, .inr (3, [.ref a_joining, .int out.1, .int out.2.1, .int out.2.2.1])), (a_joining, .inl (y.2.1, 25, .inr (.inl out.2.2.2))), (a_arg2, .inl (y.2.1, n_arg2, .inr (.inl c_arg2)))]) := by
  refine zmk (by decide) (Nat.le_of_ble_eq_true rfl) ?_
  intro p e s m args below meth c A Q ls X hQ hnm hP hD hS hl
  have X : zX p s m args meth c D y A RX3 cX3_take 5 (none : Option Jvm.ClassFile.FieldType) := X
  obtain ⟨hx, hb, hr, hml, hown, hts, hK, hA, hlocks⟩ := id X
  have hl : lv_has ls 5 [(0, .ref a_this), (1, .int x1), (2, .int x2), (3, .ref a_arg2)] := hl
  have L3 : ∀ (n : Nat) (x1 : Int32) (x2 : Int32) (x4 : Int32) (f_isThere : Int32) (f_free : Int32) (f_half : Int32) (c_joining : Nat → Int64) (x : (Nat → Int64)), zit (fun d => zf_X3_take_l3 c_arg2 n_arg2 d.1 d.2) n (x4, c_joining) = some x → ∀ (H : Heap) (locs : List Loc) (ls : Array Slot), lv_has ls 5 [(0, .ref a_this), (1, .int x1), (2, .int x2), (3, .ref a_arg2), (4, .int x4)] → va_P D vwCl [(a_this, .inr (3, [.ref a_joining, .int f_isThere, .int f_free, .int f_half])), (a_joining, .inl (y.2.1, 25, .inr (.inl c_joining))), (a_arg2, .inl (y.2.1, n_arg2, .inr (.inl c_arg2)))] H → va_D A [(a_this, .inr (3, [.ref a_joining, .int f_isThere, .int f_free, .int f_half])), (a_joining, .inl (y.2.1, 25, .inr (.inl c_joining))), (a_arg2, .inl (y.2.1, n_arg2, .inr (.inl c_arg2)))] → va_S A s.heap H locs → (∀ (H : Heap) (locs : List Loc) (ls : Array Slot), lv_has ls 5 [(0, .ref a_this), (1, .int x1), (2, .int x2)] → va_P D vwCl [(a_this, .inr (3, [.ref a_joining, .int f_isThere, .int f_free, .int f_half])), (a_joining, .inl (y.2.1, 25, .inr (.inl x))), (a_arg2, .inl (y.2.1, n_arg2, .inr (.inl c_arg2)))] H → va_D A [(a_this, .inr (3, [.ref a_joining, .int f_isThere, .int f_free, .int f_half])), (a_joining, .inl (y.2.1, 25, .inr (.inl x))), (a_arg2, .inl (y.2.1, n_arg2, .inr (.inl c_arg2)))] → va_S A s.heap H locs → W p l e rm_X3_take s m args below meth c H locs 0 0 Q (F0 m 34 ls [])) → W p l e rm_X3_take s m args below meth c H locs 0 0 Q (F0 m 3 ls []) := by
    intro n
    induction n with
    | zero => intro x1 x2 x4 f_isThere f_free f_half c_joining x h; exact (zi0 h).elim
    | succ n ih =>
      intro x1 x2 x4 f_isThere f_free f_half c_joining x h H locs ls hl hP hD hS K34
      obtain ⟨r, hf, h⟩ := zis h
      have hf : zf_X3_take_l3 c_arg2 n_arg2 x4 c_joining = some r := hf
      unfold zf_X3_take_l3 at hf
      refine lv_iload hx hb dX3_take_3 (lv_at hl 4 rfl) ?_
      refine lv_bipush (v := 25) hx hb dX3_take_5 (by decide) ?_
      refine lv_icmp_ge (tgt := 34) hx hb dX3_take_7 (by decide) (fun c7 => ?_) (fun c7 => ?_)
      · replace hf := zt c7 hf
        obtain rfl := Option.some.inj hf
        obtain rfl := Option.some.inj h
        exact K34 _ _ _ (lv_sub hl [0, 1, 2] rfl) hP hD hS
      · replace hf := ze c7 hf
        refine lv_iload hx hb dX3_take_10 (lv_at hl 4 rfl) ?_
        refine lv_aload_n hx hb dX3_take_12 rfl (lv_at hl 3 rfl) ?_
        refine va_alen (v := Int32.ofNat n_arg2) hx hb hK hP 2 1 rfl rfl rfl dX3_take_13 ?_
        refine lv_icmp_ge (tgt := 34) hx hb dX3_take_14 (by decide) (fun c14 => ?_) (fun c14 => ?_)
        · replace hf := zt c14 hf
          obtain rfl := Option.some.inj hf
          obtain rfl := Option.some.inj h
          exact K34 _ _ _ (lv_sub hl [0, 1, 2] rfl) hP hD hS
        · replace hf := ze c14 hf
          refine lv_aload_n hx hb dX3_take_17 rfl (lv_at hl 0 rfl) ?_
          refine zget X hP 0 rfl rfl inF3 0 (by decide) q_204 rfl dX3_take_18 ?_
          refine lv_iload hx hb dX3_take_21 (lv_at hl 4 rfl) ?_
          refine lv_aload_n hx hb dX3_take_23 rfl (lv_at hl 3 rfl) ?_
          refine lv_iload hx hb dX3_take_24 (lv_at hl 4 rfl) ?_
          obtain ⟨g26, hf⟩ := zg hf
          refine va_lald hx hb hK hP 2 1 rfl rfl g26 dX3_take_26 ?_
          obtain ⟨g27, hf⟩ := zg hf
          refine va_last hx hb hK hP hD hS 1 1 rfl rfl g27 dX3_take_27 (fun H locs hP hD hS => ?_)
          have hP : va_P D vwCl [(a_this, .inr (3, [.ref a_joining, .int f_isThere, .int f_free, .int f_half])), (a_joining, .inl (y.2.1, 25, .inr (.inl (vp_updL c_joining x4.toNatClampNeg (c_arg2 x4.toNatClampNeg))))), (a_arg2, .inl (y.2.1, n_arg2, .inr (.inl c_arg2)))] H := hP
          have hD : va_D A [(a_this, .inr (3, [.ref a_joining, .int f_isThere, .int f_free, .int f_half])), (a_joining, .inl (y.2.1, 25, .inr (.inl (vp_updL c_joining x4.toNatClampNeg (c_arg2 x4.toNatClampNeg))))), (a_arg2, .inl (y.2.1, n_arg2, .inr (.inl c_arg2)))] := hD
          refine lv_iinc (v := x4 + (1 : Int32)) (lv' := [(4, .int (x4 + (1 : Int32))), (0, .ref a_this), (1, .int x1), (2, .int x2), (3, .ref a_arg2)]) hx hb dX3_take_28 hl (k := 4) rfl rfl (by decide) rfl (fun ls hl => ?_)
          refine lv_goto (tgt := 3) hx hb dX3_take_31 (by decide) ?_
          obtain rfl := Option.some.inj hf
          exact ih x1 x2 (x4 + (1 : Int32)) f_isThere f_free f_half (vp_updL c_joining x4.toNatClampNeg (c_arg2 x4.toNatClampNeg)) x h _ _ _ (lv_sub hl [1, 2, 3, 4, 0] rfl) hP hD hS K34
  have J34 : ∀ (f_isThere : Int32) (f_free : Int32) (f_half : Int32) (c_joining : Nat → Int64), zf_X3_take_34 c_joining x1 x2 = some out → ∀ (H : Heap) (locs : List Loc) (ls : Array Slot), lv_has ls 5 [(0, .ref a_this), (1, .int x1), (2, .int x2)] → va_P D vwCl [(a_this, .inr (3, [.ref a_joining, .int f_isThere, .int f_free, .int f_half])), (a_joining, .inl (y.2.1, 25, .inr (.inl c_joining))), (a_arg2, .inl (y.2.1, n_arg2, .inr (.inl c_arg2)))] H → va_D A [(a_this, .inr (3, [.ref a_joining, .int f_isThere, .int f_free, .int f_half])), (a_joining, .inl (y.2.1, 25, .inr (.inl c_joining))), (a_arg2, .inl (y.2.1, n_arg2, .inr (.inl c_arg2)))] → va_S A s.heap H locs → W p l e rm_X3_take s m args below meth c H locs 0 0 Q (F0 m 34 ls []) := by
    intro f_isThere f_free f_half c_joining hf H locs ls hl hP hD hS
    unfold zf_X3_take_34 at hf
    refine lv_aload_n hx hb dX3_take_34 rfl (lv_at hl 0 rfl) ?_
    refine lv_iload_n hx hb dX3_take_35 rfl (lv_at hl 1 rfl) ?_
    refine zput (ty := .int) X hP hD hS 0 rfl rfl inF3 tyX3_ok nmX3 2 (by decide) q_208 rfl rfl rfl rfl (Nat.le_of_ble_eq_true rfl) dX3_take_36 (fun H locs hP hD hS => ?_)
    have hP : va_P D vwCl [(a_this, .inr (3, [.ref a_joining, .int f_isThere, .int x1, .int f_half])), (a_joining, .inl (y.2.1, 25, .inr (.inl c_joining))), (a_arg2, .inl (y.2.1, n_arg2, .inr (.inl c_arg2)))] H := hP
    have hD : va_D A [(a_this, .inr (3, [.ref a_joining, .int f_isThere, .int x1, .int f_half])), (a_joining, .inl (y.2.1, 25, .inr (.inl c_joining))), (a_arg2, .inl (y.2.1, n_arg2, .inr (.inl c_arg2)))] := hD
    refine lv_aload_n hx hb dX3_take_39 rfl (lv_at hl 0 rfl) ?_
    refine lv_iload_n hx hb dX3_take_40 rfl (lv_at hl 2 rfl) ?_
    refine zput (ty := .int) X hP hD hS 0 rfl rfl inF3 tyX3_ok nmX3 3 (by decide) q_210 rfl rfl rfl rfl (Nat.le_of_ble_eq_true rfl) dX3_take_41 (fun H locs hP hD hS => ?_)
    have hP : va_P D vwCl [(a_this, .inr (3, [.ref a_joining, .int f_isThere, .int x1, .int x2])), (a_joining, .inl (y.2.1, 25, .inr (.inl c_joining))), (a_arg2, .inl (y.2.1, n_arg2, .inr (.inl c_arg2)))] H := hP
    have hD : va_D A [(a_this, .inr (3, [.ref a_joining, .int f_isThere, .int x1, .int x2])), (a_joining, .inl (y.2.1, 25, .inr (.inl c_joining))), (a_arg2, .inl (y.2.1, n_arg2, .inr (.inl c_arg2)))] := hD
    refine lv_aload_n hx hb dX3_take_44 rfl (lv_at hl 0 rfl) ?_
    refine lv_iconst (v := 1) hx hb dX3_take_45 (by decide) ?_
    refine zput (ty := .boolean) X hP hD hS 0 rfl rfl inF3 tyX3_ok nmX3 1 (by decide) q_206 rfl rfl rfl rfl (Nat.le_of_ble_eq_true rfl) dX3_take_46 (fun H locs hP hD hS => ?_)
    have hP : va_P D vwCl [(a_this, .inr (3, [.ref a_joining, .int (1 : Int32), .int x1, .int x2])), (a_joining, .inl (y.2.1, 25, .inr (.inl c_joining))), (a_arg2, .inl (y.2.1, n_arg2, .inr (.inl c_arg2)))] H := hP
    have hD : va_D A [(a_this, .inr (3, [.ref a_joining, .int (1 : Int32), .int x1, .int x2])), (a_joining, .inl (y.2.1, 25, .inr (.inl c_joining))), (a_arg2, .inl (y.2.1, n_arg2, .inr (.inl c_arg2)))] := hD
    obtain rfl := Option.some.inj hf
    exact zretv X hQ hP hD hS ⟨rfl, rfl⟩ dX3_take_49 (Nat.le_of_ble_eq_true rfl) (Nat.le_of_ble_eq_true rfl)
  unfold zf_X3_take at hf
  refine lv_iconst (v := 0) hx hb dX3_take_0 (by decide) ?_
  refine lv_istore (lv' := [(4, .int (0 : Int32)), (0, .ref a_this), (1, .int x1), (2, .int x2), (3, .ref a_arg2)]) hx hb dX3_take_1 hl (by decide) rfl (fun ls hl => ?_)
  obtain ⟨o3, ho3, hf⟩ := zb hf
  refine L3 zfu x1 x2 (0 : Int32) f_isThere f_free f_half c_joining o3 ho3 _ _ _ (lv_sub hl [1, 2, 3, 4, 0] rfl) hP hD hS (fun H locs ls hl hP hD hS => ?_)
  exact J34 f_isThere f_free f_half o3 hf _ _ _ hl hP hD hS


abbrev rm_X3_upper : Room := { frames := 0, cells := 0, slots := 0, locals := 0 }
def zf_X3_upper (x0 : Int32) (x1 : Int32) : Option (Int32) :=
  if x0 = 0 then (some (0 : Int32)) else (if x1 = (-1 : Int32) then (some (1 : Int32)) else (some x1))
set_option maxHeartbeats 4000000 in
set_option maxRecDepth 100000 in
theorem zc_X3_upper (l : Launch) (D : va_G) (y : zY) (x0 : Int32) (x1 : Int32) (out : Int32) (hf : zf_X3_upper x0 x1 = some out) : zC l D y yX3_upper cX3_upper 2 (some .int) rm_X3_upper [.int x0, .int x1] [] (zE (some (.int out)) []) := by
  refine zmk (by decide) (Nat.le_of_ble_eq_true rfl) ?_
  intro p e s m args below meth c A Q ls X hQ hnm hP hD hS hl
  have X : zX p s m args meth c D y A RX3 cX3_upper 2 (some .int) := X
  obtain ⟨hx, hb, hr, hml, hown, hts, hK, hA, hlocks⟩ := id X
  have hl : lv_has ls 2 [(0, .int x0), (1, .int x1)] := hl
  unfold zf_X3_upper at hf
  refine lv_iload_n hx hb dX3_upper_0 rfl (lv_at hl 0 rfl) ?_
  refine lv_if_ne (tgt := 6) hx hb dX3_upper_1 (by decide) (fun c1 => ?_) (fun c1 => ?_)
  · replace hf := ze c1 hf
    refine lv_iload_n hx hb dX3_upper_6 rfl (lv_at hl 1 rfl) ?_
    refine lv_iconst (v := -1) hx hb dX3_upper_7 (by decide) ?_
    refine lv_icmp_ne (tgt := 15) hx hb dX3_upper_8 (by decide) (fun c8 => ?_) (fun c8 => ?_)
    · replace hf := ze c8 hf
      refine lv_iload_n hx hb dX3_upper_15 rfl (lv_at hl 1 rfl) ?_
      obtain rfl := Option.some.inj hf
      exact zreti X hQ hP hD hS ⟨rfl, rfl⟩ rfl dX3_upper_16 (Nat.le_of_ble_eq_true rfl) (Nat.le_of_ble_eq_true rfl)
    · replace hf := zt c8 hf
      refine lv_iconst (v := 1) hx hb dX3_upper_11 (by decide) ?_
      refine lv_goto (tgt := 16) hx hb dX3_upper_12 (by decide) ?_
      obtain rfl := Option.some.inj hf
      exact zreti X hQ hP hD hS ⟨rfl, rfl⟩ rfl dX3_upper_16 (Nat.le_of_ble_eq_true rfl) (Nat.le_of_ble_eq_true rfl)
  · replace hf := zt c1 hf
    refine lv_iconst (v := 0) hx hb dX3_upper_4 (by decide) ?_
    obtain rfl := Option.some.inj hf
    exact zreti X hQ hP hD hS ⟨rfl, rfl⟩ rfl dX3_upper_5 (Nat.le_of_ble_eq_true rfl) (Nat.le_of_ble_eq_true rfl)


abbrev rm_X3_lower : Room := { frames := 0, cells := 0, slots := 0, locals := 0 }
def zf_X3_lower (x0 : Int32) (x1 : Int32) : Option (Int32) :=
  if x0 = 0 then (some (1 : Int32)) else (if x1 = (-1 : Int32) then (some (0 : Int32)) else (some x0))
set_option maxHeartbeats 4000000 in
set_option maxRecDepth 100000 in
theorem zc_X3_lower (l : Launch) (D : va_G) (y : zY) (x0 : Int32) (x1 : Int32) (out : Int32) (hf : zf_X3_lower x0 x1 = some out) : zC l D y yX3_lower cX3_lower 2 (some .int) rm_X3_lower [.int x0, .int x1] [] (zE (some (.int out)) []) := by
  refine zmk (by decide) (Nat.le_of_ble_eq_true rfl) ?_
  intro p e s m args below meth c A Q ls X hQ hnm hP hD hS hl
  have X : zX p s m args meth c D y A RX3 cX3_lower 2 (some .int) := X
  obtain ⟨hx, hb, hr, hml, hown, hts, hK, hA, hlocks⟩ := id X
  have hl : lv_has ls 2 [(0, .int x0), (1, .int x1)] := hl
  unfold zf_X3_lower at hf
  refine lv_iload_n hx hb dX3_lower_0 rfl (lv_at hl 0 rfl) ?_
  refine lv_if_ne (tgt := 6) hx hb dX3_lower_1 (by decide) (fun c1 => ?_) (fun c1 => ?_)
  · replace hf := ze c1 hf
    refine lv_iload_n hx hb dX3_lower_6 rfl (lv_at hl 1 rfl) ?_
    refine lv_iconst (v := -1) hx hb dX3_lower_7 (by decide) ?_
    refine lv_icmp_ne (tgt := 15) hx hb dX3_lower_8 (by decide) (fun c8 => ?_) (fun c8 => ?_)
    · replace hf := ze c8 hf
      refine lv_iload_n hx hb dX3_lower_15 rfl (lv_at hl 0 rfl) ?_
      obtain rfl := Option.some.inj hf
      exact zreti X hQ hP hD hS ⟨rfl, rfl⟩ rfl dX3_lower_16 (Nat.le_of_ble_eq_true rfl) (Nat.le_of_ble_eq_true rfl)
    · replace hf := zt c8 hf
      refine lv_iconst (v := 0) hx hb dX3_lower_11 (by decide) ?_
      refine lv_goto (tgt := 16) hx hb dX3_lower_12 (by decide) ?_
      obtain rfl := Option.some.inj hf
      exact zreti X hQ hP hD hS ⟨rfl, rfl⟩ rfl dX3_lower_16 (Nat.le_of_ble_eq_true rfl) (Nat.le_of_ble_eq_true rfl)
  · replace hf := zt c1 hf
    refine lv_iconst (v := 1) hx hb dX3_lower_4 (by decide) ?_
    obtain rfl := Option.some.inj hf
    exact zreti X hQ hP hD hS ⟨rfl, rfl⟩ rfl dX3_lower_5 (Nat.le_of_ble_eq_true rfl) (Nat.le_of_ble_eq_true rfl)


abbrev rm_X4_labelIn : Room := { frames := 0, cells := 0, slots := 0, locals := 0 }
def zf_X4_labelIn (x0 : Int32) (x1 : Int32) : Option (Int32) :=
  some ((zushr x0 ((3 : Int32) * ((4 : Int32) - x1))) &&& (7 : Int32))
set_option maxHeartbeats 4000000 in
set_option maxRecDepth 100000 in
theorem zc_X4_labelIn (l : Launch) (D : va_G) (y : zY) (x0 : Int32) (x1 : Int32) (out : Int32) (hf : zf_X4_labelIn x0 x1 = some out) : zC l D y yX4_labelIn cX4_labelIn 2 (some .int) rm_X4_labelIn [.int x0, .int x1] [] (zE (some (.int out)) []) := by
  refine zmk (by decide) (Nat.le_of_ble_eq_true rfl) ?_
  intro p e s m args below meth c A Q ls X hQ hnm hP hD hS hl
  have X : zX p s m args meth c D y A RX4 cX4_labelIn 2 (some .int) := X
  obtain ⟨hx, hb, hr, hml, hown, hts, hK, hA, hlocks⟩ := id X
  have hl : lv_has ls 2 [(0, .int x0), (1, .int x1)] := hl
  unfold zf_X4_labelIn at hf
  refine lv_iload_n hx hb dX4_labelIn_0 rfl (lv_at hl 0 rfl) ?_
  refine lv_iconst (v := 3) hx hb dX4_labelIn_1 (by decide) ?_
  refine lv_iconst (v := 4) hx hb dX4_labelIn_2 (by decide) ?_
  refine lv_iload_n hx hb dX4_labelIn_3 rfl (lv_at hl 1 rfl) ?_
  refine lv_isub hx hb dX4_labelIn_4 ?_
  refine lv_imul hx hb dX4_labelIn_5 ?_
  refine lv_iushr (v := zushr x0 ((3 : Int32) * ((4 : Int32) - x1))) hx hb dX4_labelIn_6 rfl ?_
  refine lv_bipush (v := 7) hx hb dX4_labelIn_7 (by decide) ?_
  refine lv_iand hx hb dX4_labelIn_9 ?_
  obtain rfl := Option.some.inj hf
  exact zreti X hQ hP hD hS ⟨rfl, rfl⟩ rfl dX4_labelIn_10 (Nat.le_of_ble_eq_true rfl) (Nat.le_of_ble_eq_true rfl)

theorem kf_RX4_77 : zCB RX4 77 yX4_labelIn cX4_labelIn 2 (some .int) 2 ∧ Cond.static yX4_labelIn ∈ wAll := ⟨⟨q_363, q_3, q_361, by decide +kernel⟩, q_362⟩
abbrev rm_X4_greatestBefore : Room := { frames := 1, cells := 0, slots := 0, locals := 21 }
def zf_X4_greatestBefore_l4 (x0 : Int32) (x1 : Int32) (x2 : Int32) (x3 : Int32) : Option ((Int32 × Int32) ⊕ ((Int32))) :=
  if x1 ≤ x3 then (some (.inr x2)) else ((zf_X4_labelIn x0 x3).bind fun o12 =>
  some (.inl ((if x2 < o12 then o12 else x2), x3 + (1 : Int32))))
def zf_X4_greatestBefore (x0 : Int32) (x1 : Int32) : Option (Int32) :=
  (zit (fun d => zf_X4_greatestBefore_l4 x0 x1 d.1 d.2) zfu ((0 : Int32), (0 : Int32))).bind fun o4 =>
  some o4
set_option maxHeartbeats 4000000 in
set_option maxRecDepth 100000 in
theorem zc_X4_greatestBefore (l : Launch) (D : va_G) (y : zY) (x0 : Int32) (x1 : Int32) (out : Int32) (hf : zf_X4_greatestBefore x0 x1 = some out) : zC l D y yX4_greatestBefore cX4_greatestBefore 4 (some .int) rm_X4_greatestBefore [.int x0, .int x1] [] (zE (some (.int out)) []) := by
  refine zmk (by decide) (Nat.le_of_ble_eq_true rfl) ?_
  intro p e s m args below meth c A Q ls X hQ hnm hP hD hS hl
  have X : zX p s m args meth c D y A RX4 cX4_greatestBefore 4 (some .int) := X
  obtain ⟨hx, hb, hr, hml, hown, hts, hK, hA, hlocks⟩ := id X
  have hl : lv_has ls 4 [(0, .int x0), (1, .int x1)] := hl
  have L4 : ∀ (n : Nat) (x0 : Int32) (x1 : Int32) (x2 : Int32) (x3 : Int32) (x : (Int32)), zit (fun d => zf_X4_greatestBefore_l4 x0 x1 d.1 d.2) n (x2, x3) = some x → ∀ (H : Heap) (locs : List Loc) (ls : Array Slot), lv_has ls 4 [(0, .int x0), (1, .int x1), (2, .int x2), (3, .int x3)] → va_P D vwCl [] H → va_D A [] → va_S A s.heap H locs → (∀ (H : Heap) (locs : List Loc) (ls : Array Slot), lv_has ls 4 [(2, .int x)] → va_P D vwCl [] H → va_D A [] → va_S A s.heap H locs → W p l e rm_X4_greatestBefore s m args below meth c H locs 0 0 Q (F0 m 25 ls [])) → W p l e rm_X4_greatestBefore s m args below meth c H locs 0 0 Q (F0 m 4 ls []) := by
    intro n
    induction n with
    | zero => intro x0 x1 x2 x3 x h; exact (zi0 h).elim
    | succ n ih =>
      intro x0 x1 x2 x3 x h H locs ls hl hP hD hS K25
      obtain ⟨r, hf, h⟩ := zis h
      have hf : zf_X4_greatestBefore_l4 x0 x1 x2 x3 = some r := hf
      unfold zf_X4_greatestBefore_l4 at hf
      refine lv_iload_n hx hb dX4_greatestBefore_4 rfl (lv_at hl 3 rfl) ?_
      refine lv_iload_n hx hb dX4_greatestBefore_5 rfl (lv_at hl 1 rfl) ?_
      refine lv_icmp_ge (tgt := 25) hx hb dX4_greatestBefore_6 (by decide) (fun c6 => ?_) (fun c6 => ?_)
      · replace hf := zt c6 hf
        obtain rfl := Option.some.inj hf
        obtain rfl := Option.some.inj h
        exact K25 _ _ _ (lv_sub hl [2] rfl) hP hD hS
      · replace hf := ze c6 hf
        refine lv_iload_n hx hb dX4_greatestBefore_9 rfl (lv_at hl 2 rfl) ?_
        refine lv_iload_n hx hb dX4_greatestBefore_10 rfl (lv_at hl 0 rfl) ?_
        refine lv_iload_n hx hb dX4_greatestBefore_11 rfl (lv_at hl 3 rfl) ?_
        obtain ⟨o12, ho12, hf⟩ := zb hf
        refine zcS1 (wr := []) (rest := [.int x2]) X (zc_X4_labelIn l D y x0 x3 o12 ho12) kf_RX4_77 ⟨(Nat.le_of_ble_eq_true rfl), (Nat.le_of_ble_eq_true rfl)⟩ hP hD hS [] [] rfl rfl rfl rfl (by decide) rfl rfl hl.1 (Nat.le_of_ble_eq_true rfl) dX4_greatestBefore_12 ⟨(Nat.le_of_ble_eq_true rfl), (Nat.le_of_ble_eq_true rfl)⟩ (fun H locs hP hD hS => ?_)
        have hP : va_P D vwCl [] H := hP
        have hD : va_D A [] := hD
        refine va_mmax hx hb (by rw [hml]; exact hl.1.symm) hown (hts _ q_364) (hts _ q_365) (hts _ q_22) (hts _ q_366) (Nat.le_of_ble_eq_true rfl) (Nat.le_of_ble_eq_true rfl) (Nat.le_of_ble_eq_true rfl) (Nat.le_of_ble_eq_true rfl) dX4_greatestBefore_15 ?_
        refine lv_istore_n (lv' := [(2, .int (if x2 < o12 then o12 else x2)), (0, .int x0), (1, .int x1), (3, .int x3)]) hx hb dX4_greatestBefore_18 rfl hl (by decide) rfl (fun ls hl => ?_)
        refine lv_iinc (v := x3 + (1 : Int32)) (lv' := [(3, .int (x3 + (1 : Int32))), (2, .int (if x2 < o12 then o12 else x2)), (0, .int x0), (1, .int x1)]) hx hb dX4_greatestBefore_19 hl (k := 3) rfl rfl (by decide) rfl (fun ls hl => ?_)
        refine lv_goto (tgt := 4) hx hb dX4_greatestBefore_22 (by decide) ?_
        obtain rfl := Option.some.inj hf
        exact ih x0 x1 (if x2 < o12 then o12 else x2) (x3 + (1 : Int32)) x h _ _ _ (lv_sub hl [2, 3, 1, 0] rfl) hP hD hS K25
  unfold zf_X4_greatestBefore at hf
  refine lv_iconst (v := 0) hx hb dX4_greatestBefore_0 (by decide) ?_
  refine lv_istore_n (lv' := [(2, .int (0 : Int32)), (0, .int x0), (1, .int x1)]) hx hb dX4_greatestBefore_1 rfl hl (by decide) rfl (fun ls hl => ?_)
  refine lv_iconst (v := 0) hx hb dX4_greatestBefore_2 (by decide) ?_
  refine lv_istore_n (lv' := [(3, .int (0 : Int32)), (2, .int (0 : Int32)), (0, .int x0), (1, .int x1)]) hx hb dX4_greatestBefore_3 rfl hl (by decide) rfl (fun ls hl => ?_)
  obtain ⟨o4, ho4, hf⟩ := zb hf
  refine L4 zfu x0 x1 (0 : Int32) (0 : Int32) o4 ho4 _ _ _ (lv_sub hl [2, 3, 1, 0] rfl) hP hD hS (fun H locs ls hl hP hD hS => ?_)
  refine lv_iload_n hx hb dX4_greatestBefore_25 rfl (lv_at hl 0 rfl) ?_
  obtain rfl := Option.some.inj hf
  exact zreti X hQ hP hD hS ⟨rfl, rfl⟩ rfl dX4_greatestBefore_26 (Nat.le_of_ble_eq_true rfl) (Nat.le_of_ble_eq_true rfl)


abbrev rm_X4_crosses : Room := { frames := 1, cells := 0, slots := 0, locals := 21 }
def zf_X4_crosses_24 (x3 : Int32) (x4 : Int32) : Option ((Int32 × Int32) ⊕ ((Int32))) :=
  some (.inl (x3, x4 + (1 : Int32)))
def zf_X4_crosses_l5 (x0 : Int32) (x1 : Int32) (x2 : Int32) (x3 : Int32) (x4 : Int32) : Option ((Int32 × Int32) ⊕ ((Int32))) :=
  if x1 ≤ x4 then (some (.inr x3)) else ((zf_X4_labelIn x0 x4).bind fun o14 =>
  if o14 = x2 then (zf_X4_crosses_24 x4 x4) else (zf_X4_crosses_24 x3 x4))
def zf_X4_crosses_l65 (x0 : Int32) (x3 : Int32) (x5 : Int32) (x6 : Int32) : Option ((Int32) ⊕ ((Unit) ⊕ (Unit))) :=
  if x3 ≤ x6 then (some (.inr (.inl ()))) else ((zf_X4_labelIn x0 x6).bind fun o74 =>
  if o74 = x5 then (some (.inr (.inr ()))) else (some (.inl (x6 + (1 : Int32)))))
def zf_X4_crosses_l41 (x0 : Int32) (x1 : Int32) (x3 : Int32) (x4 : Int32) : Option ((Int32) ⊕ ((Unit) ⊕ (Unit) ⊕ (Unit))) :=
  if x1 ≤ x4 then (some (.inr (.inl ()))) else ((zf_X4_labelIn x0 x4).bind fun o50 =>
  if o50 = 0 then (some (.inr (.inr (.inl ())))) else ((zit (fun d => zf_X4_crosses_l65 x0 x3 o50 d) zfu (0 : Int32)).bind fun o65 =>
  Sum.elim (fun e65 => some (.inl (x4 + (1 : Int32)))) (fun e65 => some (.inr (.inr (.inr ())))) o65))
def zf_X4_crosses (x0 : Int32) (x1 : Int32) (x2 : Int32) : Option (Int32) :=
  (zit (fun d => zf_X4_crosses_l5 x0 x1 x2 d.1 d.2) zfu ((-1 : Int32), (0 : Int32))).bind fun o5 =>
  if 0 ≤ o5 then ((zit (fun d => zf_X4_crosses_l41 x0 x1 o5 d) zfu (o5 + (1 : Int32))).bind fun o41 =>
  Sum.elim (fun e41 => some (0 : Int32)) (fun q41 => Sum.elim (fun e41 => some (1 : Int32)) (fun e41 => some (1 : Int32)) q41) o41) else (some (0 : Int32))
set_option maxHeartbeats 4000000 in
set_option maxRecDepth 100000 in
theorem zc_X4_crosses (l : Launch) (D : va_G) (y : zY) (x0 : Int32) (x1 : Int32) (x2 : Int32) (out : Int32) (hf : zf_X4_crosses x0 x1 x2 = some out) : zC l D y yX4_crosses cX4_crosses 7 (some .boolean) rm_X4_crosses [.int x0, .int x1, .int x2] [] (zE (some (.int out)) []) := by
  refine zmk (by decide) (Nat.le_of_ble_eq_true rfl) ?_
  intro p e s m args below meth c A Q ls X hQ hnm hP hD hS hl
  have X : zX p s m args meth c D y A RX4 cX4_crosses 7 (some .boolean) := X
  obtain ⟨hx, hb, hr, hml, hown, hts, hK, hA, hlocks⟩ := id X
  have hl : lv_has ls 7 [(0, .int x0), (1, .int x1), (2, .int x2)] := hl
  have L5 : ∀ (n : Nat) (x0 : Int32) (x1 : Int32) (x2 : Int32) (x3 : Int32) (x4 : Int32) (x : (Int32)), zit (fun d => zf_X4_crosses_l5 x0 x1 x2 d.1 d.2) n (x3, x4) = some x → ∀ (H : Heap) (locs : List Loc) (ls : Array Slot), lv_has ls 7 [(0, .int x0), (1, .int x1), (2, .int x2), (3, .int x3), (4, .int x4)] → va_P D vwCl [] H → va_D A [] → va_S A s.heap H locs → (∀ (H : Heap) (locs : List Loc) (ls : Array Slot), lv_has ls 7 [(0, .int x0), (1, .int x1), (3, .int x)] → va_P D vwCl [] H → va_D A [] → va_S A s.heap H locs → W p l e rm_X4_crosses s m args below meth c H locs 0 0 Q (F0 m 30 ls [])) → W p l e rm_X4_crosses s m args below meth c H locs 0 0 Q (F0 m 5 ls []) := by
    intro n
    induction n with
    | zero => intro x0 x1 x2 x3 x4 x h; exact (zi0 h).elim
    | succ n ih =>
      intro x0 x1 x2 x3 x4 x h H locs ls hl hP hD hS K30
      obtain ⟨r, hf, h⟩ := zis h
      have hf : zf_X4_crosses_l5 x0 x1 x2 x3 x4 = some r := hf
      have J24 : ∀ (x3 : Int32) (x4 : Int32), zf_X4_crosses_24 x3 x4 = some r → ∀ (H : Heap) (locs : List Loc) (ls : Array Slot), lv_has ls 7 [(0, .int x0), (1, .int x1), (2, .int x2), (3, .int x3), (4, .int x4)] → va_P D vwCl [] H → va_D A [] → va_S A s.heap H locs → W p l e rm_X4_crosses s m args below meth c H locs 0 0 Q (F0 m 24 ls []) := by
        intro x3 x4 hf H locs ls hl hP hD hS
        unfold zf_X4_crosses_24 at hf
        refine lv_iinc (v := x4 + (1 : Int32)) (lv' := [(4, .int (x4 + (1 : Int32))), (0, .int x0), (1, .int x1), (2, .int x2), (3, .int x3)]) hx hb dX4_crosses_24 hl (k := 4) rfl rfl (by decide) rfl (fun ls hl => ?_)
        refine lv_goto (tgt := 5) hx hb dX4_crosses_27 (by decide) ?_
        obtain rfl := Option.some.inj hf
        exact ih x0 x1 x2 x3 (x4 + (1 : Int32)) x h _ _ _ (lv_sub hl [1, 2, 3, 4, 0] rfl) hP hD hS K30
      unfold zf_X4_crosses_l5 at hf
      refine lv_iload hx hb dX4_crosses_5 (lv_at hl 4 rfl) ?_
      refine lv_iload_n hx hb dX4_crosses_7 rfl (lv_at hl 1 rfl) ?_
      refine lv_icmp_ge (tgt := 30) hx hb dX4_crosses_8 (by decide) (fun c8 => ?_) (fun c8 => ?_)
      · replace hf := zt c8 hf
        obtain rfl := Option.some.inj hf
        obtain rfl := Option.some.inj h
        exact K30 _ _ _ (lv_sub hl [0, 1, 3] rfl) hP hD hS
      · replace hf := ze c8 hf
        refine lv_iload_n hx hb dX4_crosses_11 rfl (lv_at hl 0 rfl) ?_
        refine lv_iload hx hb dX4_crosses_12 (lv_at hl 4 rfl) ?_
        obtain ⟨o14, ho14, hf⟩ := zb hf
        refine zcS1 (wr := []) (rest := []) X (zc_X4_labelIn l D y x0 x4 o14 ho14) kf_RX4_77 ⟨(Nat.le_of_ble_eq_true rfl), (Nat.le_of_ble_eq_true rfl)⟩ hP hD hS [] [] rfl rfl rfl rfl (by decide) rfl rfl hl.1 (Nat.le_of_ble_eq_true rfl) dX4_crosses_14 ⟨(Nat.le_of_ble_eq_true rfl), (Nat.le_of_ble_eq_true rfl)⟩ (fun H locs hP hD hS => ?_)
        have hP : va_P D vwCl [] H := hP
        have hD : va_D A [] := hD
        refine lv_iload_n hx hb dX4_crosses_17 rfl (lv_at hl 2 rfl) ?_
        refine lv_icmp_ne (tgt := 24) hx hb dX4_crosses_18 (by decide) (fun c18 => ?_) (fun c18 => ?_)
        · replace hf := ze c18 hf
          exact J24 x3 x4 hf _ _ _ hl hP hD hS
        · replace hf := zt c18 hf
          refine lv_iload hx hb dX4_crosses_21 (lv_at hl 4 rfl) ?_
          refine lv_istore_n (lv' := [(3, .int x4), (0, .int x0), (1, .int x1), (2, .int x2), (4, .int x4)]) hx hb dX4_crosses_23 rfl hl (by decide) rfl (fun ls hl => ?_)
          exact J24 x4 x4 hf _ _ _ (lv_sub hl [1, 2, 3, 0, 4] rfl) hP hD hS
  have L65 : ∀ (n : Nat) (x0 : Int32) (x1 : Int32) (x3 : Int32) (x4 : Int32) (x5 : Int32) (x6 : Int32) (x : (Unit) ⊕ (Unit)), zit (fun d => zf_X4_crosses_l65 x0 x3 x5 d) n x6 = some x → ∀ (H : Heap) (locs : List Loc) (ls : Array Slot), lv_has ls 7 [(0, .int x0), (1, .int x1), (3, .int x3), (4, .int x4), (5, .int x5), (6, .int x6)] → va_P D vwCl [] H → va_D A [] → va_S A s.heap H locs → (∀ (ee : Unit), x = .inl ee → ∀ (H : Heap) (locs : List Loc) (ls : Array Slot), lv_has ls 7 [(0, .int x0), (1, .int x1), (3, .int x3), (4, .int x4)] → va_P D vwCl [] H → va_D A [] → va_S A s.heap H locs → W p l e rm_X4_crosses s m args below meth c H locs 0 0 Q (F0 m 90 ls [])) → (∀ (ee : Unit), x = (.inr ee) → ∀ (H : Heap) (locs : List Loc) (ls : Array Slot), lv_has ls 7 [] → va_P D vwCl [] H → va_D A [] → va_S A s.heap H locs → W p l e rm_X4_crosses s m args below meth c H locs 0 0 Q (F0 m 82 ls [])) → W p l e rm_X4_crosses s m args below meth c H locs 0 0 Q (F0 m 65 ls []) := by
    intro n
    induction n with
    | zero => intro x0 x1 x3 x4 x5 x6 x h; exact (zi0 h).elim
    | succ n ih =>
      intro x0 x1 x3 x4 x5 x6 x h H locs ls hl hP hD hS K90 K82
      obtain ⟨r, hf, h⟩ := zis h
      have hf : zf_X4_crosses_l65 x0 x3 x5 x6 = some r := hf
      unfold zf_X4_crosses_l65 at hf
      refine lv_iload hx hb dX4_crosses_65 (lv_at hl 5 rfl) ?_
      refine lv_iload_n hx hb dX4_crosses_67 rfl (lv_at hl 2 rfl) ?_
      refine lv_icmp_ge (tgt := 90) hx hb dX4_crosses_68 (by decide) (fun c68 => ?_) (fun c68 => ?_)
      · replace hf := zt c68 hf
        obtain rfl := Option.some.inj hf
        obtain rfl := Option.some.inj h
        exact K90 _ rfl _ _ _ (lv_sub hl [0, 1, 2, 3] rfl) hP hD hS
      · replace hf := ze c68 hf
        refine lv_iload_n hx hb dX4_crosses_71 rfl (lv_at hl 0 rfl) ?_
        refine lv_iload hx hb dX4_crosses_72 (lv_at hl 5 rfl) ?_
        obtain ⟨o74, ho74, hf⟩ := zb hf
        refine zcS1 (wr := []) (rest := []) X (zc_X4_labelIn l D y x0 x6 o74 ho74) kf_RX4_77 ⟨(Nat.le_of_ble_eq_true rfl), (Nat.le_of_ble_eq_true rfl)⟩ hP hD hS [] [] rfl rfl rfl rfl (by decide) rfl rfl hl.1 (Nat.le_of_ble_eq_true rfl) dX4_crosses_74 ⟨(Nat.le_of_ble_eq_true rfl), (Nat.le_of_ble_eq_true rfl)⟩ (fun H locs hP hD hS => ?_)
        have hP : va_P D vwCl [] H := hP
        have hD : va_D A [] := hD
        refine lv_iload hx hb dX4_crosses_77 (lv_at hl 4 rfl) ?_
        refine lv_icmp_ne (tgt := 84) hx hb dX4_crosses_79 (by decide) (fun c79 => ?_) (fun c79 => ?_)
        · replace hf := ze c79 hf
          refine lv_iinc (v := x6 + (1 : Int32)) (lv' := [(6, .int (x6 + (1 : Int32))), (0, .int x0), (1, .int x1), (3, .int x3), (4, .int x4), (5, .int x5)]) hx hb dX4_crosses_84 hl (k := 5) rfl rfl (by decide) rfl (fun ls hl => ?_)
          refine lv_goto (tgt := 65) hx hb dX4_crosses_87 (by decide) ?_
          obtain rfl := Option.some.inj hf
          exact ih x0 x1 x3 x4 x5 (x6 + (1 : Int32)) x h _ _ _ (lv_sub hl [1, 2, 3, 4, 5, 0] rfl) hP hD hS K90 K82
        · replace hf := zt c79 hf
          obtain rfl := Option.some.inj hf
          obtain rfl := Option.some.inj h
          exact K82 _ rfl _ _ _ (lv_sub hl [] rfl) hP hD hS
  have L41 : ∀ (n : Nat) (x0 : Int32) (x1 : Int32) (x3 : Int32) (x4 : Int32) (x : (Unit) ⊕ (Unit) ⊕ (Unit)), zit (fun d => zf_X4_crosses_l41 x0 x1 x3 d) n x4 = some x → ∀ (H : Heap) (locs : List Loc) (ls : Array Slot), lv_has ls 7 [(0, .int x0), (1, .int x1), (3, .int x3), (4, .int x4)] → va_P D vwCl [] H → va_D A [] → va_S A s.heap H locs → (∀ (ee : Unit), x = .inl ee → ∀ (H : Heap) (locs : List Loc) (ls : Array Slot), lv_has ls 7 [] → va_P D vwCl [] H → va_D A [] → va_S A s.heap H locs → W p l e rm_X4_crosses s m args below meth c H locs 0 0 Q (F0 m 96 ls [])) → (∀ (ee : Unit), x = (.inr (.inl ee)) → ∀ (H : Heap) (locs : List Loc) (ls : Array Slot), lv_has ls 7 [] → va_P D vwCl [] H → va_D A [] → va_S A s.heap H locs → W p l e rm_X4_crosses s m args below meth c H locs 0 0 Q (F0 m 60 ls [])) → (∀ (ee : Unit), x = (.inr (.inr ee)) → ∀ (H : Heap) (locs : List Loc) (ls : Array Slot), lv_has ls 7 [] → va_P D vwCl [] H → va_D A [] → va_S A s.heap H locs → W p l e rm_X4_crosses s m args below meth c H locs 0 0 Q (F0 m 82 ls [])) → W p l e rm_X4_crosses s m args below meth c H locs 0 0 Q (F0 m 41 ls []) := by
    intro n
    induction n with
    | zero => intro x0 x1 x3 x4 x h; exact (zi0 h).elim
    | succ n ih =>
      intro x0 x1 x3 x4 x h H locs ls hl hP hD hS K96 K60 K82
      obtain ⟨r, hf, h⟩ := zis h
      have hf : zf_X4_crosses_l41 x0 x1 x3 x4 = some r := hf
      unfold zf_X4_crosses_l41 at hf
      refine lv_iload hx hb dX4_crosses_41 (lv_at hl 3 rfl) ?_
      refine lv_iload_n hx hb dX4_crosses_43 rfl (lv_at hl 1 rfl) ?_
      refine lv_icmp_ge (tgt := 96) hx hb dX4_crosses_44 (by decide) (fun c44 => ?_) (fun c44 => ?_)
      · replace hf := zt c44 hf
        obtain rfl := Option.some.inj hf
        obtain rfl := Option.some.inj h
        exact K96 _ rfl _ _ _ (lv_sub hl [] rfl) hP hD hS
      · replace hf := ze c44 hf
        refine lv_iload_n hx hb dX4_crosses_47 rfl (lv_at hl 0 rfl) ?_
        refine lv_iload hx hb dX4_crosses_48 (lv_at hl 3 rfl) ?_
        obtain ⟨o50, ho50, hf⟩ := zb hf
        refine zcS1 (wr := []) (rest := []) X (zc_X4_labelIn l D y x0 x4 o50 ho50) kf_RX4_77 ⟨(Nat.le_of_ble_eq_true rfl), (Nat.le_of_ble_eq_true rfl)⟩ hP hD hS [] [] rfl rfl rfl rfl (by decide) rfl rfl hl.1 (Nat.le_of_ble_eq_true rfl) dX4_crosses_50 ⟨(Nat.le_of_ble_eq_true rfl), (Nat.le_of_ble_eq_true rfl)⟩ (fun H locs hP hD hS => ?_)
        have hP : va_P D vwCl [] H := hP
        have hD : va_D A [] := hD
        refine lv_istore (lv' := [(5, .int o50), (0, .int x0), (1, .int x1), (3, .int x3), (4, .int x4)]) hx hb dX4_crosses_53 hl (by decide) rfl (fun ls hl => ?_)
        refine lv_iload hx hb dX4_crosses_55 (lv_at hl 0 rfl) ?_
        refine lv_if_ne (tgt := 62) hx hb dX4_crosses_57 (by decide) (fun c57 => ?_) (fun c57 => ?_)
        · replace hf := ze c57 hf
          refine lv_iconst (v := 0) hx hb dX4_crosses_62 (by decide) ?_
          refine lv_istore (lv' := [(6, .int (0 : Int32)), (5, .int o50), (0, .int x0), (1, .int x1), (3, .int x3), (4, .int x4)]) hx hb dX4_crosses_63 hl (by decide) rfl (fun ls hl => ?_)
          obtain ⟨o65, ho65, hf⟩ := zb hf
          refine L65 zfu x0 x1 x3 x4 o50 (0 : Int32) o65 ho65 _ _ _ (lv_sub hl [2, 3, 4, 5, 1, 0] rfl) hP hD hS (fun e65 he H locs ls hl hP hD hS => ?_) (fun e65 he H locs ls hl hP hD hS => ?_)
          · subst he
            replace hf := zsl hf
            refine lv_iinc (v := x4 + (1 : Int32)) (lv' := [(4, .int (x4 + (1 : Int32))), (0, .int x0), (1, .int x1), (3, .int x3)]) hx hb dX4_crosses_90 hl (k := 3) rfl rfl (by decide) rfl (fun ls hl => ?_)
            refine lv_goto (tgt := 41) hx hb dX4_crosses_93 (by decide) ?_
            obtain rfl := Option.some.inj hf
            exact ih x0 x1 x3 (x4 + (1 : Int32)) x h _ _ _ (lv_sub hl [1, 2, 3, 0] rfl) hP hD hS K96 K60 K82
          · subst he
            replace hf := zsr hf
            obtain rfl := Option.some.inj hf
            obtain rfl := Option.some.inj h
            exact K82 _ rfl _ _ _ hl hP hD hS
        · replace hf := zt c57 hf
          obtain rfl := Option.some.inj hf
          obtain rfl := Option.some.inj h
          exact K60 _ rfl _ _ _ (lv_sub hl [] rfl) hP hD hS
  unfold zf_X4_crosses at hf
  refine lv_iconst (v := -1) hx hb dX4_crosses_0 (by decide) ?_
  refine lv_istore_n (lv' := [(3, .int (-1 : Int32)), (0, .int x0), (1, .int x1), (2, .int x2)]) hx hb dX4_crosses_1 rfl hl (by decide) rfl (fun ls hl => ?_)
  refine lv_iconst (v := 0) hx hb dX4_crosses_2 (by decide) ?_
  refine lv_istore (lv' := [(4, .int (0 : Int32)), (3, .int (-1 : Int32)), (0, .int x0), (1, .int x1), (2, .int x2)]) hx hb dX4_crosses_3 hl (by decide) rfl (fun ls hl => ?_)
  obtain ⟨o5, ho5, hf⟩ := zb hf
  refine L5 zfu x0 x1 x2 (-1 : Int32) (0 : Int32) o5 ho5 _ _ _ (lv_sub hl [2, 3, 4, 1, 0] rfl) hP hD hS (fun H locs ls hl hP hD hS => ?_)
  refine lv_iload_n hx hb dX4_crosses_30 rfl (lv_at hl 2 rfl) ?_
  refine lv_if_ge (tgt := 36) hx hb dX4_crosses_31 (by decide) (fun c31 => ?_) (fun c31 => ?_)
  · replace hf := zt c31 hf
    refine lv_iload_n hx hb dX4_crosses_36 rfl (lv_at hl 2 rfl) ?_
    refine lv_iconst (v := 1) hx hb dX4_crosses_37 (by decide) ?_
    refine lv_iadd hx hb dX4_crosses_38 ?_
    refine lv_istore (lv' := [(4, .int (o5 + (1 : Int32))), (0, .int x0), (1, .int x1), (3, .int o5)]) hx hb dX4_crosses_39 hl (by decide) rfl (fun ls hl => ?_)
    obtain ⟨o41, ho41, hf⟩ := zb hf
    refine L41 zfu x0 x1 o5 (o5 + (1 : Int32)) o41 ho41 _ _ _ (lv_sub hl [1, 2, 3, 0] rfl) hP hD hS (fun e41 he H locs ls hl hP hD hS => ?_) (fun e41 he H locs ls hl hP hD hS => ?_) (fun e41 he H locs ls hl hP hD hS => ?_)
    · subst he
      replace hf := zsl hf
      refine lv_iconst (v := 0) hx hb dX4_crosses_96 (by decide) ?_
      obtain rfl := Option.some.inj hf
      exact zreti X hQ hP hD hS ⟨rfl, rfl⟩ rfl dX4_crosses_97 (Nat.le_of_ble_eq_true rfl) (Nat.le_of_ble_eq_true rfl)
    · subst he
      replace hf := zsr hf
      replace hf := zsl hf
      refine lv_iconst (v := 1) hx hb dX4_crosses_60 (by decide) ?_
      obtain rfl := Option.some.inj hf
      exact zreti X hQ hP hD hS ⟨rfl, rfl⟩ rfl dX4_crosses_61 (Nat.le_of_ble_eq_true rfl) (Nat.le_of_ble_eq_true rfl)
    · subst he
      replace hf := zsr hf
      replace hf := zsr hf
      refine lv_iconst (v := 1) hx hb dX4_crosses_82 (by decide) ?_
      obtain rfl := Option.some.inj hf
      exact zreti X hQ hP hD hS ⟨rfl, rfl⟩ rfl dX4_crosses_83 (Nat.le_of_ble_eq_true rfl) (Nat.le_of_ble_eq_true rfl)
  · replace hf := ze c31 hf
    refine lv_iconst (v := 0) hx hb dX4_crosses_34 (by decide) ?_
    obtain rfl := Option.some.inj hf
    exact zreti X hQ hP hD hS ⟨rfl, rfl⟩ rfl dX4_crosses_35 (Nat.le_of_ble_eq_true rfl) (Nat.le_of_ble_eq_true rfl)


abbrev rm_X4_shiftOf : Room := { frames := 0, cells := 0, slots := 0, locals := 0 }
def zf_X4_shiftOf (x0 : Int32) : Option (Int32) :=
  some ((3 : Int32) * ((4 : Int32) - x0))
set_option maxHeartbeats 4000000 in
set_option maxRecDepth 100000 in
theorem zc_X4_shiftOf (l : Launch) (D : va_G) (y : zY) (x0 : Int32) (out : Int32) (hf : zf_X4_shiftOf x0 = some out) : zC l D y yX4_shiftOf cX4_shiftOf 1 (some .int) rm_X4_shiftOf [.int x0] [] (zE (some (.int out)) []) := by
  refine zmk (by decide) (Nat.le_of_ble_eq_true rfl) ?_
  intro p e s m args below meth c A Q ls X hQ hnm hP hD hS hl
  have X : zX p s m args meth c D y A RX4 cX4_shiftOf 1 (some .int) := X
  obtain ⟨hx, hb, hr, hml, hown, hts, hK, hA, hlocks⟩ := id X
  have hl : lv_has ls 1 [(0, .int x0)] := hl
  unfold zf_X4_shiftOf at hf
  refine lv_iconst (v := 3) hx hb dX4_shiftOf_0 (by decide) ?_
  refine lv_iconst (v := 4) hx hb dX4_shiftOf_1 (by decide) ?_
  refine lv_iload_n hx hb dX4_shiftOf_2 rfl (lv_at hl 0 rfl) ?_
  refine lv_isub hx hb dX4_shiftOf_3 ?_
  refine lv_imul hx hb dX4_shiftOf_4 ?_
  obtain rfl := Option.some.inj hf
  exact zreti X hQ hP hD hS ⟨rfl, rfl⟩ rfl dX4_shiftOf_5 (Nat.le_of_ble_eq_true rfl) (Nat.le_of_ble_eq_true rfl)

theorem kf_RX4_63 : zCB RX4 63 yX4_crosses cX4_crosses 7 (some .boolean) 3 ∧ Cond.static yX4_crosses ∈ wAll := ⟨⟨q_369, q_3, q_367, by decide +kernel⟩, q_368⟩
theorem kf_RX4_67 : zCB RX4 67 yX4_shiftOf cX4_shiftOf 1 (some .int) 1 ∧ Cond.static yX4_shiftOf ∈ wAll := ⟨⟨q_372, q_3, q_370, by decide +kernel⟩, q_371⟩
theorem kf_RX4_60 : zCB RX4 60 yX4_greatestBefore cX4_greatestBefore 4 (some .int) 2 ∧ Cond.static yX4_greatestBefore ∈ wAll := ⟨⟨q_360, q_3, q_358, by decide +kernel⟩, q_359⟩
abbrev rm_X4_addCell : Room := { frames := 2, cells := 0, slots := 0, locals := 47 }
def zf_X4_addCell_81 (c_longer : Nat → Int32) (x2 : Int32) (x5 : Int32) : Option ((Int32 × Int32 × (Nat → Int32)) ⊕ ((Int32 × (Nat → Int32)))) :=
  some (.inl (x2, x5 + (1 : Int32), c_longer))
def zf_X4_addCell_l29 (c_codes : Nat → Int32) (x1 : Int32) (x3 : Int32) (x4 : Int32) (x2 : Int32) (x5 : Int32) (c_longer : Nat → Int32) : Option ((Int32 × Int32 × (Nat → Int32)) ⊕ ((Int32 × (Nat → Int32)))) :=
  if x4 < x5 then (some (.inr (x2, c_longer))) else (if (132 : Int32) ≤ x2 then (zf_X4_addCell_81 c_longer x2 x5) else (if zgd x3 132 = true then ((zf_X4_crosses (c_codes x3.toNatClampNeg) x1 x5).bind fun o52 =>
  if o52 = 0 then (if zgd x3 132 = true then ((zf_X4_shiftOf x1).bind fun o72 =>
  if zgd x2 132 = true then (zf_X4_addCell_81 (upd c_longer x2.toNatClampNeg ((c_codes x3.toNatClampNeg) ||| (zshl x5 o72))) (x2 + (1 : Int32)) x5) else none) else none) else (zf_X4_addCell_81 c_longer x2 x5)) else none))
def zf_X4_addCell_l4 (f_size : Int32) (c_codes : Nat → Int32) (x1 : Int32) (x2 : Int32) (x3 : Int32) (c_longer : Nat → Int32) : Option ((Int32 × Int32 × (Nat → Int32)) ⊕ ((Int32 × (Nat → Int32)))) :=
  if f_size ≤ x3 then (some (.inr (x2, c_longer))) else (if zgd x3 132 = true then ((zf_X4_greatestBefore (c_codes x3.toNatClampNeg) x1).bind fun o19 =>
  (zit (fun d => zf_X4_addCell_l29 c_codes x1 x3 (o19 + (1 : Int32)) d.1 d.2.1 d.2.2) zfu (x2, (0 : Int32), c_longer)).bind fun o29 =>
  some (.inl (o29.1, x3 + (1 : Int32), o29.2))) else none)
def zf_X4_addCell (f_size : Int32) (c_codes : Nat → Int32) (c_longer : Nat → Int32) (x1 : Int32) : Option (Int32 × (Nat → Int32) × (Nat → Int32)) :=
  (zit (fun d => zf_X4_addCell_l4 f_size c_codes x1 d.1 d.2.1 d.2.2) zfu ((0 : Int32), (0 : Int32), c_longer)).bind fun o4 =>
  if zcg (0 : Int32) (0 : Int32) o4.1 132 132 = true then (some (o4.1, va_cpy o4.2 c_codes (0 : Int32).toNatClampNeg (0 : Int32).toNatClampNeg o4.1.toNatClampNeg, o4.2)) else none
set_option maxHeartbeats 4000000 in
set_option maxRecDepth 100000 in
theorem zc_X4_addCell (l : Launch) (D : va_G) (y : zY) (a_this a_codes a_wetCells a_moves a_stepPipe a_stepSlot a_rowStart a_longer : Nat) (f_columns : Int32) (f_rows : Int32) (f_size : Int32) (f_steps : Int32) (c_codes : Nat → Int32) (c_longer : Nat → Int32) (x1 : Int32) (out : Int32 × (Nat → Int32) × (Nat → Int32)) (hf : zf_X4_addCell f_size c_codes c_longer x1 = some out) : zC l D y yX4_addCell cX4_addCell 6 (none : Option Jvm.ClassFile.FieldType) rm_X4_addCell [.ref a_this, .int x1] [(a_this, .inr (4, [.ref a_codes, .ref a_wetCells, .ref a_moves, .ref a_stepPipe, .ref a_stepSlot, .ref a_rowStart, .ref a_longer, .int f_columns, .int f_rows, .int f_size, .int f_steps])), (a_codes, .inl (y.1, 132, .inl c_codes)), (a_longer, .inl (y.1, 132, .inl c_longer))] (zE none [(a_this, .inr (4, [.ref a_codes, .ref a_wetCells, .ref a_moves, .ref a_stepPipe, .ref a_stepSlot, .ref a_rowStart, .ref a_longer, .int f_columns, .int f_rows, .int out.1, .int f_steps])), (a_codes, .inl (y.1, 132, .inl out.2.1)), (a_longer, .inl (y.1, 132, .inl out.2.2))]) := by
  refine zmk (by decide) (Nat.le_of_ble_eq_true rfl) ?_
  intro p e s m args below meth c A Q ls X hQ hnm hP hD hS hl
  have X : zX p s m args meth c D y A RX4 cX4_addCell 6 (none : Option Jvm.ClassFile.FieldType) := X
  obtain ⟨hx, hb, hr, hml, hown, hts, hK, hA, hlocks⟩ := id X
  have hl : lv_has ls 6 [(0, .ref a_this), (1, .int x1)] := hl
  have L29 : ∀ (n : Nat) (x1 : Int32) (x2 : Int32) (x3 : Int32) (x4 : Int32) (x5 : Int32) (f_size : Int32) (c_codes : Nat → Int32) (c_longer : Nat → Int32) (x : (Int32 × (Nat → Int32))), zit (fun d => zf_X4_addCell_l29 c_codes x1 x3 x4 d.1 d.2.1 d.2.2) n (x2, x5, c_longer) = some x → ∀ (H : Heap) (locs : List Loc) (ls : Array Slot), lv_has ls 6 [(0, .ref a_this), (1, .int x1), (2, .int x2), (3, .int x3), (4, .int x4), (5, .int x5)] → va_P D vwCl [(a_this, .inr (4, [.ref a_codes, .ref a_wetCells, .ref a_moves, .ref a_stepPipe, .ref a_stepSlot, .ref a_rowStart, .ref a_longer, .int f_columns, .int f_rows, .int f_size, .int f_steps])), (a_codes, .inl (y.1, 132, .inl c_codes)), (a_longer, .inl (y.1, 132, .inl c_longer))] H → va_D A [(a_this, .inr (4, [.ref a_codes, .ref a_wetCells, .ref a_moves, .ref a_stepPipe, .ref a_stepSlot, .ref a_rowStart, .ref a_longer, .int f_columns, .int f_rows, .int f_size, .int f_steps])), (a_codes, .inl (y.1, 132, .inl c_codes)), (a_longer, .inl (y.1, 132, .inl c_longer))] → va_S A s.heap H locs → (∀ (H : Heap) (locs : List Loc) (ls : Array Slot), lv_has ls 6 [(0, .ref a_this), (1, .int x1), (2, .int x.1), (3, .int x3)] → va_P D vwCl [(a_this, .inr (4, [.ref a_codes, .ref a_wetCells, .ref a_moves, .ref a_stepPipe, .ref a_stepSlot, .ref a_rowStart, .ref a_longer, .int f_columns, .int f_rows, .int f_size, .int f_steps])), (a_codes, .inl (y.1, 132, .inl c_codes)), (a_longer, .inl (y.1, 132, .inl x.2))] H → va_D A [(a_this, .inr (4, [.ref a_codes, .ref a_wetCells, .ref a_moves, .ref a_stepPipe, .ref a_stepSlot, .ref a_rowStart, .ref a_longer, .int f_columns, .int f_rows, .int f_size, .int f_steps])), (a_codes, .inl (y.1, 132, .inl c_codes)), (a_longer, .inl (y.1, 132, .inl x.2))] → va_S A s.heap H locs → W p l e rm_X4_addCell s m args below meth c H locs 0 0 Q (F0 m 87 ls [])) → W p l e rm_X4_addCell s m args below meth c H locs 0 0 Q (F0 m 29 ls []) := by
    intro n
    induction n with
    | zero => intro x1 x2 x3 x4 x5 f_size c_codes c_longer x h; exact (zi0 h).elim
    | succ n ih =>
      intro x1 x2 x3 x4 x5 f_size c_codes c_longer x h H locs ls hl hP hD hS K87
      obtain ⟨r, hf, h⟩ := zis h
      have hf : zf_X4_addCell_l29 c_codes x1 x3 x4 x2 x5 c_longer = some r := hf
      have J81 : ∀ (x2 : Int32) (x5 : Int32) (c_longer : Nat → Int32), zf_X4_addCell_81 c_longer x2 x5 = some r → ∀ (H : Heap) (locs : List Loc) (ls : Array Slot), lv_has ls 6 [(0, .ref a_this), (1, .int x1), (2, .int x2), (3, .int x3), (4, .int x4), (5, .int x5)] → va_P D vwCl [(a_this, .inr (4, [.ref a_codes, .ref a_wetCells, .ref a_moves, .ref a_stepPipe, .ref a_stepSlot, .ref a_rowStart, .ref a_longer, .int f_columns, .int f_rows, .int f_size, .int f_steps])), (a_codes, .inl (y.1, 132, .inl c_codes)), (a_longer, .inl (y.1, 132, .inl c_longer))] H → va_D A [(a_this, .inr (4, [.ref a_codes, .ref a_wetCells, .ref a_moves, .ref a_stepPipe, .ref a_stepSlot, .ref a_rowStart, .ref a_longer, .int f_columns, .int f_rows, .int f_size, .int f_steps])), (a_codes, .inl (y.1, 132, .inl c_codes)), (a_longer, .inl (y.1, 132, .inl c_longer))] → va_S A s.heap H locs → W p l e rm_X4_addCell s m args below meth c H locs 0 0 Q (F0 m 81 ls []) := by
        intro x2 x5 c_longer hf H locs ls hl hP hD hS
        unfold zf_X4_addCell_81 at hf
        refine lv_iinc (v := x5 + (1 : Int32)) (lv' := [(5, .int (x5 + (1 : Int32))), (0, .ref a_this), (1, .int x1), (2, .int x2), (3, .int x3), (4, .int x4)]) hx hb dX4_addCell_81 hl (k := 5) rfl rfl (by decide) rfl (fun ls hl => ?_)
        refine lv_goto (tgt := 29) hx hb dX4_addCell_84 (by decide) ?_
        obtain rfl := Option.some.inj hf
        exact ih x1 x2 x3 x4 (x5 + (1 : Int32)) f_size c_codes c_longer x h _ _ _ (lv_sub hl [1, 2, 3, 4, 5, 0] rfl) hP hD hS K87
      unfold zf_X4_addCell_l29 at hf
      refine lv_iload hx hb dX4_addCell_29 (lv_at hl 5 rfl) ?_
      refine lv_iload hx hb dX4_addCell_31 (lv_at hl 4 rfl) ?_
      refine lv_icmp_gt (tgt := 87) hx hb dX4_addCell_33 (by decide) (fun c33 => ?_) (fun c33 => ?_)
      · replace hf := zt c33 hf
        obtain rfl := Option.some.inj hf
        obtain rfl := Option.some.inj h
        exact K87 _ _ _ (lv_sub hl [0, 1, 2, 3] rfl) hP hD hS
      · replace hf := ze c33 hf
        refine lv_iload_n hx hb dX4_addCell_36 rfl (lv_at hl 2 rfl) ?_
        refine lv_sipush (v := 132) hx hb dX4_addCell_37 (by decide) ?_
        refine lv_icmp_ge (tgt := 81) hx hb dX4_addCell_40 (by decide) (fun c40 => ?_) (fun c40 => ?_)
        · replace hf := zt c40 hf
          exact J81 x2 x5 c_longer hf _ _ _ hl hP hD hS
        · replace hf := ze c40 hf
          refine lv_aload_n hx hb dX4_addCell_43 rfl (lv_at hl 0 rfl) ?_
          refine zget X hP 0 rfl rfl inF4 0 (by decide) q_67 rfl dX4_addCell_44 ?_
          refine lv_iload_n hx hb dX4_addCell_47 rfl (lv_at hl 3 rfl) ?_
          obtain ⟨g48, hf⟩ := zg hf
          refine va_iald hx hb hK hP 1 0 rfl rfl g48 dX4_addCell_48 ?_
          refine lv_iload_n hx hb dX4_addCell_49 rfl (lv_at hl 1 rfl) ?_
          refine lv_iload hx hb dX4_addCell_50 (lv_at hl 5 rfl) ?_
          obtain ⟨o52, ho52, hf⟩ := zb hf
          refine zcS1 (wr := [(a_this, .inr (4, [.ref a_codes, .ref a_wetCells, .ref a_moves, .ref a_stepPipe, .ref a_stepSlot, .ref a_rowStart, .ref a_longer, .int f_columns, .int f_rows, .int f_size, .int f_steps])), (a_codes, .inl (y.1, 132, .inl c_codes)), (a_longer, .inl (y.1, 132, .inl c_longer))]) (rest := []) X (zc_X4_crosses l D y (c_codes x3.toNatClampNeg) x1 x5 o52 ho52) kf_RX4_63 ⟨(Nat.le_of_ble_eq_true rfl), (Nat.le_of_ble_eq_true rfl)⟩ hP hD hS [] [0, 1, 2] rfl rfl rfl rfl (by decide) rfl rfl hl.1 (Nat.le_of_ble_eq_true rfl) dX4_addCell_52 ⟨(Nat.le_of_ble_eq_true rfl), (Nat.le_of_ble_eq_true rfl)⟩ (fun H locs hP hD hS => ?_)
          have hP : va_P D vwCl [(a_this, .inr (4, [.ref a_codes, .ref a_wetCells, .ref a_moves, .ref a_stepPipe, .ref a_stepSlot, .ref a_rowStart, .ref a_longer, .int f_columns, .int f_rows, .int f_size, .int f_steps])), (a_codes, .inl (y.1, 132, .inl c_codes)), (a_longer, .inl (y.1, 132, .inl c_longer))] H := hP
          have hD : va_D A [(a_this, .inr (4, [.ref a_codes, .ref a_wetCells, .ref a_moves, .ref a_stepPipe, .ref a_stepSlot, .ref a_rowStart, .ref a_longer, .int f_columns, .int f_rows, .int f_size, .int f_steps])), (a_codes, .inl (y.1, 132, .inl c_codes)), (a_longer, .inl (y.1, 132, .inl c_longer))] := hD
          refine lv_if_ne (tgt := 81) hx hb dX4_addCell_55 (by decide) (fun c55 => ?_) (fun c55 => ?_)
          · replace hf := ze c55 hf
            exact J81 x2 x5 c_longer hf _ _ _ hl hP hD hS
          · replace hf := zt c55 hf
            refine lv_aload_n hx hb dX4_addCell_58 rfl (lv_at hl 0 rfl) ?_
            refine zget X hP 0 rfl rfl inF4 6 (by decide) q_84 rfl dX4_addCell_59 ?_
            refine lv_iload_n hx hb dX4_addCell_62 rfl (lv_at hl 2 rfl) ?_
            refine lv_aload_n hx hb dX4_addCell_63 rfl (lv_at hl 0 rfl) ?_
            refine zget X hP 0 rfl rfl inF4 0 (by decide) q_67 rfl dX4_addCell_64 ?_
            refine lv_iload_n hx hb dX4_addCell_67 rfl (lv_at hl 3 rfl) ?_
            obtain ⟨g68, hf⟩ := zg hf
            refine va_iald hx hb hK hP 1 0 rfl rfl g68 dX4_addCell_68 ?_
            refine lv_iload hx hb dX4_addCell_69 (lv_at hl 5 rfl) ?_
            refine lv_iload_n hx hb dX4_addCell_71 rfl (lv_at hl 1 rfl) ?_
            obtain ⟨o72, ho72, hf⟩ := zb hf
            refine zcS1 (wr := [(a_this, .inr (4, [.ref a_codes, .ref a_wetCells, .ref a_moves, .ref a_stepPipe, .ref a_stepSlot, .ref a_rowStart, .ref a_longer, .int f_columns, .int f_rows, .int f_size, .int f_steps])), (a_codes, .inl (y.1, 132, .inl c_codes)), (a_longer, .inl (y.1, 132, .inl c_longer))]) (rest := [.int x5, .int (c_codes x3.toNatClampNeg), .int x2, .ref a_longer]) X (zc_X4_shiftOf l D y x1 o72 ho72) kf_RX4_67 ⟨(Nat.le_of_ble_eq_true rfl), (Nat.le_of_ble_eq_true rfl)⟩ hP hD hS [] [0, 1, 2] rfl rfl rfl rfl (by decide) rfl rfl hl.1 (Nat.le_of_ble_eq_true rfl) dX4_addCell_72 ⟨(Nat.le_of_ble_eq_true rfl), (Nat.le_of_ble_eq_true rfl)⟩ (fun H locs hP hD hS => ?_)
            have hP : va_P D vwCl [(a_this, .inr (4, [.ref a_codes, .ref a_wetCells, .ref a_moves, .ref a_stepPipe, .ref a_stepSlot, .ref a_rowStart, .ref a_longer, .int f_columns, .int f_rows, .int f_size, .int f_steps])), (a_codes, .inl (y.1, 132, .inl c_codes)), (a_longer, .inl (y.1, 132, .inl c_longer))] H := hP
            have hD : va_D A [(a_this, .inr (4, [.ref a_codes, .ref a_wetCells, .ref a_moves, .ref a_stepPipe, .ref a_stepSlot, .ref a_rowStart, .ref a_longer, .int f_columns, .int f_rows, .int f_size, .int f_steps])), (a_codes, .inl (y.1, 132, .inl c_codes)), (a_longer, .inl (y.1, 132, .inl c_longer))] := hD
            refine lv_ishl hx hb dX4_addCell_75 ?_
            refine lv_ior hx hb dX4_addCell_76 ?_
            obtain ⟨g77, hf⟩ := zg hf
            refine va_iast hx hb hK hP hD hS 2 0 rfl rfl g77 dX4_addCell_77 (fun H locs hP hD hS => ?_)
            have hP : va_P D vwCl [(a_this, .inr (4, [.ref a_codes, .ref a_wetCells, .ref a_moves, .ref a_stepPipe, .ref a_stepSlot, .ref a_rowStart, .ref a_longer, .int f_columns, .int f_rows, .int f_size, .int f_steps])), (a_codes, .inl (y.1, 132, .inl c_codes)), (a_longer, .inl (y.1, 132, .inl (upd c_longer x2.toNatClampNeg ((c_codes x3.toNatClampNeg) ||| (zshl x5 o72)))))] H := hP
            have hD : va_D A [(a_this, .inr (4, [.ref a_codes, .ref a_wetCells, .ref a_moves, .ref a_stepPipe, .ref a_stepSlot, .ref a_rowStart, .ref a_longer, .int f_columns, .int f_rows, .int f_size, .int f_steps])), (a_codes, .inl (y.1, 132, .inl c_codes)), (a_longer, .inl (y.1, 132, .inl (upd c_longer x2.toNatClampNeg ((c_codes x3.toNatClampNeg) ||| (zshl x5 o72)))))] := hD
            refine lv_iinc (v := x2 + (1 : Int32)) (lv' := [(2, .int (x2 + (1 : Int32))), (0, .ref a_this), (1, .int x1), (3, .int x3), (4, .int x4), (5, .int x5)]) hx hb dX4_addCell_78 hl (k := 2) rfl rfl (by decide) rfl (fun ls hl => ?_)
            exact J81 (x2 + (1 : Int32)) x5 (upd c_longer x2.toNatClampNeg ((c_codes x3.toNatClampNeg) ||| (zshl x5 o72))) hf _ _ _ (lv_sub hl [1, 2, 0, 3, 4, 5] rfl) hP hD hS
  have L4 : ∀ (n : Nat) (x1 : Int32) (x2 : Int32) (x3 : Int32) (f_size : Int32) (c_codes : Nat → Int32) (c_longer : Nat → Int32) (x : (Int32 × (Nat → Int32))), zit (fun d => zf_X4_addCell_l4 f_size c_codes x1 d.1 d.2.1 d.2.2) n (x2, x3, c_longer) = some x → ∀ (H : Heap) (locs : List Loc) (ls : Array Slot), lv_has ls 6 [(0, .ref a_this), (1, .int x1), (2, .int x2), (3, .int x3)] → va_P D vwCl [(a_this, .inr (4, [.ref a_codes, .ref a_wetCells, .ref a_moves, .ref a_stepPipe, .ref a_stepSlot, .ref a_rowStart, .ref a_longer, .int f_columns, .int f_rows, .int f_size, .int f_steps])), (a_codes, .inl (y.1, 132, .inl c_codes)), (a_longer, .inl (y.1, 132, .inl c_longer))] H → va_D A [(a_this, .inr (4, [.ref a_codes, .ref a_wetCells, .ref a_moves, .ref a_stepPipe, .ref a_stepSlot, .ref a_rowStart, .ref a_longer, .int f_columns, .int f_rows, .int f_size, .int f_steps])), (a_codes, .inl (y.1, 132, .inl c_codes)), (a_longer, .inl (y.1, 132, .inl c_longer))] → va_S A s.heap H locs → (∀ (H : Heap) (locs : List Loc) (ls : Array Slot), lv_has ls 6 [(0, .ref a_this), (2, .int x.1)] → va_P D vwCl [(a_this, .inr (4, [.ref a_codes, .ref a_wetCells, .ref a_moves, .ref a_stepPipe, .ref a_stepSlot, .ref a_rowStart, .ref a_longer, .int f_columns, .int f_rows, .int f_size, .int f_steps])), (a_codes, .inl (y.1, 132, .inl c_codes)), (a_longer, .inl (y.1, 132, .inl x.2))] H → va_D A [(a_this, .inr (4, [.ref a_codes, .ref a_wetCells, .ref a_moves, .ref a_stepPipe, .ref a_stepSlot, .ref a_rowStart, .ref a_longer, .int f_columns, .int f_rows, .int f_size, .int f_steps])), (a_codes, .inl (y.1, 132, .inl c_codes)), (a_longer, .inl (y.1, 132, .inl x.2))] → va_S A s.heap H locs → W p l e rm_X4_addCell s m args below meth c H locs 0 0 Q (F0 m 93 ls [])) → W p l e rm_X4_addCell s m args below meth c H locs 0 0 Q (F0 m 4 ls []) := by
    intro n
    induction n with
    | zero => intro x1 x2 x3 f_size c_codes c_longer x h; exact (zi0 h).elim
    | succ n ih =>
      intro x1 x2 x3 f_size c_codes c_longer x h H locs ls hl hP hD hS K93
      obtain ⟨r, hf, h⟩ := zis h
      have hf : zf_X4_addCell_l4 f_size c_codes x1 x2 x3 c_longer = some r := hf
      unfold zf_X4_addCell_l4 at hf
      refine lv_iload_n hx hb dX4_addCell_4 rfl (lv_at hl 3 rfl) ?_
      refine lv_aload_n hx hb dX4_addCell_5 rfl (lv_at hl 0 rfl) ?_
      refine zget X hP 0 rfl rfl inF4 9 (by decide) q_87 rfl dX4_addCell_6 ?_
      refine lv_icmp_ge (tgt := 93) hx hb dX4_addCell_9 (by decide) (fun c9 => ?_) (fun c9 => ?_)
      · replace hf := zt c9 hf
        obtain rfl := Option.some.inj hf
        obtain rfl := Option.some.inj h
        exact K93 _ _ _ (lv_sub hl [0, 2] rfl) hP hD hS
      · replace hf := ze c9 hf
        refine lv_aload_n hx hb dX4_addCell_12 rfl (lv_at hl 0 rfl) ?_
        refine zget X hP 0 rfl rfl inF4 0 (by decide) q_67 rfl dX4_addCell_13 ?_
        refine lv_iload_n hx hb dX4_addCell_16 rfl (lv_at hl 3 rfl) ?_
        obtain ⟨g17, hf⟩ := zg hf
        refine va_iald hx hb hK hP 1 0 rfl rfl g17 dX4_addCell_17 ?_
        refine lv_iload_n hx hb dX4_addCell_18 rfl (lv_at hl 1 rfl) ?_
        obtain ⟨o19, ho19, hf⟩ := zb hf
        refine zcS1 (wr := [(a_this, .inr (4, [.ref a_codes, .ref a_wetCells, .ref a_moves, .ref a_stepPipe, .ref a_stepSlot, .ref a_rowStart, .ref a_longer, .int f_columns, .int f_rows, .int f_size, .int f_steps])), (a_codes, .inl (y.1, 132, .inl c_codes)), (a_longer, .inl (y.1, 132, .inl c_longer))]) (rest := []) X (zc_X4_greatestBefore l D y (c_codes x3.toNatClampNeg) x1 o19 ho19) kf_RX4_60 ⟨(Nat.le_of_ble_eq_true rfl), (Nat.le_of_ble_eq_true rfl)⟩ hP hD hS [] [0, 1, 2] rfl rfl rfl rfl (by decide) rfl rfl hl.1 (Nat.le_of_ble_eq_true rfl) dX4_addCell_19 ⟨(Nat.le_of_ble_eq_true rfl), (Nat.le_of_ble_eq_true rfl)⟩ (fun H locs hP hD hS => ?_)
        have hP : va_P D vwCl [(a_this, .inr (4, [.ref a_codes, .ref a_wetCells, .ref a_moves, .ref a_stepPipe, .ref a_stepSlot, .ref a_rowStart, .ref a_longer, .int f_columns, .int f_rows, .int f_size, .int f_steps])), (a_codes, .inl (y.1, 132, .inl c_codes)), (a_longer, .inl (y.1, 132, .inl c_longer))] H := hP
        have hD : va_D A [(a_this, .inr (4, [.ref a_codes, .ref a_wetCells, .ref a_moves, .ref a_stepPipe, .ref a_stepSlot, .ref a_rowStart, .ref a_longer, .int f_columns, .int f_rows, .int f_size, .int f_steps])), (a_codes, .inl (y.1, 132, .inl c_codes)), (a_longer, .inl (y.1, 132, .inl c_longer))] := hD
        refine lv_iconst (v := 1) hx hb dX4_addCell_22 (by decide) ?_
        refine lv_iadd hx hb dX4_addCell_23 ?_
        refine lv_istore (lv' := [(4, .int (o19 + (1 : Int32))), (0, .ref a_this), (1, .int x1), (2, .int x2), (3, .int x3)]) hx hb dX4_addCell_24 hl (by decide) rfl (fun ls hl => ?_)
        refine lv_iconst (v := 0) hx hb dX4_addCell_26 (by decide) ?_
        refine lv_istore (lv' := [(5, .int (0 : Int32)), (4, .int (o19 + (1 : Int32))), (0, .ref a_this), (1, .int x1), (2, .int x2), (3, .int x3)]) hx hb dX4_addCell_27 hl (by decide) rfl (fun ls hl => ?_)
        obtain ⟨o29, ho29, hf⟩ := zb hf
        refine L29 zfu x1 x2 x3 (o19 + (1 : Int32)) (0 : Int32) f_size c_codes c_longer o29 ho29 _ _ _ (lv_sub hl [2, 3, 4, 5, 1, 0] rfl) hP hD hS (fun H locs ls hl hP hD hS => ?_)
        refine lv_iinc (v := x3 + (1 : Int32)) (lv' := [(3, .int (x3 + (1 : Int32))), (0, .ref a_this), (1, .int x1), (2, .int o29.1)]) hx hb dX4_addCell_87 hl (k := 3) rfl rfl (by decide) rfl (fun ls hl => ?_)
        refine lv_goto (tgt := 4) hx hb dX4_addCell_90 (by decide) ?_
        obtain rfl := Option.some.inj hf
        exact ih x1 o29.1 (x3 + (1 : Int32)) f_size c_codes o29.2 x h _ _ _ (lv_sub hl [1, 2, 3, 0] rfl) hP hD hS K93
  unfold zf_X4_addCell at hf
  refine lv_iconst (v := 0) hx hb dX4_addCell_0 (by decide) ?_
  refine lv_istore_n (lv' := [(2, .int (0 : Int32)), (0, .ref a_this), (1, .int x1)]) hx hb dX4_addCell_1 rfl hl (by decide) rfl (fun ls hl => ?_)
  refine lv_iconst (v := 0) hx hb dX4_addCell_2 (by decide) ?_
  refine lv_istore_n (lv' := [(3, .int (0 : Int32)), (2, .int (0 : Int32)), (0, .ref a_this), (1, .int x1)]) hx hb dX4_addCell_3 rfl hl (by decide) rfl (fun ls hl => ?_)
  obtain ⟨o4, ho4, hf⟩ := zb hf
  refine L4 zfu x1 (0 : Int32) (0 : Int32) f_size c_codes c_longer o4 ho4 _ _ _ (lv_sub hl [2, 3, 1, 0] rfl) hP hD hS (fun H locs ls hl hP hD hS => ?_)
  refine lv_aload_n hx hb dX4_addCell_93 rfl (lv_at hl 0 rfl) ?_
  refine zget X hP 0 rfl rfl inF4 6 (by decide) q_84 rfl dX4_addCell_94 ?_
  refine lv_iconst (v := 0) hx hb dX4_addCell_97 (by decide) ?_
  refine lv_aload_n hx hb dX4_addCell_98 rfl (lv_at hl 0 rfl) ?_
  refine zget X hP 0 rfl rfl inF4 0 (by decide) q_67 rfl dX4_addCell_99 ?_
  refine lv_iconst (v := 0) hx hb dX4_addCell_102 (by decide) ?_
  refine lv_iload_n hx hb dX4_addCell_103 rfl (lv_at hl 1 rfl) ?_
  obtain ⟨g104, hf⟩ := zcp hf
  refine va_copyi (ty := .int) hx hb (by rw [hml]; exact hl.1.symm) hown (hts _ q_373) (hts _ q_375) (hts _ q_374) (hts _ q_23) hK hP hD hS 2 1 0 0 rfl rfl rfl rfl rfl g104.1 g104.2.1 g104.2.2.1 g104.2.2.2.1 g104.2.2.2.2 (fun _ _ => rfl) (Nat.le_of_ble_eq_true rfl) (Nat.le_of_ble_eq_true rfl) dX4_addCell_104 (fun H locs hP hD hS => ?_)
  have hP : va_P D vwCl [(a_this, .inr (4, [.ref a_codes, .ref a_wetCells, .ref a_moves, .ref a_stepPipe, .ref a_stepSlot, .ref a_rowStart, .ref a_longer, .int f_columns, .int f_rows, .int f_size, .int f_steps])), (a_codes, .inl (y.1, 132, .inl (va_cpy o4.2 c_codes (0 : Int32).toNatClampNeg (0 : Int32).toNatClampNeg o4.1.toNatClampNeg))), (a_longer, .inl (y.1, 132, .inl o4.2))] H := hP
  have hD : va_D A [(a_this, .inr (4, [.ref a_codes, .ref a_wetCells, .ref a_moves, .ref a_stepPipe, .ref a_stepSlot, .ref a_rowStart, .ref a_longer, .int f_columns, .int f_rows, .int f_size, .int f_steps])), (a_codes, .inl (y.1, 132, .inl (va_cpy o4.2 c_codes (0 : Int32).toNatClampNeg (0 : Int32).toNatClampNeg o4.1.toNatClampNeg))), (a_longer, .inl (y.1, 132, .inl o4.2))] := hD
  refine lv_aload_n hx hb dX4_addCell_107 rfl (lv_at hl 0 rfl) ?_
  refine lv_iload_n hx hb dX4_addCell_108 rfl (lv_at hl 1 rfl) ?_
  refine zput (ty := .int) X hP hD hS 0 rfl rfl inF4 tyX4_ok nmX4 9 (by decide) q_87 rfl rfl rfl rfl (Nat.le_of_ble_eq_true rfl) dX4_addCell_109 (fun H locs hP hD hS => ?_)
  have hP : va_P D vwCl [(a_this, .inr (4, [.ref a_codes, .ref a_wetCells, .ref a_moves, .ref a_stepPipe, .ref a_stepSlot, .ref a_rowStart, .ref a_longer, .int f_columns, .int f_rows, .int o4.1, .int f_steps])), (a_codes, .inl (y.1, 132, .inl (va_cpy o4.2 c_codes (0 : Int32).toNatClampNeg (0 : Int32).toNatClampNeg o4.1.toNatClampNeg))), (a_longer, .inl (y.1, 132, .inl o4.2))] H := hP
  have hD : va_D A [(a_this, .inr (4, [.ref a_codes, .ref a_wetCells, .ref a_moves, .ref a_stepPipe, .ref a_stepSlot, .ref a_rowStart, .ref a_longer, .int f_columns, .int f_rows, .int o4.1, .int f_steps])), (a_codes, .inl (y.1, 132, .inl (va_cpy o4.2 c_codes (0 : Int32).toNatClampNeg (0 : Int32).toNatClampNeg o4.1.toNatClampNeg))), (a_longer, .inl (y.1, 132, .inl o4.2))] := hD
  obtain rfl := Option.some.inj hf
  exact zretv X hQ hP hD hS ⟨rfl, rfl⟩ dX4_addCell_112 (Nat.le_of_ble_eq_true rfl) (Nat.le_of_ble_eq_true rfl)


abbrev rm_X4_label : Room := { frames := 1, cells := 0, slots := 0, locals := 21 }
def zf_X4_label (c_codes : Nat → Int32) (x1 : Int32) (x2 : Int32) : Option (Int32) :=
  if zgd x1 132 = true then ((zf_X4_labelIn (c_codes x1.toNatClampNeg) x2).bind fun o7 =>
  some o7) else none
set_option maxHeartbeats 4000000 in
set_option maxRecDepth 100000 in
theorem zc_X4_label (l : Launch) (D : va_G) (y : zY) (a_this a_codes a_wetCells a_moves a_stepPipe a_stepSlot a_rowStart a_longer : Nat) (f_columns : Int32) (f_rows : Int32) (f_size : Int32) (f_steps : Int32) (c_codes : Nat → Int32) (x1 : Int32) (x2 : Int32) (out : Int32) (hf : zf_X4_label c_codes x1 x2 = some out) : zC l D y yX4_label cX4_label 3 (some .int) rm_X4_label [.ref a_this, .int x1, .int x2] [(a_this, .inr (4, [.ref a_codes, .ref a_wetCells, .ref a_moves, .ref a_stepPipe, .ref a_stepSlot, .ref a_rowStart, .ref a_longer, .int f_columns, .int f_rows, .int f_size, .int f_steps])), (a_codes, .inl (y.1, 132, .inl c_codes))] (zE (some (.int out)) [(a_this, .inr (4, [.ref a_codes, .ref a_wetCells, .ref a_moves, .ref a_stepPipe, .ref a_stepSlot, .ref a_rowStart, .ref a_longer, .int f_columns, .int f_rows, .int f_size, .int f_steps])), (a_codes, .inl (y.1, 132, .inl c_codes))]) := by
  refine zmk (by decide) (Nat.le_of_ble_eq_true rfl) ?_
  intro p e s m args below meth c A Q ls X hQ hnm hP hD hS hl
  have X : zX p s m args meth c D y A RX4 cX4_label 3 (some .int) := X
  obtain ⟨hx, hb, hr, hml, hown, hts, hK, hA, hlocks⟩ := id X
  have hl : lv_has ls 3 [(0, .ref a_this), (1, .int x1), (2, .int x2)] := hl
  unfold zf_X4_label at hf
  refine lv_aload_n hx hb dX4_label_0 rfl (lv_at hl 0 rfl) ?_
  refine zget X hP 0 rfl rfl inF4 0 (by decide) q_67 rfl dX4_label_1 ?_
  refine lv_iload_n hx hb dX4_label_4 rfl (lv_at hl 1 rfl) ?_
  obtain ⟨g5, hf⟩ := zg hf
  refine va_iald hx hb hK hP 1 0 rfl rfl g5 dX4_label_5 ?_
  refine lv_iload_n hx hb dX4_label_6 rfl (lv_at hl 2 rfl) ?_
  obtain ⟨o7, ho7, hf⟩ := zb hf
  refine zcS1 (wr := [(a_this, .inr (4, [.ref a_codes, .ref a_wetCells, .ref a_moves, .ref a_stepPipe, .ref a_stepSlot, .ref a_rowStart, .ref a_longer, .int f_columns, .int f_rows, .int f_size, .int f_steps])), (a_codes, .inl (y.1, 132, .inl c_codes))]) (rest := []) X (zc_X4_labelIn l D y (c_codes x1.toNatClampNeg) x2 o7 ho7) kf_RX4_77 ⟨(Nat.le_of_ble_eq_true rfl), (Nat.le_of_ble_eq_true rfl)⟩ hP hD hS [] [0, 1] rfl rfl rfl rfl (by decide) rfl rfl hl.1 (Nat.le_of_ble_eq_true rfl) dX4_label_7 ⟨(Nat.le_of_ble_eq_true rfl), (Nat.le_of_ble_eq_true rfl)⟩ (fun H locs hP hD hS => ?_)
  have hP : va_P D vwCl [(a_this, .inr (4, [.ref a_codes, .ref a_wetCells, .ref a_moves, .ref a_stepPipe, .ref a_stepSlot, .ref a_rowStart, .ref a_longer, .int f_columns, .int f_rows, .int f_size, .int f_steps])), (a_codes, .inl (y.1, 132, .inl c_codes))] H := hP
  have hD : va_D A [(a_this, .inr (4, [.ref a_codes, .ref a_wetCells, .ref a_moves, .ref a_stepPipe, .ref a_stepSlot, .ref a_rowStart, .ref a_longer, .int f_columns, .int f_rows, .int f_size, .int f_steps])), (a_codes, .inl (y.1, 132, .inl c_codes))] := hD
  obtain rfl := Option.some.inj hf
  exact zreti X hQ hP hD hS ⟨rfl, rfl⟩ rfl dX4_label_10 (Nat.le_of_ble_eq_true rfl) (Nat.le_of_ble_eq_true rfl)

theorem kf_RX4_56 : zCB RX4 56 yX4_label cX4_label 3 (some .int) 2 ∧ Cond.instanceMethod yX4_label ∈ wAll ∧ Cond.selects yX4_label.cls yX4_label yX4_label ∈ wAll := ⟨⟨q_383, q_3, q_380, by decide +kernel⟩, q_381, q_382⟩
abbrev rm_X4_findWetCells : Room := { frames := 2, cells := 0, slots := 0, locals := 43 }
def zf_X4_findWetCells_48 (c_wetCells : Nat → Int32) (x2 : Int32) : Option ((Int32 × (Nat → Int32)) ⊕ ((Nat → Int32))) :=
  some (.inl (x2 + (1 : Int32), c_wetCells))
def zf_X4_findWetCells_l19 (f_columns : Int32) (c_codes : Nat → Int32) (x1 : Int32) (x2 : Int32) (c_wetCells : Nat → Int32) : Option ((Int32 × (Nat → Int32)) ⊕ ((Nat → Int32))) :=
  if f_columns ≤ x2 then (some (.inr c_wetCells)) else ((zf_X4_label c_codes x1 x2).bind fun o30 =>
  if o30 = 0 then (if zgd x1 132 = true then (if zgd x1 132 = true then (zf_X4_findWetCells_48 (upd c_wetCells x1.toNatClampNeg ((c_wetCells x1.toNatClampNeg) ||| (zshl (1 : Int32) x2))) x2) else none) else none) else (zf_X4_findWetCells_48 c_wetCells x2))
def zf_X4_findWetCells_l2 (f_columns : Int32) (f_size : Int32) (c_codes : Nat → Int32) (x1 : Int32) (c_wetCells : Nat → Int32) : Option ((Int32 × (Nat → Int32)) ⊕ ((Nat → Int32))) :=
  if f_size ≤ x1 then (some (.inr c_wetCells)) else (if zgd x1 132 = true then ((zit (fun d => zf_X4_findWetCells_l19 f_columns c_codes x1 d.1 d.2) zfu ((0 : Int32), upd c_wetCells x1.toNatClampNeg (0 : Int32))).bind fun o19 =>
  some (.inl (x1 + (1 : Int32), o19))) else none)
def zf_X4_findWetCells (f_columns : Int32) (f_size : Int32) (c_codes : Nat → Int32) (c_wetCells : Nat → Int32) : Option (Nat → Int32) :=
  (zit (fun d => zf_X4_findWetCells_l2 f_columns f_size c_codes d.1 d.2) zfu ((0 : Int32), c_wetCells)).bind fun o2 =>
  some o2
set_option maxHeartbeats 4000000 in
set_option maxRecDepth 100000 in
theorem zc_X4_findWetCells (l : Launch) (D : va_G) (y : zY) (a_this a_codes a_wetCells a_moves a_stepPipe a_stepSlot a_rowStart a_longer : Nat) (f_columns : Int32) (f_rows : Int32) (f_size : Int32) (f_steps : Int32) (c_codes : Nat → Int32) (c_wetCells : Nat → Int32) (out : Nat → Int32) (hf : zf_X4_findWetCells f_columns f_size c_codes c_wetCells = some out) : zC l D y yX4_findWetCells cX4_findWetCells 3 (none : Option Jvm.ClassFile.FieldType) rm_X4_findWetCells [.ref a_this] [(a_this, .inr (4, [.ref a_codes, .ref a_wetCells, .ref a_moves, .ref a_stepPipe, .ref a_stepSlot, .ref a_rowStart, .ref a_longer, .int f_columns, .int f_rows, .int f_size, .int f_steps])), (a_codes, .inl (y.1, 132, .inl c_codes)), (a_wetCells, .inl (y.1, 132, .inl c_wetCells))] (zE none [(a_this, .inr (4, [.ref a_codes, .ref a_wetCells, .ref a_moves, .ref a_stepPipe, .ref a_stepSlot, .ref a_rowStart, .ref a_longer, .int f_columns, .int f_rows, .int f_size, .int f_steps])), (a_codes, .inl (y.1, 132, .inl c_codes)), (a_wetCells, .inl (y.1, 132, .inl out))]) := by
  refine zmk (by decide) (Nat.le_of_ble_eq_true rfl) ?_
  intro p e s m args below meth c A Q ls X hQ hnm hP hD hS hl
  have X : zX p s m args meth c D y A RX4 cX4_findWetCells 3 (none : Option Jvm.ClassFile.FieldType) := X
  obtain ⟨hx, hb, hr, hml, hown, hts, hK, hA, hlocks⟩ := id X
  have hl : lv_has ls 3 [(0, .ref a_this)] := hl
  have L19 : ∀ (n : Nat) (x1 : Int32) (x2 : Int32) (c_wetCells : Nat → Int32) (x : (Nat → Int32)), zit (fun d => zf_X4_findWetCells_l19 f_columns c_codes x1 d.1 d.2) n (x2, c_wetCells) = some x → ∀ (H : Heap) (locs : List Loc) (ls : Array Slot), lv_has ls 3 [(0, .ref a_this), (1, .int x1), (2, .int x2)] → va_P D vwCl [(a_this, .inr (4, [.ref a_codes, .ref a_wetCells, .ref a_moves, .ref a_stepPipe, .ref a_stepSlot, .ref a_rowStart, .ref a_longer, .int f_columns, .int f_rows, .int f_size, .int f_steps])), (a_codes, .inl (y.1, 132, .inl c_codes)), (a_wetCells, .inl (y.1, 132, .inl c_wetCells))] H → va_D A [(a_this, .inr (4, [.ref a_codes, .ref a_wetCells, .ref a_moves, .ref a_stepPipe, .ref a_stepSlot, .ref a_rowStart, .ref a_longer, .int f_columns, .int f_rows, .int f_size, .int f_steps])), (a_codes, .inl (y.1, 132, .inl c_codes)), (a_wetCells, .inl (y.1, 132, .inl c_wetCells))] → va_S A s.heap H locs → (∀ (H : Heap) (locs : List Loc) (ls : Array Slot), lv_has ls 3 [(0, .ref a_this), (1, .int x1)] → va_P D vwCl [(a_this, .inr (4, [.ref a_codes, .ref a_wetCells, .ref a_moves, .ref a_stepPipe, .ref a_stepSlot, .ref a_rowStart, .ref a_longer, .int f_columns, .int f_rows, .int f_size, .int f_steps])), (a_codes, .inl (y.1, 132, .inl c_codes)), (a_wetCells, .inl (y.1, 132, .inl x))] H → va_D A [(a_this, .inr (4, [.ref a_codes, .ref a_wetCells, .ref a_moves, .ref a_stepPipe, .ref a_stepSlot, .ref a_rowStart, .ref a_longer, .int f_columns, .int f_rows, .int f_size, .int f_steps])), (a_codes, .inl (y.1, 132, .inl c_codes)), (a_wetCells, .inl (y.1, 132, .inl x))] → va_S A s.heap H locs → W p l e rm_X4_findWetCells s m args below meth c H locs 0 0 Q (F0 m 54 ls [])) → W p l e rm_X4_findWetCells s m args below meth c H locs 0 0 Q (F0 m 19 ls []) := by
    intro n
    induction n with
    | zero => intro x1 x2 c_wetCells x h; exact (zi0 h).elim
    | succ n ih =>
      intro x1 x2 c_wetCells x h H locs ls hl hP hD hS K54
      obtain ⟨r, hf, h⟩ := zis h
      have hf : zf_X4_findWetCells_l19 f_columns c_codes x1 x2 c_wetCells = some r := hf
      have J48 : ∀ (x2 : Int32) (c_wetCells : Nat → Int32), zf_X4_findWetCells_48 c_wetCells x2 = some r → ∀ (H : Heap) (locs : List Loc) (ls : Array Slot), lv_has ls 3 [(0, .ref a_this), (1, .int x1), (2, .int x2)] → va_P D vwCl [(a_this, .inr (4, [.ref a_codes, .ref a_wetCells, .ref a_moves, .ref a_stepPipe, .ref a_stepSlot, .ref a_rowStart, .ref a_longer, .int f_columns, .int f_rows, .int f_size, .int f_steps])), (a_codes, .inl (y.1, 132, .inl c_codes)), (a_wetCells, .inl (y.1, 132, .inl c_wetCells))] H → va_D A [(a_this, .inr (4, [.ref a_codes, .ref a_wetCells, .ref a_moves, .ref a_stepPipe, .ref a_stepSlot, .ref a_rowStart, .ref a_longer, .int f_columns, .int f_rows, .int f_size, .int f_steps])), (a_codes, .inl (y.1, 132, .inl c_codes)), (a_wetCells, .inl (y.1, 132, .inl c_wetCells))] → va_S A s.heap H locs → W p l e rm_X4_findWetCells s m args below meth c H locs 0 0 Q (F0 m 48 ls []) := by
        intro x2 c_wetCells hf H locs ls hl hP hD hS
        unfold zf_X4_findWetCells_48 at hf
        refine lv_iinc (v := x2 + (1 : Int32)) (lv' := [(2, .int (x2 + (1 : Int32))), (0, .ref a_this), (1, .int x1)]) hx hb dX4_findWetCells_48 hl (k := 2) rfl rfl (by decide) rfl (fun ls hl => ?_)
        refine lv_goto (tgt := 19) hx hb dX4_findWetCells_51 (by decide) ?_
        obtain rfl := Option.some.inj hf
        exact ih x1 (x2 + (1 : Int32)) c_wetCells x h _ _ _ (lv_sub hl [1, 2, 0] rfl) hP hD hS K54
      unfold zf_X4_findWetCells_l19 at hf
      refine lv_iload_n hx hb dX4_findWetCells_19 rfl (lv_at hl 2 rfl) ?_
      refine lv_aload_n hx hb dX4_findWetCells_20 rfl (lv_at hl 0 rfl) ?_
      refine zget X hP 0 rfl rfl inF4 7 (by decide) q_85 rfl dX4_findWetCells_21 ?_
      refine lv_icmp_ge (tgt := 54) hx hb dX4_findWetCells_24 (by decide) (fun c24 => ?_) (fun c24 => ?_)
      · replace hf := zt c24 hf
        obtain rfl := Option.some.inj hf
        obtain rfl := Option.some.inj h
        exact K54 _ _ _ (lv_sub hl [0, 1] rfl) hP hD hS
      · replace hf := ze c24 hf
        refine lv_aload_n hx hb dX4_findWetCells_27 rfl (lv_at hl 0 rfl) ?_
        refine lv_iload_n hx hb dX4_findWetCells_28 rfl (lv_at hl 1 rfl) ?_
        refine lv_iload_n hx hb dX4_findWetCells_29 rfl (lv_at hl 2 rfl) ?_
        obtain ⟨o30, ho30, hf⟩ := zb hf
        refine zcV1 (wr := [(a_wetCells, .inl (y.1, 132, .inl c_wetCells))]) (rest := []) X (zc_X4_label l D y a_this a_codes a_wetCells a_moves a_stepPipe a_stepSlot a_rowStart a_longer f_columns f_rows f_size f_steps c_codes x1 x2 o30 ho30) kf_RX4_56 ⟨(Nat.le_of_ble_eq_true rfl), (Nat.le_of_ble_eq_true rfl)⟩ hP hD hS [0, 1] [2] rfl rfl rfl rfl (by decide) 0 rfl rfl rfl rfl hl.1 (Nat.le_of_ble_eq_true rfl) dX4_findWetCells_30 ⟨(Nat.le_of_ble_eq_true rfl), (Nat.le_of_ble_eq_true rfl)⟩ (fun H locs hP hD hS => ?_)
        have hP : va_P D vwCl [(a_wetCells, .inl (y.1, 132, .inl c_wetCells)), (a_this, .inr (4, [.ref a_codes, .ref a_wetCells, .ref a_moves, .ref a_stepPipe, .ref a_stepSlot, .ref a_rowStart, .ref a_longer, .int f_columns, .int f_rows, .int f_size, .int f_steps])), (a_codes, .inl (y.1, 132, .inl c_codes))] H := hP
        have hD : va_D A [(a_wetCells, .inl (y.1, 132, .inl c_wetCells)), (a_this, .inr (4, [.ref a_codes, .ref a_wetCells, .ref a_moves, .ref a_stepPipe, .ref a_stepSlot, .ref a_rowStart, .ref a_longer, .int f_columns, .int f_rows, .int f_size, .int f_steps])), (a_codes, .inl (y.1, 132, .inl c_codes))] := hD
        refine lv_if_ne (tgt := 48) hx hb dX4_findWetCells_33 (by decide) (fun c33 => ?_) (fun c33 => ?_)
        · replace hf := ze c33 hf
          exact J48 x2 c_wetCells hf _ _ _ hl (zPsub (is := [1, 2, 0]) hP rfl) (hD.sub [1, 2, 0] (by decide) rfl) hS
        · replace hf := zt c33 hf
          refine lv_aload_n hx hb dX4_findWetCells_36 rfl (lv_at hl 0 rfl) ?_
          refine zget X hP 1 rfl rfl inF4 1 (by decide) q_68 rfl dX4_findWetCells_37 ?_
          refine lv_iload_n hx hb dX4_findWetCells_40 rfl (lv_at hl 1 rfl) ?_
          refine lv_dup2_11 hx hb dX4_findWetCells_41 rfl rfl ?_
          obtain ⟨g42, hf⟩ := zg hf
          refine va_iald hx hb hK hP 0 0 rfl rfl g42 dX4_findWetCells_42 ?_
          refine lv_iconst (v := 1) hx hb dX4_findWetCells_43 (by decide) ?_
          refine lv_iload_n hx hb dX4_findWetCells_44 rfl (lv_at hl 2 rfl) ?_
          refine lv_ishl hx hb dX4_findWetCells_45 ?_
          refine lv_ior hx hb dX4_findWetCells_46 ?_
          obtain ⟨g47, hf⟩ := zg hf
          refine va_iast hx hb hK hP hD hS 0 0 rfl rfl g47 dX4_findWetCells_47 (fun H locs hP hD hS => ?_)
          have hP : va_P D vwCl [(a_wetCells, .inl (y.1, 132, .inl (upd c_wetCells x1.toNatClampNeg ((c_wetCells x1.toNatClampNeg) ||| (zshl (1 : Int32) x2))))), (a_this, .inr (4, [.ref a_codes, .ref a_wetCells, .ref a_moves, .ref a_stepPipe, .ref a_stepSlot, .ref a_rowStart, .ref a_longer, .int f_columns, .int f_rows, .int f_size, .int f_steps])), (a_codes, .inl (y.1, 132, .inl c_codes))] H := hP
          have hD : va_D A [(a_wetCells, .inl (y.1, 132, .inl (upd c_wetCells x1.toNatClampNeg ((c_wetCells x1.toNatClampNeg) ||| (zshl (1 : Int32) x2))))), (a_this, .inr (4, [.ref a_codes, .ref a_wetCells, .ref a_moves, .ref a_stepPipe, .ref a_stepSlot, .ref a_rowStart, .ref a_longer, .int f_columns, .int f_rows, .int f_size, .int f_steps])), (a_codes, .inl (y.1, 132, .inl c_codes))] := hD
          exact J48 x2 (upd c_wetCells x1.toNatClampNeg ((c_wetCells x1.toNatClampNeg) ||| (zshl (1 : Int32) x2))) hf _ _ _ hl (zPsub (is := [1, 2, 0]) hP rfl) (hD.sub [1, 2, 0] (by decide) rfl) hS
  have L2 : ∀ (n : Nat) (x1 : Int32) (c_wetCells : Nat → Int32) (x : (Nat → Int32)), zit (fun d => zf_X4_findWetCells_l2 f_columns f_size c_codes d.1 d.2) n (x1, c_wetCells) = some x → ∀ (H : Heap) (locs : List Loc) (ls : Array Slot), lv_has ls 3 [(0, .ref a_this), (1, .int x1)] → va_P D vwCl [(a_this, .inr (4, [.ref a_codes, .ref a_wetCells, .ref a_moves, .ref a_stepPipe, .ref a_stepSlot, .ref a_rowStart, .ref a_longer, .int f_columns, .int f_rows, .int f_size, .int f_steps])), (a_codes, .inl (y.1, 132, .inl c_codes)), (a_wetCells, .inl (y.1, 132, .inl c_wetCells))] H → va_D A [(a_this, .inr (4, [.ref a_codes, .ref a_wetCells, .ref a_moves, .ref a_stepPipe, .ref a_stepSlot, .ref a_rowStart, .ref a_longer, .int f_columns, .int f_rows, .int f_size, .int f_steps])), (a_codes, .inl (y.1, 132, .inl c_codes)), (a_wetCells, .inl (y.1, 132, .inl c_wetCells))] → va_S A s.heap H locs → (∀ (H : Heap) (locs : List Loc) (ls : Array Slot), lv_has ls 3 [] → va_P D vwCl [(a_this, .inr (4, [.ref a_codes, .ref a_wetCells, .ref a_moves, .ref a_stepPipe, .ref a_stepSlot, .ref a_rowStart, .ref a_longer, .int f_columns, .int f_rows, .int f_size, .int f_steps])), (a_codes, .inl (y.1, 132, .inl c_codes)), (a_wetCells, .inl (y.1, 132, .inl x))] H → va_D A [(a_this, .inr (4, [.ref a_codes, .ref a_wetCells, .ref a_moves, .ref a_stepPipe, .ref a_stepSlot, .ref a_rowStart, .ref a_longer, .int f_columns, .int f_rows, .int f_size, .int f_steps])), (a_codes, .inl (y.1, 132, .inl c_codes)), (a_wetCells, .inl (y.1, 132, .inl x))] → va_S A s.heap H locs → W p l e rm_X4_findWetCells s m args below meth c H locs 0 0 Q (F0 m 60 ls [])) → W p l e rm_X4_findWetCells s m args below meth c H locs 0 0 Q (F0 m 2 ls []) := by
    intro n
    induction n with
    | zero => intro x1 c_wetCells x h; exact (zi0 h).elim
    | succ n ih =>
      intro x1 c_wetCells x h H locs ls hl hP hD hS K60
      obtain ⟨r, hf, h⟩ := zis h
      have hf : zf_X4_findWetCells_l2 f_columns f_size c_codes x1 c_wetCells = some r := hf
      unfold zf_X4_findWetCells_l2 at hf
      refine lv_iload_n hx hb dX4_findWetCells_2 rfl (lv_at hl 1 rfl) ?_
      refine lv_aload_n hx hb dX4_findWetCells_3 rfl (lv_at hl 0 rfl) ?_
      refine zget X hP 0 rfl rfl inF4 9 (by decide) q_87 rfl dX4_findWetCells_4 ?_
      refine lv_icmp_ge (tgt := 60) hx hb dX4_findWetCells_7 (by decide) (fun c7 => ?_) (fun c7 => ?_)
      · replace hf := zt c7 hf
        obtain rfl := Option.some.inj hf
        obtain rfl := Option.some.inj h
        exact K60 _ _ _ (lv_sub hl [] rfl) hP hD hS
      · replace hf := ze c7 hf
        refine lv_aload_n hx hb dX4_findWetCells_10 rfl (lv_at hl 0 rfl) ?_
        refine zget X hP 0 rfl rfl inF4 1 (by decide) q_68 rfl dX4_findWetCells_11 ?_
        refine lv_iload_n hx hb dX4_findWetCells_14 rfl (lv_at hl 1 rfl) ?_
        refine lv_iconst (v := 0) hx hb dX4_findWetCells_15 (by decide) ?_
        obtain ⟨g16, hf⟩ := zg hf
        refine va_iast hx hb hK hP hD hS 2 0 rfl rfl g16 dX4_findWetCells_16 (fun H locs hP hD hS => ?_)
        have hP : va_P D vwCl [(a_this, .inr (4, [.ref a_codes, .ref a_wetCells, .ref a_moves, .ref a_stepPipe, .ref a_stepSlot, .ref a_rowStart, .ref a_longer, .int f_columns, .int f_rows, .int f_size, .int f_steps])), (a_codes, .inl (y.1, 132, .inl c_codes)), (a_wetCells, .inl (y.1, 132, .inl (upd c_wetCells x1.toNatClampNeg (0 : Int32))))] H := hP
        have hD : va_D A [(a_this, .inr (4, [.ref a_codes, .ref a_wetCells, .ref a_moves, .ref a_stepPipe, .ref a_stepSlot, .ref a_rowStart, .ref a_longer, .int f_columns, .int f_rows, .int f_size, .int f_steps])), (a_codes, .inl (y.1, 132, .inl c_codes)), (a_wetCells, .inl (y.1, 132, .inl (upd c_wetCells x1.toNatClampNeg (0 : Int32))))] := hD
        refine lv_iconst (v := 0) hx hb dX4_findWetCells_17 (by decide) ?_
        refine lv_istore_n (lv' := [(2, .int (0 : Int32)), (0, .ref a_this), (1, .int x1)]) hx hb dX4_findWetCells_18 rfl hl (by decide) rfl (fun ls hl => ?_)
        obtain ⟨o19, ho19, hf⟩ := zb hf
        refine L19 zfu x1 (0 : Int32) (upd c_wetCells x1.toNatClampNeg (0 : Int32)) o19 ho19 _ _ _ (lv_sub hl [1, 2, 0] rfl) hP hD hS (fun H locs ls hl hP hD hS => ?_)
        refine lv_iinc (v := x1 + (1 : Int32)) (lv' := [(1, .int (x1 + (1 : Int32))), (0, .ref a_this)]) hx hb dX4_findWetCells_54 hl (k := 1) rfl rfl (by decide) rfl (fun ls hl => ?_)
        refine lv_goto (tgt := 2) hx hb dX4_findWetCells_57 (by decide) ?_
        obtain rfl := Option.some.inj hf
        exact ih (x1 + (1 : Int32)) o19 x h _ _ _ (lv_sub hl [1, 0] rfl) hP hD hS K60
  unfold zf_X4_findWetCells at hf
  refine lv_iconst (v := 0) hx hb dX4_findWetCells_0 (by decide) ?_
  refine lv_istore_n (lv' := [(1, .int (0 : Int32)), (0, .ref a_this)]) hx hb dX4_findWetCells_1 rfl hl (by decide) rfl (fun ls hl => ?_)
  obtain ⟨o2, ho2, hf⟩ := zb hf
  refine L2 zfu (0 : Int32) c_wetCells o2 ho2 _ _ _ (lv_sub hl [1, 0] rfl) hP hD hS (fun H locs ls hl hP hD hS => ?_)
  obtain rfl := Option.some.inj hf
  exact zretv X hQ hP hD hS ⟨rfl, rfl⟩ dX4_findWetCells_60 (Nat.le_of_ble_eq_true rfl) (Nat.le_of_ble_eq_true rfl)


abbrev rm_X4_renumbered : Room := { frames := 0, cells := 0, slots := 0, locals := 0 }
def zf_X4_renumbered_84 (x2 : Int32) (x3 : Int32) (x4 : Int32) (x5 : Int32) : Option ((Int32 × Int32 × Int32 × Int32) ⊕ ((Int32))) :=
  some (.inl (x2, x3, x4, x5 + (1 : Int32)))
def zf_X4_renumbered_68 (x2 : Int32) (x3 : Int32) (x4 : Int32) (x5 : Int32) (x6 : Int32) (x7 : Int32) : Option ((Int32 × Int32 × Int32 × Int32) ⊕ ((Int32))) :=
  zf_X4_renumbered_84 (x2 ||| (zshl ((zushr x4 ((4 : Int32) * x7)) &&& (15 : Int32)) x6)) x3 x4 x5
def zf_X4_renumbered_l10 (f_columns : Int32) (x1 : Int32) (x2 : Int32) (x3 : Int32) (x4 : Int32) (x5 : Int32) : Option ((Int32 × Int32 × Int32 × Int32) ⊕ ((Int32))) :=
  if f_columns ≤ x5 then (some (.inr x2)) else (if ((zushr x1 ((3 : Int32) * ((4 : Int32) - x5))) &&& (7 : Int32)) = 0 then (zf_X4_renumbered_84 x2 x3 x4 x5) else (if ((zushr x4 ((4 : Int32) * ((zushr x1 ((3 : Int32) * ((4 : Int32) - x5))) &&& (7 : Int32)))) &&& (15 : Int32)) = 0 then (zf_X4_renumbered_68 x2 (x3 + (1 : Int32)) (x4 ||| (zshl x3 ((4 : Int32) * ((zushr x1 ((3 : Int32) * ((4 : Int32) - x5))) &&& (7 : Int32))))) x5 ((3 : Int32) * ((4 : Int32) - x5)) ((zushr x1 ((3 : Int32) * ((4 : Int32) - x5))) &&& (7 : Int32))) else (zf_X4_renumbered_68 x2 x3 x4 x5 ((3 : Int32) * ((4 : Int32) - x5)) ((zushr x1 ((3 : Int32) * ((4 : Int32) - x5))) &&& (7 : Int32)))))
def zf_X4_renumbered (f_columns : Int32) (x1 : Int32) : Option (Int32) :=
  (zit (fun d => zf_X4_renumbered_l10 f_columns x1 d.1 d.2.1 d.2.2.1 d.2.2.2) zfu ((0 : Int32), (1 : Int32), (0 : Int32), (0 : Int32))).bind fun o10 =>
  some o10
set_option maxHeartbeats 4000000 in
set_option maxRecDepth 100000 in
theorem zc_X4_renumbered (l : Launch) (D : va_G) (y : zY) (a_this a_codes a_wetCells a_moves a_stepPipe a_stepSlot a_rowStart a_longer : Nat) (f_columns : Int32) (f_rows : Int32) (f_size : Int32) (f_steps : Int32) (x1 : Int32) (out : Int32) (hf : zf_X4_renumbered f_columns x1 = some out) : zC l D y yX4_renumbered cX4_renumbered 8 (some .int) rm_X4_renumbered [.ref a_this, .int x1] [(a_this, .inr (4, [.ref a_codes, .ref a_wetCells, .ref a_moves, .ref a_stepPipe, .ref a_stepSlot, .ref a_rowStart, .ref a_longer, .int f_columns, .int f_rows, .int f_size, .int f_steps]))] (zE (some (.int out)) [(a_this, .inr (4, [.ref a_codes, .ref a_wetCells, .ref a_moves, .ref a_stepPipe, .ref a_stepSlot, .ref a_rowStart, .ref a_longer, .int f_columns, .int f_rows, .int f_size, .int f_steps]))]) := by
  refine zmk (by decide) (Nat.le_of_ble_eq_true rfl) ?_
  intro p e s m args below meth c A Q ls X hQ hnm hP hD hS hl
  have X : zX p s m args meth c D y A RX4 cX4_renumbered 8 (some .int) := X
  obtain ⟨hx, hb, hr, hml, hown, hts, hK, hA, hlocks⟩ := id X
  have hl : lv_has ls 8 [(0, .ref a_this), (1, .int x1)] := hl
  have L10 : ∀ (n : Nat) (x1 : Int32) (x2 : Int32) (x3 : Int32) (x4 : Int32) (x5 : Int32) (x : (Int32)), zit (fun d => zf_X4_renumbered_l10 f_columns x1 d.1 d.2.1 d.2.2.1 d.2.2.2) n (x2, x3, x4, x5) = some x → ∀ (H : Heap) (locs : List Loc) (ls : Array Slot), lv_has ls 8 [(0, .ref a_this), (1, .int x1), (2, .int x2), (3, .int x3), (4, .int x4), (5, .int x5)] → va_P D vwCl [(a_this, .inr (4, [.ref a_codes, .ref a_wetCells, .ref a_moves, .ref a_stepPipe, .ref a_stepSlot, .ref a_rowStart, .ref a_longer, .int f_columns, .int f_rows, .int f_size, .int f_steps]))] H → va_D A [(a_this, .inr (4, [.ref a_codes, .ref a_wetCells, .ref a_moves, .ref a_stepPipe, .ref a_stepSlot, .ref a_rowStart, .ref a_longer, .int f_columns, .int f_rows, .int f_size, .int f_steps]))] → va_S A s.heap H locs → (∀ (H : Heap) (locs : List Loc) (ls : Array Slot), lv_has ls 8 [(2, .int x)] → va_P D vwCl [(a_this, .inr (4, [.ref a_codes, .ref a_wetCells, .ref a_moves, .ref a_stepPipe, .ref a_stepSlot, .ref a_rowStart, .ref a_longer, .int f_columns, .int f_rows, .int f_size, .int f_steps]))] H → va_D A [(a_this, .inr (4, [.ref a_codes, .ref a_wetCells, .ref a_moves, .ref a_stepPipe, .ref a_stepSlot, .ref a_rowStart, .ref a_longer, .int f_columns, .int f_rows, .int f_size, .int f_steps]))] → va_S A s.heap H locs → W p l e rm_X4_renumbered s m args below meth c H locs 0 0 Q (F0 m 90 ls [])) → W p l e rm_X4_renumbered s m args below meth c H locs 0 0 Q (F0 m 10 ls []) := by
    intro n
    induction n with
    | zero => intro x1 x2 x3 x4 x5 x h; exact (zi0 h).elim
    | succ n ih =>
      intro x1 x2 x3 x4 x5 x h H locs ls hl hP hD hS K90
      obtain ⟨r, hf, h⟩ := zis h
      have hf : zf_X4_renumbered_l10 f_columns x1 x2 x3 x4 x5 = some r := hf
      have J84 : ∀ (x2 : Int32) (x3 : Int32) (x4 : Int32) (x5 : Int32), zf_X4_renumbered_84 x2 x3 x4 x5 = some r → ∀ (H : Heap) (locs : List Loc) (ls : Array Slot), lv_has ls 8 [(0, .ref a_this), (1, .int x1), (2, .int x2), (3, .int x3), (4, .int x4), (5, .int x5)] → va_P D vwCl [(a_this, .inr (4, [.ref a_codes, .ref a_wetCells, .ref a_moves, .ref a_stepPipe, .ref a_stepSlot, .ref a_rowStart, .ref a_longer, .int f_columns, .int f_rows, .int f_size, .int f_steps]))] H → va_D A [(a_this, .inr (4, [.ref a_codes, .ref a_wetCells, .ref a_moves, .ref a_stepPipe, .ref a_stepSlot, .ref a_rowStart, .ref a_longer, .int f_columns, .int f_rows, .int f_size, .int f_steps]))] → va_S A s.heap H locs → W p l e rm_X4_renumbered s m args below meth c H locs 0 0 Q (F0 m 84 ls []) := by
        intro x2 x3 x4 x5 hf H locs ls hl hP hD hS
        unfold zf_X4_renumbered_84 at hf
        refine lv_iinc (v := x5 + (1 : Int32)) (lv' := [(5, .int (x5 + (1 : Int32))), (0, .ref a_this), (1, .int x1), (2, .int x2), (3, .int x3), (4, .int x4)]) hx hb dX4_renumbered_84 hl (k := 5) rfl rfl (by decide) rfl (fun ls hl => ?_)
        refine lv_goto (tgt := 10) hx hb dX4_renumbered_87 (by decide) ?_
        obtain rfl := Option.some.inj hf
        exact ih x1 x2 x3 x4 (x5 + (1 : Int32)) x h _ _ _ (lv_sub hl [1, 2, 3, 4, 5, 0] rfl) hP hD hS K90
      have J68 : ∀ (x2 : Int32) (x3 : Int32) (x4 : Int32) (x5 : Int32) (x6 : Int32) (x7 : Int32), zf_X4_renumbered_68 x2 x3 x4 x5 x6 x7 = some r → ∀ (H : Heap) (locs : List Loc) (ls : Array Slot), lv_has ls 8 [(0, .ref a_this), (1, .int x1), (2, .int x2), (3, .int x3), (4, .int x4), (5, .int x5), (6, .int x6), (7, .int x7)] → va_P D vwCl [(a_this, .inr (4, [.ref a_codes, .ref a_wetCells, .ref a_moves, .ref a_stepPipe, .ref a_stepSlot, .ref a_rowStart, .ref a_longer, .int f_columns, .int f_rows, .int f_size, .int f_steps]))] H → va_D A [(a_this, .inr (4, [.ref a_codes, .ref a_wetCells, .ref a_moves, .ref a_stepPipe, .ref a_stepSlot, .ref a_rowStart, .ref a_longer, .int f_columns, .int f_rows, .int f_size, .int f_steps]))] → va_S A s.heap H locs → W p l e rm_X4_renumbered s m args below meth c H locs 0 0 Q (F0 m 68 ls []) := by
        intro x2 x3 x4 x5 x6 x7 hf H locs ls hl hP hD hS
        unfold zf_X4_renumbered_68 at hf
        refine lv_iload_n hx hb dX4_renumbered_68 rfl (lv_at hl 2 rfl) ?_
        refine lv_iload hx hb dX4_renumbered_69 (lv_at hl 4 rfl) ?_
        refine lv_iconst (v := 4) hx hb dX4_renumbered_71 (by decide) ?_
        refine lv_iload hx hb dX4_renumbered_72 (lv_at hl 7 rfl) ?_
        refine lv_imul hx hb dX4_renumbered_74 ?_
        refine lv_iushr (v := zushr x4 ((4 : Int32) * x7)) hx hb dX4_renumbered_75 rfl ?_
        refine lv_bipush (v := 15) hx hb dX4_renumbered_76 (by decide) ?_
        refine lv_iand hx hb dX4_renumbered_78 ?_
        refine lv_iload hx hb dX4_renumbered_79 (lv_at hl 6 rfl) ?_
        refine lv_ishl hx hb dX4_renumbered_81 ?_
        refine lv_ior hx hb dX4_renumbered_82 ?_
        refine lv_istore_n (lv' := [(2, .int (x2 ||| (zshl ((zushr x4 ((4 : Int32) * x7)) &&& (15 : Int32)) x6))), (0, .ref a_this), (1, .int x1), (3, .int x3), (4, .int x4), (5, .int x5), (6, .int x6), (7, .int x7)]) hx hb dX4_renumbered_83 rfl hl (by decide) rfl (fun ls hl => ?_)
        exact J84 (x2 ||| (zshl ((zushr x4 ((4 : Int32) * x7)) &&& (15 : Int32)) x6)) x3 x4 x5 hf _ _ _ (lv_sub hl [1, 2, 0, 3, 4, 5] rfl) hP hD hS
      unfold zf_X4_renumbered_l10 at hf
      refine lv_iload hx hb dX4_renumbered_10 (lv_at hl 5 rfl) ?_
      refine lv_aload_n hx hb dX4_renumbered_12 rfl (lv_at hl 0 rfl) ?_
      refine zget X hP 0 rfl rfl inF4 7 (by decide) q_85 rfl dX4_renumbered_13 ?_
      refine lv_icmp_ge (tgt := 90) hx hb dX4_renumbered_16 (by decide) (fun c16 => ?_) (fun c16 => ?_)
      · replace hf := zt c16 hf
        obtain rfl := Option.some.inj hf
        obtain rfl := Option.some.inj h
        exact K90 _ _ _ (lv_sub hl [2] rfl) hP hD hS
      · replace hf := ze c16 hf
        refine lv_iconst (v := 3) hx hb dX4_renumbered_19 (by decide) ?_
        refine lv_iconst (v := 4) hx hb dX4_renumbered_20 (by decide) ?_
        refine lv_iload hx hb dX4_renumbered_21 (lv_at hl 5 rfl) ?_
        refine lv_isub hx hb dX4_renumbered_23 ?_
        refine lv_imul hx hb dX4_renumbered_24 ?_
        refine lv_istore (lv' := [(6, .int ((3 : Int32) * ((4 : Int32) - x5))), (0, .ref a_this), (1, .int x1), (2, .int x2), (3, .int x3), (4, .int x4), (5, .int x5)]) hx hb dX4_renumbered_25 hl (by decide) rfl (fun ls hl => ?_)
        refine lv_iload_n hx hb dX4_renumbered_27 rfl (lv_at hl 2 rfl) ?_
        refine lv_iload hx hb dX4_renumbered_28 (lv_at hl 0 rfl) ?_
        refine lv_iushr (v := zushr x1 ((3 : Int32) * ((4 : Int32) - x5))) hx hb dX4_renumbered_30 rfl ?_
        refine lv_bipush (v := 7) hx hb dX4_renumbered_31 (by decide) ?_
        refine lv_iand hx hb dX4_renumbered_33 ?_
        refine lv_istore (lv' := [(7, .int ((zushr x1 ((3 : Int32) * ((4 : Int32) - x5))) &&& (7 : Int32))), (6, .int ((3 : Int32) * ((4 : Int32) - x5))), (0, .ref a_this), (1, .int x1), (2, .int x2), (3, .int x3), (4, .int x4), (5, .int x5)]) hx hb dX4_renumbered_34 hl (by decide) rfl (fun ls hl => ?_)
        refine lv_iload hx hb dX4_renumbered_36 (lv_at hl 0 rfl) ?_
        refine lv_if_eq (tgt := 84) hx hb dX4_renumbered_38 (by decide) (fun c38 => ?_) (fun c38 => ?_)
        · replace hf := zt c38 hf
          exact J84 x2 x3 x4 x5 hf _ _ _ (lv_sub hl [2, 3, 4, 5, 6, 7] rfl) hP hD hS
        · replace hf := ze c38 hf
          refine lv_iload hx hb dX4_renumbered_41 (lv_at hl 6 rfl) ?_
          refine lv_iconst (v := 4) hx hb dX4_renumbered_43 (by decide) ?_
          refine lv_iload hx hb dX4_renumbered_44 (lv_at hl 0 rfl) ?_
          refine lv_imul hx hb dX4_renumbered_46 ?_
          refine lv_iushr (v := zushr x4 ((4 : Int32) * ((zushr x1 ((3 : Int32) * ((4 : Int32) - x5))) &&& (7 : Int32)))) hx hb dX4_renumbered_47 rfl ?_
          refine lv_bipush (v := 15) hx hb dX4_renumbered_48 (by decide) ?_
          refine lv_iand hx hb dX4_renumbered_50 ?_
          refine lv_if_ne (tgt := 68) hx hb dX4_renumbered_51 (by decide) (fun c51 => ?_) (fun c51 => ?_)
          · replace hf := ze c51 hf
            exact J68 x2 x3 x4 x5 ((3 : Int32) * ((4 : Int32) - x5)) ((zushr x1 ((3 : Int32) * ((4 : Int32) - x5))) &&& (7 : Int32)) hf _ _ _ (lv_sub hl [2, 3, 4, 5, 6, 7, 1, 0] rfl) hP hD hS
          · replace hf := zt c51 hf
            refine lv_iload hx hb dX4_renumbered_54 (lv_at hl 6 rfl) ?_
            refine lv_iload_n hx hb dX4_renumbered_56 rfl (lv_at hl 5 rfl) ?_
            refine lv_iconst (v := 4) hx hb dX4_renumbered_57 (by decide) ?_
            refine lv_iload hx hb dX4_renumbered_58 (lv_at hl 0 rfl) ?_
            refine lv_imul hx hb dX4_renumbered_60 ?_
            refine lv_ishl hx hb dX4_renumbered_61 ?_
            refine lv_ior hx hb dX4_renumbered_62 ?_
            refine lv_istore (lv' := [(4, .int (x4 ||| (zshl x3 ((4 : Int32) * ((zushr x1 ((3 : Int32) * ((4 : Int32) - x5))) &&& (7 : Int32)))))), (7, .int ((zushr x1 ((3 : Int32) * ((4 : Int32) - x5))) &&& (7 : Int32))), (6, .int ((3 : Int32) * ((4 : Int32) - x5))), (0, .ref a_this), (1, .int x1), (2, .int x2), (3, .int x3), (5, .int x5)]) hx hb dX4_renumbered_63 hl (by decide) rfl (fun ls hl => ?_)
            refine lv_iinc (v := x3 + (1 : Int32)) (lv' := [(3, .int (x3 + (1 : Int32))), (4, .int (x4 ||| (zshl x3 ((4 : Int32) * ((zushr x1 ((3 : Int32) * ((4 : Int32) - x5))) &&& (7 : Int32)))))), (7, .int ((zushr x1 ((3 : Int32) * ((4 : Int32) - x5))) &&& (7 : Int32))), (6, .int ((3 : Int32) * ((4 : Int32) - x5))), (0, .ref a_this), (1, .int x1), (2, .int x2), (5, .int x5)]) hx hb dX4_renumbered_65 hl (k := 6) rfl rfl (by decide) rfl (fun ls hl => ?_)
            exact J68 x2 (x3 + (1 : Int32)) (x4 ||| (zshl x3 ((4 : Int32) * ((zushr x1 ((3 : Int32) * ((4 : Int32) - x5))) &&& (7 : Int32))))) x5 ((3 : Int32) * ((4 : Int32) - x5)) ((zushr x1 ((3 : Int32) * ((4 : Int32) - x5))) &&& (7 : Int32)) hf _ _ _ (lv_sub hl [4, 5, 6, 0, 1, 7, 3, 2] rfl) hP hD hS
  unfold zf_X4_renumbered at hf
  refine lv_iconst (v := 0) hx hb dX4_renumbered_0 (by decide) ?_
  refine lv_istore_n (lv' := [(2, .int (0 : Int32)), (0, .ref a_this), (1, .int x1)]) hx hb dX4_renumbered_1 rfl hl (by decide) rfl (fun ls hl => ?_)
  refine lv_iconst (v := 1) hx hb dX4_renumbered_2 (by decide) ?_
  refine lv_istore_n (lv' := [(3, .int (1 : Int32)), (2, .int (0 : Int32)), (0, .ref a_this), (1, .int x1)]) hx hb dX4_renumbered_3 rfl hl (by decide) rfl (fun ls hl => ?_)
  refine lv_iconst (v := 0) hx hb dX4_renumbered_4 (by decide) ?_
  refine lv_istore (lv' := [(4, .int (0 : Int32)), (3, .int (1 : Int32)), (2, .int (0 : Int32)), (0, .ref a_this), (1, .int x1)]) hx hb dX4_renumbered_5 hl (by decide) rfl (fun ls hl => ?_)
  refine lv_iconst (v := 0) hx hb dX4_renumbered_7 (by decide) ?_
  refine lv_istore (lv' := [(5, .int (0 : Int32)), (4, .int (0 : Int32)), (3, .int (1 : Int32)), (2, .int (0 : Int32)), (0, .ref a_this), (1, .int x1)]) hx hb dX4_renumbered_8 hl (by decide) rfl (fun ls hl => ?_)
  obtain ⟨o10, ho10, hf⟩ := zb hf
  refine L10 zfu x1 (0 : Int32) (1 : Int32) (0 : Int32) (0 : Int32) o10 ho10 _ _ _ (lv_sub hl [4, 5, 3, 2, 1, 0] rfl) hP hD hS (fun H locs ls hl hP hD hS => ?_)
  refine lv_iload_n hx hb dX4_renumbered_90 rfl (lv_at hl 0 rfl) ?_
  obtain rfl := Option.some.inj hf
  exact zreti X hQ hP hD hS ⟨rfl, rfl⟩ rfl dX4_renumbered_91 (Nat.le_of_ble_eq_true rfl) (Nat.le_of_ble_eq_true rfl)

theorem kf_RX4_92 : zCB RX4 92 yX4_renumbered cX4_renumbered 8 (some .int) 1 ∧ Cond.instanceMethod yX4_renumbered ∈ wAll ∧ Cond.selects yX4_renumbered.cls yX4_renumbered yX4_renumbered ∈ wAll := ⟨⟨q_395, q_3, q_392, by decide +kernel⟩, q_394, qp_5⟩
abbrev rm_X4_cutOff : Room := { frames := 1, cells := 0, slots := 0, locals := 27 }
def zf_X4_cutOff (f_columns : Int32) (x1 : Int32) (x2 : Int32) : Option (Int32) :=
  (zf_X4_shiftOf x2).bind fun o5 =>
  (zf_X4_renumbered f_columns (x1 ||| (zshl (7 : Int32) o5))).bind fun o10 =>
  some o10
set_option maxHeartbeats 4000000 in
set_option maxRecDepth 100000 in
theorem zc_X4_cutOff (l : Launch) (D : va_G) (y : zY) (a_this a_codes a_wetCells a_moves a_stepPipe a_stepSlot a_rowStart a_longer : Nat) (f_columns : Int32) (f_rows : Int32) (f_size : Int32) (f_steps : Int32) (x1 : Int32) (x2 : Int32) (out : Int32) (hf : zf_X4_cutOff f_columns x1 x2 = some out) : zC l D y yX4_cutOff cX4_cutOff 3 (some .int) rm_X4_cutOff [.ref a_this, .int x1, .int x2] [(a_this, .inr (4, [.ref a_codes, .ref a_wetCells, .ref a_moves, .ref a_stepPipe, .ref a_stepSlot, .ref a_rowStart, .ref a_longer, .int f_columns, .int f_rows, .int f_size, .int f_steps]))] (zE (some (.int out)) [(a_this, .inr (4, [.ref a_codes, .ref a_wetCells, .ref a_moves, .ref a_stepPipe, .ref a_stepSlot, .ref a_rowStart, .ref a_longer, .int f_columns, .int f_rows, .int f_size, .int f_steps]))]) := by
  refine zmk (by decide) (Nat.le_of_ble_eq_true rfl) ?_
  intro p e s m args below meth c A Q ls X hQ hnm hP hD hS hl
  have X : zX p s m args meth c D y A RX4 cX4_cutOff 3 (some .int) := X
  obtain ⟨hx, hb, hr, hml, hown, hts, hK, hA, hlocks⟩ := id X
  have hl : lv_has ls 3 [(0, .ref a_this), (1, .int x1), (2, .int x2)] := hl
  unfold zf_X4_cutOff at hf
  refine lv_aload_n hx hb dX4_cutOff_0 rfl (lv_at hl 0 rfl) ?_
  refine lv_iload_n hx hb dX4_cutOff_1 rfl (lv_at hl 1 rfl) ?_
  refine lv_bipush (v := 7) hx hb dX4_cutOff_2 (by decide) ?_
  refine lv_iload_n hx hb dX4_cutOff_4 rfl (lv_at hl 2 rfl) ?_
  obtain ⟨o5, ho5, hf⟩ := zb hf
  refine zcS1 (wr := [(a_this, .inr (4, [.ref a_codes, .ref a_wetCells, .ref a_moves, .ref a_stepPipe, .ref a_stepSlot, .ref a_rowStart, .ref a_longer, .int f_columns, .int f_rows, .int f_size, .int f_steps]))]) (rest := [.int (7 : Int32), .int x1, .ref a_this]) X (zc_X4_shiftOf l D y x2 o5 ho5) kf_RX4_67 ⟨(Nat.le_of_ble_eq_true rfl), (Nat.le_of_ble_eq_true rfl)⟩ hP hD hS [] [0] rfl rfl rfl rfl (by decide) rfl rfl hl.1 (Nat.le_of_ble_eq_true rfl) dX4_cutOff_5 ⟨(Nat.le_of_ble_eq_true rfl), (Nat.le_of_ble_eq_true rfl)⟩ (fun H locs hP hD hS => ?_)
  have hP : va_P D vwCl [(a_this, .inr (4, [.ref a_codes, .ref a_wetCells, .ref a_moves, .ref a_stepPipe, .ref a_stepSlot, .ref a_rowStart, .ref a_longer, .int f_columns, .int f_rows, .int f_size, .int f_steps]))] H := hP
  have hD : va_D A [(a_this, .inr (4, [.ref a_codes, .ref a_wetCells, .ref a_moves, .ref a_stepPipe, .ref a_stepSlot, .ref a_rowStart, .ref a_longer, .int f_columns, .int f_rows, .int f_size, .int f_steps]))] := hD
  refine lv_ishl hx hb dX4_cutOff_8 ?_
  refine lv_ior hx hb dX4_cutOff_9 ?_
  obtain ⟨o10, ho10, hf⟩ := zb hf
  refine zcV1 (wr := []) (rest := []) X (zc_X4_renumbered l D y a_this a_codes a_wetCells a_moves a_stepPipe a_stepSlot a_rowStart a_longer f_columns f_rows f_size f_steps (x1 ||| (zshl (7 : Int32) o5)) o10 ho10) kf_RX4_92 ⟨(Nat.le_of_ble_eq_true rfl), (Nat.le_of_ble_eq_true rfl)⟩ hP hD hS [0] [] rfl rfl rfl rfl (by decide) 0 rfl rfl rfl rfl hl.1 (Nat.le_of_ble_eq_true rfl) dX4_cutOff_10 ⟨(Nat.le_of_ble_eq_true rfl), (Nat.le_of_ble_eq_true rfl)⟩ (fun H locs hP hD hS => ?_)
  have hP : va_P D vwCl [(a_this, .inr (4, [.ref a_codes, .ref a_wetCells, .ref a_moves, .ref a_stepPipe, .ref a_stepSlot, .ref a_rowStart, .ref a_longer, .int f_columns, .int f_rows, .int f_size, .int f_steps]))] H := hP
  have hD : va_D A [(a_this, .inr (4, [.ref a_codes, .ref a_wetCells, .ref a_moves, .ref a_stepPipe, .ref a_stepSlot, .ref a_rowStart, .ref a_longer, .int f_columns, .int f_rows, .int f_size, .int f_steps]))] := hD
  obtain rfl := Option.some.inj hf
  exact zreti X hQ hP hD hS ⟨rfl, rfl⟩ rfl dX4_cutOff_13 (Nat.le_of_ble_eq_true rfl) (Nat.le_of_ble_eq_true rfl)


abbrev rm_X4_indexOf : Room := { frames := 0, cells := 0, slots := 0, locals := 0 }
def zf_X4_indexOf_53 (x2 : Int32) (x3 : Int32) (x4 : Int32) : Option ((Int32 × Int32 × Int32) ⊕ ((Int32))) :=
  some (.inl (x2, x3, x4 + (1 : Int32)))
def zf_X4_indexOf_l12 (c_codes : Nat → Int32) (x1 : Int32) (x2 : Int32) (x3 : Int32) (x4 : Int32) : Option ((Int32 × Int32 × Int32) ⊕ ((Int32))) :=
  if (8 : Int32) ≤ x4 then (some (.inr x2)) else (if x3 ≤ x2 then (some (.inr x2)) else (if zgd ((x2 + x3) / (2 : Int32)) 132 = true then (if x1 ≤ (c_codes ((x2 + x3) / (2 : Int32)).toNatClampNeg) then (zf_X4_indexOf_53 x2 ((x2 + x3) / (2 : Int32)) x4) else (zf_X4_indexOf_53 (((x2 + x3) / (2 : Int32)) + (1 : Int32)) x3 x4)) else none))
def zf_X4_indexOf (f_size : Int32) (c_codes : Nat → Int32) (x1 : Int32) : Option (Int32) :=
  (zit (fun d => zf_X4_indexOf_l12 c_codes x1 d.1 d.2.1 d.2.2) zfu ((0 : Int32), f_size - (1 : Int32), (0 : Int32))).bind fun o12 =>
  some o12
set_option maxHeartbeats 4000000 in
set_option maxRecDepth 100000 in
theorem zc_X4_indexOf (l : Launch) (D : va_G) (y : zY) (a_this a_codes a_wetCells a_moves a_stepPipe a_stepSlot a_rowStart a_longer : Nat) (f_columns : Int32) (f_rows : Int32) (f_size : Int32) (f_steps : Int32) (c_codes : Nat → Int32) (x1 : Int32) (out : Int32) (hf : zf_X4_indexOf f_size c_codes x1 = some out) : zC l D y yX4_indexOf cX4_indexOf 6 (some .int) rm_X4_indexOf [.ref a_this, .int x1] [(a_this, .inr (4, [.ref a_codes, .ref a_wetCells, .ref a_moves, .ref a_stepPipe, .ref a_stepSlot, .ref a_rowStart, .ref a_longer, .int f_columns, .int f_rows, .int f_size, .int f_steps])), (a_codes, .inl (y.1, 132, .inl c_codes))] (zE (some (.int out)) [(a_this, .inr (4, [.ref a_codes, .ref a_wetCells, .ref a_moves, .ref a_stepPipe, .ref a_stepSlot, .ref a_rowStart, .ref a_longer, .int f_columns, .int f_rows, .int f_size, .int f_steps])), (a_codes, .inl (y.1, 132, .inl c_codes))]) := by
  refine zmk (by decide) (Nat.le_of_ble_eq_true rfl) ?_
  intro p e s m args below meth c A Q ls X hQ hnm hP hD hS hl
  have X : zX p s m args meth c D y A RX4 cX4_indexOf 6 (some .int) := X
  obtain ⟨hx, hb, hr, hml, hown, hts, hK, hA, hlocks⟩ := id X
  have hl : lv_has ls 6 [(0, .ref a_this), (1, .int x1)] := hl
  have L12 : ∀ (n : Nat) (x1 : Int32) (x2 : Int32) (x3 : Int32) (x4 : Int32) (x : (Int32)), zit (fun d => zf_X4_indexOf_l12 c_codes x1 d.1 d.2.1 d.2.2) n (x2, x3, x4) = some x → ∀ (H : Heap) (locs : List Loc) (ls : Array Slot), lv_has ls 6 [(0, .ref a_this), (1, .int x1), (2, .int x2), (3, .int x3), (4, .int x4)] → va_P D vwCl [(a_this, .inr (4, [.ref a_codes, .ref a_wetCells, .ref a_moves, .ref a_stepPipe, .ref a_stepSlot, .ref a_rowStart, .ref a_longer, .int f_columns, .int f_rows, .int f_size, .int f_steps])), (a_codes, .inl (y.1, 132, .inl c_codes))] H → va_D A [(a_this, .inr (4, [.ref a_codes, .ref a_wetCells, .ref a_moves, .ref a_stepPipe, .ref a_stepSlot, .ref a_rowStart, .ref a_longer, .int f_columns, .int f_rows, .int f_size, .int f_steps])), (a_codes, .inl (y.1, 132, .inl c_codes))] → va_S A s.heap H locs → (∀ (H : Heap) (locs : List Loc) (ls : Array Slot), lv_has ls 6 [(2, .int x)] → va_P D vwCl [(a_this, .inr (4, [.ref a_codes, .ref a_wetCells, .ref a_moves, .ref a_stepPipe, .ref a_stepSlot, .ref a_rowStart, .ref a_longer, .int f_columns, .int f_rows, .int f_size, .int f_steps])), (a_codes, .inl (y.1, 132, .inl c_codes))] H → va_D A [(a_this, .inr (4, [.ref a_codes, .ref a_wetCells, .ref a_moves, .ref a_stepPipe, .ref a_stepSlot, .ref a_rowStart, .ref a_longer, .int f_columns, .int f_rows, .int f_size, .int f_steps])), (a_codes, .inl (y.1, 132, .inl c_codes))] → va_S A s.heap H locs → W p l e rm_X4_indexOf s m args below meth c H locs 0 0 Q (F0 m 59 ls [])) → W p l e rm_X4_indexOf s m args below meth c H locs 0 0 Q (F0 m 12 ls []) := by
    intro n
    induction n with
    | zero => intro x1 x2 x3 x4 x h; exact (zi0 h).elim
    | succ n ih =>
      intro x1 x2 x3 x4 x h H locs ls hl hP hD hS K59
      obtain ⟨r, hf, h⟩ := zis h
      have hf : zf_X4_indexOf_l12 c_codes x1 x2 x3 x4 = some r := hf
      have J53 : ∀ (x2 : Int32) (x3 : Int32) (x4 : Int32), zf_X4_indexOf_53 x2 x3 x4 = some r → ∀ (H : Heap) (locs : List Loc) (ls : Array Slot), lv_has ls 6 [(0, .ref a_this), (1, .int x1), (2, .int x2), (3, .int x3), (4, .int x4)] → va_P D vwCl [(a_this, .inr (4, [.ref a_codes, .ref a_wetCells, .ref a_moves, .ref a_stepPipe, .ref a_stepSlot, .ref a_rowStart, .ref a_longer, .int f_columns, .int f_rows, .int f_size, .int f_steps])), (a_codes, .inl (y.1, 132, .inl c_codes))] H → va_D A [(a_this, .inr (4, [.ref a_codes, .ref a_wetCells, .ref a_moves, .ref a_stepPipe, .ref a_stepSlot, .ref a_rowStart, .ref a_longer, .int f_columns, .int f_rows, .int f_size, .int f_steps])), (a_codes, .inl (y.1, 132, .inl c_codes))] → va_S A s.heap H locs → W p l e rm_X4_indexOf s m args below meth c H locs 0 0 Q (F0 m 53 ls []) := by
        intro x2 x3 x4 hf H locs ls hl hP hD hS
        unfold zf_X4_indexOf_53 at hf
        refine lv_iinc (v := x4 + (1 : Int32)) (lv' := [(4, .int (x4 + (1 : Int32))), (0, .ref a_this), (1, .int x1), (2, .int x2), (3, .int x3)]) hx hb dX4_indexOf_53 hl (k := 4) rfl rfl (by decide) rfl (fun ls hl => ?_)
        refine lv_goto (tgt := 12) hx hb dX4_indexOf_56 (by decide) ?_
        obtain rfl := Option.some.inj hf
        exact ih x1 x2 x3 (x4 + (1 : Int32)) x h _ _ _ (lv_sub hl [1, 2, 3, 4, 0] rfl) hP hD hS K59
      unfold zf_X4_indexOf_l12 at hf
      refine lv_iload hx hb dX4_indexOf_12 (lv_at hl 4 rfl) ?_
      refine lv_bipush (v := 8) hx hb dX4_indexOf_14 (by decide) ?_
      refine lv_icmp_ge (tgt := 59) hx hb dX4_indexOf_16 (by decide) (fun c16 => ?_) (fun c16 => ?_)
      · replace hf := zt c16 hf
        obtain rfl := Option.some.inj hf
        obtain rfl := Option.some.inj h
        exact K59 _ _ _ (lv_sub hl [2] rfl) hP hD hS
      · replace hf := ze c16 hf
        refine lv_iload_n hx hb dX4_indexOf_19 rfl (lv_at hl 2 rfl) ?_
        refine lv_iload_n hx hb dX4_indexOf_20 rfl (lv_at hl 3 rfl) ?_
        refine lv_icmp_ge (tgt := 59) hx hb dX4_indexOf_21 (by decide) (fun c21 => ?_) (fun c21 => ?_)
        · replace hf := zt c21 hf
          obtain rfl := Option.some.inj hf
          obtain rfl := Option.some.inj h
          exact K59 _ _ _ (lv_sub hl [2] rfl) hP hD hS
        · replace hf := ze c21 hf
          refine lv_iload_n hx hb dX4_indexOf_24 rfl (lv_at hl 2 rfl) ?_
          refine lv_iload_n hx hb dX4_indexOf_25 rfl (lv_at hl 3 rfl) ?_
          refine lv_iadd hx hb dX4_indexOf_26 ?_
          refine lv_iconst (v := 2) hx hb dX4_indexOf_27 (by decide) ?_
          refine lv_idiv hx hb dX4_indexOf_28 (by decide) ?_
          refine lv_istore (lv' := [(5, .int ((x2 + x3) / (2 : Int32))), (0, .ref a_this), (1, .int x1), (2, .int x2), (3, .int x3), (4, .int x4)]) hx hb dX4_indexOf_29 hl (by decide) rfl (fun ls hl => ?_)
          refine lv_aload_n hx hb dX4_indexOf_31 rfl (lv_at hl 1 rfl) ?_
          refine zget X hP 0 rfl rfl inF4 0 (by decide) q_67 rfl dX4_indexOf_32 ?_
          refine lv_iload hx hb dX4_indexOf_35 (lv_at hl 0 rfl) ?_
          obtain ⟨g37, hf⟩ := zg hf
          refine va_iald hx hb hK hP 1 0 rfl rfl g37 dX4_indexOf_37 ?_
          refine lv_iload_n hx hb dX4_indexOf_38 rfl (lv_at hl 2 rfl) ?_
          refine lv_icmp_ge (tgt := 50) hx hb dX4_indexOf_39 (by decide) (fun c39 => ?_) (fun c39 => ?_)
          · replace hf := zt c39 hf
            refine lv_iload hx hb dX4_indexOf_50 (lv_at hl 0 rfl) ?_
            refine lv_istore_n (lv' := [(3, .int ((x2 + x3) / (2 : Int32))), (5, .int ((x2 + x3) / (2 : Int32))), (0, .ref a_this), (1, .int x1), (2, .int x2), (4, .int x4)]) hx hb dX4_indexOf_52 rfl hl (by decide) rfl (fun ls hl => ?_)
            exact J53 x2 ((x2 + x3) / (2 : Int32)) x4 hf _ _ _ (lv_sub hl [2, 3, 4, 0, 5] rfl) hP hD hS
          · replace hf := ze c39 hf
            refine lv_iload hx hb dX4_indexOf_42 (lv_at hl 0 rfl) ?_
            refine lv_iconst (v := 1) hx hb dX4_indexOf_44 (by decide) ?_
            refine lv_iadd hx hb dX4_indexOf_45 ?_
            refine lv_istore_n (lv' := [(2, .int (((x2 + x3) / (2 : Int32)) + (1 : Int32))), (5, .int ((x2 + x3) / (2 : Int32))), (0, .ref a_this), (1, .int x1), (3, .int x3), (4, .int x4)]) hx hb dX4_indexOf_46 rfl hl (by decide) rfl (fun ls hl => ?_)
            refine lv_goto (tgt := 53) hx hb dX4_indexOf_47 (by decide) ?_
            exact J53 (((x2 + x3) / (2 : Int32)) + (1 : Int32)) x3 x4 hf _ _ _ (lv_sub hl [2, 3, 0, 4, 5] rfl) hP hD hS
  unfold zf_X4_indexOf at hf
  refine lv_iconst (v := 0) hx hb dX4_indexOf_0 (by decide) ?_
  refine lv_istore_n (lv' := [(2, .int (0 : Int32)), (0, .ref a_this), (1, .int x1)]) hx hb dX4_indexOf_1 rfl hl (by decide) rfl (fun ls hl => ?_)
  refine lv_aload_n hx hb dX4_indexOf_2 rfl (lv_at hl 1 rfl) ?_
  refine zget X hP 0 rfl rfl inF4 9 (by decide) q_87 rfl dX4_indexOf_3 ?_
  refine lv_iconst (v := 1) hx hb dX4_indexOf_6 (by decide) ?_
  refine lv_isub hx hb dX4_indexOf_7 ?_
  refine lv_istore_n (lv' := [(3, .int (f_size - (1 : Int32))), (2, .int (0 : Int32)), (0, .ref a_this), (1, .int x1)]) hx hb dX4_indexOf_8 rfl hl (by decide) rfl (fun ls hl => ?_)
  refine lv_iconst (v := 0) hx hb dX4_indexOf_9 (by decide) ?_
  refine lv_istore (lv' := [(4, .int (0 : Int32)), (3, .int (f_size - (1 : Int32))), (2, .int (0 : Int32)), (0, .ref a_this), (1, .int x1)]) hx hb dX4_indexOf_10 hl (by decide) rfl (fun ls hl => ?_)
  obtain ⟨o12, ho12, hf⟩ := zb hf
  refine L12 zfu x1 (0 : Int32) (f_size - (1 : Int32)) (0 : Int32) o12 ho12 _ _ _ (lv_sub hl [3, 4, 2, 1, 0] rfl) hP hD hS (fun H locs ls hl hP hD hS => ?_)
  refine lv_iload_n hx hb dX4_indexOf_59 rfl (lv_at hl 0 rfl) ?_
  obtain rfl := Option.some.inj hf
  exact zreti X hQ hP hD hS ⟨rfl, rfl⟩ rfl dX4_indexOf_60 (Nat.le_of_ble_eq_true rfl) (Nat.le_of_ble_eq_true rfl)


abbrev rm_X4_rightSlot : Room := { frames := 0, cells := 0, slots := 0, locals := 0 }
def zf_X4_rightSlot (x0 : Int32) : Option (Int32) :=
  some ((4 : Int32) + x0)
set_option maxHeartbeats 4000000 in
set_option maxRecDepth 100000 in
theorem zc_X4_rightSlot (l : Launch) (D : va_G) (y : zY) (x0 : Int32) (out : Int32) (hf : zf_X4_rightSlot x0 = some out) : zC l D y yX4_rightSlot cX4_rightSlot 1 (some .int) rm_X4_rightSlot [.int x0] [] (zE (some (.int out)) []) := by
  refine zmk (by decide) (Nat.le_of_ble_eq_true rfl) ?_
  intro p e s m args below meth c A Q ls X hQ hnm hP hD hS hl
  have X : zX p s m args meth c D y A RX4 cX4_rightSlot 1 (some .int) := X
  obtain ⟨hx, hb, hr, hml, hown, hts, hK, hA, hlocks⟩ := id X
  have hl : lv_has ls 1 [(0, .int x0)] := hl
  unfold zf_X4_rightSlot at hf
  refine lv_iconst (v := 4) hx hb dX4_rightSlot_0 (by decide) ?_
  refine lv_iload_n hx hb dX4_rightSlot_1 rfl (lv_at hl 0 rfl) ?_
  refine lv_iadd hx hb dX4_rightSlot_2 ?_
  obtain rfl := Option.some.inj hf
  exact zreti X hQ hP hD hS ⟨rfl, rfl⟩ rfl dX4_rightSlot_3 (Nat.le_of_ble_eq_true rfl) (Nat.le_of_ble_eq_true rfl)


abbrev rm_X4_joined : Room := { frames := 1, cells := 0, slots := 0, locals := 27 }
def zf_X4_joined_70 (x8 : Int32) (s0 : Int32) (s1 : Int32) : Option ((Int32 × Int32) ⊕ ((Int32))) :=
  (zf_X4_shiftOf x8).bind fun o72 =>
  some (.inl (s0 ||| (zshl s1 o72), x8 + (1 : Int32)))
def zf_X4_joined_l37 (f_columns : Int32) (x1 : Int32) (x5 : Int32) (x6 : Int32) (x7 : Int32) (x8 : Int32) : Option ((Int32 × Int32) ⊕ ((Int32))) :=
  if f_columns ≤ x8 then (some (.inr x7)) else ((zf_X4_labelIn x1 x8).bind fun o49 =>
  if o49 = x6 then (zf_X4_joined_70 x8 x7 x5) else (zf_X4_joined_70 x8 x7 o49))
def zf_X4_joined (f_columns : Int32) (x1 : Int32) (x2 : Int32) : Option (Int32) :=
  (zf_X4_labelIn x1 (x2 - (1 : Int32))).bind fun o4 =>
  (zf_X4_labelIn x1 x2).bind fun o10 =>
  (zit (fun d => zf_X4_joined_l37 f_columns x1 (if o10 < o4 then o10 else o4) (if o4 < o10 then o10 else o4) d.1 d.2) zfu ((0 : Int32), (0 : Int32))).bind fun o37 =>
  (zf_X4_renumbered f_columns o37).bind fun o88 =>
  some o88
set_option maxHeartbeats 4000000 in
set_option maxRecDepth 100000 in
theorem zc_X4_joined (l : Launch) (D : va_G) (y : zY) (a_this a_codes a_wetCells a_moves a_stepPipe a_stepSlot a_rowStart a_longer : Nat) (f_columns : Int32) (f_rows : Int32) (f_size : Int32) (f_steps : Int32) (x1 : Int32) (x2 : Int32) (out : Int32) (hf : zf_X4_joined f_columns x1 x2 = some out) : zC l D y yX4_joined cX4_joined 10 (some .int) rm_X4_joined [.ref a_this, .int x1, .int x2] [(a_this, .inr (4, [.ref a_codes, .ref a_wetCells, .ref a_moves, .ref a_stepPipe, .ref a_stepSlot, .ref a_rowStart, .ref a_longer, .int f_columns, .int f_rows, .int f_size, .int f_steps]))] (zE (some (.int out)) [(a_this, .inr (4, [.ref a_codes, .ref a_wetCells, .ref a_moves, .ref a_stepPipe, .ref a_stepSlot, .ref a_rowStart, .ref a_longer, .int f_columns, .int f_rows, .int f_size, .int f_steps]))]) := by
  refine zmk (by decide) (Nat.le_of_ble_eq_true rfl) ?_
  intro p e s m args below meth c A Q ls X hQ hnm hP hD hS hl
  have X : zX p s m args meth c D y A RX4 cX4_joined 10 (some .int) := X
  obtain ⟨hx, hb, hr, hml, hown, hts, hK, hA, hlocks⟩ := id X
  have hl : lv_has ls 10 [(0, .ref a_this), (1, .int x1), (2, .int x2)] := hl
  have L37 : ∀ (n : Nat) (x1 : Int32) (x5 : Int32) (x6 : Int32) (x7 : Int32) (x8 : Int32) (x : (Int32)), zit (fun d => zf_X4_joined_l37 f_columns x1 x5 x6 d.1 d.2) n (x7, x8) = some x → ∀ (H : Heap) (locs : List Loc) (ls : Array Slot), lv_has ls 10 [(0, .ref a_this), (1, .int x1), (5, .int x5), (6, .int x6), (7, .int x7), (8, .int x8)] → va_P D vwCl [(a_this, .inr (4, [.ref a_codes, .ref a_wetCells, .ref a_moves, .ref a_stepPipe, .ref a_stepSlot, .ref a_rowStart, .ref a_longer, .int f_columns, .int f_rows, .int f_size, .int f_steps]))] H → va_D A [(a_this, .inr (4, [.ref a_codes, .ref a_wetCells, .ref a_moves, .ref a_stepPipe, .ref a_stepSlot, .ref a_rowStart, .ref a_longer, .int f_columns, .int f_rows, .int f_size, .int f_steps]))] → va_S A s.heap H locs → (∀ (H : Heap) (locs : List Loc) (ls : Array Slot), lv_has ls 10 [(0, .ref a_this), (7, .int x)] → va_P D vwCl [(a_this, .inr (4, [.ref a_codes, .ref a_wetCells, .ref a_moves, .ref a_stepPipe, .ref a_stepSlot, .ref a_rowStart, .ref a_longer, .int f_columns, .int f_rows, .int f_size, .int f_steps]))] H → va_D A [(a_this, .inr (4, [.ref a_codes, .ref a_wetCells, .ref a_moves, .ref a_stepPipe, .ref a_stepSlot, .ref a_rowStart, .ref a_longer, .int f_columns, .int f_rows, .int f_size, .int f_steps]))] → va_S A s.heap H locs → W p l e rm_X4_joined s m args below meth c H locs 0 0 Q (F0 m 85 ls [])) → W p l e rm_X4_joined s m args below meth c H locs 0 0 Q (F0 m 37 ls []) := by
    intro n
    induction n with
    | zero => intro x1 x5 x6 x7 x8 x h; exact (zi0 h).elim
    | succ n ih =>
      intro x1 x5 x6 x7 x8 x h H locs ls hl hP hD hS K85
      obtain ⟨r, hf, h⟩ := zis h
      have hf : zf_X4_joined_l37 f_columns x1 x5 x6 x7 x8 = some r := hf
      have J70 : ∀ (x8 : Int32) (s0 : Int32) (s1 : Int32), zf_X4_joined_70 x8 s0 s1 = some r → ∀ (H : Heap) (locs : List Loc) (ls : Array Slot), lv_has ls 10 [(0, .ref a_this), (1, .int x1), (5, .int x5), (6, .int x6), (8, .int x8)] → va_P D vwCl [(a_this, .inr (4, [.ref a_codes, .ref a_wetCells, .ref a_moves, .ref a_stepPipe, .ref a_stepSlot, .ref a_rowStart, .ref a_longer, .int f_columns, .int f_rows, .int f_size, .int f_steps]))] H → va_D A [(a_this, .inr (4, [.ref a_codes, .ref a_wetCells, .ref a_moves, .ref a_stepPipe, .ref a_stepSlot, .ref a_rowStart, .ref a_longer, .int f_columns, .int f_rows, .int f_size, .int f_steps]))] → va_S A s.heap H locs → W p l e rm_X4_joined s m args below meth c H locs 0 0 Q (F0 m 70 ls [.int s1, .int s0]) := by
        intro x8 s0 s1 hf H locs ls hl hP hD hS
        unfold zf_X4_joined_70 at hf
        refine lv_iload hx hb dX4_joined_70 (lv_at hl 4 rfl) ?_
        obtain ⟨o72, ho72, hf⟩ := zb hf
        refine zcS1 (wr := [(a_this, .inr (4, [.ref a_codes, .ref a_wetCells, .ref a_moves, .ref a_stepPipe, .ref a_stepSlot, .ref a_rowStart, .ref a_longer, .int f_columns, .int f_rows, .int f_size, .int f_steps]))]) (rest := [.int s1, .int s0]) X (zc_X4_shiftOf l D y x8 o72 ho72) kf_RX4_67 ⟨(Nat.le_of_ble_eq_true rfl), (Nat.le_of_ble_eq_true rfl)⟩ hP hD hS [] [0] rfl rfl rfl rfl (by decide) rfl rfl hl.1 (Nat.le_of_ble_eq_true rfl) dX4_joined_72 ⟨(Nat.le_of_ble_eq_true rfl), (Nat.le_of_ble_eq_true rfl)⟩ (fun H locs hP hD hS => ?_)
        have hP : va_P D vwCl [(a_this, .inr (4, [.ref a_codes, .ref a_wetCells, .ref a_moves, .ref a_stepPipe, .ref a_stepSlot, .ref a_rowStart, .ref a_longer, .int f_columns, .int f_rows, .int f_size, .int f_steps]))] H := hP
        have hD : va_D A [(a_this, .inr (4, [.ref a_codes, .ref a_wetCells, .ref a_moves, .ref a_stepPipe, .ref a_stepSlot, .ref a_rowStart, .ref a_longer, .int f_columns, .int f_rows, .int f_size, .int f_steps]))] := hD
        refine lv_ishl hx hb dX4_joined_75 ?_
        refine lv_ior hx hb dX4_joined_76 ?_
        refine lv_istore (lv' := [(7, .int (s0 ||| (zshl s1 o72))), (0, .ref a_this), (1, .int x1), (5, .int x5), (6, .int x6), (8, .int x8)]) hx hb dX4_joined_77 hl (by decide) rfl (fun ls hl => ?_)
        refine lv_iinc (v := x8 + (1 : Int32)) (lv' := [(8, .int (x8 + (1 : Int32))), (7, .int (s0 ||| (zshl s1 o72))), (0, .ref a_this), (1, .int x1), (5, .int x5), (6, .int x6)]) hx hb dX4_joined_79 hl (k := 5) rfl rfl (by decide) rfl (fun ls hl => ?_)
        refine lv_goto (tgt := 37) hx hb dX4_joined_82 (by decide) ?_
        obtain rfl := Option.some.inj hf
        exact ih x1 x5 x6 (s0 ||| (zshl s1 o72)) (x8 + (1 : Int32)) x h _ _ _ (lv_sub hl [2, 3, 4, 5, 1, 0] rfl) hP hD hS K85
      unfold zf_X4_joined_l37 at hf
      refine lv_iload hx hb dX4_joined_37 (lv_at hl 5 rfl) ?_
      refine lv_aload_n hx hb dX4_joined_39 rfl (lv_at hl 0 rfl) ?_
      refine zget X hP 0 rfl rfl inF4 7 (by decide) q_85 rfl dX4_joined_40 ?_
      refine lv_icmp_ge (tgt := 85) hx hb dX4_joined_43 (by decide) (fun c43 => ?_) (fun c43 => ?_)
      · replace hf := zt c43 hf
        obtain rfl := Option.some.inj hf
        obtain rfl := Option.some.inj h
        exact K85 _ _ _ (lv_sub hl [0, 4] rfl) hP hD hS
      · replace hf := ze c43 hf
        refine lv_iload_n hx hb dX4_joined_46 rfl (lv_at hl 1 rfl) ?_
        refine lv_iload hx hb dX4_joined_47 (lv_at hl 5 rfl) ?_
        obtain ⟨o49, ho49, hf⟩ := zb hf
        refine zcS1 (wr := [(a_this, .inr (4, [.ref a_codes, .ref a_wetCells, .ref a_moves, .ref a_stepPipe, .ref a_stepSlot, .ref a_rowStart, .ref a_longer, .int f_columns, .int f_rows, .int f_size, .int f_steps]))]) (rest := []) X (zc_X4_labelIn l D y x1 x8 o49 ho49) kf_RX4_77 ⟨(Nat.le_of_ble_eq_true rfl), (Nat.le_of_ble_eq_true rfl)⟩ hP hD hS [] [0] rfl rfl rfl rfl (by decide) rfl rfl hl.1 (Nat.le_of_ble_eq_true rfl) dX4_joined_49 ⟨(Nat.le_of_ble_eq_true rfl), (Nat.le_of_ble_eq_true rfl)⟩ (fun H locs hP hD hS => ?_)
        have hP : va_P D vwCl [(a_this, .inr (4, [.ref a_codes, .ref a_wetCells, .ref a_moves, .ref a_stepPipe, .ref a_stepSlot, .ref a_rowStart, .ref a_longer, .int f_columns, .int f_rows, .int f_size, .int f_steps]))] H := hP
        have hD : va_D A [(a_this, .inr (4, [.ref a_codes, .ref a_wetCells, .ref a_moves, .ref a_stepPipe, .ref a_stepSlot, .ref a_rowStart, .ref a_longer, .int f_columns, .int f_rows, .int f_size, .int f_steps]))] := hD
        refine lv_istore (lv' := [(9, .int o49), (0, .ref a_this), (1, .int x1), (5, .int x5), (6, .int x6), (7, .int x7), (8, .int x8)]) hx hb dX4_joined_52 hl (by decide) rfl (fun ls hl => ?_)
        refine lv_iload hx hb dX4_joined_54 (lv_at hl 5 rfl) ?_
        refine lv_iload hx hb dX4_joined_56 (lv_at hl 0 rfl) ?_
        refine lv_iload hx hb dX4_joined_58 (lv_at hl 4 rfl) ?_
        refine lv_icmp_ne (tgt := 68) hx hb dX4_joined_60 (by decide) (fun c60 => ?_) (fun c60 => ?_)
        · replace hf := ze c60 hf
          refine lv_iload hx hb dX4_joined_68 (lv_at hl 0 rfl) ?_
          exact J70 x8 x7 o49 hf _ _ _ (lv_sub hl [1, 2, 3, 4, 6] rfl) hP hD hS
        · replace hf := zt c60 hf
          refine lv_iload hx hb dX4_joined_63 (lv_at hl 3 rfl) ?_
          refine lv_goto (tgt := 70) hx hb dX4_joined_65 (by decide) ?_
          exact J70 x8 x7 x5 hf _ _ _ (lv_sub hl [1, 2, 3, 4, 6] rfl) hP hD hS
  unfold zf_X4_joined at hf
  refine lv_iload_n hx hb dX4_joined_0 rfl (lv_at hl 1 rfl) ?_
  refine lv_iload_n hx hb dX4_joined_1 rfl (lv_at hl 2 rfl) ?_
  refine lv_iconst (v := 1) hx hb dX4_joined_2 (by decide) ?_
  refine lv_isub hx hb dX4_joined_3 ?_
  obtain ⟨o4, ho4, hf⟩ := zb hf
  refine zcS1 (wr := [(a_this, .inr (4, [.ref a_codes, .ref a_wetCells, .ref a_moves, .ref a_stepPipe, .ref a_stepSlot, .ref a_rowStart, .ref a_longer, .int f_columns, .int f_rows, .int f_size, .int f_steps]))]) (rest := []) X (zc_X4_labelIn l D y x1 (x2 - (1 : Int32)) o4 ho4) kf_RX4_77 ⟨(Nat.le_of_ble_eq_true rfl), (Nat.le_of_ble_eq_true rfl)⟩ hP hD hS [] [0] rfl rfl rfl rfl (by decide) rfl rfl hl.1 (Nat.le_of_ble_eq_true rfl) dX4_joined_4 ⟨(Nat.le_of_ble_eq_true rfl), (Nat.le_of_ble_eq_true rfl)⟩ (fun H locs hP hD hS => ?_)
  have hP : va_P D vwCl [(a_this, .inr (4, [.ref a_codes, .ref a_wetCells, .ref a_moves, .ref a_stepPipe, .ref a_stepSlot, .ref a_rowStart, .ref a_longer, .int f_columns, .int f_rows, .int f_size, .int f_steps]))] H := hP
  have hD : va_D A [(a_this, .inr (4, [.ref a_codes, .ref a_wetCells, .ref a_moves, .ref a_stepPipe, .ref a_stepSlot, .ref a_rowStart, .ref a_longer, .int f_columns, .int f_rows, .int f_size, .int f_steps]))] := hD
  refine lv_istore_n (lv' := [(3, .int o4), (0, .ref a_this), (1, .int x1), (2, .int x2)]) hx hb dX4_joined_7 rfl hl (by decide) rfl (fun ls hl => ?_)
  refine lv_iload_n hx hb dX4_joined_8 rfl (lv_at hl 2 rfl) ?_
  refine lv_iload_n hx hb dX4_joined_9 rfl (lv_at hl 3 rfl) ?_
  obtain ⟨o10, ho10, hf⟩ := zb hf
  refine zcS1 (wr := [(a_this, .inr (4, [.ref a_codes, .ref a_wetCells, .ref a_moves, .ref a_stepPipe, .ref a_stepSlot, .ref a_rowStart, .ref a_longer, .int f_columns, .int f_rows, .int f_size, .int f_steps]))]) (rest := []) X (zc_X4_labelIn l D y x1 x2 o10 ho10) kf_RX4_77 ⟨(Nat.le_of_ble_eq_true rfl), (Nat.le_of_ble_eq_true rfl)⟩ hP hD hS [] [0] rfl rfl rfl rfl (by decide) rfl rfl hl.1 (Nat.le_of_ble_eq_true rfl) dX4_joined_10 ⟨(Nat.le_of_ble_eq_true rfl), (Nat.le_of_ble_eq_true rfl)⟩ (fun H locs hP hD hS => ?_)
  have hP : va_P D vwCl [(a_this, .inr (4, [.ref a_codes, .ref a_wetCells, .ref a_moves, .ref a_stepPipe, .ref a_stepSlot, .ref a_rowStart, .ref a_longer, .int f_columns, .int f_rows, .int f_size, .int f_steps]))] H := hP
  have hD : va_D A [(a_this, .inr (4, [.ref a_codes, .ref a_wetCells, .ref a_moves, .ref a_stepPipe, .ref a_stepSlot, .ref a_rowStart, .ref a_longer, .int f_columns, .int f_rows, .int f_size, .int f_steps]))] := hD
  refine lv_istore (lv' := [(4, .int o10), (3, .int o4), (0, .ref a_this), (1, .int x1), (2, .int x2)]) hx hb dX4_joined_13 hl (by decide) rfl (fun ls hl => ?_)
  refine lv_iload_n hx hb dX4_joined_15 rfl (lv_at hl 1 rfl) ?_
  refine lv_iload hx hb dX4_joined_16 (lv_at hl 0 rfl) ?_
  refine va_mmin hx hb (by rw [hml]; exact hl.1.symm) hown (hts _ q_407) (hts _ q_408) (hts _ q_22) (hts _ q_409) (Nat.le_of_ble_eq_true rfl) (Nat.le_of_ble_eq_true rfl) (Nat.le_of_ble_eq_true rfl) (Nat.le_of_ble_eq_true rfl) dX4_joined_18 ?_
  refine lv_istore (lv' := [(5, .int (if o10 < o4 then o10 else o4)), (4, .int o10), (3, .int o4), (0, .ref a_this), (1, .int x1), (2, .int x2)]) hx hb dX4_joined_21 hl (by decide) rfl (fun ls hl => ?_)
  refine lv_iload_n hx hb dX4_joined_23 rfl (lv_at hl 2 rfl) ?_
  refine lv_iload hx hb dX4_joined_24 (lv_at hl 1 rfl) ?_
  refine va_mmax hx hb (by rw [hml]; exact hl.1.symm) hown (hts _ q_364) (hts _ q_365) (hts _ q_22) (hts _ q_366) (Nat.le_of_ble_eq_true rfl) (Nat.le_of_ble_eq_true rfl) (Nat.le_of_ble_eq_true rfl) (Nat.le_of_ble_eq_true rfl) dX4_joined_26 ?_
  refine lv_istore (lv' := [(6, .int (if o4 < o10 then o10 else o4)), (5, .int (if o10 < o4 then o10 else o4)), (4, .int o10), (3, .int o4), (0, .ref a_this), (1, .int x1), (2, .int x2)]) hx hb dX4_joined_29 hl (by decide) rfl (fun ls hl => ?_)
  refine lv_iconst (v := 0) hx hb dX4_joined_31 (by decide) ?_
  refine lv_istore (lv' := [(7, .int (0 : Int32)), (6, .int (if o4 < o10 then o10 else o4)), (5, .int (if o10 < o4 then o10 else o4)), (4, .int o10), (3, .int o4), (0, .ref a_this), (1, .int x1), (2, .int x2)]) hx hb dX4_joined_32 hl (by decide) rfl (fun ls hl => ?_)
  refine lv_iconst (v := 0) hx hb dX4_joined_34 (by decide) ?_
  refine lv_istore (lv' := [(8, .int (0 : Int32)), (7, .int (0 : Int32)), (6, .int (if o4 < o10 then o10 else o4)), (5, .int (if o10 < o4 then o10 else o4)), (4, .int o10), (3, .int o4), (0, .ref a_this), (1, .int x1), (2, .int x2)]) hx hb dX4_joined_35 hl (by decide) rfl (fun ls hl => ?_)
  obtain ⟨o37, ho37, hf⟩ := zb hf
  refine L37 zfu x1 (if o10 < o4 then o10 else o4) (if o4 < o10 then o10 else o4) (0 : Int32) (0 : Int32) o37 ho37 _ _ _ (lv_sub hl [6, 7, 3, 2, 1, 0] rfl) hP hD hS (fun H locs ls hl hP hD hS => ?_)
  refine lv_aload_n hx hb dX4_joined_85 rfl (lv_at hl 0 rfl) ?_
  refine lv_iload hx hb dX4_joined_86 (lv_at hl 1 rfl) ?_
  obtain ⟨o88, ho88, hf⟩ := zb hf
  refine zcV1 (wr := []) (rest := []) X (zc_X4_renumbered l D y a_this a_codes a_wetCells a_moves a_stepPipe a_stepSlot a_rowStart a_longer f_columns f_rows f_size f_steps o37 o88 ho88) kf_RX4_92 ⟨(Nat.le_of_ble_eq_true rfl), (Nat.le_of_ble_eq_true rfl)⟩ hP hD hS [0] [] rfl rfl rfl rfl (by decide) 0 rfl rfl rfl rfl hl.1 (Nat.le_of_ble_eq_true rfl) dX4_joined_88 ⟨(Nat.le_of_ble_eq_true rfl), (Nat.le_of_ble_eq_true rfl)⟩ (fun H locs hP hD hS => ?_)
  have hP : va_P D vwCl [(a_this, .inr (4, [.ref a_codes, .ref a_wetCells, .ref a_moves, .ref a_stepPipe, .ref a_stepSlot, .ref a_rowStart, .ref a_longer, .int f_columns, .int f_rows, .int f_size, .int f_steps]))] H := hP
  have hD : va_D A [(a_this, .inr (4, [.ref a_codes, .ref a_wetCells, .ref a_moves, .ref a_stepPipe, .ref a_stepSlot, .ref a_rowStart, .ref a_longer, .int f_columns, .int f_rows, .int f_size, .int f_steps]))] := hD
  obtain rfl := Option.some.inj hf
  exact zreti X hQ hP hD hS ⟨rfl, rfl⟩ rfl dX4_joined_91 (Nat.le_of_ble_eq_true rfl) (Nat.le_of_ble_eq_true rfl)

theorem kf_RX4_80 : zCB RX4 80 yX4_cutOff cX4_cutOff 3 (some .int) 2 ∧ Cond.instanceMethod yX4_cutOff ∈ wAll ∧ Cond.selects yX4_cutOff.cls yX4_cutOff yX4_cutOff ∈ wAll := ⟨⟨q_391, q_3, q_388, by decide +kernel⟩, q_390, qp_4⟩
theorem kf_RX4_83 : zCB RX4 83 yX4_indexOf cX4_indexOf 6 (some .int) 1 ∧ Cond.instanceMethod yX4_indexOf ∈ wAll ∧ Cond.selects yX4_indexOf.cls yX4_indexOf yX4_indexOf ∈ wAll := ⟨⟨q_399, q_3, q_396, by decide +kernel⟩, q_398, qp_6⟩
theorem kf_RX4_86 : zCB RX4 86 yX4_rightSlot cX4_rightSlot 1 (some .int) 1 ∧ Cond.static yX4_rightSlot ∈ wAll := ⟨⟨q_402, q_3, q_400, by decide +kernel⟩, q_401⟩
theorem kf_RX4_89 : zCB RX4 89 yX4_joined cX4_joined 10 (some .int) 2 ∧ Cond.instanceMethod yX4_joined ∈ wAll ∧ Cond.selects yX4_joined.cls yX4_joined yX4_joined ∈ wAll := ⟨⟨q_406, q_3, q_403, by decide +kernel⟩, q_405, qp_7⟩
abbrev rm_X4_makeMoves : Room := { frames := 2, cells := 0, slots := 0, locals := 56 }
def zf_X4_makeMoves_81 (c_moves : Nat → Int32) (x2 : Int32) : Option ((Int32 × (Nat → Int32)) ⊕ ((Nat → Int32))) :=
  some (.inl (x2 + (1 : Int32), c_moves))
def zf_X4_makeMoves_l12 (f_columns : Int32) (f_size : Int32) (c_codes : Nat → Int32) (x1 : Int32) (x2 : Int32) (c_moves : Nat → Int32) : Option ((Int32 × (Nat → Int32)) ⊕ ((Nat → Int32))) :=
  if f_columns ≤ x2 then (some (.inr c_moves)) else (if zgd x1 132 = true then ((zf_X4_cutOff f_columns (c_codes x1.toNatClampNeg) x2).bind fun o40 =>
  (zf_X4_indexOf f_size c_codes o40).bind fun o43 =>
  if zgd ((x2 * (132 : Int32)) + x1) 1188 = true then (if x2 ≤ 0 then (zf_X4_makeMoves_81 (upd c_moves ((x2 * (132 : Int32)) + x1).toNatClampNeg o43) x2) else ((zf_X4_rightSlot x2).bind fun o56 =>
  if zgd x1 132 = true then ((zf_X4_joined f_columns (c_codes x1.toNatClampNeg) x2).bind fun o74 =>
  (zf_X4_indexOf f_size c_codes o74).bind fun o77 =>
  if zgd ((o56 * (132 : Int32)) + x1) 1188 = true then (zf_X4_makeMoves_81 (upd (upd c_moves ((x2 * (132 : Int32)) + x1).toNatClampNeg o43) ((o56 * (132 : Int32)) + x1).toNatClampNeg o77) x2) else none) else none)) else none) else none)
def zf_X4_makeMoves_l2 (f_columns : Int32) (f_size : Int32) (c_codes : Nat → Int32) (x1 : Int32) (c_moves : Nat → Int32) : Option ((Int32 × (Nat → Int32)) ⊕ ((Nat → Int32))) :=
  if f_size ≤ x1 then (some (.inr c_moves)) else ((zit (fun d => zf_X4_makeMoves_l12 f_columns f_size c_codes x1 d.1 d.2) zfu ((0 : Int32), c_moves)).bind fun o12 =>
  some (.inl (x1 + (1 : Int32), o12)))
def zf_X4_makeMoves (f_columns : Int32) (f_size : Int32) (c_codes : Nat → Int32) (c_moves : Nat → Int32) : Option (Nat → Int32) :=
  (zit (fun d => zf_X4_makeMoves_l2 f_columns f_size c_codes d.1 d.2) zfu ((0 : Int32), c_moves)).bind fun o2 =>
  some o2
set_option maxHeartbeats 4000000 in
set_option maxRecDepth 100000 in
theorem zc_X4_makeMoves (l : Launch) (D : va_G) (y : zY) (a_this a_codes a_wetCells a_moves a_stepPipe a_stepSlot a_rowStart a_longer : Nat) (f_columns : Int32) (f_rows : Int32) (f_size : Int32) (f_steps : Int32) (c_codes : Nat → Int32) (c_moves : Nat → Int32) (out : Nat → Int32) (hf : zf_X4_makeMoves f_columns f_size c_codes c_moves = some out) : zC l D y yX4_makeMoves cX4_makeMoves 3 (none : Option Jvm.ClassFile.FieldType) rm_X4_makeMoves [.ref a_this] [(a_this, .inr (4, [.ref a_codes, .ref a_wetCells, .ref a_moves, .ref a_stepPipe, .ref a_stepSlot, .ref a_rowStart, .ref a_longer, .int f_columns, .int f_rows, .int f_size, .int f_steps])), (a_codes, .inl (y.1, 132, .inl c_codes)), (a_moves, .inl (y.1, 1188, .inl c_moves))] (zE none [(a_this, .inr (4, [.ref a_codes, .ref a_wetCells, .ref a_moves, .ref a_stepPipe, .ref a_stepSlot, .ref a_rowStart, .ref a_longer, .int f_columns, .int f_rows, .int f_size, .int f_steps])), (a_codes, .inl (y.1, 132, .inl c_codes)), (a_moves, .inl (y.1, 1188, .inl out))]) := by
  refine zmk (by decide) (Nat.le_of_ble_eq_true rfl) ?_
  intro p e s m args below meth c A Q ls X hQ hnm hP hD hS hl
  have X : zX p s m args meth c D y A RX4 cX4_makeMoves 3 (none : Option Jvm.ClassFile.FieldType) := X
  obtain ⟨hx, hb, hr, hml, hown, hts, hK, hA, hlocks⟩ := id X
  have hl : lv_has ls 3 [(0, .ref a_this)] := hl
  have L12 : ∀ (n : Nat) (x1 : Int32) (x2 : Int32) (c_moves : Nat → Int32) (x : (Nat → Int32)), zit (fun d => zf_X4_makeMoves_l12 f_columns f_size c_codes x1 d.1 d.2) n (x2, c_moves) = some x → ∀ (H : Heap) (locs : List Loc) (ls : Array Slot), lv_has ls 3 [(0, .ref a_this), (1, .int x1), (2, .int x2)] → va_P D vwCl [(a_this, .inr (4, [.ref a_codes, .ref a_wetCells, .ref a_moves, .ref a_stepPipe, .ref a_stepSlot, .ref a_rowStart, .ref a_longer, .int f_columns, .int f_rows, .int f_size, .int f_steps])), (a_codes, .inl (y.1, 132, .inl c_codes)), (a_moves, .inl (y.1, 1188, .inl c_moves))] H → va_D A [(a_this, .inr (4, [.ref a_codes, .ref a_wetCells, .ref a_moves, .ref a_stepPipe, .ref a_stepSlot, .ref a_rowStart, .ref a_longer, .int f_columns, .int f_rows, .int f_size, .int f_steps])), (a_codes, .inl (y.1, 132, .inl c_codes)), (a_moves, .inl (y.1, 1188, .inl c_moves))] → va_S A s.heap H locs → (∀ (H : Heap) (locs : List Loc) (ls : Array Slot), lv_has ls 3 [(0, .ref a_this), (1, .int x1)] → va_P D vwCl [(a_this, .inr (4, [.ref a_codes, .ref a_wetCells, .ref a_moves, .ref a_stepPipe, .ref a_stepSlot, .ref a_rowStart, .ref a_longer, .int f_columns, .int f_rows, .int f_size, .int f_steps])), (a_codes, .inl (y.1, 132, .inl c_codes)), (a_moves, .inl (y.1, 1188, .inl x))] H → va_D A [(a_this, .inr (4, [.ref a_codes, .ref a_wetCells, .ref a_moves, .ref a_stepPipe, .ref a_stepSlot, .ref a_rowStart, .ref a_longer, .int f_columns, .int f_rows, .int f_size, .int f_steps])), (a_codes, .inl (y.1, 132, .inl c_codes)), (a_moves, .inl (y.1, 1188, .inl x))] → va_S A s.heap H locs → W p l e rm_X4_makeMoves s m args below meth c H locs 0 0 Q (F0 m 87 ls [])) → W p l e rm_X4_makeMoves s m args below meth c H locs 0 0 Q (F0 m 12 ls []) := by
    intro n
    induction n with
    | zero => intro x1 x2 c_moves x h; exact (zi0 h).elim
    | succ n ih =>
      intro x1 x2 c_moves x h H locs ls hl hP hD hS K87
      obtain ⟨r, hf, h⟩ := zis h
      have hf : zf_X4_makeMoves_l12 f_columns f_size c_codes x1 x2 c_moves = some r := hf
      have J81 : ∀ (x2 : Int32) (c_moves : Nat → Int32), zf_X4_makeMoves_81 c_moves x2 = some r → ∀ (H : Heap) (locs : List Loc) (ls : Array Slot), lv_has ls 3 [(0, .ref a_this), (1, .int x1), (2, .int x2)] → va_P D vwCl [(a_this, .inr (4, [.ref a_codes, .ref a_wetCells, .ref a_moves, .ref a_stepPipe, .ref a_stepSlot, .ref a_rowStart, .ref a_longer, .int f_columns, .int f_rows, .int f_size, .int f_steps])), (a_codes, .inl (y.1, 132, .inl c_codes)), (a_moves, .inl (y.1, 1188, .inl c_moves))] H → va_D A [(a_this, .inr (4, [.ref a_codes, .ref a_wetCells, .ref a_moves, .ref a_stepPipe, .ref a_stepSlot, .ref a_rowStart, .ref a_longer, .int f_columns, .int f_rows, .int f_size, .int f_steps])), (a_codes, .inl (y.1, 132, .inl c_codes)), (a_moves, .inl (y.1, 1188, .inl c_moves))] → va_S A s.heap H locs → W p l e rm_X4_makeMoves s m args below meth c H locs 0 0 Q (F0 m 81 ls []) := by
        intro x2 c_moves hf H locs ls hl hP hD hS
        unfold zf_X4_makeMoves_81 at hf
        refine lv_iinc (v := x2 + (1 : Int32)) (lv' := [(2, .int (x2 + (1 : Int32))), (0, .ref a_this), (1, .int x1)]) hx hb dX4_makeMoves_81 hl (k := 2) rfl rfl (by decide) rfl (fun ls hl => ?_)
        refine lv_goto (tgt := 12) hx hb dX4_makeMoves_84 (by decide) ?_
        obtain rfl := Option.some.inj hf
        exact ih x1 (x2 + (1 : Int32)) c_moves x h _ _ _ (lv_sub hl [1, 2, 0] rfl) hP hD hS K87
      unfold zf_X4_makeMoves_l12 at hf
      refine lv_iload_n hx hb dX4_makeMoves_12 rfl (lv_at hl 2 rfl) ?_
      refine lv_aload_n hx hb dX4_makeMoves_13 rfl (lv_at hl 0 rfl) ?_
      refine zget X hP 0 rfl rfl inF4 7 (by decide) q_85 rfl dX4_makeMoves_14 ?_
      refine lv_icmp_ge (tgt := 87) hx hb dX4_makeMoves_17 (by decide) (fun c17 => ?_) (fun c17 => ?_)
      · replace hf := zt c17 hf
        obtain rfl := Option.some.inj hf
        obtain rfl := Option.some.inj h
        exact K87 _ _ _ (lv_sub hl [0, 1] rfl) hP hD hS
      · replace hf := ze c17 hf
        refine lv_aload_n hx hb dX4_makeMoves_20 rfl (lv_at hl 0 rfl) ?_
        refine zget X hP 0 rfl rfl inF4 2 (by decide) q_73 rfl dX4_makeMoves_21 ?_
        refine lv_iload_n hx hb dX4_makeMoves_24 rfl (lv_at hl 2 rfl) ?_
        refine lv_sipush (v := 132) hx hb dX4_makeMoves_25 (by decide) ?_
        refine lv_imul hx hb dX4_makeMoves_28 ?_
        refine lv_iload_n hx hb dX4_makeMoves_29 rfl (lv_at hl 1 rfl) ?_
        refine lv_iadd hx hb dX4_makeMoves_30 ?_
        refine lv_aload_n hx hb dX4_makeMoves_31 rfl (lv_at hl 0 rfl) ?_
        refine lv_aload_n hx hb dX4_makeMoves_32 rfl (lv_at hl 0 rfl) ?_
        refine lv_aload_n hx hb dX4_makeMoves_33 rfl (lv_at hl 0 rfl) ?_
        refine zget X hP 0 rfl rfl inF4 0 (by decide) q_67 rfl dX4_makeMoves_34 ?_
        refine lv_iload_n hx hb dX4_makeMoves_37 rfl (lv_at hl 1 rfl) ?_
        obtain ⟨g38, hf⟩ := zg hf
        refine va_iald hx hb hK hP 1 0 rfl rfl g38 dX4_makeMoves_38 ?_
        refine lv_iload_n hx hb dX4_makeMoves_39 rfl (lv_at hl 2 rfl) ?_
        obtain ⟨o40, ho40, hf⟩ := zb hf
        refine zcV1 (wr := [(a_codes, .inl (y.1, 132, .inl c_codes)), (a_moves, .inl (y.1, 1188, .inl c_moves))]) (rest := [.ref a_this, .int ((x2 * (132 : Int32)) + x1), .ref a_moves]) X (zc_X4_cutOff l D y a_this a_codes a_wetCells a_moves a_stepPipe a_stepSlot a_rowStart a_longer f_columns f_rows f_size f_steps (c_codes x1.toNatClampNeg) x2 o40 ho40) kf_RX4_80 ⟨(Nat.le_of_ble_eq_true rfl), (Nat.le_of_ble_eq_true rfl)⟩ hP hD hS [0] [1, 2] rfl rfl rfl rfl (by decide) 0 rfl rfl rfl rfl hl.1 (Nat.le_of_ble_eq_true rfl) dX4_makeMoves_40 ⟨(Nat.le_of_ble_eq_true rfl), (Nat.le_of_ble_eq_true rfl)⟩ (fun H locs hP hD hS => ?_)
        have hP : va_P D vwCl [(a_codes, .inl (y.1, 132, .inl c_codes)), (a_moves, .inl (y.1, 1188, .inl c_moves)), (a_this, .inr (4, [.ref a_codes, .ref a_wetCells, .ref a_moves, .ref a_stepPipe, .ref a_stepSlot, .ref a_rowStart, .ref a_longer, .int f_columns, .int f_rows, .int f_size, .int f_steps]))] H := hP
        have hD : va_D A [(a_codes, .inl (y.1, 132, .inl c_codes)), (a_moves, .inl (y.1, 1188, .inl c_moves)), (a_this, .inr (4, [.ref a_codes, .ref a_wetCells, .ref a_moves, .ref a_stepPipe, .ref a_stepSlot, .ref a_rowStart, .ref a_longer, .int f_columns, .int f_rows, .int f_size, .int f_steps]))] := hD
        obtain ⟨o43, ho43, hf⟩ := zb hf
        refine zcV1 (wr := [(a_moves, .inl (y.1, 1188, .inl c_moves))]) (rest := [.int ((x2 * (132 : Int32)) + x1), .ref a_moves]) X (zc_X4_indexOf l D y a_this a_codes a_wetCells a_moves a_stepPipe a_stepSlot a_rowStart a_longer f_columns f_rows f_size f_steps c_codes o40 o43 ho43) kf_RX4_83 ⟨(Nat.le_of_ble_eq_true rfl), (Nat.le_of_ble_eq_true rfl)⟩ hP hD hS [2, 0] [1] rfl rfl rfl rfl (by decide) 2 rfl rfl rfl rfl hl.1 (Nat.le_of_ble_eq_true rfl) dX4_makeMoves_43 ⟨(Nat.le_of_ble_eq_true rfl), (Nat.le_of_ble_eq_true rfl)⟩ (fun H locs hP hD hS => ?_)
        have hP : va_P D vwCl [(a_moves, .inl (y.1, 1188, .inl c_moves)), (a_this, .inr (4, [.ref a_codes, .ref a_wetCells, .ref a_moves, .ref a_stepPipe, .ref a_stepSlot, .ref a_rowStart, .ref a_longer, .int f_columns, .int f_rows, .int f_size, .int f_steps])), (a_codes, .inl (y.1, 132, .inl c_codes))] H := hP
        have hD : va_D A [(a_moves, .inl (y.1, 1188, .inl c_moves)), (a_this, .inr (4, [.ref a_codes, .ref a_wetCells, .ref a_moves, .ref a_stepPipe, .ref a_stepSlot, .ref a_rowStart, .ref a_longer, .int f_columns, .int f_rows, .int f_size, .int f_steps])), (a_codes, .inl (y.1, 132, .inl c_codes))] := hD
        obtain ⟨g46, hf⟩ := zg hf
        refine va_iast hx hb hK hP hD hS 0 0 rfl rfl g46 dX4_makeMoves_46 (fun H locs hP hD hS => ?_)
        have hP : va_P D vwCl [(a_moves, .inl (y.1, 1188, .inl (upd c_moves ((x2 * (132 : Int32)) + x1).toNatClampNeg o43))), (a_this, .inr (4, [.ref a_codes, .ref a_wetCells, .ref a_moves, .ref a_stepPipe, .ref a_stepSlot, .ref a_rowStart, .ref a_longer, .int f_columns, .int f_rows, .int f_size, .int f_steps])), (a_codes, .inl (y.1, 132, .inl c_codes))] H := hP
        have hD : va_D A [(a_moves, .inl (y.1, 1188, .inl (upd c_moves ((x2 * (132 : Int32)) + x1).toNatClampNeg o43))), (a_this, .inr (4, [.ref a_codes, .ref a_wetCells, .ref a_moves, .ref a_stepPipe, .ref a_stepSlot, .ref a_rowStart, .ref a_longer, .int f_columns, .int f_rows, .int f_size, .int f_steps])), (a_codes, .inl (y.1, 132, .inl c_codes))] := hD
        refine lv_iload_n hx hb dX4_makeMoves_47 rfl (lv_at hl 2 rfl) ?_
        refine lv_if_le (tgt := 81) hx hb dX4_makeMoves_48 (by decide) (fun c48 => ?_) (fun c48 => ?_)
        · replace hf := zt c48 hf
          exact J81 x2 (upd c_moves ((x2 * (132 : Int32)) + x1).toNatClampNeg o43) hf _ _ _ hl (zPsub (is := [1, 2, 0]) hP rfl) (hD.sub [1, 2, 0] (by decide) rfl) hS
        · replace hf := ze c48 hf
          refine lv_aload_n hx hb dX4_makeMoves_51 rfl (lv_at hl 0 rfl) ?_
          refine zget X hP 1 rfl rfl inF4 2 (by decide) q_73 rfl dX4_makeMoves_52 ?_
          refine lv_iload_n hx hb dX4_makeMoves_55 rfl (lv_at hl 2 rfl) ?_
          obtain ⟨o56, ho56, hf⟩ := zb hf
          refine zcS1 (wr := [(a_moves, .inl (y.1, 1188, .inl (upd c_moves ((x2 * (132 : Int32)) + x1).toNatClampNeg o43))), (a_this, .inr (4, [.ref a_codes, .ref a_wetCells, .ref a_moves, .ref a_stepPipe, .ref a_stepSlot, .ref a_rowStart, .ref a_longer, .int f_columns, .int f_rows, .int f_size, .int f_steps])), (a_codes, .inl (y.1, 132, .inl c_codes))]) (rest := [.ref a_moves]) X (zc_X4_rightSlot l D y x2 o56 ho56) kf_RX4_86 ⟨(Nat.le_of_ble_eq_true rfl), (Nat.le_of_ble_eq_true rfl)⟩ hP hD hS [] [0, 1, 2] rfl rfl rfl rfl (by decide) rfl rfl hl.1 (Nat.le_of_ble_eq_true rfl) dX4_makeMoves_56 ⟨(Nat.le_of_ble_eq_true rfl), (Nat.le_of_ble_eq_true rfl)⟩ (fun H locs hP hD hS => ?_)
          have hP : va_P D vwCl [(a_moves, .inl (y.1, 1188, .inl (upd c_moves ((x2 * (132 : Int32)) + x1).toNatClampNeg o43))), (a_this, .inr (4, [.ref a_codes, .ref a_wetCells, .ref a_moves, .ref a_stepPipe, .ref a_stepSlot, .ref a_rowStart, .ref a_longer, .int f_columns, .int f_rows, .int f_size, .int f_steps])), (a_codes, .inl (y.1, 132, .inl c_codes))] H := hP
          have hD : va_D A [(a_moves, .inl (y.1, 1188, .inl (upd c_moves ((x2 * (132 : Int32)) + x1).toNatClampNeg o43))), (a_this, .inr (4, [.ref a_codes, .ref a_wetCells, .ref a_moves, .ref a_stepPipe, .ref a_stepSlot, .ref a_rowStart, .ref a_longer, .int f_columns, .int f_rows, .int f_size, .int f_steps])), (a_codes, .inl (y.1, 132, .inl c_codes))] := hD
          refine lv_sipush (v := 132) hx hb dX4_makeMoves_59 (by decide) ?_
          refine lv_imul hx hb dX4_makeMoves_62 ?_
          refine lv_iload_n hx hb dX4_makeMoves_63 rfl (lv_at hl 1 rfl) ?_
          refine lv_iadd hx hb dX4_makeMoves_64 ?_
          refine lv_aload_n hx hb dX4_makeMoves_65 rfl (lv_at hl 0 rfl) ?_
          refine lv_aload_n hx hb dX4_makeMoves_66 rfl (lv_at hl 0 rfl) ?_
          refine lv_aload_n hx hb dX4_makeMoves_67 rfl (lv_at hl 0 rfl) ?_
          refine zget X hP 1 rfl rfl inF4 0 (by decide) q_67 rfl dX4_makeMoves_68 ?_
          refine lv_iload_n hx hb dX4_makeMoves_71 rfl (lv_at hl 1 rfl) ?_
          obtain ⟨g72, hf⟩ := zg hf
          refine va_iald hx hb hK hP 2 0 rfl rfl g72 dX4_makeMoves_72 ?_
          refine lv_iload_n hx hb dX4_makeMoves_73 rfl (lv_at hl 2 rfl) ?_
          obtain ⟨o74, ho74, hf⟩ := zb hf
          refine zcV1 (wr := [(a_moves, .inl (y.1, 1188, .inl (upd c_moves ((x2 * (132 : Int32)) + x1).toNatClampNeg o43))), (a_codes, .inl (y.1, 132, .inl c_codes))]) (rest := [.ref a_this, .int ((o56 * (132 : Int32)) + x1), .ref a_moves]) X (zc_X4_joined l D y a_this a_codes a_wetCells a_moves a_stepPipe a_stepSlot a_rowStart a_longer f_columns f_rows f_size f_steps (c_codes x1.toNatClampNeg) x2 o74 ho74) kf_RX4_89 ⟨(Nat.le_of_ble_eq_true rfl), (Nat.le_of_ble_eq_true rfl)⟩ hP hD hS [1] [0, 2] rfl rfl rfl rfl (by decide) 1 rfl rfl rfl rfl hl.1 (Nat.le_of_ble_eq_true rfl) dX4_makeMoves_74 ⟨(Nat.le_of_ble_eq_true rfl), (Nat.le_of_ble_eq_true rfl)⟩ (fun H locs hP hD hS => ?_)
          have hP : va_P D vwCl [(a_moves, .inl (y.1, 1188, .inl (upd c_moves ((x2 * (132 : Int32)) + x1).toNatClampNeg o43))), (a_codes, .inl (y.1, 132, .inl c_codes)), (a_this, .inr (4, [.ref a_codes, .ref a_wetCells, .ref a_moves, .ref a_stepPipe, .ref a_stepSlot, .ref a_rowStart, .ref a_longer, .int f_columns, .int f_rows, .int f_size, .int f_steps]))] H := hP
          have hD : va_D A [(a_moves, .inl (y.1, 1188, .inl (upd c_moves ((x2 * (132 : Int32)) + x1).toNatClampNeg o43))), (a_codes, .inl (y.1, 132, .inl c_codes)), (a_this, .inr (4, [.ref a_codes, .ref a_wetCells, .ref a_moves, .ref a_stepPipe, .ref a_stepSlot, .ref a_rowStart, .ref a_longer, .int f_columns, .int f_rows, .int f_size, .int f_steps]))] := hD
          obtain ⟨o77, ho77, hf⟩ := zb hf
          refine zcV1 (wr := [(a_moves, .inl (y.1, 1188, .inl (upd c_moves ((x2 * (132 : Int32)) + x1).toNatClampNeg o43)))]) (rest := [.int ((o56 * (132 : Int32)) + x1), .ref a_moves]) X (zc_X4_indexOf l D y a_this a_codes a_wetCells a_moves a_stepPipe a_stepSlot a_rowStart a_longer f_columns f_rows f_size f_steps c_codes o74 o77 ho77) kf_RX4_83 ⟨(Nat.le_of_ble_eq_true rfl), (Nat.le_of_ble_eq_true rfl)⟩ hP hD hS [2, 1] [0] rfl rfl rfl rfl (by decide) 2 rfl rfl rfl rfl hl.1 (Nat.le_of_ble_eq_true rfl) dX4_makeMoves_77 ⟨(Nat.le_of_ble_eq_true rfl), (Nat.le_of_ble_eq_true rfl)⟩ (fun H locs hP hD hS => ?_)
          have hP : va_P D vwCl [(a_moves, .inl (y.1, 1188, .inl (upd c_moves ((x2 * (132 : Int32)) + x1).toNatClampNeg o43))), (a_this, .inr (4, [.ref a_codes, .ref a_wetCells, .ref a_moves, .ref a_stepPipe, .ref a_stepSlot, .ref a_rowStart, .ref a_longer, .int f_columns, .int f_rows, .int f_size, .int f_steps])), (a_codes, .inl (y.1, 132, .inl c_codes))] H := hP
          have hD : va_D A [(a_moves, .inl (y.1, 1188, .inl (upd c_moves ((x2 * (132 : Int32)) + x1).toNatClampNeg o43))), (a_this, .inr (4, [.ref a_codes, .ref a_wetCells, .ref a_moves, .ref a_stepPipe, .ref a_stepSlot, .ref a_rowStart, .ref a_longer, .int f_columns, .int f_rows, .int f_size, .int f_steps])), (a_codes, .inl (y.1, 132, .inl c_codes))] := hD
          obtain ⟨g80, hf⟩ := zg hf
          refine va_iast hx hb hK hP hD hS 0 0 rfl rfl g80 dX4_makeMoves_80 (fun H locs hP hD hS => ?_)
          have hP : va_P D vwCl [(a_moves, .inl (y.1, 1188, .inl (upd (upd c_moves ((x2 * (132 : Int32)) + x1).toNatClampNeg o43) ((o56 * (132 : Int32)) + x1).toNatClampNeg o77))), (a_this, .inr (4, [.ref a_codes, .ref a_wetCells, .ref a_moves, .ref a_stepPipe, .ref a_stepSlot, .ref a_rowStart, .ref a_longer, .int f_columns, .int f_rows, .int f_size, .int f_steps])), (a_codes, .inl (y.1, 132, .inl c_codes))] H := hP
          have hD : va_D A [(a_moves, .inl (y.1, 1188, .inl (upd (upd c_moves ((x2 * (132 : Int32)) + x1).toNatClampNeg o43) ((o56 * (132 : Int32)) + x1).toNatClampNeg o77))), (a_this, .inr (4, [.ref a_codes, .ref a_wetCells, .ref a_moves, .ref a_stepPipe, .ref a_stepSlot, .ref a_rowStart, .ref a_longer, .int f_columns, .int f_rows, .int f_size, .int f_steps])), (a_codes, .inl (y.1, 132, .inl c_codes))] := hD
          exact J81 x2 (upd (upd c_moves ((x2 * (132 : Int32)) + x1).toNatClampNeg o43) ((o56 * (132 : Int32)) + x1).toNatClampNeg o77) hf _ _ _ hl (zPsub (is := [1, 2, 0]) hP rfl) (hD.sub [1, 2, 0] (by decide) rfl) hS
  have L2 : ∀ (n : Nat) (x1 : Int32) (c_moves : Nat → Int32) (x : (Nat → Int32)), zit (fun d => zf_X4_makeMoves_l2 f_columns f_size c_codes d.1 d.2) n (x1, c_moves) = some x → ∀ (H : Heap) (locs : List Loc) (ls : Array Slot), lv_has ls 3 [(0, .ref a_this), (1, .int x1)] → va_P D vwCl [(a_this, .inr (4, [.ref a_codes, .ref a_wetCells, .ref a_moves, .ref a_stepPipe, .ref a_stepSlot, .ref a_rowStart, .ref a_longer, .int f_columns, .int f_rows, .int f_size, .int f_steps])), (a_codes, .inl (y.1, 132, .inl c_codes)), (a_moves, .inl (y.1, 1188, .inl c_moves))] H → va_D A [(a_this, .inr (4, [.ref a_codes, .ref a_wetCells, .ref a_moves, .ref a_stepPipe, .ref a_stepSlot, .ref a_rowStart, .ref a_longer, .int f_columns, .int f_rows, .int f_size, .int f_steps])), (a_codes, .inl (y.1, 132, .inl c_codes)), (a_moves, .inl (y.1, 1188, .inl c_moves))] → va_S A s.heap H locs → (∀ (H : Heap) (locs : List Loc) (ls : Array Slot), lv_has ls 3 [] → va_P D vwCl [(a_this, .inr (4, [.ref a_codes, .ref a_wetCells, .ref a_moves, .ref a_stepPipe, .ref a_stepSlot, .ref a_rowStart, .ref a_longer, .int f_columns, .int f_rows, .int f_size, .int f_steps])), (a_codes, .inl (y.1, 132, .inl c_codes)), (a_moves, .inl (y.1, 1188, .inl x))] H → va_D A [(a_this, .inr (4, [.ref a_codes, .ref a_wetCells, .ref a_moves, .ref a_stepPipe, .ref a_stepSlot, .ref a_rowStart, .ref a_longer, .int f_columns, .int f_rows, .int f_size, .int f_steps])), (a_codes, .inl (y.1, 132, .inl c_codes)), (a_moves, .inl (y.1, 1188, .inl x))] → va_S A s.heap H locs → W p l e rm_X4_makeMoves s m args below meth c H locs 0 0 Q (F0 m 93 ls [])) → W p l e rm_X4_makeMoves s m args below meth c H locs 0 0 Q (F0 m 2 ls []) := by
    intro n
    induction n with
    | zero => intro x1 c_moves x h; exact (zi0 h).elim
    | succ n ih =>
      intro x1 c_moves x h H locs ls hl hP hD hS K93
      obtain ⟨r, hf, h⟩ := zis h
      have hf : zf_X4_makeMoves_l2 f_columns f_size c_codes x1 c_moves = some r := hf
      unfold zf_X4_makeMoves_l2 at hf
      refine lv_iload_n hx hb dX4_makeMoves_2 rfl (lv_at hl 1 rfl) ?_
      refine lv_aload_n hx hb dX4_makeMoves_3 rfl (lv_at hl 0 rfl) ?_
      refine zget X hP 0 rfl rfl inF4 9 (by decide) q_87 rfl dX4_makeMoves_4 ?_
      refine lv_icmp_ge (tgt := 93) hx hb dX4_makeMoves_7 (by decide) (fun c7 => ?_) (fun c7 => ?_)
      · replace hf := zt c7 hf
        obtain rfl := Option.some.inj hf
        obtain rfl := Option.some.inj h
        exact K93 _ _ _ (lv_sub hl [] rfl) hP hD hS
      · replace hf := ze c7 hf
        refine lv_iconst (v := 0) hx hb dX4_makeMoves_10 (by decide) ?_
        refine lv_istore_n (lv' := [(2, .int (0 : Int32)), (0, .ref a_this), (1, .int x1)]) hx hb dX4_makeMoves_11 rfl hl (by decide) rfl (fun ls hl => ?_)
        obtain ⟨o12, ho12, hf⟩ := zb hf
        refine L12 zfu x1 (0 : Int32) c_moves o12 ho12 _ _ _ (lv_sub hl [1, 2, 0] rfl) hP hD hS (fun H locs ls hl hP hD hS => ?_)
        refine lv_iinc (v := x1 + (1 : Int32)) (lv' := [(1, .int (x1 + (1 : Int32))), (0, .ref a_this)]) hx hb dX4_makeMoves_87 hl (k := 1) rfl rfl (by decide) rfl (fun ls hl => ?_)
        refine lv_goto (tgt := 2) hx hb dX4_makeMoves_90 (by decide) ?_
        obtain rfl := Option.some.inj hf
        exact ih (x1 + (1 : Int32)) o12 x h _ _ _ (lv_sub hl [1, 0] rfl) hP hD hS K93
  unfold zf_X4_makeMoves at hf
  refine lv_iconst (v := 0) hx hb dX4_makeMoves_0 (by decide) ?_
  refine lv_istore_n (lv' := [(1, .int (0 : Int32)), (0, .ref a_this)]) hx hb dX4_makeMoves_1 rfl hl (by decide) rfl (fun ls hl => ?_)
  obtain ⟨o2, ho2, hf⟩ := zb hf
  refine L2 zfu (0 : Int32) c_moves o2 ho2 _ _ _ (lv_sub hl [1, 0] rfl) hP hD hS (fun H locs ls hl hP hD hS => ?_)
  obtain rfl := Option.some.inj hf
  exact zretv X hQ hP hD hS ⟨rfl, rfl⟩ dX4_makeMoves_93 (Nat.le_of_ble_eq_true rfl) (Nat.le_of_ble_eq_true rfl)


abbrev rm_X2_numberOf : Room := { frames := 0, cells := 0, slots := 0, locals := 0 }
def zf_X2_numberOf (x0 : Int32) (x1 : Int32) (x2 : Int32) : Option (Int32) :=
  if x2 = 0 then (some ((((10 : Int32) * x1) + ((2 : Int32) * x0)) + (0 : Int32))) else (some ((((10 : Int32) * x1) + ((2 : Int32) * x0)) + (1 : Int32)))
set_option maxHeartbeats 4000000 in
set_option maxRecDepth 100000 in
theorem zc_X2_numberOf (l : Launch) (D : va_G) (y : zY) (x0 : Int32) (x1 : Int32) (x2 : Int32) (out : Int32) (hf : zf_X2_numberOf x0 x1 x2 = some out) : zC l D y yX2_numberOf cX2_numberOf 3 (some .int) rm_X2_numberOf [.int x0, .int x1, .int x2] [] (zE (some (.int out)) []) := by
  refine zmk (by decide) (Nat.le_of_ble_eq_true rfl) ?_
  intro p e s m args below meth c A Q ls X hQ hnm hP hD hS hl
  have X : zX p s m args meth c D y A RX2 cX2_numberOf 3 (some .int) := X
  obtain ⟨hx, hb, hr, hml, hown, hts, hK, hA, hlocks⟩ := id X
  have hl : lv_has ls 3 [(0, .int x0), (1, .int x1), (2, .int x2)] := hl
  unfold zf_X2_numberOf at hf
  refine lv_bipush (v := 10) hx hb dX2_numberOf_0 (by decide) ?_
  refine lv_iload_n hx hb dX2_numberOf_2 rfl (lv_at hl 1 rfl) ?_
  refine lv_imul hx hb dX2_numberOf_3 ?_
  refine lv_iconst (v := 2) hx hb dX2_numberOf_4 (by decide) ?_
  refine lv_iload_n hx hb dX2_numberOf_5 rfl (lv_at hl 0 rfl) ?_
  refine lv_imul hx hb dX2_numberOf_6 ?_
  refine lv_iadd hx hb dX2_numberOf_7 ?_
  refine lv_iload_n hx hb dX2_numberOf_8 rfl (lv_at hl 2 rfl) ?_
  refine lv_if_eq (tgt := 16) hx hb dX2_numberOf_9 (by decide) (fun c9 => ?_) (fun c9 => ?_)
  · replace hf := zt c9 hf
    refine lv_iconst (v := 0) hx hb dX2_numberOf_16 (by decide) ?_
    refine lv_iadd hx hb dX2_numberOf_17 ?_
    obtain rfl := Option.some.inj hf
    exact zreti X hQ hP hD hS ⟨rfl, rfl⟩ rfl dX2_numberOf_18 (Nat.le_of_ble_eq_true rfl) (Nat.le_of_ble_eq_true rfl)
  · replace hf := ze c9 hf
    refine lv_iconst (v := 1) hx hb dX2_numberOf_12 (by decide) ?_
    refine lv_goto (tgt := 17) hx hb dX2_numberOf_13 (by decide) ?_
    refine lv_iadd hx hb dX2_numberOf_17 ?_
    obtain rfl := Option.some.inj hf
    exact zreti X hQ hP hD hS ⟨rfl, rfl⟩ rfl dX2_numberOf_18 (Nat.le_of_ble_eq_true rfl) (Nat.le_of_ble_eq_true rfl)


abbrev rm_X4_addStep : Room := { frames := 0, cells := 0, slots := 0, locals := 0 }
def zf_X4_addStep (f_steps : Int32) (c_stepPipe : Nat → Int32) (c_stepSlot : Nat → Int32) (x1 : Int32) (x2 : Int32) : Option (Int32 × (Nat → Int32) × (Nat → Int32)) :=
  if (40 : Int32) ≤ f_steps then (some (f_steps, c_stepPipe, c_stepSlot)) else (if zgd f_steps 40 = true then (if zgd f_steps 40 = true then (some (f_steps + (1 : Int32), upd c_stepPipe f_steps.toNatClampNeg x1, upd c_stepSlot f_steps.toNatClampNeg x2)) else none) else none)
set_option maxHeartbeats 4000000 in
set_option maxRecDepth 100000 in
theorem zc_X4_addStep (l : Launch) (D : va_G) (y : zY) (a_this a_codes a_wetCells a_moves a_stepPipe a_stepSlot a_rowStart a_longer : Nat) (f_columns : Int32) (f_rows : Int32) (f_size : Int32) (f_steps : Int32) (c_stepPipe : Nat → Int32) (c_stepSlot : Nat → Int32) (x1 : Int32) (x2 : Int32) (out : Int32 × (Nat → Int32) × (Nat → Int32)) (hf : zf_X4_addStep f_steps c_stepPipe c_stepSlot x1 x2 = some out) : zC l D y yX4_addStep cX4_addStep 3 (none : Option Jvm.ClassFile.FieldType) rm_X4_addStep [.ref a_this, .int x1, .int x2] [(a_this, .inr (4, [.ref a_codes, .ref a_wetCells, .ref a_moves, .ref a_stepPipe, .ref a_stepSlot, .ref a_rowStart, .ref a_longer, .int f_columns, .int f_rows, .int f_size, .int f_steps])), (a_stepPipe, .inl (y.1, 40, .inl c_stepPipe)), (a_stepSlot, .inl (y.1, 40, .inl c_stepSlot))] (zE none [(a_this, .inr (4, [.ref a_codes, .ref a_wetCells, .ref a_moves, .ref a_stepPipe, .ref a_stepSlot, .ref a_rowStart, .ref a_longer, .int f_columns, .int f_rows, .int f_size, .int out.1])), (a_stepPipe, .inl (y.1, 40, .inl out.2.1)), (a_stepSlot, .inl (y.1, 40, .inl out.2.2))]) := by
  refine zmk (by decide) (Nat.le_of_ble_eq_true rfl) ?_
  intro p e s m args below meth c A Q ls X hQ hnm hP hD hS hl
  have X : zX p s m args meth c D y A RX4 cX4_addStep 3 (none : Option Jvm.ClassFile.FieldType) := X
  obtain ⟨hx, hb, hr, hml, hown, hts, hK, hA, hlocks⟩ := id X
  have hl : lv_has ls 3 [(0, .ref a_this), (1, .int x1), (2, .int x2)] := hl
  unfold zf_X4_addStep at hf
  refine lv_aload_n hx hb dX4_addStep_0 rfl (lv_at hl 0 rfl) ?_
  refine zget X hP 0 rfl rfl inF4 10 (by decide) q_93 rfl dX4_addStep_1 ?_
  refine lv_bipush (v := 40) hx hb dX4_addStep_4 (by decide) ?_
  refine lv_icmp_ge (tgt := 39) hx hb dX4_addStep_6 (by decide) (fun c6 => ?_) (fun c6 => ?_)
  · replace hf := zt c6 hf
    obtain rfl := Option.some.inj hf
    exact zretv X hQ hP hD hS ⟨rfl, rfl⟩ dX4_addStep_39 (Nat.le_of_ble_eq_true rfl) (Nat.le_of_ble_eq_true rfl)
  · replace hf := ze c6 hf
    refine lv_aload_n hx hb dX4_addStep_9 rfl (lv_at hl 0 rfl) ?_
    refine zget X hP 0 rfl rfl inF4 3 (by decide) q_74 rfl dX4_addStep_10 ?_
    refine lv_aload_n hx hb dX4_addStep_13 rfl (lv_at hl 0 rfl) ?_
    refine zget X hP 0 rfl rfl inF4 10 (by decide) q_93 rfl dX4_addStep_14 ?_
    refine lv_iload_n hx hb dX4_addStep_17 rfl (lv_at hl 1 rfl) ?_
    obtain ⟨g18, hf⟩ := zg hf
    refine va_iast hx hb hK hP hD hS 1 0 rfl rfl g18 dX4_addStep_18 (fun H locs hP hD hS => ?_)
    have hP : va_P D vwCl [(a_this, .inr (4, [.ref a_codes, .ref a_wetCells, .ref a_moves, .ref a_stepPipe, .ref a_stepSlot, .ref a_rowStart, .ref a_longer, .int f_columns, .int f_rows, .int f_size, .int f_steps])), (a_stepPipe, .inl (y.1, 40, .inl (upd c_stepPipe f_steps.toNatClampNeg x1))), (a_stepSlot, .inl (y.1, 40, .inl c_stepSlot))] H := hP
    have hD : va_D A [(a_this, .inr (4, [.ref a_codes, .ref a_wetCells, .ref a_moves, .ref a_stepPipe, .ref a_stepSlot, .ref a_rowStart, .ref a_longer, .int f_columns, .int f_rows, .int f_size, .int f_steps])), (a_stepPipe, .inl (y.1, 40, .inl (upd c_stepPipe f_steps.toNatClampNeg x1))), (a_stepSlot, .inl (y.1, 40, .inl c_stepSlot))] := hD
    refine lv_aload_n hx hb dX4_addStep_19 rfl (lv_at hl 0 rfl) ?_
    refine zget X hP 0 rfl rfl inF4 4 (by decide) q_78 rfl dX4_addStep_20 ?_
    refine lv_aload_n hx hb dX4_addStep_23 rfl (lv_at hl 0 rfl) ?_
    refine zget X hP 0 rfl rfl inF4 10 (by decide) q_93 rfl dX4_addStep_24 ?_
    refine lv_iload_n hx hb dX4_addStep_27 rfl (lv_at hl 2 rfl) ?_
    obtain ⟨g28, hf⟩ := zg hf
    refine va_iast hx hb hK hP hD hS 2 0 rfl rfl g28 dX4_addStep_28 (fun H locs hP hD hS => ?_)
    have hP : va_P D vwCl [(a_this, .inr (4, [.ref a_codes, .ref a_wetCells, .ref a_moves, .ref a_stepPipe, .ref a_stepSlot, .ref a_rowStart, .ref a_longer, .int f_columns, .int f_rows, .int f_size, .int f_steps])), (a_stepPipe, .inl (y.1, 40, .inl (upd c_stepPipe f_steps.toNatClampNeg x1))), (a_stepSlot, .inl (y.1, 40, .inl (upd c_stepSlot f_steps.toNatClampNeg x2)))] H := hP
    have hD : va_D A [(a_this, .inr (4, [.ref a_codes, .ref a_wetCells, .ref a_moves, .ref a_stepPipe, .ref a_stepSlot, .ref a_rowStart, .ref a_longer, .int f_columns, .int f_rows, .int f_size, .int f_steps])), (a_stepPipe, .inl (y.1, 40, .inl (upd c_stepPipe f_steps.toNatClampNeg x1))), (a_stepSlot, .inl (y.1, 40, .inl (upd c_stepSlot f_steps.toNatClampNeg x2)))] := hD
    refine lv_aload_n hx hb dX4_addStep_29 rfl (lv_at hl 0 rfl) ?_
    refine lv_dup hx hb dX4_addStep_30 rfl ?_
    refine zget X hP 0 rfl rfl inF4 10 (by decide) q_93 rfl dX4_addStep_31 ?_
    refine lv_iconst (v := 1) hx hb dX4_addStep_34 (by decide) ?_
    refine lv_iadd hx hb dX4_addStep_35 ?_
    refine zput (ty := .int) X hP hD hS 0 rfl rfl inF4 tyX4_ok nmX4 10 (by decide) q_93 rfl rfl rfl rfl (Nat.le_of_ble_eq_true rfl) dX4_addStep_36 (fun H locs hP hD hS => ?_)
    have hP : va_P D vwCl [(a_this, .inr (4, [.ref a_codes, .ref a_wetCells, .ref a_moves, .ref a_stepPipe, .ref a_stepSlot, .ref a_rowStart, .ref a_longer, .int f_columns, .int f_rows, .int f_size, .int (f_steps + (1 : Int32))])), (a_stepPipe, .inl (y.1, 40, .inl (upd c_stepPipe f_steps.toNatClampNeg x1))), (a_stepSlot, .inl (y.1, 40, .inl (upd c_stepSlot f_steps.toNatClampNeg x2)))] H := hP
    have hD : va_D A [(a_this, .inr (4, [.ref a_codes, .ref a_wetCells, .ref a_moves, .ref a_stepPipe, .ref a_stepSlot, .ref a_rowStart, .ref a_longer, .int f_columns, .int f_rows, .int f_size, .int (f_steps + (1 : Int32))])), (a_stepPipe, .inl (y.1, 40, .inl (upd c_stepPipe f_steps.toNatClampNeg x1))), (a_stepSlot, .inl (y.1, 40, .inl (upd c_stepSlot f_steps.toNatClampNeg x2)))] := hD
    obtain rfl := Option.some.inj hf
    exact zretv X hQ hP hD hS ⟨rfl, rfl⟩ dX4_addStep_39 (Nat.le_of_ble_eq_true rfl) (Nat.le_of_ble_eq_true rfl)

theorem kf_RX4_106 : zCB RX4 106 yX2_numberOf cX2_numberOf 3 (some .int) 3 ∧ Cond.static yX2_numberOf ∈ wAll := ⟨⟨q_236, q_8, q_414, by decide +kernel⟩, q_235⟩
theorem kf_RX4_112 : zCB RX4 112 yX4_addStep cX4_addStep 3 (none : Option Jvm.ClassFile.FieldType) 2 ∧ Cond.instanceMethod yX4_addStep ∈ wAll ∧ Cond.selects yX4_addStep.cls yX4_addStep yX4_addStep ∈ wAll := ⟨⟨q_418, q_3, q_415, by decide +kernel⟩, q_417, qp_9⟩
abbrev rm_X4_makeSteps : Room := { frames := 1, cells := 0, slots := 0, locals := 22 }
def zf_X4_makeSteps_72 (f_steps : Int32) (c_stepPipe : Nat → Int32) (c_stepSlot : Nat → Int32) (x2 : Int32) : Option ((Int32 × Int32 × (Nat → Int32) × (Nat → Int32)) ⊕ ((Int32 × (Nat → Int32) × (Nat → Int32)))) :=
  some (.inl (x2 + (1 : Int32), f_steps, c_stepPipe, c_stepSlot))
def zf_X4_makeSteps_52 (f_steps : Int32) (c_stepPipe : Nat → Int32) (c_stepSlot : Nat → Int32) (x1 : Int32) (x2 : Int32) : Option ((Int32 × Int32 × (Nat → Int32) × (Nat → Int32)) ⊕ ((Int32 × (Nat → Int32) × (Nat → Int32)))) :=
  if x2 ≤ 0 then (zf_X4_makeSteps_72 f_steps c_stepPipe c_stepSlot x2) else ((zf_X2_numberOf (x2 - (1 : Int32)) x1 (0 : Int32)).bind fun o62 =>
  (zf_X4_rightSlot x2).bind fun o66 =>
  (zf_X4_addStep f_steps c_stepPipe c_stepSlot o62 o66).bind fun o69 =>
  zf_X4_makeSteps_72 o69.1 o69.2.1 o69.2.2 x2)
def zf_X4_makeSteps_l27 (f_columns : Int32) (x1 : Int32) (x2 : Int32) (f_steps : Int32) (c_stepPipe : Nat → Int32) (c_stepSlot : Nat → Int32) : Option ((Int32 × Int32 × (Nat → Int32) × (Nat → Int32)) ⊕ ((Int32 × (Nat → Int32) × (Nat → Int32)))) :=
  if f_columns ≤ x2 then (some (.inr (f_steps, c_stepPipe, c_stepSlot))) else (if x1 ≤ 0 then (zf_X4_makeSteps_52 f_steps c_stepPipe c_stepSlot x1 x2) else ((zf_X2_numberOf x2 (x1 - (1 : Int32)) (1 : Int32)).bind fun o45 =>
  (zf_X4_addStep f_steps c_stepPipe c_stepSlot o45 x2).bind fun o49 =>
  zf_X4_makeSteps_52 o49.1 o49.2.1 o49.2.2 x1 x2))
def zf_X4_makeSteps_l7 (f_columns : Int32) (f_rows : Int32) (x1 : Int32) (f_steps : Int32) (c_stepPipe : Nat → Int32) (c_stepSlot : Nat → Int32) (c_rowStart : Nat → Int32) : Option ((Int32 × Int32 × (Nat → Int32) × (Nat → Int32) × (Nat → Int32)) ⊕ ((Int32 × (Nat → Int32) × (Nat → Int32) × (Nat → Int32)))) :=
  if f_rows ≤ x1 then (some (.inr (f_steps, c_stepPipe, c_stepSlot, c_rowStart))) else (if zgd x1 6 = true then ((zit (fun d => zf_X4_makeSteps_l27 f_columns x1 d.1 d.2.1 d.2.2.1 d.2.2.2) zfu ((0 : Int32), f_steps, c_stepPipe, c_stepSlot)).bind fun o27 =>
  some (.inl (x1 + (1 : Int32), o27.1, o27.2.1, o27.2.2, upd c_rowStart x1.toNatClampNeg f_steps))) else none)
def zf_X4_makeSteps (f_columns : Int32) (f_rows : Int32) (c_stepPipe : Nat → Int32) (c_stepSlot : Nat → Int32) (c_rowStart : Nat → Int32) : Option (Int32 × (Nat → Int32) × (Nat → Int32) × (Nat → Int32)) :=
  (zit (fun d => zf_X4_makeSteps_l7 f_columns f_rows d.1 d.2.1 d.2.2.1 d.2.2.2.1 d.2.2.2.2) zfu ((0 : Int32), (0 : Int32), c_stepPipe, c_stepSlot, c_rowStart)).bind fun o7 =>
  if zgd f_rows 6 = true then (some (o7.1, o7.2.1, o7.2.2.1, upd o7.2.2.2 f_rows.toNatClampNeg o7.1)) else none
set_option maxHeartbeats 4000000 in
set_option maxRecDepth 100000 in
theorem zc_X4_makeSteps (l : Launch) (D : va_G) (y : zY) (a_this a_codes a_wetCells a_moves a_stepPipe a_stepSlot a_rowStart a_longer : Nat) (f_columns : Int32) (f_rows : Int32) (f_size : Int32) (f_steps : Int32) (c_stepPipe : Nat → Int32) (c_stepSlot : Nat → Int32) (c_rowStart : Nat → Int32) (out : Int32 × (Nat → Int32) × (Nat → Int32) × (Nat → Int32)) (hf : zf_X4_makeSteps f_columns f_rows c_stepPipe c_stepSlot c_rowStart = some out) : zC l D y yX4_makeSteps cX4_makeSteps 3 (none : Option Jvm.ClassFile.FieldType) rm_X4_makeSteps [.ref a_this] [(a_this, .inr (4, [.ref a_codes, .ref a_wetCells, .ref a_moves, .ref a_stepPipe, .ref a_stepSlot, .ref a_rowStart, .ref a_longer, .int f_columns, .int f_rows, .int f_size, .int f_steps])), (a_stepPipe, .inl (y.1, 40, .inl c_stepPipe)), (a_stepSlot, .inl (y.1, 40, .inl c_stepSlot)), (a_rowStart, .inl (y.1, 6, .inl c_rowStart))] (zE none [(a_this, .inr (4, [.ref a_codes, .ref a_wetCells, .ref a_moves, .ref a_stepPipe, .ref a_stepSlot, .ref a_rowStart, .ref a_longer, .int f_columns, .int f_rows, .int f_size, .int out.1])), (a_stepPipe, .inl (y.1, 40, .inl out.2.1)), (a_stepSlot, .inl (y.1, 40, .inl out.2.2.1)), (a_rowStart, .inl (y.1, 6, .inl out.2.2.2))]) := by
  refine zmk (by decide) (Nat.le_of_ble_eq_true rfl) ?_
  intro p e s m args below meth c A Q ls X hQ hnm hP hD hS hl
  have X : zX p s m args meth c D y A RX4 cX4_makeSteps 3 (none : Option Jvm.ClassFile.FieldType) := X
  obtain ⟨hx, hb, hr, hml, hown, hts, hK, hA, hlocks⟩ := id X
  have hl : lv_has ls 3 [(0, .ref a_this)] := hl
  have L27 : ∀ (n : Nat) (x1 : Int32) (x2 : Int32) (f_steps : Int32) (c_stepPipe : Nat → Int32) (c_stepSlot : Nat → Int32) (c_rowStart : Nat → Int32) (x : (Int32 × (Nat → Int32) × (Nat → Int32))), zit (fun d => zf_X4_makeSteps_l27 f_columns x1 d.1 d.2.1 d.2.2.1 d.2.2.2) n (x2, f_steps, c_stepPipe, c_stepSlot) = some x → ∀ (H : Heap) (locs : List Loc) (ls : Array Slot), lv_has ls 3 [(0, .ref a_this), (1, .int x1), (2, .int x2)] → va_P D vwCl [(a_this, .inr (4, [.ref a_codes, .ref a_wetCells, .ref a_moves, .ref a_stepPipe, .ref a_stepSlot, .ref a_rowStart, .ref a_longer, .int f_columns, .int f_rows, .int f_size, .int f_steps])), (a_stepPipe, .inl (y.1, 40, .inl c_stepPipe)), (a_stepSlot, .inl (y.1, 40, .inl c_stepSlot)), (a_rowStart, .inl (y.1, 6, .inl c_rowStart))] H → va_D A [(a_this, .inr (4, [.ref a_codes, .ref a_wetCells, .ref a_moves, .ref a_stepPipe, .ref a_stepSlot, .ref a_rowStart, .ref a_longer, .int f_columns, .int f_rows, .int f_size, .int f_steps])), (a_stepPipe, .inl (y.1, 40, .inl c_stepPipe)), (a_stepSlot, .inl (y.1, 40, .inl c_stepSlot)), (a_rowStart, .inl (y.1, 6, .inl c_rowStart))] → va_S A s.heap H locs → (∀ (H : Heap) (locs : List Loc) (ls : Array Slot), lv_has ls 3 [(0, .ref a_this), (1, .int x1)] → va_P D vwCl [(a_this, .inr (4, [.ref a_codes, .ref a_wetCells, .ref a_moves, .ref a_stepPipe, .ref a_stepSlot, .ref a_rowStart, .ref a_longer, .int f_columns, .int f_rows, .int f_size, .int x.1])), (a_stepPipe, .inl (y.1, 40, .inl x.2.1)), (a_stepSlot, .inl (y.1, 40, .inl x.2.2)), (a_rowStart, .inl (y.1, 6, .inl c_rowStart))] H → va_D A [(a_this, .inr (4, [.ref a_codes, .ref a_wetCells, .ref a_moves, .ref a_stepPipe, .ref a_stepSlot, .ref a_rowStart, .ref a_longer, .int f_columns, .int f_rows, .int f_size, .int x.1])), (a_stepPipe, .inl (y.1, 40, .inl x.2.1)), (a_stepSlot, .inl (y.1, 40, .inl x.2.2)), (a_rowStart, .inl (y.1, 6, .inl c_rowStart))] → va_S A s.heap H locs → W p l e rm_X4_makeSteps s m args below meth c H locs 0 0 Q (F0 m 78 ls [])) → W p l e rm_X4_makeSteps s m args below meth c H locs 0 0 Q (F0 m 27 ls []) := by
    intro n
    induction n with
    | zero => intro x1 x2 f_steps c_stepPipe c_stepSlot c_rowStart x h; exact (zi0 h).elim
    | succ n ih =>
      intro x1 x2 f_steps c_stepPipe c_stepSlot c_rowStart x h H locs ls hl hP hD hS K78
      obtain ⟨r, hf, h⟩ := zis h
      have hf : zf_X4_makeSteps_l27 f_columns x1 x2 f_steps c_stepPipe c_stepSlot = some r := hf
      have J72 : ∀ (x2 : Int32) (f_steps : Int32) (c_stepPipe : Nat → Int32) (c_stepSlot : Nat → Int32), zf_X4_makeSteps_72 f_steps c_stepPipe c_stepSlot x2 = some r → ∀ (H : Heap) (locs : List Loc) (ls : Array Slot), lv_has ls 3 [(0, .ref a_this), (1, .int x1), (2, .int x2)] → va_P D vwCl [(a_this, .inr (4, [.ref a_codes, .ref a_wetCells, .ref a_moves, .ref a_stepPipe, .ref a_stepSlot, .ref a_rowStart, .ref a_longer, .int f_columns, .int f_rows, .int f_size, .int f_steps])), (a_stepPipe, .inl (y.1, 40, .inl c_stepPipe)), (a_stepSlot, .inl (y.1, 40, .inl c_stepSlot)), (a_rowStart, .inl (y.1, 6, .inl c_rowStart))] H → va_D A [(a_this, .inr (4, [.ref a_codes, .ref a_wetCells, .ref a_moves, .ref a_stepPipe, .ref a_stepSlot, .ref a_rowStart, .ref a_longer, .int f_columns, .int f_rows, .int f_size, .int f_steps])), (a_stepPipe, .inl (y.1, 40, .inl c_stepPipe)), (a_stepSlot, .inl (y.1, 40, .inl c_stepSlot)), (a_rowStart, .inl (y.1, 6, .inl c_rowStart))] → va_S A s.heap H locs → W p l e rm_X4_makeSteps s m args below meth c H locs 0 0 Q (F0 m 72 ls []) := by
        intro x2 f_steps c_stepPipe c_stepSlot hf H locs ls hl hP hD hS
        unfold zf_X4_makeSteps_72 at hf
        refine lv_iinc (v := x2 + (1 : Int32)) (lv' := [(2, .int (x2 + (1 : Int32))), (0, .ref a_this), (1, .int x1)]) hx hb dX4_makeSteps_72 hl (k := 2) rfl rfl (by decide) rfl (fun ls hl => ?_)
        refine lv_goto (tgt := 27) hx hb dX4_makeSteps_75 (by decide) ?_
        obtain rfl := Option.some.inj hf
        exact ih x1 (x2 + (1 : Int32)) f_steps c_stepPipe c_stepSlot c_rowStart x h _ _ _ (lv_sub hl [1, 2, 0] rfl) hP hD hS K78
      have J52 : ∀ (x2 : Int32) (f_steps : Int32) (c_stepPipe : Nat → Int32) (c_stepSlot : Nat → Int32), zf_X4_makeSteps_52 f_steps c_stepPipe c_stepSlot x1 x2 = some r → ∀ (H : Heap) (locs : List Loc) (ls : Array Slot), lv_has ls 3 [(0, .ref a_this), (1, .int x1), (2, .int x2)] → va_P D vwCl [(a_this, .inr (4, [.ref a_codes, .ref a_wetCells, .ref a_moves, .ref a_stepPipe, .ref a_stepSlot, .ref a_rowStart, .ref a_longer, .int f_columns, .int f_rows, .int f_size, .int f_steps])), (a_stepPipe, .inl (y.1, 40, .inl c_stepPipe)), (a_stepSlot, .inl (y.1, 40, .inl c_stepSlot)), (a_rowStart, .inl (y.1, 6, .inl c_rowStart))] H → va_D A [(a_this, .inr (4, [.ref a_codes, .ref a_wetCells, .ref a_moves, .ref a_stepPipe, .ref a_stepSlot, .ref a_rowStart, .ref a_longer, .int f_columns, .int f_rows, .int f_size, .int f_steps])), (a_stepPipe, .inl (y.1, 40, .inl c_stepPipe)), (a_stepSlot, .inl (y.1, 40, .inl c_stepSlot)), (a_rowStart, .inl (y.1, 6, .inl c_rowStart))] → va_S A s.heap H locs → W p l e rm_X4_makeSteps s m args below meth c H locs 0 0 Q (F0 m 52 ls []) := by
        intro x2 f_steps c_stepPipe c_stepSlot hf H locs ls hl hP hD hS
        unfold zf_X4_makeSteps_52 at hf
        refine lv_iload_n hx hb dX4_makeSteps_52 rfl (lv_at hl 2 rfl) ?_
        refine lv_if_le (tgt := 72) hx hb dX4_makeSteps_53 (by decide) (fun c53 => ?_) (fun c53 => ?_)
        · replace hf := zt c53 hf
          exact J72 x2 f_steps c_stepPipe c_stepSlot hf _ _ _ hl hP hD hS
        · replace hf := ze c53 hf
          refine lv_aload_n hx hb dX4_makeSteps_56 rfl (lv_at hl 0 rfl) ?_
          refine lv_iload_n hx hb dX4_makeSteps_57 rfl (lv_at hl 2 rfl) ?_
          refine lv_iconst (v := 1) hx hb dX4_makeSteps_58 (by decide) ?_
          refine lv_isub hx hb dX4_makeSteps_59 ?_
          refine lv_iload_n hx hb dX4_makeSteps_60 rfl (lv_at hl 1 rfl) ?_
          refine lv_iconst (v := 0) hx hb dX4_makeSteps_61 (by decide) ?_
          obtain ⟨o62, ho62, hf⟩ := zb hf
          refine zcS1 (wr := [(a_this, .inr (4, [.ref a_codes, .ref a_wetCells, .ref a_moves, .ref a_stepPipe, .ref a_stepSlot, .ref a_rowStart, .ref a_longer, .int f_columns, .int f_rows, .int f_size, .int f_steps])), (a_stepPipe, .inl (y.1, 40, .inl c_stepPipe)), (a_stepSlot, .inl (y.1, 40, .inl c_stepSlot)), (a_rowStart, .inl (y.1, 6, .inl c_rowStart))]) (rest := [.ref a_this]) X (zc_X2_numberOf l D y (x2 - (1 : Int32)) x1 (0 : Int32) o62 ho62) kf_RX4_106 ⟨(Nat.le_of_ble_eq_true rfl), (Nat.le_of_ble_eq_true rfl)⟩ hP hD hS [] [0, 1, 2, 3] rfl rfl rfl rfl (by decide) rfl rfl hl.1 (Nat.le_of_ble_eq_true rfl) dX4_makeSteps_62 ⟨(Nat.le_of_ble_eq_true rfl), (Nat.le_of_ble_eq_true rfl)⟩ (fun H locs hP hD hS => ?_)
          have hP : va_P D vwCl [(a_this, .inr (4, [.ref a_codes, .ref a_wetCells, .ref a_moves, .ref a_stepPipe, .ref a_stepSlot, .ref a_rowStart, .ref a_longer, .int f_columns, .int f_rows, .int f_size, .int f_steps])), (a_stepPipe, .inl (y.1, 40, .inl c_stepPipe)), (a_stepSlot, .inl (y.1, 40, .inl c_stepSlot)), (a_rowStart, .inl (y.1, 6, .inl c_rowStart))] H := hP
          have hD : va_D A [(a_this, .inr (4, [.ref a_codes, .ref a_wetCells, .ref a_moves, .ref a_stepPipe, .ref a_stepSlot, .ref a_rowStart, .ref a_longer, .int f_columns, .int f_rows, .int f_size, .int f_steps])), (a_stepPipe, .inl (y.1, 40, .inl c_stepPipe)), (a_stepSlot, .inl (y.1, 40, .inl c_stepSlot)), (a_rowStart, .inl (y.1, 6, .inl c_rowStart))] := hD
          refine lv_iload_n hx hb dX4_makeSteps_65 rfl (lv_at hl 2 rfl) ?_
          obtain ⟨o66, ho66, hf⟩ := zb hf
          refine zcS1 (wr := [(a_this, .inr (4, [.ref a_codes, .ref a_wetCells, .ref a_moves, .ref a_stepPipe, .ref a_stepSlot, .ref a_rowStart, .ref a_longer, .int f_columns, .int f_rows, .int f_size, .int f_steps])), (a_stepPipe, .inl (y.1, 40, .inl c_stepPipe)), (a_stepSlot, .inl (y.1, 40, .inl c_stepSlot)), (a_rowStart, .inl (y.1, 6, .inl c_rowStart))]) (rest := [.int o62, .ref a_this]) X (zc_X4_rightSlot l D y x2 o66 ho66) kf_RX4_86 ⟨(Nat.le_of_ble_eq_true rfl), (Nat.le_of_ble_eq_true rfl)⟩ hP hD hS [] [0, 1, 2, 3] rfl rfl rfl rfl (by decide) rfl rfl hl.1 (Nat.le_of_ble_eq_true rfl) dX4_makeSteps_66 ⟨(Nat.le_of_ble_eq_true rfl), (Nat.le_of_ble_eq_true rfl)⟩ (fun H locs hP hD hS => ?_)
          have hP : va_P D vwCl [(a_this, .inr (4, [.ref a_codes, .ref a_wetCells, .ref a_moves, .ref a_stepPipe, .ref a_stepSlot, .ref a_rowStart, .ref a_longer, .int f_columns, .int f_rows, .int f_size, .int f_steps])), (a_stepPipe, .inl (y.1, 40, .inl c_stepPipe)), (a_stepSlot, .inl (y.1, 40, .inl c_stepSlot)), (a_rowStart, .inl (y.1, 6, .inl c_rowStart))] H := hP
          have hD : va_D A [(a_this, .inr (4, [.ref a_codes, .ref a_wetCells, .ref a_moves, .ref a_stepPipe, .ref a_stepSlot, .ref a_rowStart, .ref a_longer, .int f_columns, .int f_rows, .int f_size, .int f_steps])), (a_stepPipe, .inl (y.1, 40, .inl c_stepPipe)), (a_stepSlot, .inl (y.1, 40, .inl c_stepSlot)), (a_rowStart, .inl (y.1, 6, .inl c_rowStart))] := hD
          obtain ⟨o69, ho69, hf⟩ := zb hf
          refine zcV0 (wr := [(a_rowStart, .inl (y.1, 6, .inl c_rowStart))]) (rest := []) X (zc_X4_addStep l D y a_this a_codes a_wetCells a_moves a_stepPipe a_stepSlot a_rowStart a_longer f_columns f_rows f_size f_steps c_stepPipe c_stepSlot o62 o66 o69 ho69) kf_RX4_112 ⟨(Nat.le_of_ble_eq_true rfl), (Nat.le_of_ble_eq_true rfl)⟩ hP hD hS [0, 1, 2] [3] rfl rfl rfl rfl (by decide) 0 rfl rfl rfl rfl hl.1 (Nat.le_of_ble_eq_true rfl) dX4_makeSteps_69 ⟨(Nat.le_of_ble_eq_true rfl), (Nat.le_of_ble_eq_true rfl)⟩ (fun H locs hP hD hS => ?_)
          have hP : va_P D vwCl [(a_rowStart, .inl (y.1, 6, .inl c_rowStart)), (a_this, .inr (4, [.ref a_codes, .ref a_wetCells, .ref a_moves, .ref a_stepPipe, .ref a_stepSlot, .ref a_rowStart, .ref a_longer, .int f_columns, .int f_rows, .int f_size, .int o69.1])), (a_stepPipe, .inl (y.1, 40, .inl o69.2.1)), (a_stepSlot, .inl (y.1, 40, .inl o69.2.2))] H := hP
          have hD : va_D A [(a_rowStart, .inl (y.1, 6, .inl c_rowStart)), (a_this, .inr (4, [.ref a_codes, .ref a_wetCells, .ref a_moves, .ref a_stepPipe, .ref a_stepSlot, .ref a_rowStart, .ref a_longer, .int f_columns, .int f_rows, .int f_size, .int o69.1])), (a_stepPipe, .inl (y.1, 40, .inl o69.2.1)), (a_stepSlot, .inl (y.1, 40, .inl o69.2.2))] := hD
          exact J72 x2 o69.1 o69.2.1 o69.2.2 hf _ _ _ hl (zPsub (is := [1, 2, 3, 0]) hP rfl) (hD.sub [1, 2, 3, 0] (by decide) rfl) hS
      unfold zf_X4_makeSteps_l27 at hf
      refine lv_iload_n hx hb dX4_makeSteps_27 rfl (lv_at hl 2 rfl) ?_
      refine lv_aload_n hx hb dX4_makeSteps_28 rfl (lv_at hl 0 rfl) ?_
      refine zget X hP 0 rfl rfl inF4 7 (by decide) q_85 rfl dX4_makeSteps_29 ?_
      refine lv_icmp_ge (tgt := 78) hx hb dX4_makeSteps_32 (by decide) (fun c32 => ?_) (fun c32 => ?_)
      · replace hf := zt c32 hf
        obtain rfl := Option.some.inj hf
        obtain rfl := Option.some.inj h
        exact K78 _ _ _ (lv_sub hl [0, 1] rfl) hP hD hS
      · replace hf := ze c32 hf
        refine lv_iload_n hx hb dX4_makeSteps_35 rfl (lv_at hl 1 rfl) ?_
        refine lv_if_le (tgt := 52) hx hb dX4_makeSteps_36 (by decide) (fun c36 => ?_) (fun c36 => ?_)
        · replace hf := zt c36 hf
          exact J52 x2 f_steps c_stepPipe c_stepSlot hf _ _ _ hl hP hD hS
        · replace hf := ze c36 hf
          refine lv_aload_n hx hb dX4_makeSteps_39 rfl (lv_at hl 0 rfl) ?_
          refine lv_iload_n hx hb dX4_makeSteps_40 rfl (lv_at hl 2 rfl) ?_
          refine lv_iload_n hx hb dX4_makeSteps_41 rfl (lv_at hl 1 rfl) ?_
          refine lv_iconst (v := 1) hx hb dX4_makeSteps_42 (by decide) ?_
          refine lv_isub hx hb dX4_makeSteps_43 ?_
          refine lv_iconst (v := 1) hx hb dX4_makeSteps_44 (by decide) ?_
          obtain ⟨o45, ho45, hf⟩ := zb hf
          refine zcS1 (wr := [(a_this, .inr (4, [.ref a_codes, .ref a_wetCells, .ref a_moves, .ref a_stepPipe, .ref a_stepSlot, .ref a_rowStart, .ref a_longer, .int f_columns, .int f_rows, .int f_size, .int f_steps])), (a_stepPipe, .inl (y.1, 40, .inl c_stepPipe)), (a_stepSlot, .inl (y.1, 40, .inl c_stepSlot)), (a_rowStart, .inl (y.1, 6, .inl c_rowStart))]) (rest := [.ref a_this]) X (zc_X2_numberOf l D y x2 (x1 - (1 : Int32)) (1 : Int32) o45 ho45) kf_RX4_106 ⟨(Nat.le_of_ble_eq_true rfl), (Nat.le_of_ble_eq_true rfl)⟩ hP hD hS [] [0, 1, 2, 3] rfl rfl rfl rfl (by decide) rfl rfl hl.1 (Nat.le_of_ble_eq_true rfl) dX4_makeSteps_45 ⟨(Nat.le_of_ble_eq_true rfl), (Nat.le_of_ble_eq_true rfl)⟩ (fun H locs hP hD hS => ?_)
          have hP : va_P D vwCl [(a_this, .inr (4, [.ref a_codes, .ref a_wetCells, .ref a_moves, .ref a_stepPipe, .ref a_stepSlot, .ref a_rowStart, .ref a_longer, .int f_columns, .int f_rows, .int f_size, .int f_steps])), (a_stepPipe, .inl (y.1, 40, .inl c_stepPipe)), (a_stepSlot, .inl (y.1, 40, .inl c_stepSlot)), (a_rowStart, .inl (y.1, 6, .inl c_rowStart))] H := hP
          have hD : va_D A [(a_this, .inr (4, [.ref a_codes, .ref a_wetCells, .ref a_moves, .ref a_stepPipe, .ref a_stepSlot, .ref a_rowStart, .ref a_longer, .int f_columns, .int f_rows, .int f_size, .int f_steps])), (a_stepPipe, .inl (y.1, 40, .inl c_stepPipe)), (a_stepSlot, .inl (y.1, 40, .inl c_stepSlot)), (a_rowStart, .inl (y.1, 6, .inl c_rowStart))] := hD
          refine lv_iload_n hx hb dX4_makeSteps_48 rfl (lv_at hl 2 rfl) ?_
          obtain ⟨o49, ho49, hf⟩ := zb hf
          refine zcV0 (wr := [(a_rowStart, .inl (y.1, 6, .inl c_rowStart))]) (rest := []) X (zc_X4_addStep l D y a_this a_codes a_wetCells a_moves a_stepPipe a_stepSlot a_rowStart a_longer f_columns f_rows f_size f_steps c_stepPipe c_stepSlot o45 x2 o49 ho49) kf_RX4_112 ⟨(Nat.le_of_ble_eq_true rfl), (Nat.le_of_ble_eq_true rfl)⟩ hP hD hS [0, 1, 2] [3] rfl rfl rfl rfl (by decide) 0 rfl rfl rfl rfl hl.1 (Nat.le_of_ble_eq_true rfl) dX4_makeSteps_49 ⟨(Nat.le_of_ble_eq_true rfl), (Nat.le_of_ble_eq_true rfl)⟩ (fun H locs hP hD hS => ?_)
          have hP : va_P D vwCl [(a_rowStart, .inl (y.1, 6, .inl c_rowStart)), (a_this, .inr (4, [.ref a_codes, .ref a_wetCells, .ref a_moves, .ref a_stepPipe, .ref a_stepSlot, .ref a_rowStart, .ref a_longer, .int f_columns, .int f_rows, .int f_size, .int o49.1])), (a_stepPipe, .inl (y.1, 40, .inl o49.2.1)), (a_stepSlot, .inl (y.1, 40, .inl o49.2.2))] H := hP
          have hD : va_D A [(a_rowStart, .inl (y.1, 6, .inl c_rowStart)), (a_this, .inr (4, [.ref a_codes, .ref a_wetCells, .ref a_moves, .ref a_stepPipe, .ref a_stepSlot, .ref a_rowStart, .ref a_longer, .int f_columns, .int f_rows, .int f_size, .int o49.1])), (a_stepPipe, .inl (y.1, 40, .inl o49.2.1)), (a_stepSlot, .inl (y.1, 40, .inl o49.2.2))] := hD
          exact J52 x2 o49.1 o49.2.1 o49.2.2 hf _ _ _ hl (zPsub (is := [1, 2, 3, 0]) hP rfl) (hD.sub [1, 2, 3, 0] (by decide) rfl) hS
  have L7 : ∀ (n : Nat) (x1 : Int32) (f_steps : Int32) (c_stepPipe : Nat → Int32) (c_stepSlot : Nat → Int32) (c_rowStart : Nat → Int32) (x : (Int32 × (Nat → Int32) × (Nat → Int32) × (Nat → Int32))), zit (fun d => zf_X4_makeSteps_l7 f_columns f_rows d.1 d.2.1 d.2.2.1 d.2.2.2.1 d.2.2.2.2) n (x1, f_steps, c_stepPipe, c_stepSlot, c_rowStart) = some x → ∀ (H : Heap) (locs : List Loc) (ls : Array Slot), lv_has ls 3 [(0, .ref a_this), (1, .int x1)] → va_P D vwCl [(a_this, .inr (4, [.ref a_codes, .ref a_wetCells, .ref a_moves, .ref a_stepPipe, .ref a_stepSlot, .ref a_rowStart, .ref a_longer, .int f_columns, .int f_rows, .int f_size, .int f_steps])), (a_stepPipe, .inl (y.1, 40, .inl c_stepPipe)), (a_stepSlot, .inl (y.1, 40, .inl c_stepSlot)), (a_rowStart, .inl (y.1, 6, .inl c_rowStart))] H → va_D A [(a_this, .inr (4, [.ref a_codes, .ref a_wetCells, .ref a_moves, .ref a_stepPipe, .ref a_stepSlot, .ref a_rowStart, .ref a_longer, .int f_columns, .int f_rows, .int f_size, .int f_steps])), (a_stepPipe, .inl (y.1, 40, .inl c_stepPipe)), (a_stepSlot, .inl (y.1, 40, .inl c_stepSlot)), (a_rowStart, .inl (y.1, 6, .inl c_rowStart))] → va_S A s.heap H locs → (∀ (H : Heap) (locs : List Loc) (ls : Array Slot), lv_has ls 3 [(0, .ref a_this)] → va_P D vwCl [(a_this, .inr (4, [.ref a_codes, .ref a_wetCells, .ref a_moves, .ref a_stepPipe, .ref a_stepSlot, .ref a_rowStart, .ref a_longer, .int f_columns, .int f_rows, .int f_size, .int x.1])), (a_stepPipe, .inl (y.1, 40, .inl x.2.1)), (a_stepSlot, .inl (y.1, 40, .inl x.2.2.1)), (a_rowStart, .inl (y.1, 6, .inl x.2.2.2))] H → va_D A [(a_this, .inr (4, [.ref a_codes, .ref a_wetCells, .ref a_moves, .ref a_stepPipe, .ref a_stepSlot, .ref a_rowStart, .ref a_longer, .int f_columns, .int f_rows, .int f_size, .int x.1])), (a_stepPipe, .inl (y.1, 40, .inl x.2.1)), (a_stepSlot, .inl (y.1, 40, .inl x.2.2.1)), (a_rowStart, .inl (y.1, 6, .inl x.2.2.2))] → va_S A s.heap H locs → W p l e rm_X4_makeSteps s m args below meth c H locs 0 0 Q (F0 m 84 ls [])) → W p l e rm_X4_makeSteps s m args below meth c H locs 0 0 Q (F0 m 7 ls []) := by
    intro n
    induction n with
    | zero => intro x1 f_steps c_stepPipe c_stepSlot c_rowStart x h; exact (zi0 h).elim
    | succ n ih =>
      intro x1 f_steps c_stepPipe c_stepSlot c_rowStart x h H locs ls hl hP hD hS K84
      obtain ⟨r, hf, h⟩ := zis h
      have hf : zf_X4_makeSteps_l7 f_columns f_rows x1 f_steps c_stepPipe c_stepSlot c_rowStart = some r := hf
      unfold zf_X4_makeSteps_l7 at hf
      refine lv_iload_n hx hb dX4_makeSteps_7 rfl (lv_at hl 1 rfl) ?_
      refine lv_aload_n hx hb dX4_makeSteps_8 rfl (lv_at hl 0 rfl) ?_
      refine zget X hP 0 rfl rfl inF4 8 (by decide) q_86 rfl dX4_makeSteps_9 ?_
      refine lv_icmp_ge (tgt := 84) hx hb dX4_makeSteps_12 (by decide) (fun c12 => ?_) (fun c12 => ?_)
      · replace hf := zt c12 hf
        obtain rfl := Option.some.inj hf
        obtain rfl := Option.some.inj h
        exact K84 _ _ _ (lv_sub hl [0] rfl) hP hD hS
      · replace hf := ze c12 hf
        refine lv_aload_n hx hb dX4_makeSteps_15 rfl (lv_at hl 0 rfl) ?_
        refine zget X hP 0 rfl rfl inF4 5 (by decide) q_82 rfl dX4_makeSteps_16 ?_
        refine lv_iload_n hx hb dX4_makeSteps_19 rfl (lv_at hl 1 rfl) ?_
        refine lv_aload_n hx hb dX4_makeSteps_20 rfl (lv_at hl 0 rfl) ?_
        refine zget X hP 0 rfl rfl inF4 10 (by decide) q_93 rfl dX4_makeSteps_21 ?_
        obtain ⟨g24, hf⟩ := zg hf
        refine va_iast hx hb hK hP hD hS 3 0 rfl rfl g24 dX4_makeSteps_24 (fun H locs hP hD hS => ?_)
        have hP : va_P D vwCl [(a_this, .inr (4, [.ref a_codes, .ref a_wetCells, .ref a_moves, .ref a_stepPipe, .ref a_stepSlot, .ref a_rowStart, .ref a_longer, .int f_columns, .int f_rows, .int f_size, .int f_steps])), (a_stepPipe, .inl (y.1, 40, .inl c_stepPipe)), (a_stepSlot, .inl (y.1, 40, .inl c_stepSlot)), (a_rowStart, .inl (y.1, 6, .inl (upd c_rowStart x1.toNatClampNeg f_steps)))] H := hP
        have hD : va_D A [(a_this, .inr (4, [.ref a_codes, .ref a_wetCells, .ref a_moves, .ref a_stepPipe, .ref a_stepSlot, .ref a_rowStart, .ref a_longer, .int f_columns, .int f_rows, .int f_size, .int f_steps])), (a_stepPipe, .inl (y.1, 40, .inl c_stepPipe)), (a_stepSlot, .inl (y.1, 40, .inl c_stepSlot)), (a_rowStart, .inl (y.1, 6, .inl (upd c_rowStart x1.toNatClampNeg f_steps)))] := hD
        refine lv_iconst (v := 0) hx hb dX4_makeSteps_25 (by decide) ?_
        refine lv_istore_n (lv' := [(2, .int (0 : Int32)), (0, .ref a_this), (1, .int x1)]) hx hb dX4_makeSteps_26 rfl hl (by decide) rfl (fun ls hl => ?_)
        obtain ⟨o27, ho27, hf⟩ := zb hf
        refine L27 zfu x1 (0 : Int32) f_steps c_stepPipe c_stepSlot (upd c_rowStart x1.toNatClampNeg f_steps) o27 ho27 _ _ _ (lv_sub hl [1, 2, 0] rfl) hP hD hS (fun H locs ls hl hP hD hS => ?_)
        refine lv_iinc (v := x1 + (1 : Int32)) (lv' := [(1, .int (x1 + (1 : Int32))), (0, .ref a_this)]) hx hb dX4_makeSteps_78 hl (k := 1) rfl rfl (by decide) rfl (fun ls hl => ?_)
        refine lv_goto (tgt := 7) hx hb dX4_makeSteps_81 (by decide) ?_
        obtain rfl := Option.some.inj hf
        exact ih (x1 + (1 : Int32)) o27.1 o27.2.1 o27.2.2 (upd c_rowStart x1.toNatClampNeg f_steps) x h _ _ _ (lv_sub hl [1, 0] rfl) hP hD hS K84
  unfold zf_X4_makeSteps at hf
  refine lv_aload_n hx hb dX4_makeSteps_0 rfl (lv_at hl 0 rfl) ?_
  refine lv_iconst (v := 0) hx hb dX4_makeSteps_1 (by decide) ?_
  refine zput (ty := .int) X hP hD hS 0 rfl rfl inF4 tyX4_ok nmX4 10 (by decide) q_93 rfl rfl rfl rfl (Nat.le_of_ble_eq_true rfl) dX4_makeSteps_2 (fun H locs hP hD hS => ?_)
  have hP : va_P D vwCl [(a_this, .inr (4, [.ref a_codes, .ref a_wetCells, .ref a_moves, .ref a_stepPipe, .ref a_stepSlot, .ref a_rowStart, .ref a_longer, .int f_columns, .int f_rows, .int f_size, .int (0 : Int32)])), (a_stepPipe, .inl (y.1, 40, .inl c_stepPipe)), (a_stepSlot, .inl (y.1, 40, .inl c_stepSlot)), (a_rowStart, .inl (y.1, 6, .inl c_rowStart))] H := hP
  have hD : va_D A [(a_this, .inr (4, [.ref a_codes, .ref a_wetCells, .ref a_moves, .ref a_stepPipe, .ref a_stepSlot, .ref a_rowStart, .ref a_longer, .int f_columns, .int f_rows, .int f_size, .int (0 : Int32)])), (a_stepPipe, .inl (y.1, 40, .inl c_stepPipe)), (a_stepSlot, .inl (y.1, 40, .inl c_stepSlot)), (a_rowStart, .inl (y.1, 6, .inl c_rowStart))] := hD
  refine lv_iconst (v := 0) hx hb dX4_makeSteps_5 (by decide) ?_
  refine lv_istore_n (lv' := [(1, .int (0 : Int32)), (0, .ref a_this)]) hx hb dX4_makeSteps_6 rfl hl (by decide) rfl (fun ls hl => ?_)
  obtain ⟨o7, ho7, hf⟩ := zb hf
  refine L7 zfu (0 : Int32) (0 : Int32) c_stepPipe c_stepSlot c_rowStart o7 ho7 _ _ _ (lv_sub hl [1, 0] rfl) hP hD hS (fun H locs ls hl hP hD hS => ?_)
  refine lv_aload_n hx hb dX4_makeSteps_84 rfl (lv_at hl 0 rfl) ?_
  refine zget X hP 0 rfl rfl inF4 5 (by decide) q_82 rfl dX4_makeSteps_85 ?_
  refine lv_aload_n hx hb dX4_makeSteps_88 rfl (lv_at hl 0 rfl) ?_
  refine zget X hP 0 rfl rfl inF4 8 (by decide) q_86 rfl dX4_makeSteps_89 ?_
  refine lv_aload_n hx hb dX4_makeSteps_92 rfl (lv_at hl 0 rfl) ?_
  refine zget X hP 0 rfl rfl inF4 10 (by decide) q_93 rfl dX4_makeSteps_93 ?_
  obtain ⟨g96, hf⟩ := zg hf
  refine va_iast hx hb hK hP hD hS 3 0 rfl rfl g96 dX4_makeSteps_96 (fun H locs hP hD hS => ?_)
  have hP : va_P D vwCl [(a_this, .inr (4, [.ref a_codes, .ref a_wetCells, .ref a_moves, .ref a_stepPipe, .ref a_stepSlot, .ref a_rowStart, .ref a_longer, .int f_columns, .int f_rows, .int f_size, .int o7.1])), (a_stepPipe, .inl (y.1, 40, .inl o7.2.1)), (a_stepSlot, .inl (y.1, 40, .inl o7.2.2.1)), (a_rowStart, .inl (y.1, 6, .inl (upd o7.2.2.2 f_rows.toNatClampNeg o7.1)))] H := hP
  have hD : va_D A [(a_this, .inr (4, [.ref a_codes, .ref a_wetCells, .ref a_moves, .ref a_stepPipe, .ref a_stepSlot, .ref a_rowStart, .ref a_longer, .int f_columns, .int f_rows, .int f_size, .int o7.1])), (a_stepPipe, .inl (y.1, 40, .inl o7.2.1)), (a_stepSlot, .inl (y.1, 40, .inl o7.2.2.1)), (a_rowStart, .inl (y.1, 6, .inl (upd o7.2.2.2 f_rows.toNatClampNeg o7.1)))] := hD
  obtain rfl := Option.some.inj hf
  exact zretv X hQ hP hD hS ⟨rfl, rfl⟩ dX4_makeSteps_97 (Nat.le_of_ble_eq_true rfl) (Nat.le_of_ble_eq_true rfl)

theorem kf_RX4_43 : zCB RX4 43 yX4_addCell cX4_addCell 6 (none : Option Jvm.ClassFile.FieldType) 1 ∧ Cond.instanceMethod yX4_addCell ∈ wAll ∧ Cond.selects yX4_addCell.cls yX4_addCell yX4_addCell ∈ wAll := ⟨⟨q_357, q_3, q_354, by decide +kernel⟩, q_356, qp_1⟩
theorem kf_RX4_53 : zCB RX4 53 yX4_makeSteps cX4_makeSteps 3 (none : Option Jvm.ClassFile.FieldType) 0 ∧ Cond.instanceMethod yX4_makeSteps ∈ wAll ∧ Cond.selects yX4_makeSteps.cls yX4_makeSteps yX4_makeSteps ∈ wAll := ⟨⟨q_413, q_3, q_410, by decide +kernel⟩, q_412, qp_8⟩
theorem kf_RX4_47 : zCB RX4 47 yX4_findWetCells cX4_findWetCells 3 (none : Option Jvm.ClassFile.FieldType) 0 ∧ Cond.instanceMethod yX4_findWetCells ∈ wAll ∧ Cond.selects yX4_findWetCells.cls yX4_findWetCells yX4_findWetCells ∈ wAll := ⟨⟨q_379, q_3, q_376, by decide +kernel⟩, q_378, qp_2⟩
theorem kf_RX4_50 : zCB RX4 50 yX4_makeMoves cX4_makeMoves 3 (none : Option Jvm.ClassFile.FieldType) 0 ∧ Cond.instanceMethod yX4_makeMoves ∈ wAll ∧ Cond.selects yX4_makeMoves.cls yX4_makeMoves yX4_makeMoves ∈ wAll := ⟨⟨q_387, q_3, q_384, by decide +kernel⟩, q_386, qp_3⟩
abbrev rm_X4_fit : Room := { frames := 3, cells := 0, slots := 0, locals := 78 }
def zf_X4_fit_l44 (f_columns : Int32) (x3 : Int32) (f_size : Int32) (c_codes : Nat → Int32) (c_longer : Nat → Int32) : Option ((Int32 × Int32 × (Nat → Int32) × (Nat → Int32)) ⊕ ((Int32 × (Nat → Int32) × (Nat → Int32)))) :=
  if f_columns ≤ x3 then (some (.inr (f_size, c_codes, c_longer))) else ((zf_X4_addCell f_size c_codes c_longer x3).bind fun o54 =>
  some (.inl (x3 + (1 : Int32), o54.1, o54.2.1, o54.2.2)))
def zf_X4_fit_71 (f_columns : Int32) (f_size : Int32) (c_codes : Nat → Int32) (c_wetCells : Nat → Int32) (c_moves : Nat → Int32) (c_stepPipe : Nat → Int32) (c_stepSlot : Nat → Int32) (c_rowStart : Nat → Int32) (c_longer : Nat → Int32) (x2 : Int32) : Option (Int32 × Int32 × Int32 × Int32 × (Nat → Int32) × (Nat → Int32) × (Nat → Int32) × (Nat → Int32) × (Nat → Int32) × (Nat → Int32) × (Nat → Int32)) :=
  (zf_X4_makeSteps f_columns x2 c_stepPipe c_stepSlot c_rowStart).bind fun o77 =>
  some (f_columns, x2, f_size, o77.1, c_codes, c_wetCells, c_moves, o77.2.1, o77.2.2.1, o77.2.2.2, c_longer)
def zf_X4_fit_17 (f_columns : Int32) (f_size : Int32) (c_codes : Nat → Int32) (c_wetCells : Nat → Int32) (c_moves : Nat → Int32) (c_stepPipe : Nat → Int32) (c_stepSlot : Nat → Int32) (c_rowStart : Nat → Int32) (c_longer : Nat → Int32) (x1 : Int32) (x2 : Int32) : Option (Int32 × Int32 × Int32 × Int32 × (Nat → Int32) × (Nat → Int32) × (Nat → Int32) × (Nat → Int32) × (Nat → Int32) × (Nat → Int32) × (Nat → Int32)) :=
  if f_columns = x1 then (zf_X4_fit_71 f_columns f_size c_codes c_wetCells c_moves c_stepPipe c_stepSlot c_rowStart c_longer x2) else (if zgd (0 : Int32) 132 = true then ((zit (fun d => zf_X4_fit_l44 x1 d.1 d.2.1 d.2.2.1 d.2.2.2) zfu ((0 : Int32), (1 : Int32), upd c_codes (0 : Int32).toNatClampNeg (0 : Int32), c_longer)).bind fun o44 =>
  (zf_X4_findWetCells x1 o44.1 o44.2.1 c_wetCells).bind fun o64 =>
  (zf_X4_makeMoves x1 o44.1 o44.2.1 c_moves).bind fun o68 =>
  zf_X4_fit_71 x1 o44.1 o44.2.1 o64 o68 c_stepPipe c_stepSlot c_rowStart o44.2.2 x2) else none)
def zf_X4_fit (f_columns : Int32) (f_rows : Int32) (f_size : Int32) (f_steps : Int32) (c_codes : Nat → Int32) (c_wetCells : Nat → Int32) (c_moves : Nat → Int32) (c_stepPipe : Nat → Int32) (c_stepSlot : Nat → Int32) (c_rowStart : Nat → Int32) (c_longer : Nat → Int32) (x1 : Int32) (x2 : Int32) : Option (Int32 × Int32 × Int32 × Int32 × (Nat → Int32) × (Nat → Int32) × (Nat → Int32) × (Nat → Int32) × (Nat → Int32) × (Nat → Int32) × (Nat → Int32)) :=
  if f_columns = x1 then (if f_rows = x2 then (some (f_columns, f_rows, f_size, f_steps, c_codes, c_wetCells, c_moves, c_stepPipe, c_stepSlot, c_rowStart, c_longer)) else (zf_X4_fit_17 f_columns f_size c_codes c_wetCells c_moves c_stepPipe c_stepSlot c_rowStart c_longer x1 x2)) else (zf_X4_fit_17 f_columns f_size c_codes c_wetCells c_moves c_stepPipe c_stepSlot c_rowStart c_longer x1 x2)
set_option maxHeartbeats 4000000 in
set_option maxRecDepth 100000 in
theorem zc_X4_fit (l : Launch) (D : va_G) (y : zY) (a_this a_codes a_wetCells a_moves a_stepPipe a_stepSlot a_rowStart a_longer : Nat) (f_columns : Int32) (f_rows : Int32) (f_size : Int32) (f_steps : Int32) (c_codes : Nat → Int32) (c_wetCells : Nat → Int32) (c_moves : Nat → Int32) (c_stepPipe : Nat → Int32) (c_stepSlot : Nat → Int32) (c_rowStart : Nat → Int32) (c_longer : Nat → Int32) (x1 : Int32) (x2 : Int32) (out : Int32 × Int32 × Int32 × Int32 × (Nat → Int32) × (Nat → Int32) × (Nat → Int32) × (Nat → Int32) × (Nat → Int32) × (Nat → Int32) × (Nat → Int32)) (hf : zf_X4_fit f_columns f_rows f_size f_steps c_codes c_wetCells c_moves c_stepPipe c_stepSlot c_rowStart c_longer x1 x2 = some out) : zC l D y yX4_fit cX4_fit 4 (none : Option Jvm.ClassFile.FieldType) rm_X4_fit [.ref a_this, .int x1, .int x2] [(a_this, .inr (4, [.ref a_codes, .ref a_wetCells, .ref a_moves, .ref a_stepPipe, .ref a_stepSlot, .ref a_rowStart, .ref a_longer, .int f_columns, .int f_rows, .int f_size, .int f_steps])), (a_codes, .inl (y.1, 132, .inl c_codes)), (a_wetCells, .inl (y.1, 132, .inl c_wetCells)), (a_moves, .inl (y.1, 1188, .inl c_moves)), (a_stepPipe, .inl (y.1, 40, .inl c_stepPipe)), (a_stepSlot, .inl (y.1, 40, .inl c_stepSlot)), (a_rowStart, .inl (y.1, 6, .inl c_rowStart)), (a_longer, .inl (y.1, 132, .inl c_longer))] (zE none [(a_this, .inr (4, [.ref a_codes, .ref a_wetCells, .ref a_moves, .ref a_stepPipe, .ref a_stepSlot, .ref a_rowStart, .ref a_longer, .int out.1, .int out.2.1, .int out.2.2.1, .int out.2.2.2.1])), (a_codes, .inl (y.1, 132, .inl out.2.2.2.2.1)), (a_wetCells, .inl (y.1, 132, .inl out.2.2.2.2.2.1)), (a_moves, .inl (y.1, 1188, .inl out.2.2.2.2.2.2.1)), (a_stepPipe, .inl (y.1, 40, .inl out.2.2.2.2.2.2.2.1)), (a_stepSlot, .inl (y.1, 40, .inl out.2.2.2.2.2.2.2.2.1)), (a_rowStart, .inl (y.1, 6, .inl out.2.2.2.2.2.2.2.2.2.1)), (a_longer, .inl (y.1, 132, .inl out.2.2.2.2.2.2.2.2.2.2))]) := by
  refine zmk (by decide) (Nat.le_of_ble_eq_true rfl) ?_
  intro p e s m args below meth c A Q ls X hQ hnm hP hD hS hl
  have X : zX p s m args meth c D y A RX4 cX4_fit 4 (none : Option Jvm.ClassFile.FieldType) := X
  obtain ⟨hx, hb, hr, hml, hown, hts, hK, hA, hlocks⟩ := id X
  have hl : lv_has ls 4 [(0, .ref a_this), (1, .int x1), (2, .int x2)] := hl
  have L44 : ∀ (n : Nat) (x2 : Int32) (x3 : Int32) (f_columns : Int32) (f_rows : Int32) (f_size : Int32) (f_steps : Int32) (c_codes : Nat → Int32) (c_wetCells : Nat → Int32) (c_moves : Nat → Int32) (c_stepPipe : Nat → Int32) (c_stepSlot : Nat → Int32) (c_rowStart : Nat → Int32) (c_longer : Nat → Int32) (x : (Int32 × (Nat → Int32) × (Nat → Int32))), zit (fun d => zf_X4_fit_l44 f_columns d.1 d.2.1 d.2.2.1 d.2.2.2) n (x3, f_size, c_codes, c_longer) = some x → ∀ (H : Heap) (locs : List Loc) (ls : Array Slot), lv_has ls 4 [(0, .ref a_this), (2, .int x2), (3, .int x3)] → va_P D vwCl [(a_this, .inr (4, [.ref a_codes, .ref a_wetCells, .ref a_moves, .ref a_stepPipe, .ref a_stepSlot, .ref a_rowStart, .ref a_longer, .int f_columns, .int f_rows, .int f_size, .int f_steps])), (a_codes, .inl (y.1, 132, .inl c_codes)), (a_wetCells, .inl (y.1, 132, .inl c_wetCells)), (a_moves, .inl (y.1, 1188, .inl c_moves)), (a_stepPipe, .inl (y.1, 40, .inl c_stepPipe)), (a_stepSlot, .inl (y.1, 40, .inl c_stepSlot)), (a_rowStart, .inl (y.1, 6, .inl c_rowStart)), (a_longer, .inl (y.1, 132, .inl c_longer))] H → va_D A [(a_this, .inr (4, [.ref a_codes, .ref a_wetCells, .ref a_moves, .ref a_stepPipe, .ref a_stepSlot, .ref a_rowStart, .ref a_longer, .int f_columns, .int f_rows, .int f_size, .int f_steps])), (a_codes, .inl (y.1, 132, .inl c_codes)), (a_wetCells, .inl (y.1, 132, .inl c_wetCells)), (a_moves, .inl (y.1, 1188, .inl c_moves)), (a_stepPipe, .inl (y.1, 40, .inl c_stepPipe)), (a_stepSlot, .inl (y.1, 40, .inl c_stepSlot)), (a_rowStart, .inl (y.1, 6, .inl c_rowStart)), (a_longer, .inl (y.1, 132, .inl c_longer))] → va_S A s.heap H locs → (∀ (H : Heap) (locs : List Loc) (ls : Array Slot), lv_has ls 4 [(0, .ref a_this), (2, .int x2)] → va_P D vwCl [(a_this, .inr (4, [.ref a_codes, .ref a_wetCells, .ref a_moves, .ref a_stepPipe, .ref a_stepSlot, .ref a_rowStart, .ref a_longer, .int f_columns, .int f_rows, .int x.1, .int f_steps])), (a_codes, .inl (y.1, 132, .inl x.2.1)), (a_wetCells, .inl (y.1, 132, .inl c_wetCells)), (a_moves, .inl (y.1, 1188, .inl c_moves)), (a_stepPipe, .inl (y.1, 40, .inl c_stepPipe)), (a_stepSlot, .inl (y.1, 40, .inl c_stepSlot)), (a_rowStart, .inl (y.1, 6, .inl c_rowStart)), (a_longer, .inl (y.1, 132, .inl x.2.2))] H → va_D A [(a_this, .inr (4, [.ref a_codes, .ref a_wetCells, .ref a_moves, .ref a_stepPipe, .ref a_stepSlot, .ref a_rowStart, .ref a_longer, .int f_columns, .int f_rows, .int x.1, .int f_steps])), (a_codes, .inl (y.1, 132, .inl x.2.1)), (a_wetCells, .inl (y.1, 132, .inl c_wetCells)), (a_moves, .inl (y.1, 1188, .inl c_moves)), (a_stepPipe, .inl (y.1, 40, .inl c_stepPipe)), (a_stepSlot, .inl (y.1, 40, .inl c_stepSlot)), (a_rowStart, .inl (y.1, 6, .inl c_rowStart)), (a_longer, .inl (y.1, 132, .inl x.2.2))] → va_S A s.heap H locs → W p l e rm_X4_fit s m args below meth c H locs 0 0 Q (F0 m 63 ls [])) → W p l e rm_X4_fit s m args below meth c H locs 0 0 Q (F0 m 44 ls []) := by
    intro n
    induction n with
    | zero => intro x2 x3 f_columns f_rows f_size f_steps c_codes c_wetCells c_moves c_stepPipe c_stepSlot c_rowStart c_longer x h; exact (zi0 h).elim
    | succ n ih =>
      intro x2 x3 f_columns f_rows f_size f_steps c_codes c_wetCells c_moves c_stepPipe c_stepSlot c_rowStart c_longer x h H locs ls hl hP hD hS K63
      obtain ⟨r, hf, h⟩ := zis h
      have hf : zf_X4_fit_l44 f_columns x3 f_size c_codes c_longer = some r := hf
      unfold zf_X4_fit_l44 at hf
      refine lv_iload_n hx hb dX4_fit_44 rfl (lv_at hl 2 rfl) ?_
      refine lv_aload_n hx hb dX4_fit_45 rfl (lv_at hl 0 rfl) ?_
      refine zget X hP 0 rfl rfl inF4 7 (by decide) q_85 rfl dX4_fit_46 ?_
      refine lv_icmp_ge (tgt := 63) hx hb dX4_fit_49 (by decide) (fun c49 => ?_) (fun c49 => ?_)
      · replace hf := zt c49 hf
        obtain rfl := Option.some.inj hf
        obtain rfl := Option.some.inj h
        exact K63 _ _ _ (lv_sub hl [0, 1] rfl) hP hD hS
      · replace hf := ze c49 hf
        refine lv_aload_n hx hb dX4_fit_52 rfl (lv_at hl 0 rfl) ?_
        refine lv_iload_n hx hb dX4_fit_53 rfl (lv_at hl 2 rfl) ?_
        obtain ⟨o54, ho54, hf⟩ := zb hf
        refine zcV0 (wr := [(a_wetCells, .inl (y.1, 132, .inl c_wetCells)), (a_moves, .inl (y.1, 1188, .inl c_moves)), (a_stepPipe, .inl (y.1, 40, .inl c_stepPipe)), (a_stepSlot, .inl (y.1, 40, .inl c_stepSlot)), (a_rowStart, .inl (y.1, 6, .inl c_rowStart))]) (rest := []) X (zc_X4_addCell l D y a_this a_codes a_wetCells a_moves a_stepPipe a_stepSlot a_rowStart a_longer f_columns f_rows f_size f_steps c_codes c_longer x3 o54 ho54) kf_RX4_43 ⟨(Nat.le_of_ble_eq_true rfl), (Nat.le_of_ble_eq_true rfl)⟩ hP hD hS [0, 1, 7] [2, 3, 4, 5, 6] rfl rfl rfl rfl (by decide) 0 rfl rfl rfl rfl hl.1 (Nat.le_of_ble_eq_true rfl) dX4_fit_54 ⟨(Nat.le_of_ble_eq_true rfl), (Nat.le_of_ble_eq_true rfl)⟩ (fun H locs hP hD hS => ?_)
        have hP : va_P D vwCl [(a_wetCells, .inl (y.1, 132, .inl c_wetCells)), (a_moves, .inl (y.1, 1188, .inl c_moves)), (a_stepPipe, .inl (y.1, 40, .inl c_stepPipe)), (a_stepSlot, .inl (y.1, 40, .inl c_stepSlot)), (a_rowStart, .inl (y.1, 6, .inl c_rowStart)), (a_this, .inr (4, [.ref a_codes, .ref a_wetCells, .ref a_moves, .ref a_stepPipe, .ref a_stepSlot, .ref a_rowStart, .ref a_longer, .int f_columns, .int f_rows, .int o54.1, .int f_steps])), (a_codes, .inl (y.1, 132, .inl o54.2.1)), (a_longer, .inl (y.1, 132, .inl o54.2.2))] H := hP
        have hD : va_D A [(a_wetCells, .inl (y.1, 132, .inl c_wetCells)), (a_moves, .inl (y.1, 1188, .inl c_moves)), (a_stepPipe, .inl (y.1, 40, .inl c_stepPipe)), (a_stepSlot, .inl (y.1, 40, .inl c_stepSlot)), (a_rowStart, .inl (y.1, 6, .inl c_rowStart)), (a_this, .inr (4, [.ref a_codes, .ref a_wetCells, .ref a_moves, .ref a_stepPipe, .ref a_stepSlot, .ref a_rowStart, .ref a_longer, .int f_columns, .int f_rows, .int o54.1, .int f_steps])), (a_codes, .inl (y.1, 132, .inl o54.2.1)), (a_longer, .inl (y.1, 132, .inl o54.2.2))] := hD
        refine lv_iinc (v := x3 + (1 : Int32)) (lv' := [(3, .int (x3 + (1 : Int32))), (0, .ref a_this), (2, .int x2)]) hx hb dX4_fit_57 hl (k := 2) rfl rfl (by decide) rfl (fun ls hl => ?_)
        refine lv_goto (tgt := 44) hx hb dX4_fit_60 (by decide) ?_
        obtain rfl := Option.some.inj hf
        exact ih x2 (x3 + (1 : Int32)) f_columns f_rows o54.1 f_steps o54.2.1 c_wetCells c_moves c_stepPipe c_stepSlot c_rowStart o54.2.2 x h _ _ _ (lv_sub hl [1, 2, 0] rfl) (zPsub (is := [5, 6, 0, 1, 2, 3, 4, 7]) hP rfl) (hD.sub [5, 6, 0, 1, 2, 3, 4, 7] (by decide) rfl) hS K63
  have J71 : ∀ (f_columns : Int32) (f_rows : Int32) (f_size : Int32) (f_steps : Int32) (c_codes : Nat → Int32) (c_wetCells : Nat → Int32) (c_moves : Nat → Int32) (c_stepPipe : Nat → Int32) (c_stepSlot : Nat → Int32) (c_rowStart : Nat → Int32) (c_longer : Nat → Int32), zf_X4_fit_71 f_columns f_size c_codes c_wetCells c_moves c_stepPipe c_stepSlot c_rowStart c_longer x2 = some out → ∀ (H : Heap) (locs : List Loc) (ls : Array Slot), lv_has ls 4 [(0, .ref a_this), (2, .int x2)] → va_P D vwCl [(a_this, .inr (4, [.ref a_codes, .ref a_wetCells, .ref a_moves, .ref a_stepPipe, .ref a_stepSlot, .ref a_rowStart, .ref a_longer, .int f_columns, .int f_rows, .int f_size, .int f_steps])), (a_codes, .inl (y.1, 132, .inl c_codes)), (a_wetCells, .inl (y.1, 132, .inl c_wetCells)), (a_moves, .inl (y.1, 1188, .inl c_moves)), (a_stepPipe, .inl (y.1, 40, .inl c_stepPipe)), (a_stepSlot, .inl (y.1, 40, .inl c_stepSlot)), (a_rowStart, .inl (y.1, 6, .inl c_rowStart)), (a_longer, .inl (y.1, 132, .inl c_longer))] H → va_D A [(a_this, .inr (4, [.ref a_codes, .ref a_wetCells, .ref a_moves, .ref a_stepPipe, .ref a_stepSlot, .ref a_rowStart, .ref a_longer, .int f_columns, .int f_rows, .int f_size, .int f_steps])), (a_codes, .inl (y.1, 132, .inl c_codes)), (a_wetCells, .inl (y.1, 132, .inl c_wetCells)), (a_moves, .inl (y.1, 1188, .inl c_moves)), (a_stepPipe, .inl (y.1, 40, .inl c_stepPipe)), (a_stepSlot, .inl (y.1, 40, .inl c_stepSlot)), (a_rowStart, .inl (y.1, 6, .inl c_rowStart)), (a_longer, .inl (y.1, 132, .inl c_longer))] → va_S A s.heap H locs → W p l e rm_X4_fit s m args below meth c H locs 0 0 Q (F0 m 71 ls []) := by
    intro f_columns f_rows f_size f_steps c_codes c_wetCells c_moves c_stepPipe c_stepSlot c_rowStart c_longer hf H locs ls hl hP hD hS
    unfold zf_X4_fit_71 at hf
    refine lv_aload_n hx hb dX4_fit_71 rfl (lv_at hl 0 rfl) ?_
    refine lv_iload_n hx hb dX4_fit_72 rfl (lv_at hl 1 rfl) ?_
    refine zput (ty := .int) X hP hD hS 0 rfl rfl inF4 tyX4_ok nmX4 8 (by decide) q_86 rfl rfl rfl rfl (Nat.le_of_ble_eq_true rfl) dX4_fit_73 (fun H locs hP hD hS => ?_)
    have hP : va_P D vwCl [(a_this, .inr (4, [.ref a_codes, .ref a_wetCells, .ref a_moves, .ref a_stepPipe, .ref a_stepSlot, .ref a_rowStart, .ref a_longer, .int f_columns, .int x2, .int f_size, .int f_steps])), (a_codes, .inl (y.1, 132, .inl c_codes)), (a_wetCells, .inl (y.1, 132, .inl c_wetCells)), (a_moves, .inl (y.1, 1188, .inl c_moves)), (a_stepPipe, .inl (y.1, 40, .inl c_stepPipe)), (a_stepSlot, .inl (y.1, 40, .inl c_stepSlot)), (a_rowStart, .inl (y.1, 6, .inl c_rowStart)), (a_longer, .inl (y.1, 132, .inl c_longer))] H := hP
    have hD : va_D A [(a_this, .inr (4, [.ref a_codes, .ref a_wetCells, .ref a_moves, .ref a_stepPipe, .ref a_stepSlot, .ref a_rowStart, .ref a_longer, .int f_columns, .int x2, .int f_size, .int f_steps])), (a_codes, .inl (y.1, 132, .inl c_codes)), (a_wetCells, .inl (y.1, 132, .inl c_wetCells)), (a_moves, .inl (y.1, 1188, .inl c_moves)), (a_stepPipe, .inl (y.1, 40, .inl c_stepPipe)), (a_stepSlot, .inl (y.1, 40, .inl c_stepSlot)), (a_rowStart, .inl (y.1, 6, .inl c_rowStart)), (a_longer, .inl (y.1, 132, .inl c_longer))] := hD
    refine lv_aload_n hx hb dX4_fit_76 rfl (lv_at hl 0 rfl) ?_
    obtain ⟨o77, ho77, hf⟩ := zb hf
    refine zcV0 (wr := [(a_codes, .inl (y.1, 132, .inl c_codes)), (a_wetCells, .inl (y.1, 132, .inl c_wetCells)), (a_moves, .inl (y.1, 1188, .inl c_moves)), (a_longer, .inl (y.1, 132, .inl c_longer))]) (rest := []) X (zc_X4_makeSteps l D y a_this a_codes a_wetCells a_moves a_stepPipe a_stepSlot a_rowStart a_longer f_columns x2 f_size f_steps c_stepPipe c_stepSlot c_rowStart o77 ho77) kf_RX4_53 ⟨(Nat.le_of_ble_eq_true rfl), (Nat.le_of_ble_eq_true rfl)⟩ hP hD hS [0, 4, 5, 6] [1, 2, 3, 7] rfl rfl rfl rfl (by decide) 0 rfl rfl rfl rfl hl.1 (Nat.le_of_ble_eq_true rfl) dX4_fit_77 ⟨(Nat.le_of_ble_eq_true rfl), (Nat.le_of_ble_eq_true rfl)⟩ (fun H locs hP hD hS => ?_)
    have hP : va_P D vwCl [(a_codes, .inl (y.1, 132, .inl c_codes)), (a_wetCells, .inl (y.1, 132, .inl c_wetCells)), (a_moves, .inl (y.1, 1188, .inl c_moves)), (a_longer, .inl (y.1, 132, .inl c_longer)), (a_this, .inr (4, [.ref a_codes, .ref a_wetCells, .ref a_moves, .ref a_stepPipe, .ref a_stepSlot, .ref a_rowStart, .ref a_longer, .int f_columns, .int x2, .int f_size, .int o77.1])), (a_stepPipe, .inl (y.1, 40, .inl o77.2.1)), (a_stepSlot, .inl (y.1, 40, .inl o77.2.2.1)), (a_rowStart, .inl (y.1, 6, .inl o77.2.2.2))] H := hP
    have hD : va_D A [(a_codes, .inl (y.1, 132, .inl c_codes)), (a_wetCells, .inl (y.1, 132, .inl c_wetCells)), (a_moves, .inl (y.1, 1188, .inl c_moves)), (a_longer, .inl (y.1, 132, .inl c_longer)), (a_this, .inr (4, [.ref a_codes, .ref a_wetCells, .ref a_moves, .ref a_stepPipe, .ref a_stepSlot, .ref a_rowStart, .ref a_longer, .int f_columns, .int x2, .int f_size, .int o77.1])), (a_stepPipe, .inl (y.1, 40, .inl o77.2.1)), (a_stepSlot, .inl (y.1, 40, .inl o77.2.2.1)), (a_rowStart, .inl (y.1, 6, .inl o77.2.2.2))] := hD
    obtain rfl := Option.some.inj hf
    exact zretv X hQ (zPsub (is := [4, 0, 1, 2, 5, 6, 7, 3]) hP rfl) (hD.sub [4, 0, 1, 2, 5, 6, 7, 3] (by decide) rfl) hS ⟨rfl, rfl⟩ dX4_fit_80 (Nat.le_of_ble_eq_true rfl) (Nat.le_of_ble_eq_true rfl)
  have J17 : ∀ (f_columns : Int32) (f_rows : Int32) (f_size : Int32) (f_steps : Int32) (c_codes : Nat → Int32) (c_wetCells : Nat → Int32) (c_moves : Nat → Int32) (c_stepPipe : Nat → Int32) (c_stepSlot : Nat → Int32) (c_rowStart : Nat → Int32) (c_longer : Nat → Int32), zf_X4_fit_17 f_columns f_size c_codes c_wetCells c_moves c_stepPipe c_stepSlot c_rowStart c_longer x1 x2 = some out → ∀ (H : Heap) (locs : List Loc) (ls : Array Slot), lv_has ls 4 [(0, .ref a_this), (1, .int x1), (2, .int x2)] → va_P D vwCl [(a_this, .inr (4, [.ref a_codes, .ref a_wetCells, .ref a_moves, .ref a_stepPipe, .ref a_stepSlot, .ref a_rowStart, .ref a_longer, .int f_columns, .int f_rows, .int f_size, .int f_steps])), (a_codes, .inl (y.1, 132, .inl c_codes)), (a_wetCells, .inl (y.1, 132, .inl c_wetCells)), (a_moves, .inl (y.1, 1188, .inl c_moves)), (a_stepPipe, .inl (y.1, 40, .inl c_stepPipe)), (a_stepSlot, .inl (y.1, 40, .inl c_stepSlot)), (a_rowStart, .inl (y.1, 6, .inl c_rowStart)), (a_longer, .inl (y.1, 132, .inl c_longer))] H → va_D A [(a_this, .inr (4, [.ref a_codes, .ref a_wetCells, .ref a_moves, .ref a_stepPipe, .ref a_stepSlot, .ref a_rowStart, .ref a_longer, .int f_columns, .int f_rows, .int f_size, .int f_steps])), (a_codes, .inl (y.1, 132, .inl c_codes)), (a_wetCells, .inl (y.1, 132, .inl c_wetCells)), (a_moves, .inl (y.1, 1188, .inl c_moves)), (a_stepPipe, .inl (y.1, 40, .inl c_stepPipe)), (a_stepSlot, .inl (y.1, 40, .inl c_stepSlot)), (a_rowStart, .inl (y.1, 6, .inl c_rowStart)), (a_longer, .inl (y.1, 132, .inl c_longer))] → va_S A s.heap H locs → W p l e rm_X4_fit s m args below meth c H locs 0 0 Q (F0 m 17 ls []) := by
    intro f_columns f_rows f_size f_steps c_codes c_wetCells c_moves c_stepPipe c_stepSlot c_rowStart c_longer hf H locs ls hl hP hD hS
    unfold zf_X4_fit_17 at hf
    refine lv_aload_n hx hb dX4_fit_17 rfl (lv_at hl 0 rfl) ?_
    refine zget X hP 0 rfl rfl inF4 7 (by decide) q_85 rfl dX4_fit_18 ?_
    refine lv_iload_n hx hb dX4_fit_21 rfl (lv_at hl 1 rfl) ?_
    refine lv_icmp_eq (tgt := 71) hx hb dX4_fit_22 (by decide) (fun c22 => ?_) (fun c22 => ?_)
    · replace hf := zt c22 hf
      exact J71 f_columns f_rows f_size f_steps c_codes c_wetCells c_moves c_stepPipe c_stepSlot c_rowStart c_longer hf _ _ _ (lv_sub hl [0, 2] rfl) hP hD hS
    · replace hf := ze c22 hf
      refine lv_aload_n hx hb dX4_fit_25 rfl (lv_at hl 0 rfl) ?_
      refine lv_iload_n hx hb dX4_fit_26 rfl (lv_at hl 1 rfl) ?_
      refine zput (ty := .int) X hP hD hS 0 rfl rfl inF4 tyX4_ok nmX4 7 (by decide) q_85 rfl rfl rfl rfl (Nat.le_of_ble_eq_true rfl) dX4_fit_27 (fun H locs hP hD hS => ?_)
      have hP : va_P D vwCl [(a_this, .inr (4, [.ref a_codes, .ref a_wetCells, .ref a_moves, .ref a_stepPipe, .ref a_stepSlot, .ref a_rowStart, .ref a_longer, .int x1, .int f_rows, .int f_size, .int f_steps])), (a_codes, .inl (y.1, 132, .inl c_codes)), (a_wetCells, .inl (y.1, 132, .inl c_wetCells)), (a_moves, .inl (y.1, 1188, .inl c_moves)), (a_stepPipe, .inl (y.1, 40, .inl c_stepPipe)), (a_stepSlot, .inl (y.1, 40, .inl c_stepSlot)), (a_rowStart, .inl (y.1, 6, .inl c_rowStart)), (a_longer, .inl (y.1, 132, .inl c_longer))] H := hP
      have hD : va_D A [(a_this, .inr (4, [.ref a_codes, .ref a_wetCells, .ref a_moves, .ref a_stepPipe, .ref a_stepSlot, .ref a_rowStart, .ref a_longer, .int x1, .int f_rows, .int f_size, .int f_steps])), (a_codes, .inl (y.1, 132, .inl c_codes)), (a_wetCells, .inl (y.1, 132, .inl c_wetCells)), (a_moves, .inl (y.1, 1188, .inl c_moves)), (a_stepPipe, .inl (y.1, 40, .inl c_stepPipe)), (a_stepSlot, .inl (y.1, 40, .inl c_stepSlot)), (a_rowStart, .inl (y.1, 6, .inl c_rowStart)), (a_longer, .inl (y.1, 132, .inl c_longer))] := hD
      refine lv_aload_n hx hb dX4_fit_30 rfl (lv_at hl 0 rfl) ?_
      refine zget X hP 0 rfl rfl inF4 0 (by decide) q_67 rfl dX4_fit_31 ?_
      refine lv_iconst (v := 0) hx hb dX4_fit_34 (by decide) ?_
      refine lv_iconst (v := 0) hx hb dX4_fit_35 (by decide) ?_
      obtain ⟨g36, hf⟩ := zg hf
      refine va_iast hx hb hK hP hD hS 1 0 rfl rfl g36 dX4_fit_36 (fun H locs hP hD hS => ?_)
      have hP : va_P D vwCl [(a_this, .inr (4, [.ref a_codes, .ref a_wetCells, .ref a_moves, .ref a_stepPipe, .ref a_stepSlot, .ref a_rowStart, .ref a_longer, .int x1, .int f_rows, .int f_size, .int f_steps])), (a_codes, .inl (y.1, 132, .inl (upd c_codes (0 : Int32).toNatClampNeg (0 : Int32)))), (a_wetCells, .inl (y.1, 132, .inl c_wetCells)), (a_moves, .inl (y.1, 1188, .inl c_moves)), (a_stepPipe, .inl (y.1, 40, .inl c_stepPipe)), (a_stepSlot, .inl (y.1, 40, .inl c_stepSlot)), (a_rowStart, .inl (y.1, 6, .inl c_rowStart)), (a_longer, .inl (y.1, 132, .inl c_longer))] H := hP
      have hD : va_D A [(a_this, .inr (4, [.ref a_codes, .ref a_wetCells, .ref a_moves, .ref a_stepPipe, .ref a_stepSlot, .ref a_rowStart, .ref a_longer, .int x1, .int f_rows, .int f_size, .int f_steps])), (a_codes, .inl (y.1, 132, .inl (upd c_codes (0 : Int32).toNatClampNeg (0 : Int32)))), (a_wetCells, .inl (y.1, 132, .inl c_wetCells)), (a_moves, .inl (y.1, 1188, .inl c_moves)), (a_stepPipe, .inl (y.1, 40, .inl c_stepPipe)), (a_stepSlot, .inl (y.1, 40, .inl c_stepSlot)), (a_rowStart, .inl (y.1, 6, .inl c_rowStart)), (a_longer, .inl (y.1, 132, .inl c_longer))] := hD
      refine lv_aload_n hx hb dX4_fit_37 rfl (lv_at hl 0 rfl) ?_
      refine lv_iconst (v := 1) hx hb dX4_fit_38 (by decide) ?_
      refine zput (ty := .int) X hP hD hS 0 rfl rfl inF4 tyX4_ok nmX4 9 (by decide) q_87 rfl rfl rfl rfl (Nat.le_of_ble_eq_true rfl) dX4_fit_39 (fun H locs hP hD hS => ?_)
      have hP : va_P D vwCl [(a_this, .inr (4, [.ref a_codes, .ref a_wetCells, .ref a_moves, .ref a_stepPipe, .ref a_stepSlot, .ref a_rowStart, .ref a_longer, .int x1, .int f_rows, .int (1 : Int32), .int f_steps])), (a_codes, .inl (y.1, 132, .inl (upd c_codes (0 : Int32).toNatClampNeg (0 : Int32)))), (a_wetCells, .inl (y.1, 132, .inl c_wetCells)), (a_moves, .inl (y.1, 1188, .inl c_moves)), (a_stepPipe, .inl (y.1, 40, .inl c_stepPipe)), (a_stepSlot, .inl (y.1, 40, .inl c_stepSlot)), (a_rowStart, .inl (y.1, 6, .inl c_rowStart)), (a_longer, .inl (y.1, 132, .inl c_longer))] H := hP
      have hD : va_D A [(a_this, .inr (4, [.ref a_codes, .ref a_wetCells, .ref a_moves, .ref a_stepPipe, .ref a_stepSlot, .ref a_rowStart, .ref a_longer, .int x1, .int f_rows, .int (1 : Int32), .int f_steps])), (a_codes, .inl (y.1, 132, .inl (upd c_codes (0 : Int32).toNatClampNeg (0 : Int32)))), (a_wetCells, .inl (y.1, 132, .inl c_wetCells)), (a_moves, .inl (y.1, 1188, .inl c_moves)), (a_stepPipe, .inl (y.1, 40, .inl c_stepPipe)), (a_stepSlot, .inl (y.1, 40, .inl c_stepSlot)), (a_rowStart, .inl (y.1, 6, .inl c_rowStart)), (a_longer, .inl (y.1, 132, .inl c_longer))] := hD
      refine lv_iconst (v := 0) hx hb dX4_fit_42 (by decide) ?_
      refine lv_istore_n (lv' := [(3, .int (0 : Int32)), (0, .ref a_this), (1, .int x1), (2, .int x2)]) hx hb dX4_fit_43 rfl hl (by decide) rfl (fun ls hl => ?_)
      obtain ⟨o44, ho44, hf⟩ := zb hf
      refine L44 zfu x2 (0 : Int32) x1 f_rows (1 : Int32) f_steps (upd c_codes (0 : Int32).toNatClampNeg (0 : Int32)) c_wetCells c_moves c_stepPipe c_stepSlot c_rowStart c_longer o44 ho44 _ _ _ (lv_sub hl [1, 3, 0] rfl) hP hD hS (fun H locs ls hl hP hD hS => ?_)
      refine lv_aload_n hx hb dX4_fit_63 rfl (lv_at hl 0 rfl) ?_
      obtain ⟨o64, ho64, hf⟩ := zb hf
      refine zcV0 (wr := [(a_moves, .inl (y.1, 1188, .inl c_moves)), (a_stepPipe, .inl (y.1, 40, .inl c_stepPipe)), (a_stepSlot, .inl (y.1, 40, .inl c_stepSlot)), (a_rowStart, .inl (y.1, 6, .inl c_rowStart)), (a_longer, .inl (y.1, 132, .inl o44.2.2))]) (rest := []) X (zc_X4_findWetCells l D y a_this a_codes a_wetCells a_moves a_stepPipe a_stepSlot a_rowStart a_longer x1 f_rows o44.1 f_steps o44.2.1 c_wetCells o64 ho64) kf_RX4_47 ⟨(Nat.le_of_ble_eq_true rfl), (Nat.le_of_ble_eq_true rfl)⟩ hP hD hS [0, 1, 2] [3, 4, 5, 6, 7] rfl rfl rfl rfl (by decide) 0 rfl rfl rfl rfl hl.1 (Nat.le_of_ble_eq_true rfl) dX4_fit_64 ⟨(Nat.le_of_ble_eq_true rfl), (Nat.le_of_ble_eq_true rfl)⟩ (fun H locs hP hD hS => ?_)
      have hP : va_P D vwCl [(a_moves, .inl (y.1, 1188, .inl c_moves)), (a_stepPipe, .inl (y.1, 40, .inl c_stepPipe)), (a_stepSlot, .inl (y.1, 40, .inl c_stepSlot)), (a_rowStart, .inl (y.1, 6, .inl c_rowStart)), (a_longer, .inl (y.1, 132, .inl o44.2.2)), (a_this, .inr (4, [.ref a_codes, .ref a_wetCells, .ref a_moves, .ref a_stepPipe, .ref a_stepSlot, .ref a_rowStart, .ref a_longer, .int x1, .int f_rows, .int o44.1, .int f_steps])), (a_codes, .inl (y.1, 132, .inl o44.2.1)), (a_wetCells, .inl (y.1, 132, .inl o64))] H := hP
      have hD : va_D A [(a_moves, .inl (y.1, 1188, .inl c_moves)), (a_stepPipe, .inl (y.1, 40, .inl c_stepPipe)), (a_stepSlot, .inl (y.1, 40, .inl c_stepSlot)), (a_rowStart, .inl (y.1, 6, .inl c_rowStart)), (a_longer, .inl (y.1, 132, .inl o44.2.2)), (a_this, .inr (4, [.ref a_codes, .ref a_wetCells, .ref a_moves, .ref a_stepPipe, .ref a_stepSlot, .ref a_rowStart, .ref a_longer, .int x1, .int f_rows, .int o44.1, .int f_steps])), (a_codes, .inl (y.1, 132, .inl o44.2.1)), (a_wetCells, .inl (y.1, 132, .inl o64))] := hD
      refine lv_aload_n hx hb dX4_fit_67 rfl (lv_at hl 0 rfl) ?_
      obtain ⟨o68, ho68, hf⟩ := zb hf
      refine zcV0 (wr := [(a_stepPipe, .inl (y.1, 40, .inl c_stepPipe)), (a_stepSlot, .inl (y.1, 40, .inl c_stepSlot)), (a_rowStart, .inl (y.1, 6, .inl c_rowStart)), (a_longer, .inl (y.1, 132, .inl o44.2.2)), (a_wetCells, .inl (y.1, 132, .inl o64))]) (rest := []) X (zc_X4_makeMoves l D y a_this a_codes a_wetCells a_moves a_stepPipe a_stepSlot a_rowStart a_longer x1 f_rows o44.1 f_steps o44.2.1 c_moves o68 ho68) kf_RX4_50 ⟨(Nat.le_of_ble_eq_true rfl), (Nat.le_of_ble_eq_true rfl)⟩ hP hD hS [5, 6, 0] [1, 2, 3, 4, 7] rfl rfl rfl rfl (by decide) 5 rfl rfl rfl rfl hl.1 (Nat.le_of_ble_eq_true rfl) dX4_fit_68 ⟨(Nat.le_of_ble_eq_true rfl), (Nat.le_of_ble_eq_true rfl)⟩ (fun H locs hP hD hS => ?_)
      have hP : va_P D vwCl [(a_stepPipe, .inl (y.1, 40, .inl c_stepPipe)), (a_stepSlot, .inl (y.1, 40, .inl c_stepSlot)), (a_rowStart, .inl (y.1, 6, .inl c_rowStart)), (a_longer, .inl (y.1, 132, .inl o44.2.2)), (a_wetCells, .inl (y.1, 132, .inl o64)), (a_this, .inr (4, [.ref a_codes, .ref a_wetCells, .ref a_moves, .ref a_stepPipe, .ref a_stepSlot, .ref a_rowStart, .ref a_longer, .int x1, .int f_rows, .int o44.1, .int f_steps])), (a_codes, .inl (y.1, 132, .inl o44.2.1)), (a_moves, .inl (y.1, 1188, .inl o68))] H := hP
      have hD : va_D A [(a_stepPipe, .inl (y.1, 40, .inl c_stepPipe)), (a_stepSlot, .inl (y.1, 40, .inl c_stepSlot)), (a_rowStart, .inl (y.1, 6, .inl c_rowStart)), (a_longer, .inl (y.1, 132, .inl o44.2.2)), (a_wetCells, .inl (y.1, 132, .inl o64)), (a_this, .inr (4, [.ref a_codes, .ref a_wetCells, .ref a_moves, .ref a_stepPipe, .ref a_stepSlot, .ref a_rowStart, .ref a_longer, .int x1, .int f_rows, .int o44.1, .int f_steps])), (a_codes, .inl (y.1, 132, .inl o44.2.1)), (a_moves, .inl (y.1, 1188, .inl o68))] := hD
      exact J71 x1 f_rows o44.1 f_steps o44.2.1 o64 o68 c_stepPipe c_stepSlot c_rowStart o44.2.2 hf _ _ _ hl (zPsub (is := [5, 6, 4, 7, 0, 1, 2, 3]) hP rfl) (hD.sub [5, 6, 4, 7, 0, 1, 2, 3] (by decide) rfl) hS
  unfold zf_X4_fit at hf
  refine lv_aload_n hx hb dX4_fit_0 rfl (lv_at hl 0 rfl) ?_
  refine zget X hP 0 rfl rfl inF4 7 (by decide) q_85 rfl dX4_fit_1 ?_
  refine lv_iload_n hx hb dX4_fit_4 rfl (lv_at hl 1 rfl) ?_
  refine lv_icmp_ne (tgt := 17) hx hb dX4_fit_5 (by decide) (fun c5 => ?_) (fun c5 => ?_)
  · replace hf := ze c5 hf
    exact J17 f_columns f_rows f_size f_steps c_codes c_wetCells c_moves c_stepPipe c_stepSlot c_rowStart c_longer hf _ _ _ hl hP hD hS
  · replace hf := zt c5 hf
    refine lv_aload_n hx hb dX4_fit_8 rfl (lv_at hl 0 rfl) ?_
    refine zget X hP 0 rfl rfl inF4 8 (by decide) q_86 rfl dX4_fit_9 ?_
    refine lv_iload_n hx hb dX4_fit_12 rfl (lv_at hl 2 rfl) ?_
    refine lv_icmp_ne (tgt := 17) hx hb dX4_fit_13 (by decide) (fun c13 => ?_) (fun c13 => ?_)
    · replace hf := ze c13 hf
      exact J17 f_columns f_rows f_size f_steps c_codes c_wetCells c_moves c_stepPipe c_stepSlot c_rowStart c_longer hf _ _ _ hl hP hD hS
    · replace hf := zt c13 hf
      obtain rfl := Option.some.inj hf
      exact zretv X hQ hP hD hS ⟨rfl, rfl⟩ dX4_fit_16 (Nat.le_of_ble_eq_true rfl) (Nat.le_of_ble_eq_true rfl)


abbrev rm_X2_isStone : Room := { frames := 0, cells := 0, slots := 0, locals := 0 }
def zf_X2_isStone (f_stones : Int64) (x1 : Int32) : Option (Int32) :=
  if (lg_cmp ((zlushr f_stones x1) &&& (1 : Int64)) (0 : Int64)) = 0 then (some (0 : Int32)) else (some (1 : Int32))
set_option maxHeartbeats 4000000 in
set_option maxRecDepth 100000 in
theorem zc_X2_isStone (l : Launch) (D : va_G) (y : zY) (a_this : Nat) (f_columns : Int32) (f_rows : Int32) (f_toldOpen : Int64) (f_toldShut : Int64) (f_stones : Int64) (f_open : Int64) (f_shut : Int64) (f_free : Int64) (x1 : Int32) (out : Int32) (hf : zf_X2_isStone f_stones x1 = some out) : zC l D y yX2_isStone cX2_isStone 2 (some .boolean) rm_X2_isStone [.ref a_this, .int x1] [(a_this, .inr (2, [.int f_columns, .int f_rows, .long f_toldOpen, .long f_toldShut, .long f_stones, .long f_open, .long f_shut, .long f_free]))] (zE (some (.int out)) [(a_this, .inr (2, [.int f_columns, .int f_rows, .long f_toldOpen, .long f_toldShut, .long f_stones, .long f_open, .long f_shut, .long f_free]))]) := by
  refine zmk (by decide) (Nat.le_of_ble_eq_true rfl) ?_
  intro p e s m args below meth c A Q ls X hQ hnm hP hD hS hl
  have X : zX p s m args meth c D y A RX2 cX2_isStone 2 (some .boolean) := X
  obtain ⟨hx, hb, hr, hml, hown, hts, hK, hA, hlocks⟩ := id X
  have hl : lv_has ls 2 [(0, .ref a_this), (1, .int x1)] := hl
  unfold zf_X2_isStone at hf
  refine lv_aload_n hx hb dX2_isStone_0 rfl (lv_at hl 0 rfl) ?_
  refine zget X hP 0 rfl rfl inF2 4 (by decide) q_245 rfl dX2_isStone_1 ?_
  refine lv_iload_n hx hb dX2_isStone_4 rfl (lv_at hl 1 rfl) ?_
  refine lv_lushr (v := zlushr f_stones x1) hx hb dX2_isStone_5 rfl ?_
  refine lv_lconst (v := 1) hx hb dX2_isStone_6 (by decide) ?_
  refine lv_land hx hb dX2_isStone_7 ?_
  refine lv_lconst (v := 0) hx hb dX2_isStone_8 (by decide) ?_
  refine W.lcmp hx hb dX2_isStone_9 ?_
  refine lv_if_eq (tgt := 17) hx hb dX2_isStone_10 (by decide) (fun c10 => ?_) (fun c10 => ?_)
  · replace hf := zt c10 hf
    refine lv_iconst (v := 0) hx hb dX2_isStone_17 (by decide) ?_
    obtain rfl := Option.some.inj hf
    exact zreti X hQ hP hD hS ⟨rfl, rfl⟩ rfl dX2_isStone_18 (Nat.le_of_ble_eq_true rfl) (Nat.le_of_ble_eq_true rfl)
  · replace hf := ze c10 hf
    refine lv_iconst (v := 1) hx hb dX2_isStone_13 (by decide) ?_
    refine lv_goto (tgt := 18) hx hb dX2_isStone_14 (by decide) ?_
    obtain rfl := Option.some.inj hf
    exact zreti X hQ hP hD hS ⟨rfl, rfl⟩ rfl dX2_isStone_18 (Nat.le_of_ble_eq_true rfl) (Nat.le_of_ble_eq_true rfl)

theorem kf_RX4_116 : zCB RX4 116 yX2_isStone cX2_isStone 2 (some .boolean) 1 ∧ Cond.instanceMethod yX2_isStone ∈ wAll ∧ Cond.selects yX2_isStone.cls yX2_isStone yX2_isStone ∈ wAll := ⟨⟨q_434, q_8, q_431, by decide +kernel⟩, q_432, q_433⟩
abbrev rm_X4_start : Room := { frames := 1, cells := 0, slots := 0, locals := 25 }
def zf_X4_start_43 (x2 : Int32) (x3 : Int32) (x4 : Int32) : Option ((Int32 × Int32 × Int32) ⊕ ((Int32))) :=
  some (.inl (x2, x3, x4 + (1 : Int32)))
def zf_X4_start_l7 (f_columns : Int32) (f_arg0_stones : Int64) (x2 : Int32) (x3 : Int32) (x4 : Int32) : Option ((Int32 × Int32 × Int32) ⊕ ((Int32))) :=
  if f_columns ≤ x4 then (some (.inr x2)) else ((zf_X2_numberOf x4 (0 : Int32) (0 : Int32)).bind fun o21 =>
  (zf_X2_isStone f_arg0_stones o21).bind fun o24 =>
  if o24 = 0 then (zf_X4_start_43 x2 x3 x4) else ((zf_X4_shiftOf x4).bind fun o34 =>
  zf_X4_start_43 (x2 ||| (zshl x3 o34)) (x3 + (1 : Int32)) x4))
def zf_X4_start (f_columns : Int32) (f_size : Int32) (f_arg0_stones : Int64) (c_codes : Nat → Int32) : Option (Int32) :=
  (zit (fun d => zf_X4_start_l7 f_columns f_arg0_stones d.1 d.2.1 d.2.2) zfu ((0 : Int32), (1 : Int32), (0 : Int32))).bind fun o7 =>
  (zf_X4_indexOf f_size c_codes o7).bind fun o51 =>
  some o51
set_option maxHeartbeats 4000000 in
set_option maxRecDepth 100000 in
theorem zc_X4_start (l : Launch) (D : va_G) (y : zY) (a_this a_codes a_wetCells a_moves a_stepPipe a_stepSlot a_rowStart a_longer a_arg0 : Nat) (f_columns : Int32) (f_rows : Int32) (f_size : Int32) (f_steps : Int32) (f_arg0_columns : Int32) (f_arg0_rows : Int32) (f_arg0_toldOpen : Int64) (f_arg0_toldShut : Int64) (f_arg0_stones : Int64) (f_arg0_open : Int64) (f_arg0_shut : Int64) (f_arg0_free : Int64) (c_codes : Nat → Int32) (out : Int32) (hf : zf_X4_start f_columns f_size f_arg0_stones c_codes = some out) : zC l D y yX4_start cX4_start 5 (some .int) rm_X4_start [.ref a_this, .ref a_arg0] [(a_this, .inr (4, [.ref a_codes, .ref a_wetCells, .ref a_moves, .ref a_stepPipe, .ref a_stepSlot, .ref a_rowStart, .ref a_longer, .int f_columns, .int f_rows, .int f_size, .int f_steps])), (a_codes, .inl (y.1, 132, .inl c_codes)), (a_arg0, .inr (2, [.int f_arg0_columns, .int f_arg0_rows, .long f_arg0_toldOpen, .long f_arg0_toldShut, .long f_arg0_stones, .long f_arg0_open, .long f_arg0_shut, .long f_arg0_free]))] (zE (some (.int out)) [(a_this, .inr (4, [.ref a_codes, .ref a_wetCells, .ref a_moves, .ref a_stepPipe, .ref a_stepSlot, .ref a_rowStart, .ref a_longer, .int f_columns, .int f_rows, .int f_size, .int f_steps])), (a_codes, .inl (y.1, 132, .inl c_codes)), (a_arg0, .inr (2, [.int f_arg0_columns, .int f_arg0_rows, .long f_arg0_toldOpen, .long f_arg0_toldShut, .long f_arg0_stones, .long f_arg0_open, .long f_arg0_shut, .long f_arg0_free]))]) := by
  refine zmk (by decide) (Nat.le_of_ble_eq_true rfl) ?_
  intro p e s m args below meth c A Q ls X hQ hnm hP hD hS hl
  have X : zX p s m args meth c D y A RX4 cX4_start 5 (some .int) := X
  obtain ⟨hx, hb, hr, hml, hown, hts, hK, hA, hlocks⟩ := id X
  have hl : lv_has ls 5 [(0, .ref a_this), (1, .ref a_arg0)] := hl
  have L7 : ∀ (n : Nat) (x2 : Int32) (x3 : Int32) (x4 : Int32) (x : (Int32)), zit (fun d => zf_X4_start_l7 f_columns f_arg0_stones d.1 d.2.1 d.2.2) n (x2, x3, x4) = some x → ∀ (H : Heap) (locs : List Loc) (ls : Array Slot), lv_has ls 5 [(0, .ref a_this), (1, .ref a_arg0), (2, .int x2), (3, .int x3), (4, .int x4)] → va_P D vwCl [(a_this, .inr (4, [.ref a_codes, .ref a_wetCells, .ref a_moves, .ref a_stepPipe, .ref a_stepSlot, .ref a_rowStart, .ref a_longer, .int f_columns, .int f_rows, .int f_size, .int f_steps])), (a_codes, .inl (y.1, 132, .inl c_codes)), (a_arg0, .inr (2, [.int f_arg0_columns, .int f_arg0_rows, .long f_arg0_toldOpen, .long f_arg0_toldShut, .long f_arg0_stones, .long f_arg0_open, .long f_arg0_shut, .long f_arg0_free]))] H → va_D A [(a_this, .inr (4, [.ref a_codes, .ref a_wetCells, .ref a_moves, .ref a_stepPipe, .ref a_stepSlot, .ref a_rowStart, .ref a_longer, .int f_columns, .int f_rows, .int f_size, .int f_steps])), (a_codes, .inl (y.1, 132, .inl c_codes)), (a_arg0, .inr (2, [.int f_arg0_columns, .int f_arg0_rows, .long f_arg0_toldOpen, .long f_arg0_toldShut, .long f_arg0_stones, .long f_arg0_open, .long f_arg0_shut, .long f_arg0_free]))] → va_S A s.heap H locs → (∀ (H : Heap) (locs : List Loc) (ls : Array Slot), lv_has ls 5 [(0, .ref a_this), (2, .int x)] → va_P D vwCl [(a_this, .inr (4, [.ref a_codes, .ref a_wetCells, .ref a_moves, .ref a_stepPipe, .ref a_stepSlot, .ref a_rowStart, .ref a_longer, .int f_columns, .int f_rows, .int f_size, .int f_steps])), (a_codes, .inl (y.1, 132, .inl c_codes)), (a_arg0, .inr (2, [.int f_arg0_columns, .int f_arg0_rows, .long f_arg0_toldOpen, .long f_arg0_toldShut, .long f_arg0_stones, .long f_arg0_open, .long f_arg0_shut, .long f_arg0_free]))] H → va_D A [(a_this, .inr (4, [.ref a_codes, .ref a_wetCells, .ref a_moves, .ref a_stepPipe, .ref a_stepSlot, .ref a_rowStart, .ref a_longer, .int f_columns, .int f_rows, .int f_size, .int f_steps])), (a_codes, .inl (y.1, 132, .inl c_codes)), (a_arg0, .inr (2, [.int f_arg0_columns, .int f_arg0_rows, .long f_arg0_toldOpen, .long f_arg0_toldShut, .long f_arg0_stones, .long f_arg0_open, .long f_arg0_shut, .long f_arg0_free]))] → va_S A s.heap H locs → W p l e rm_X4_start s m args below meth c H locs 0 0 Q (F0 m 49 ls [])) → W p l e rm_X4_start s m args below meth c H locs 0 0 Q (F0 m 7 ls []) := by
    intro n
    induction n with
    | zero => intro x2 x3 x4 x h; exact (zi0 h).elim
    | succ n ih =>
      intro x2 x3 x4 x h H locs ls hl hP hD hS K49
      obtain ⟨r, hf, h⟩ := zis h
      have hf : zf_X4_start_l7 f_columns f_arg0_stones x2 x3 x4 = some r := hf
      have J43 : ∀ (x2 : Int32) (x3 : Int32) (x4 : Int32), zf_X4_start_43 x2 x3 x4 = some r → ∀ (H : Heap) (locs : List Loc) (ls : Array Slot), lv_has ls 5 [(0, .ref a_this), (1, .ref a_arg0), (2, .int x2), (3, .int x3), (4, .int x4)] → va_P D vwCl [(a_this, .inr (4, [.ref a_codes, .ref a_wetCells, .ref a_moves, .ref a_stepPipe, .ref a_stepSlot, .ref a_rowStart, .ref a_longer, .int f_columns, .int f_rows, .int f_size, .int f_steps])), (a_codes, .inl (y.1, 132, .inl c_codes)), (a_arg0, .inr (2, [.int f_arg0_columns, .int f_arg0_rows, .long f_arg0_toldOpen, .long f_arg0_toldShut, .long f_arg0_stones, .long f_arg0_open, .long f_arg0_shut, .long f_arg0_free]))] H → va_D A [(a_this, .inr (4, [.ref a_codes, .ref a_wetCells, .ref a_moves, .ref a_stepPipe, .ref a_stepSlot, .ref a_rowStart, .ref a_longer, .int f_columns, .int f_rows, .int f_size, .int f_steps])), (a_codes, .inl (y.1, 132, .inl c_codes)), (a_arg0, .inr (2, [.int f_arg0_columns, .int f_arg0_rows, .long f_arg0_toldOpen, .long f_arg0_toldShut, .long f_arg0_stones, .long f_arg0_open, .long f_arg0_shut, .long f_arg0_free]))] → va_S A s.heap H locs → W p l e rm_X4_start s m args below meth c H locs 0 0 Q (F0 m 43 ls []) := by
        intro x2 x3 x4 hf H locs ls hl hP hD hS
        unfold zf_X4_start_43 at hf
        refine lv_iinc (v := x4 + (1 : Int32)) (lv' := [(4, .int (x4 + (1 : Int32))), (0, .ref a_this), (1, .ref a_arg0), (2, .int x2), (3, .int x3)]) hx hb dX4_start_43 hl (k := 4) rfl rfl (by decide) rfl (fun ls hl => ?_)
        refine lv_goto (tgt := 7) hx hb dX4_start_46 (by decide) ?_
        obtain rfl := Option.some.inj hf
        exact ih x2 x3 (x4 + (1 : Int32)) x h _ _ _ (lv_sub hl [1, 2, 3, 4, 0] rfl) hP hD hS K49
      unfold zf_X4_start_l7 at hf
      refine lv_iload hx hb dX4_start_7 (lv_at hl 4 rfl) ?_
      refine lv_aload_n hx hb dX4_start_9 rfl (lv_at hl 0 rfl) ?_
      refine zget X hP 0 rfl rfl inF4 7 (by decide) q_85 rfl dX4_start_10 ?_
      refine lv_icmp_ge (tgt := 49) hx hb dX4_start_13 (by decide) (fun c13 => ?_) (fun c13 => ?_)
      · replace hf := zt c13 hf
        obtain rfl := Option.some.inj hf
        obtain rfl := Option.some.inj h
        exact K49 _ _ _ (lv_sub hl [0, 2] rfl) hP hD hS
      · replace hf := ze c13 hf
        refine lv_aload_n hx hb dX4_start_16 rfl (lv_at hl 1 rfl) ?_
        refine lv_iload hx hb dX4_start_17 (lv_at hl 4 rfl) ?_
        refine lv_iconst (v := 0) hx hb dX4_start_19 (by decide) ?_
        refine lv_iconst (v := 0) hx hb dX4_start_20 (by decide) ?_
        obtain ⟨o21, ho21, hf⟩ := zb hf
        refine zcS1 (wr := [(a_this, .inr (4, [.ref a_codes, .ref a_wetCells, .ref a_moves, .ref a_stepPipe, .ref a_stepSlot, .ref a_rowStart, .ref a_longer, .int f_columns, .int f_rows, .int f_size, .int f_steps])), (a_codes, .inl (y.1, 132, .inl c_codes)), (a_arg0, .inr (2, [.int f_arg0_columns, .int f_arg0_rows, .long f_arg0_toldOpen, .long f_arg0_toldShut, .long f_arg0_stones, .long f_arg0_open, .long f_arg0_shut, .long f_arg0_free]))]) (rest := [.ref a_arg0]) X (zc_X2_numberOf l D y x4 (0 : Int32) (0 : Int32) o21 ho21) kf_RX4_106 ⟨(Nat.le_of_ble_eq_true rfl), (Nat.le_of_ble_eq_true rfl)⟩ hP hD hS [] [0, 1, 2] rfl rfl rfl rfl (by decide) rfl rfl hl.1 (Nat.le_of_ble_eq_true rfl) dX4_start_21 ⟨(Nat.le_of_ble_eq_true rfl), (Nat.le_of_ble_eq_true rfl)⟩ (fun H locs hP hD hS => ?_)
        have hP : va_P D vwCl [(a_this, .inr (4, [.ref a_codes, .ref a_wetCells, .ref a_moves, .ref a_stepPipe, .ref a_stepSlot, .ref a_rowStart, .ref a_longer, .int f_columns, .int f_rows, .int f_size, .int f_steps])), (a_codes, .inl (y.1, 132, .inl c_codes)), (a_arg0, .inr (2, [.int f_arg0_columns, .int f_arg0_rows, .long f_arg0_toldOpen, .long f_arg0_toldShut, .long f_arg0_stones, .long f_arg0_open, .long f_arg0_shut, .long f_arg0_free]))] H := hP
        have hD : va_D A [(a_this, .inr (4, [.ref a_codes, .ref a_wetCells, .ref a_moves, .ref a_stepPipe, .ref a_stepSlot, .ref a_rowStart, .ref a_longer, .int f_columns, .int f_rows, .int f_size, .int f_steps])), (a_codes, .inl (y.1, 132, .inl c_codes)), (a_arg0, .inr (2, [.int f_arg0_columns, .int f_arg0_rows, .long f_arg0_toldOpen, .long f_arg0_toldShut, .long f_arg0_stones, .long f_arg0_open, .long f_arg0_shut, .long f_arg0_free]))] := hD
        obtain ⟨o24, ho24, hf⟩ := zb hf
        refine zcV1 (wr := [(a_this, .inr (4, [.ref a_codes, .ref a_wetCells, .ref a_moves, .ref a_stepPipe, .ref a_stepSlot, .ref a_rowStart, .ref a_longer, .int f_columns, .int f_rows, .int f_size, .int f_steps])), (a_codes, .inl (y.1, 132, .inl c_codes))]) (rest := []) X (zc_X2_isStone l D y a_arg0 f_arg0_columns f_arg0_rows f_arg0_toldOpen f_arg0_toldShut f_arg0_stones f_arg0_open f_arg0_shut f_arg0_free o21 o24 ho24) kf_RX4_116 ⟨(Nat.le_of_ble_eq_true rfl), (Nat.le_of_ble_eq_true rfl)⟩ hP hD hS [2] [0, 1] rfl rfl rfl rfl (by decide) 2 rfl rfl rfl rfl hl.1 (Nat.le_of_ble_eq_true rfl) dX4_start_24 ⟨(Nat.le_of_ble_eq_true rfl), (Nat.le_of_ble_eq_true rfl)⟩ (fun H locs hP hD hS => ?_)
        have hP : va_P D vwCl [(a_this, .inr (4, [.ref a_codes, .ref a_wetCells, .ref a_moves, .ref a_stepPipe, .ref a_stepSlot, .ref a_rowStart, .ref a_longer, .int f_columns, .int f_rows, .int f_size, .int f_steps])), (a_codes, .inl (y.1, 132, .inl c_codes)), (a_arg0, .inr (2, [.int f_arg0_columns, .int f_arg0_rows, .long f_arg0_toldOpen, .long f_arg0_toldShut, .long f_arg0_stones, .long f_arg0_open, .long f_arg0_shut, .long f_arg0_free]))] H := hP
        have hD : va_D A [(a_this, .inr (4, [.ref a_codes, .ref a_wetCells, .ref a_moves, .ref a_stepPipe, .ref a_stepSlot, .ref a_rowStart, .ref a_longer, .int f_columns, .int f_rows, .int f_size, .int f_steps])), (a_codes, .inl (y.1, 132, .inl c_codes)), (a_arg0, .inr (2, [.int f_arg0_columns, .int f_arg0_rows, .long f_arg0_toldOpen, .long f_arg0_toldShut, .long f_arg0_stones, .long f_arg0_open, .long f_arg0_shut, .long f_arg0_free]))] := hD
        refine lv_if_eq (tgt := 43) hx hb dX4_start_27 (by decide) (fun c27 => ?_) (fun c27 => ?_)
        · replace hf := zt c27 hf
          exact J43 x2 x3 x4 hf _ _ _ hl hP hD hS
        · replace hf := ze c27 hf
          refine lv_iload_n hx hb dX4_start_30 rfl (lv_at hl 2 rfl) ?_
          refine lv_iload_n hx hb dX4_start_31 rfl (lv_at hl 3 rfl) ?_
          refine lv_iload hx hb dX4_start_32 (lv_at hl 4 rfl) ?_
          obtain ⟨o34, ho34, hf⟩ := zb hf
          refine zcS1 (wr := [(a_this, .inr (4, [.ref a_codes, .ref a_wetCells, .ref a_moves, .ref a_stepPipe, .ref a_stepSlot, .ref a_rowStart, .ref a_longer, .int f_columns, .int f_rows, .int f_size, .int f_steps])), (a_codes, .inl (y.1, 132, .inl c_codes)), (a_arg0, .inr (2, [.int f_arg0_columns, .int f_arg0_rows, .long f_arg0_toldOpen, .long f_arg0_toldShut, .long f_arg0_stones, .long f_arg0_open, .long f_arg0_shut, .long f_arg0_free]))]) (rest := [.int x3, .int x2]) X (zc_X4_shiftOf l D y x4 o34 ho34) kf_RX4_67 ⟨(Nat.le_of_ble_eq_true rfl), (Nat.le_of_ble_eq_true rfl)⟩ hP hD hS [] [0, 1, 2] rfl rfl rfl rfl (by decide) rfl rfl hl.1 (Nat.le_of_ble_eq_true rfl) dX4_start_34 ⟨(Nat.le_of_ble_eq_true rfl), (Nat.le_of_ble_eq_true rfl)⟩ (fun H locs hP hD hS => ?_)
          have hP : va_P D vwCl [(a_this, .inr (4, [.ref a_codes, .ref a_wetCells, .ref a_moves, .ref a_stepPipe, .ref a_stepSlot, .ref a_rowStart, .ref a_longer, .int f_columns, .int f_rows, .int f_size, .int f_steps])), (a_codes, .inl (y.1, 132, .inl c_codes)), (a_arg0, .inr (2, [.int f_arg0_columns, .int f_arg0_rows, .long f_arg0_toldOpen, .long f_arg0_toldShut, .long f_arg0_stones, .long f_arg0_open, .long f_arg0_shut, .long f_arg0_free]))] H := hP
          have hD : va_D A [(a_this, .inr (4, [.ref a_codes, .ref a_wetCells, .ref a_moves, .ref a_stepPipe, .ref a_stepSlot, .ref a_rowStart, .ref a_longer, .int f_columns, .int f_rows, .int f_size, .int f_steps])), (a_codes, .inl (y.1, 132, .inl c_codes)), (a_arg0, .inr (2, [.int f_arg0_columns, .int f_arg0_rows, .long f_arg0_toldOpen, .long f_arg0_toldShut, .long f_arg0_stones, .long f_arg0_open, .long f_arg0_shut, .long f_arg0_free]))] := hD
          refine lv_ishl hx hb dX4_start_37 ?_
          refine lv_ior hx hb dX4_start_38 ?_
          refine lv_istore_n (lv' := [(2, .int (x2 ||| (zshl x3 o34))), (0, .ref a_this), (1, .ref a_arg0), (3, .int x3), (4, .int x4)]) hx hb dX4_start_39 rfl hl (by decide) rfl (fun ls hl => ?_)
          refine lv_iinc (v := x3 + (1 : Int32)) (lv' := [(3, .int (x3 + (1 : Int32))), (2, .int (x2 ||| (zshl x3 o34))), (0, .ref a_this), (1, .ref a_arg0), (4, .int x4)]) hx hb dX4_start_40 hl (k := 3) rfl rfl (by decide) rfl (fun ls hl => ?_)
          exact J43 (x2 ||| (zshl x3 o34)) (x3 + (1 : Int32)) x4 hf _ _ _ (lv_sub hl [2, 3, 1, 0, 4] rfl) hP hD hS
  unfold zf_X4_start at hf
  refine lv_iconst (v := 0) hx hb dX4_start_0 (by decide) ?_
  refine lv_istore_n (lv' := [(2, .int (0 : Int32)), (0, .ref a_this), (1, .ref a_arg0)]) hx hb dX4_start_1 rfl hl (by decide) rfl (fun ls hl => ?_)
  refine lv_iconst (v := 1) hx hb dX4_start_2 (by decide) ?_
  refine lv_istore_n (lv' := [(3, .int (1 : Int32)), (2, .int (0 : Int32)), (0, .ref a_this), (1, .ref a_arg0)]) hx hb dX4_start_3 rfl hl (by decide) rfl (fun ls hl => ?_)
  refine lv_iconst (v := 0) hx hb dX4_start_4 (by decide) ?_
  refine lv_istore (lv' := [(4, .int (0 : Int32)), (3, .int (1 : Int32)), (2, .int (0 : Int32)), (0, .ref a_this), (1, .ref a_arg0)]) hx hb dX4_start_5 hl (by decide) rfl (fun ls hl => ?_)
  obtain ⟨o7, ho7, hf⟩ := zb hf
  refine L7 zfu (0 : Int32) (1 : Int32) (0 : Int32) o7 ho7 _ _ _ (lv_sub hl [3, 4, 2, 1, 0] rfl) hP hD hS (fun H locs ls hl hP hD hS => ?_)
  refine lv_aload_n hx hb dX4_start_49 rfl (lv_at hl 0 rfl) ?_
  refine lv_iload_n hx hb dX4_start_50 rfl (lv_at hl 1 rfl) ?_
  obtain ⟨o51, ho51, hf⟩ := zb hf
  refine zcV1 (wr := [(a_arg0, .inr (2, [.int f_arg0_columns, .int f_arg0_rows, .long f_arg0_toldOpen, .long f_arg0_toldShut, .long f_arg0_stones, .long f_arg0_open, .long f_arg0_shut, .long f_arg0_free]))]) (rest := []) X (zc_X4_indexOf l D y a_this a_codes a_wetCells a_moves a_stepPipe a_stepSlot a_rowStart a_longer f_columns f_rows f_size f_steps c_codes o7 o51 ho51) kf_RX4_83 ⟨(Nat.le_of_ble_eq_true rfl), (Nat.le_of_ble_eq_true rfl)⟩ hP hD hS [0, 1] [2] rfl rfl rfl rfl (by decide) 0 rfl rfl rfl rfl hl.1 (Nat.le_of_ble_eq_true rfl) dX4_start_51 ⟨(Nat.le_of_ble_eq_true rfl), (Nat.le_of_ble_eq_true rfl)⟩ (fun H locs hP hD hS => ?_)
  have hP : va_P D vwCl [(a_arg0, .inr (2, [.int f_arg0_columns, .int f_arg0_rows, .long f_arg0_toldOpen, .long f_arg0_toldShut, .long f_arg0_stones, .long f_arg0_open, .long f_arg0_shut, .long f_arg0_free])), (a_this, .inr (4, [.ref a_codes, .ref a_wetCells, .ref a_moves, .ref a_stepPipe, .ref a_stepSlot, .ref a_rowStart, .ref a_longer, .int f_columns, .int f_rows, .int f_size, .int f_steps])), (a_codes, .inl (y.1, 132, .inl c_codes))] H := hP
  have hD : va_D A [(a_arg0, .inr (2, [.int f_arg0_columns, .int f_arg0_rows, .long f_arg0_toldOpen, .long f_arg0_toldShut, .long f_arg0_stones, .long f_arg0_open, .long f_arg0_shut, .long f_arg0_free])), (a_this, .inr (4, [.ref a_codes, .ref a_wetCells, .ref a_moves, .ref a_stepPipe, .ref a_stepSlot, .ref a_rowStart, .ref a_longer, .int f_columns, .int f_rows, .int f_size, .int f_steps])), (a_codes, .inl (y.1, 132, .inl c_codes))] := hD
  obtain rfl := Option.some.inj hf
  exact zreti X hQ (zPsub (is := [1, 2, 0]) hP rfl) (hD.sub [1, 2, 0] (by decide) rfl) hS ⟨rfl, rfl⟩ rfl dX4_start_54 (Nat.le_of_ble_eq_true rfl) (Nat.le_of_ble_eq_true rfl)


abbrev rm_X4_movesOpen : Room := { frames := 0, cells := 0, slots := 0, locals := 0 }
def zf_X4_movesOpen (x0 : Int32) : Option (Int32) :=
  if (zrem x0 (2 : Int32)) = 0 then (some (1 : Int32)) else (some (0 : Int32))
set_option maxHeartbeats 4000000 in
set_option maxRecDepth 100000 in
theorem zc_X4_movesOpen (l : Launch) (D : va_G) (y : zY) (x0 : Int32) (out : Int32) (hf : zf_X4_movesOpen x0 = some out) : zC l D y yX4_movesOpen cX4_movesOpen 1 (some .boolean) rm_X4_movesOpen [.int x0] [] (zE (some (.int out)) []) := by
  refine zmk (by decide) (Nat.le_of_ble_eq_true rfl) ?_
  intro p e s m args below meth c A Q ls X hQ hnm hP hD hS hl
  have X : zX p s m args meth c D y A RX4 cX4_movesOpen 1 (some .boolean) := X
  obtain ⟨hx, hb, hr, hml, hown, hts, hK, hA, hlocks⟩ := id X
  have hl : lv_has ls 1 [(0, .int x0)] := hl
  unfold zf_X4_movesOpen at hf
  refine lv_iload_n hx hb dX4_movesOpen_0 rfl (lv_at hl 0 rfl) ?_
  refine lv_iconst (v := 2) hx hb dX4_movesOpen_1 (by decide) ?_
  refine lv_irem hx hb dX4_movesOpen_2 (by decide) ?_
  refine lv_if_ne (tgt := 10) hx hb dX4_movesOpen_3 (by decide) (fun c3 => ?_) (fun c3 => ?_)
  · replace hf := ze c3 hf
    refine lv_iconst (v := 0) hx hb dX4_movesOpen_10 (by decide) ?_
    obtain rfl := Option.some.inj hf
    exact zreti X hQ hP hD hS ⟨rfl, rfl⟩ rfl dX4_movesOpen_11 (Nat.le_of_ble_eq_true rfl) (Nat.le_of_ble_eq_true rfl)
  · replace hf := zt c3 hf
    refine lv_iconst (v := 1) hx hb dX4_movesOpen_6 (by decide) ?_
    refine lv_goto (tgt := 11) hx hb dX4_movesOpen_7 (by decide) ?_
    obtain rfl := Option.some.inj hf
    exact zreti X hQ hP hD hS ⟨rfl, rfl⟩ rfl dX4_movesOpen_11 (Nat.le_of_ble_eq_true rfl) (Nat.le_of_ble_eq_true rfl)

theorem kf_RX4_120 : zCB RX4 120 yX4_movesOpen cX4_movesOpen 1 (some .boolean) 1 ∧ Cond.static yX4_movesOpen ∈ wAll := ⟨⟨q_465, q_3, q_463, by decide +kernel⟩, q_464⟩
abbrev rm_X4_movesAll : Room := { frames := 1, cells := 0, slots := 0, locals := 20 }
def zf_X4_movesAll_13 (s0 : Int32) (s1 : Int32) : Option (Int32) :=
  if s0 = s1 then (some (1 : Int32)) else (some (0 : Int32))
def zf_X4_movesAll (x0 : Int32) (x1 : Int32) : Option (Int32) :=
  (zf_X4_movesOpen x0).bind fun o2 =>
  if o2 = 0 then (zf_X4_movesAll_13 x1 (2 : Int32)) else (zf_X4_movesAll_13 x1 (1 : Int32))
set_option maxHeartbeats 4000000 in
set_option maxRecDepth 100000 in
theorem zc_X4_movesAll (l : Launch) (D : va_G) (y : zY) (x0 : Int32) (x1 : Int32) (out : Int32) (hf : zf_X4_movesAll x0 x1 = some out) : zC l D y yX4_movesAll cX4_movesAll 2 (some .boolean) rm_X4_movesAll [.int x0, .int x1] [] (zE (some (.int out)) []) := by
  refine zmk (by decide) (Nat.le_of_ble_eq_true rfl) ?_
  intro p e s m args below meth c A Q ls X hQ hnm hP hD hS hl
  have X : zX p s m args meth c D y A RX4 cX4_movesAll 2 (some .boolean) := X
  obtain ⟨hx, hb, hr, hml, hown, hts, hK, hA, hlocks⟩ := id X
  have hl : lv_has ls 2 [(0, .int x0), (1, .int x1)] := hl
  have J13 : ∀ (s0 : Int32) (s1 : Int32), zf_X4_movesAll_13 s0 s1 = some out → ∀ (H : Heap) (locs : List Loc) (ls : Array Slot), lv_has ls 2 [] → va_P D vwCl [] H → va_D A [] → va_S A s.heap H locs → W p l e rm_X4_movesAll s m args below meth c H locs 0 0 Q (F0 m 13 ls [.int s1, .int s0]) := by
    intro s0 s1 hf H locs ls hl hP hD hS
    unfold zf_X4_movesAll_13 at hf
    refine lv_icmp_ne (tgt := 20) hx hb dX4_movesAll_13 (by decide) (fun c13 => ?_) (fun c13 => ?_)
    · replace hf := ze c13 hf
      refine lv_iconst (v := 0) hx hb dX4_movesAll_20 (by decide) ?_
      obtain rfl := Option.some.inj hf
      exact zreti X hQ hP hD hS ⟨rfl, rfl⟩ rfl dX4_movesAll_21 (Nat.le_of_ble_eq_true rfl) (Nat.le_of_ble_eq_true rfl)
    · replace hf := zt c13 hf
      refine lv_iconst (v := 1) hx hb dX4_movesAll_16 (by decide) ?_
      refine lv_goto (tgt := 21) hx hb dX4_movesAll_17 (by decide) ?_
      obtain rfl := Option.some.inj hf
      exact zreti X hQ hP hD hS ⟨rfl, rfl⟩ rfl dX4_movesAll_21 (Nat.le_of_ble_eq_true rfl) (Nat.le_of_ble_eq_true rfl)
  unfold zf_X4_movesAll at hf
  refine lv_iload_n hx hb dX4_movesAll_0 rfl (lv_at hl 1 rfl) ?_
  refine lv_iload_n hx hb dX4_movesAll_1 rfl (lv_at hl 0 rfl) ?_
  obtain ⟨o2, ho2, hf⟩ := zb hf
  refine zcS1 (wr := []) (rest := [.int x1]) X (zc_X4_movesOpen l D y x0 o2 ho2) kf_RX4_120 ⟨(Nat.le_of_ble_eq_true rfl), (Nat.le_of_ble_eq_true rfl)⟩ hP hD hS [] [] rfl rfl rfl rfl (by decide) rfl rfl hl.1 (Nat.le_of_ble_eq_true rfl) dX4_movesAll_2 ⟨(Nat.le_of_ble_eq_true rfl), (Nat.le_of_ble_eq_true rfl)⟩ (fun H locs hP hD hS => ?_)
  have hP : va_P D vwCl [] H := hP
  have hD : va_D A [] := hD
  refine lv_if_eq (tgt := 12) hx hb dX4_movesAll_5 (by decide) (fun c5 => ?_) (fun c5 => ?_)
  · replace hf := zt c5 hf
    refine lv_iconst (v := 2) hx hb dX4_movesAll_12 (by decide) ?_
    exact J13 x1 (2 : Int32) hf _ _ _ (lv_sub hl [] rfl) hP hD hS
  · replace hf := ze c5 hf
    refine lv_iconst (v := 1) hx hb dX4_movesAll_8 (by decide) ?_
    refine lv_goto (tgt := 13) hx hb dX4_movesAll_9 (by decide) ?_
    exact J13 x1 (1 : Int32) hf _ _ _ (lv_sub hl [] rfl) hP hD hS


abbrev rm_X4_moved : Room := { frames := 0, cells := 0, slots := 0, locals := 0 }
def zf_X4_moved (c_moves : Nat → Int32) (x1 : Int32) (x2 : Int32) : Option (Int32) :=
  if zgd ((x1 * (132 : Int32)) + x2) 1188 = true then (some (c_moves ((x1 * (132 : Int32)) + x2).toNatClampNeg)) else none
set_option maxHeartbeats 4000000 in
set_option maxRecDepth 100000 in
theorem zc_X4_moved (l : Launch) (D : va_G) (y : zY) (a_this a_codes a_wetCells a_moves a_stepPipe a_stepSlot a_rowStart a_longer : Nat) (f_columns : Int32) (f_rows : Int32) (f_size : Int32) (f_steps : Int32) (c_moves : Nat → Int32) (x1 : Int32) (x2 : Int32) (out : Int32) (hf : zf_X4_moved c_moves x1 x2 = some out) : zC l D y yX4_moved cX4_moved 3 (some .int) rm_X4_moved [.ref a_this, .int x1, .int x2] [(a_this, .inr (4, [.ref a_codes, .ref a_wetCells, .ref a_moves, .ref a_stepPipe, .ref a_stepSlot, .ref a_rowStart, .ref a_longer, .int f_columns, .int f_rows, .int f_size, .int f_steps])), (a_moves, .inl (y.1, 1188, .inl c_moves))] (zE (some (.int out)) [(a_this, .inr (4, [.ref a_codes, .ref a_wetCells, .ref a_moves, .ref a_stepPipe, .ref a_stepSlot, .ref a_rowStart, .ref a_longer, .int f_columns, .int f_rows, .int f_size, .int f_steps])), (a_moves, .inl (y.1, 1188, .inl c_moves))]) := by
  refine zmk (by decide) (Nat.le_of_ble_eq_true rfl) ?_
  intro p e s m args below meth c A Q ls X hQ hnm hP hD hS hl
  have X : zX p s m args meth c D y A RX4 cX4_moved 3 (some .int) := X
  obtain ⟨hx, hb, hr, hml, hown, hts, hK, hA, hlocks⟩ := id X
  have hl : lv_has ls 3 [(0, .ref a_this), (1, .int x1), (2, .int x2)] := hl
  unfold zf_X4_moved at hf
  refine lv_aload_n hx hb dX4_moved_0 rfl (lv_at hl 0 rfl) ?_
  refine zget X hP 0 rfl rfl inF4 2 (by decide) q_73 rfl dX4_moved_1 ?_
  refine lv_iload_n hx hb dX4_moved_4 rfl (lv_at hl 1 rfl) ?_
  refine lv_sipush (v := 132) hx hb dX4_moved_5 (by decide) ?_
  refine lv_imul hx hb dX4_moved_8 ?_
  refine lv_iload_n hx hb dX4_moved_9 rfl (lv_at hl 2 rfl) ?_
  refine lv_iadd hx hb dX4_moved_10 ?_
  obtain ⟨g11, hf⟩ := zg hf
  refine va_iald hx hb hK hP 1 0 rfl rfl g11 dX4_moved_11 ?_
  obtain rfl := Option.some.inj hf
  exact zreti X hQ hP hD hS ⟨rfl, rfl⟩ rfl dX4_moved_12 (Nat.le_of_ble_eq_true rfl) (Nat.le_of_ble_eq_true rfl)


abbrev rm_X4_greatest : Room := { frames := 2, cells := 0, slots := 0, locals := 44 }
def zf_X4_greatest (f_columns : Int32) (c_codes : Nat → Int32) (x1 : Int32) : Option (Int32) :=
  if zgd x1 132 = true then ((zf_X4_greatestBefore (c_codes x1.toNatClampNeg) f_columns).bind fun o10 =>
  some o10) else none
set_option maxHeartbeats 4000000 in
set_option maxRecDepth 100000 in
theorem zc_X4_greatest (l : Launch) (D : va_G) (y : zY) (a_this a_codes a_wetCells a_moves a_stepPipe a_stepSlot a_rowStart a_longer : Nat) (f_columns : Int32) (f_rows : Int32) (f_size : Int32) (f_steps : Int32) (c_codes : Nat → Int32) (x1 : Int32) (out : Int32) (hf : zf_X4_greatest f_columns c_codes x1 = some out) : zC l D y yX4_greatest cX4_greatest 2 (some .int) rm_X4_greatest [.ref a_this, .int x1] [(a_this, .inr (4, [.ref a_codes, .ref a_wetCells, .ref a_moves, .ref a_stepPipe, .ref a_stepSlot, .ref a_rowStart, .ref a_longer, .int f_columns, .int f_rows, .int f_size, .int f_steps])), (a_codes, .inl (y.1, 132, .inl c_codes))] (zE (some (.int out)) [(a_this, .inr (4, [.ref a_codes, .ref a_wetCells, .ref a_moves, .ref a_stepPipe, .ref a_stepSlot, .ref a_rowStart, .ref a_longer, .int f_columns, .int f_rows, .int f_size, .int f_steps])), (a_codes, .inl (y.1, 132, .inl c_codes))]) := by
  refine zmk (by decide) (Nat.le_of_ble_eq_true rfl) ?_
  intro p e s m args below meth c A Q ls X hQ hnm hP hD hS hl
  have X : zX p s m args meth c D y A RX4 cX4_greatest 2 (some .int) := X
  obtain ⟨hx, hb, hr, hml, hown, hts, hK, hA, hlocks⟩ := id X
  have hl : lv_has ls 2 [(0, .ref a_this), (1, .int x1)] := hl
  unfold zf_X4_greatest at hf
  refine lv_aload_n hx hb dX4_greatest_0 rfl (lv_at hl 0 rfl) ?_
  refine zget X hP 0 rfl rfl inF4 0 (by decide) q_67 rfl dX4_greatest_1 ?_
  refine lv_iload_n hx hb dX4_greatest_4 rfl (lv_at hl 1 rfl) ?_
  obtain ⟨g5, hf⟩ := zg hf
  refine va_iald hx hb hK hP 1 0 rfl rfl g5 dX4_greatest_5 ?_
  refine lv_aload_n hx hb dX4_greatest_6 rfl (lv_at hl 0 rfl) ?_
  refine zget X hP 0 rfl rfl inF4 7 (by decide) q_85 rfl dX4_greatest_7 ?_
  obtain ⟨o10, ho10, hf⟩ := zb hf
  refine zcS1 (wr := [(a_this, .inr (4, [.ref a_codes, .ref a_wetCells, .ref a_moves, .ref a_stepPipe, .ref a_stepSlot, .ref a_rowStart, .ref a_longer, .int f_columns, .int f_rows, .int f_size, .int f_steps])), (a_codes, .inl (y.1, 132, .inl c_codes))]) (rest := []) X (zc_X4_greatestBefore l D y (c_codes x1.toNatClampNeg) f_columns o10 ho10) kf_RX4_60 ⟨(Nat.le_of_ble_eq_true rfl), (Nat.le_of_ble_eq_true rfl)⟩ hP hD hS [] [0, 1] rfl rfl rfl rfl (by decide) rfl rfl hl.1 (Nat.le_of_ble_eq_true rfl) dX4_greatest_10 ⟨(Nat.le_of_ble_eq_true rfl), (Nat.le_of_ble_eq_true rfl)⟩ (fun H locs hP hD hS => ?_)
  have hP : va_P D vwCl [(a_this, .inr (4, [.ref a_codes, .ref a_wetCells, .ref a_moves, .ref a_stepPipe, .ref a_stepSlot, .ref a_rowStart, .ref a_longer, .int f_columns, .int f_rows, .int f_size, .int f_steps])), (a_codes, .inl (y.1, 132, .inl c_codes))] H := hP
  have hD : va_D A [(a_this, .inr (4, [.ref a_codes, .ref a_wetCells, .ref a_moves, .ref a_stepPipe, .ref a_stepSlot, .ref a_rowStart, .ref a_longer, .int f_columns, .int f_rows, .int f_size, .int f_steps])), (a_codes, .inl (y.1, 132, .inl c_codes))] := hD
  obtain rfl := Option.some.inj hf
  exact zreti X hQ hP hD hS ⟨rfl, rfl⟩ rfl dX4_greatest_13 (Nat.le_of_ble_eq_true rfl) (Nat.le_of_ble_eq_true rfl)


abbrev rm_X2_hasPipe : Room := { frames := 0, cells := 0, slots := 0, locals := 0 }
def zf_X2_hasPipe_30 (x0 : Int32) (x1 : Int32) (x5 : Int32) (s0 : Int32) : Option (Int32) :=
  if x0 < 0 then (some (0 : Int32)) else (if x5 < x0 then (some (0 : Int32)) else (if x1 < 0 then (some (0 : Int32)) else (if s0 < x1 then (some (0 : Int32)) else (some (1 : Int32)))))
def zf_X2_hasPipe_13 (x0 : Int32) (x1 : Int32) (x2 : Int32) (x4 : Int32) (s0 : Int32) : Option (Int32) :=
  if x2 = 0 then (zf_X2_hasPipe_30 x0 x1 s0 (x4 - (1 : Int32))) else (zf_X2_hasPipe_30 x0 x1 s0 (x4 - (2 : Int32)))
def zf_X2_hasPipe (x0 : Int32) (x1 : Int32) (x2 : Int32) (x3 : Int32) (x4 : Int32) : Option (Int32) :=
  if x2 = 0 then (zf_X2_hasPipe_13 x0 x1 x2 x4 (x3 - (2 : Int32))) else (zf_X2_hasPipe_13 x0 x1 x2 x4 (x3 - (1 : Int32)))
set_option maxHeartbeats 4000000 in
set_option maxRecDepth 100000 in
theorem zc_X2_hasPipe (l : Launch) (D : va_G) (y : zY) (x0 : Int32) (x1 : Int32) (x2 : Int32) (x3 : Int32) (x4 : Int32) (out : Int32) (hf : zf_X2_hasPipe x0 x1 x2 x3 x4 = some out) : zC l D y yX2_hasPipe cX2_hasPipe 7 (some .boolean) rm_X2_hasPipe [.int x0, .int x1, .int x2, .int x3, .int x4] [] (zE (some (.int out)) []) := by
  refine zmk (by decide) (Nat.le_of_ble_eq_true rfl) ?_
  intro p e s m args below meth c A Q ls X hQ hnm hP hD hS hl
  have X : zX p s m args meth c D y A RX2 cX2_hasPipe 7 (some .boolean) := X
  obtain ⟨hx, hb, hr, hml, hown, hts, hK, hA, hlocks⟩ := id X
  have hl : lv_has ls 7 [(0, .int x0), (1, .int x1), (2, .int x2), (3, .int x3), (4, .int x4)] := hl
  have J30 : ∀ (x5 : Int32) (s0 : Int32), zf_X2_hasPipe_30 x0 x1 x5 s0 = some out → ∀ (H : Heap) (locs : List Loc) (ls : Array Slot), lv_has ls 7 [(0, .int x0), (1, .int x1), (5, .int x5)] → va_P D vwCl [] H → va_D A [] → va_S A s.heap H locs → W p l e rm_X2_hasPipe s m args below meth c H locs 0 0 Q (F0 m 30 ls [.int s0]) := by
    intro x5 s0 hf H locs ls hl hP hD hS
    unfold zf_X2_hasPipe_30 at hf
    refine lv_istore (lv' := [(6, .int s0), (0, .int x0), (1, .int x1), (5, .int x5)]) hx hb dX2_hasPipe_30 hl (by decide) rfl (fun ls hl => ?_)
    refine lv_iload_n hx hb dX2_hasPipe_32 rfl (lv_at hl 1 rfl) ?_
    refine lv_if_lt (tgt := 56) hx hb dX2_hasPipe_33 (by decide) (fun c33 => ?_) (fun c33 => ?_)
    · replace hf := zt c33 hf
      refine lv_iconst (v := 0) hx hb dX2_hasPipe_56 (by decide) ?_
      obtain rfl := Option.some.inj hf
      exact zreti X hQ hP hD hS ⟨rfl, rfl⟩ rfl dX2_hasPipe_57 (Nat.le_of_ble_eq_true rfl) (Nat.le_of_ble_eq_true rfl)
    · replace hf := ze c33 hf
      refine lv_iload_n hx hb dX2_hasPipe_36 rfl (lv_at hl 1 rfl) ?_
      refine lv_iload hx hb dX2_hasPipe_37 (lv_at hl 3 rfl) ?_
      refine lv_icmp_gt (tgt := 56) hx hb dX2_hasPipe_39 (by decide) (fun c39 => ?_) (fun c39 => ?_)
      · replace hf := zt c39 hf
        refine lv_iconst (v := 0) hx hb dX2_hasPipe_56 (by decide) ?_
        obtain rfl := Option.some.inj hf
        exact zreti X hQ hP hD hS ⟨rfl, rfl⟩ rfl dX2_hasPipe_57 (Nat.le_of_ble_eq_true rfl) (Nat.le_of_ble_eq_true rfl)
      · replace hf := ze c39 hf
        refine lv_iload_n hx hb dX2_hasPipe_42 rfl (lv_at hl 2 rfl) ?_
        refine lv_if_lt (tgt := 56) hx hb dX2_hasPipe_43 (by decide) (fun c43 => ?_) (fun c43 => ?_)
        · replace hf := zt c43 hf
          refine lv_iconst (v := 0) hx hb dX2_hasPipe_56 (by decide) ?_
          obtain rfl := Option.some.inj hf
          exact zreti X hQ hP hD hS ⟨rfl, rfl⟩ rfl dX2_hasPipe_57 (Nat.le_of_ble_eq_true rfl) (Nat.le_of_ble_eq_true rfl)
        · replace hf := ze c43 hf
          refine lv_iload_n hx hb dX2_hasPipe_46 rfl (lv_at hl 2 rfl) ?_
          refine lv_iload hx hb dX2_hasPipe_47 (lv_at hl 0 rfl) ?_
          refine lv_icmp_gt (tgt := 56) hx hb dX2_hasPipe_49 (by decide) (fun c49 => ?_) (fun c49 => ?_)
          · replace hf := zt c49 hf
            refine lv_iconst (v := 0) hx hb dX2_hasPipe_56 (by decide) ?_
            obtain rfl := Option.some.inj hf
            exact zreti X hQ hP hD hS ⟨rfl, rfl⟩ rfl dX2_hasPipe_57 (Nat.le_of_ble_eq_true rfl) (Nat.le_of_ble_eq_true rfl)
          · replace hf := ze c49 hf
            refine lv_iconst (v := 1) hx hb dX2_hasPipe_52 (by decide) ?_
            refine lv_goto (tgt := 57) hx hb dX2_hasPipe_53 (by decide) ?_
            obtain rfl := Option.some.inj hf
            exact zreti X hQ hP hD hS ⟨rfl, rfl⟩ rfl dX2_hasPipe_57 (Nat.le_of_ble_eq_true rfl) (Nat.le_of_ble_eq_true rfl)
  have J13 : ∀ (s0 : Int32), zf_X2_hasPipe_13 x0 x1 x2 x4 s0 = some out → ∀ (H : Heap) (locs : List Loc) (ls : Array Slot), lv_has ls 7 [(0, .int x0), (1, .int x1), (2, .int x2), (4, .int x4)] → va_P D vwCl [] H → va_D A [] → va_S A s.heap H locs → W p l e rm_X2_hasPipe s m args below meth c H locs 0 0 Q (F0 m 13 ls [.int s0]) := by
    intro s0 hf H locs ls hl hP hD hS
    unfold zf_X2_hasPipe_13 at hf
    refine lv_istore (lv' := [(5, .int s0), (0, .int x0), (1, .int x1), (2, .int x2), (4, .int x4)]) hx hb dX2_hasPipe_13 hl (by decide) rfl (fun ls hl => ?_)
    refine lv_iload_n hx hb dX2_hasPipe_15 rfl (lv_at hl 3 rfl) ?_
    refine lv_if_eq (tgt := 26) hx hb dX2_hasPipe_16 (by decide) (fun c16 => ?_) (fun c16 => ?_)
    · replace hf := zt c16 hf
      refine lv_iload hx hb dX2_hasPipe_26 (lv_at hl 4 rfl) ?_
      refine lv_iconst (v := 1) hx hb dX2_hasPipe_28 (by decide) ?_
      refine lv_isub hx hb dX2_hasPipe_29 ?_
      exact J30 s0 (x4 - (1 : Int32)) hf _ _ _ (lv_sub hl [1, 2, 0] rfl) hP hD hS
    · replace hf := ze c16 hf
      refine lv_iload hx hb dX2_hasPipe_19 (lv_at hl 4 rfl) ?_
      refine lv_iconst (v := 2) hx hb dX2_hasPipe_21 (by decide) ?_
      refine lv_isub hx hb dX2_hasPipe_22 ?_
      refine lv_goto (tgt := 30) hx hb dX2_hasPipe_23 (by decide) ?_
      exact J30 s0 (x4 - (2 : Int32)) hf _ _ _ (lv_sub hl [1, 2, 0] rfl) hP hD hS
  unfold zf_X2_hasPipe at hf
  refine lv_iload_n hx hb dX2_hasPipe_0 rfl (lv_at hl 2 rfl) ?_
  refine lv_if_eq (tgt := 10) hx hb dX2_hasPipe_1 (by decide) (fun c1 => ?_) (fun c1 => ?_)
  · replace hf := zt c1 hf
    refine lv_iload_n hx hb dX2_hasPipe_10 rfl (lv_at hl 3 rfl) ?_
    refine lv_iconst (v := 2) hx hb dX2_hasPipe_11 (by decide) ?_
    refine lv_isub hx hb dX2_hasPipe_12 ?_
    exact J13 (x3 - (2 : Int32)) hf _ _ _ (lv_sub hl [0, 1, 2, 4] rfl) hP hD hS
  · replace hf := ze c1 hf
    refine lv_iload_n hx hb dX2_hasPipe_4 rfl (lv_at hl 3 rfl) ?_
    refine lv_iconst (v := 1) hx hb dX2_hasPipe_5 (by decide) ?_
    refine lv_isub hx hb dX2_hasPipe_6 ?_
    refine lv_goto (tgt := 13) hx hb dX2_hasPipe_7 (by decide) ?_
    exact J13 (x3 - (1 : Int32)) hf _ _ _ (lv_sub hl [0, 1, 2, 4] rfl) hP hD hS

