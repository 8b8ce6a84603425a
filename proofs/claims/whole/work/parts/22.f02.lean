theorem kf_RX7_35 : zCB RX7 35 yX7_needsAll cX7_needsAll 4 (some .boolean) 1 ∧ Cond.instanceMethod yX7_needsAll ∈ wAll ∧ Cond.selects yX7_needsAll.cls yX7_needsAll yX7_needsAll ∈ wAll := ⟨⟨q_1115, q_6, q_1112, by decide +kernel⟩, q_1114, qp_44⟩
theorem kf_RX7_23 : zCB RX7 23 yX7_findStates cX7_findStates 6 (none : Option Jvm.ClassFile.FieldType) 0 ∧ Cond.instanceMethod yX7_findStates ∈ wAll ∧ Cond.selects yX7_findStates.cls yX7_findStates yX7_findStates ∈ wAll := ⟨⟨q_1092, q_6, q_1089, by decide +kernel⟩, q_1091, qp_40⟩
abbrev rm_X7_follow : Room := { frames := 3, cells := 0, slots := 0, locals := 75 }
def zf_X7_follow_55 (c_found : Nat → Int32) (x2 : Int32) (s1 : Int32) (s2 : Int32) : Option ((Int32 × (Nat → Int32)) ⊕ ((Nat → Int32))) :=
  if zgd s1 4096 = true then (some (.inl (x2 + (1 : Int32), upd c_found s1.toNatClampNeg s2))) else none
def zf_X7_follow_l20 (f_size : Int32) (c_lattice_wetCells : Nat → Int32) (x2 : Int32) (c_found : Nat → Int32) : Option ((Int32 × (Nat → Int32)) ⊕ ((Nat → Int32))) :=
  if f_size ≤ x2 then (some (.inr c_found)) else (if zgd x2 4096 = true then (if zgd (c_found x2.toNatClampNeg) 132 = true then (if (c_lattice_wetCells (c_found x2.toNatClampNeg).toNatClampNeg) = 0 then (zf_X7_follow_55 c_found x2 x2 (0 : Int32)) else (zf_X7_follow_55 c_found x2 x2 (1 : Int32))) else none) else none)
def zf_X7_follow_96 (c_found : Nat → Int32) (x2 : Int32) : Option ((Int32 × (Nat → Int32)) ⊕ ((Nat → Int32))) :=
  some (.inl (x2 + (1 : Int32), c_found))
def zf_X7_follow_l64 (f_size : Int32) (x2 : Int32) (c_found : Nat → Int32) : Option ((Int32 × (Nat → Int32)) ⊕ ((Nat → Int32))) :=
  if f_size ≤ x2 then (some (.inr c_found)) else (if zgd x2 4096 = true then (if (c_found x2.toNatClampNeg) = 0 then (zf_X7_follow_96 c_found x2) else ((zf_X7_needsAll c_found x2).bind fun o83 =>
  if o83 = 0 then (zf_X7_follow_96 c_found x2) else (if zgd x2 4096 = true then (zf_X7_follow_96 (upd c_found x2.toNatClampNeg (2 : Int32)) x2) else none))) else none)
def zf_X7_follow (f_grid : Option Nat) (f_size : Int32) (f_lattice_columns : Int32) (f_lattice_size : Int32) (f_lattice_steps : Int32) (f_arg0_stones : Int64) (f_arg0_open : Int64) (f_arg0_shut : Int64) (f_arg0_free : Int64) (c_found : Nat → Int32) (c_lattice_codes : Nat → Int32) (c_lattice_wetCells : Nat → Int32) (c_lattice_moves : Nat → Int32) (c_lattice_stepPipe : Nat → Int32) (c_lattice_stepSlot : Nat → Int32) (a_arg0 : Nat) : Option (Option Nat × Int32 × (Nat → Int32)) :=
  if f_grid = (some a_arg0) then (some (f_grid, f_size, c_found)) else ((zf_X7_findStates f_lattice_columns f_lattice_size f_lattice_steps f_arg0_stones f_arg0_open f_arg0_shut f_arg0_free c_found c_lattice_codes c_lattice_moves c_lattice_stepPipe c_lattice_stepSlot).bind fun o15 =>
  (zit (fun d => zf_X7_follow_l20 o15.1 c_lattice_wetCells d.1 d.2) zfu ((0 : Int32), o15.2)).bind fun o20 =>
  (zit (fun d => zf_X7_follow_l64 o15.1 d.1 d.2) zfu ((0 : Int32), o20)).bind fun o64 =>
  some (some a_arg0, o15.1, o64))
set_option maxHeartbeats 4000000 in
set_option maxRecDepth 100000 in
theorem zc_X7_follow (l : Launch) (D : va_G) (y : zY) (a_this a_lattice a_found a_lattice_codes a_lattice_wetCells a_lattice_moves a_lattice_stepPipe a_lattice_stepSlot a_lattice_rowStart a_lattice_longer a_arg0 : Nat) (f_grid : Option Nat) (f_size : Int32) (f_lattice_columns : Int32) (f_lattice_rows : Int32) (f_lattice_size : Int32) (f_lattice_steps : Int32) (f_arg0_columns : Int32) (f_arg0_rows : Int32) (f_arg0_toldOpen : Int64) (f_arg0_toldShut : Int64) (f_arg0_stones : Int64) (f_arg0_open : Int64) (f_arg0_shut : Int64) (f_arg0_free : Int64) (c_found : Nat → Int32) (c_lattice_codes : Nat → Int32) (c_lattice_wetCells : Nat → Int32) (c_lattice_moves : Nat → Int32) (c_lattice_stepPipe : Nat → Int32) (c_lattice_stepSlot : Nat → Int32) (out : Option Nat × Int32 × (Nat → Int32)) (hf : zf_X7_follow f_grid f_size f_lattice_columns f_lattice_size f_lattice_steps f_arg0_stones f_arg0_open f_arg0_shut f_arg0_free c_found c_lattice_codes c_lattice_wetCells c_lattice_moves c_lattice_stepPipe c_lattice_stepSlot a_arg0 = some out) : zC l D y yX7_follow cX7_follow 3 (none : Option Jvm.ClassFile.FieldType) rm_X7_follow [.ref a_this, .ref a_arg0] [(a_this, .inr (7, [.ref a_lattice, .ref a_found, va_rf f_grid, .int f_size])), (a_lattice, .inr (4, [.ref a_lattice_codes, .ref a_lattice_wetCells, .ref a_lattice_moves, .ref a_lattice_stepPipe, .ref a_lattice_stepSlot, .ref a_lattice_rowStart, .ref a_lattice_longer, .int f_lattice_columns, .int f_lattice_rows, .int f_lattice_size, .int f_lattice_steps])), (a_found, .inl (y.1, 4096, .inl c_found)), (a_lattice_codes, .inl (y.1, 132, .inl c_lattice_codes)), (a_lattice_wetCells, .inl (y.1, 132, .inl c_lattice_wetCells)), (a_lattice_moves, .inl (y.1, 1188, .inl c_lattice_moves)), (a_lattice_stepPipe, .inl (y.1, 40, .inl c_lattice_stepPipe)), (a_lattice_stepSlot, .inl (y.1, 40, .inl c_lattice_stepSlot)), (a_arg0, .inr (2, [.int f_arg0_columns, .int f_arg0_rows, .long f_arg0_toldOpen, .long f_arg0_toldShut, .long f_arg0_stones, .long f_arg0_open, .long f_arg0_shut, .long f_arg0_free]))] (zE none [(a_this, .inr (7, [.ref a_lattice, .ref a_found, va_rf out.1, .int out.2.1])), (a_lattice, .inr (4, [.ref a_lattice_codes, .ref a_lattice_wetCells, .ref a_lattice_moves, .ref a_lattice_stepPipe, .ref a_lattice_stepSlot, .ref a_lattice_rowStart, .ref a_lattice_longer, .int f_lattice_columns, .int f_lattice_rows, .int f_lattice_size, .int f_lattice_steps])), (a_found, .inl (y.1, 4096, .inl out.2.2)), (a_lattice_codes, .inl (y.1, 132, .inl c_lattice_codes)), (a_lattice_wetCells, .inl (y.1, 132, .inl c_lattice_wetCells)), (a_lattice_moves, .inl (y.1, 1188, .inl c_lattice_moves)), (a_lattice_stepPipe, .inl (y.1, 40, .inl c_lattice_stepPipe)), (a_lattice_stepSlot, .inl (y.1, 40, .inl c_lattice_stepSlot)), (a_arg0, .inr (2, [.int f_arg0_columns, .int f_arg0_rows, .long f_arg0_toldOpen, .long f_arg0_toldShut, .long f_arg0_stones, .long f_arg0_open, .long f_arg0_shut, .long f_arg0_free]))]) := by
  refine zmk (by decide) (Nat.le_of_ble_eq_true rfl) ?_
  intro p e s m args below meth c A Q ls X hQ hnm hP hD hS hl
  have X : zX p s m args meth c D y A RX7 cX7_follow 3 (none : Option Jvm.ClassFile.FieldType) := X
  obtain ⟨hx, hb, hr, hml, hown, hts, hK, hA, hlocks⟩ := id X
  have hl : lv_has ls 3 [(0, .ref a_this), (1, .ref a_arg0)] := hl
  have L20 : ∀ (n : Nat) (x2 : Int32) (f_size : Int32) (c_found : Nat → Int32) (x : (Nat → Int32)), zit (fun d => zf_X7_follow_l20 f_size c_lattice_wetCells d.1 d.2) n (x2, c_found) = some x → ∀ (H : Heap) (locs : List Loc) (ls : Array Slot), lv_has ls 3 [(0, .ref a_this), (2, .int x2)] → va_P D vwCl [(a_this, .inr (7, [.ref a_lattice, .ref a_found, .ref a_arg0, .int f_size])), (a_lattice, .inr (4, [.ref a_lattice_codes, .ref a_lattice_wetCells, .ref a_lattice_moves, .ref a_lattice_stepPipe, .ref a_lattice_stepSlot, .ref a_lattice_rowStart, .ref a_lattice_longer, .int f_lattice_columns, .int f_lattice_rows, .int f_lattice_size, .int f_lattice_steps])), (a_found, .inl (y.1, 4096, .inl c_found)), (a_lattice_codes, .inl (y.1, 132, .inl c_lattice_codes)), (a_lattice_wetCells, .inl (y.1, 132, .inl c_lattice_wetCells)), (a_lattice_moves, .inl (y.1, 1188, .inl c_lattice_moves)), (a_lattice_stepPipe, .inl (y.1, 40, .inl c_lattice_stepPipe)), (a_lattice_stepSlot, .inl (y.1, 40, .inl c_lattice_stepSlot)), (a_arg0, .inr (2, [.int f_arg0_columns, .int f_arg0_rows, .long f_arg0_toldOpen, .long f_arg0_toldShut, .long f_arg0_stones, .long f_arg0_open, .long f_arg0_shut, .long f_arg0_free]))] H → va_D A [(a_this, .inr (7, [.ref a_lattice, .ref a_found, .ref a_arg0, .int f_size])), (a_lattice, .inr (4, [.ref a_lattice_codes, .ref a_lattice_wetCells, .ref a_lattice_moves, .ref a_lattice_stepPipe, .ref a_lattice_stepSlot, .ref a_lattice_rowStart, .ref a_lattice_longer, .int f_lattice_columns, .int f_lattice_rows, .int f_lattice_size, .int f_lattice_steps])), (a_found, .inl (y.1, 4096, .inl c_found)), (a_lattice_codes, .inl (y.1, 132, .inl c_lattice_codes)), (a_lattice_wetCells, .inl (y.1, 132, .inl c_lattice_wetCells)), (a_lattice_moves, .inl (y.1, 1188, .inl c_lattice_moves)), (a_lattice_stepPipe, .inl (y.1, 40, .inl c_lattice_stepPipe)), (a_lattice_stepSlot, .inl (y.1, 40, .inl c_lattice_stepSlot)), (a_arg0, .inr (2, [.int f_arg0_columns, .int f_arg0_rows, .long f_arg0_toldOpen, .long f_arg0_toldShut, .long f_arg0_stones, .long f_arg0_open, .long f_arg0_shut, .long f_arg0_free]))] → va_S A s.heap H locs → (∀ (H : Heap) (locs : List Loc) (ls : Array Slot), lv_has ls 3 [(0, .ref a_this)] → va_P D vwCl [(a_this, .inr (7, [.ref a_lattice, .ref a_found, .ref a_arg0, .int f_size])), (a_lattice, .inr (4, [.ref a_lattice_codes, .ref a_lattice_wetCells, .ref a_lattice_moves, .ref a_lattice_stepPipe, .ref a_lattice_stepSlot, .ref a_lattice_rowStart, .ref a_lattice_longer, .int f_lattice_columns, .int f_lattice_rows, .int f_lattice_size, .int f_lattice_steps])), (a_found, .inl (y.1, 4096, .inl x)), (a_lattice_codes, .inl (y.1, 132, .inl c_lattice_codes)), (a_lattice_wetCells, .inl (y.1, 132, .inl c_lattice_wetCells)), (a_lattice_moves, .inl (y.1, 1188, .inl c_lattice_moves)), (a_lattice_stepPipe, .inl (y.1, 40, .inl c_lattice_stepPipe)), (a_lattice_stepSlot, .inl (y.1, 40, .inl c_lattice_stepSlot)), (a_arg0, .inr (2, [.int f_arg0_columns, .int f_arg0_rows, .long f_arg0_toldOpen, .long f_arg0_toldShut, .long f_arg0_stones, .long f_arg0_open, .long f_arg0_shut, .long f_arg0_free]))] H → va_D A [(a_this, .inr (7, [.ref a_lattice, .ref a_found, .ref a_arg0, .int f_size])), (a_lattice, .inr (4, [.ref a_lattice_codes, .ref a_lattice_wetCells, .ref a_lattice_moves, .ref a_lattice_stepPipe, .ref a_lattice_stepSlot, .ref a_lattice_rowStart, .ref a_lattice_longer, .int f_lattice_columns, .int f_lattice_rows, .int f_lattice_size, .int f_lattice_steps])), (a_found, .inl (y.1, 4096, .inl x)), (a_lattice_codes, .inl (y.1, 132, .inl c_lattice_codes)), (a_lattice_wetCells, .inl (y.1, 132, .inl c_lattice_wetCells)), (a_lattice_moves, .inl (y.1, 1188, .inl c_lattice_moves)), (a_lattice_stepPipe, .inl (y.1, 40, .inl c_lattice_stepPipe)), (a_lattice_stepSlot, .inl (y.1, 40, .inl c_lattice_stepSlot)), (a_arg0, .inr (2, [.int f_arg0_columns, .int f_arg0_rows, .long f_arg0_toldOpen, .long f_arg0_toldShut, .long f_arg0_stones, .long f_arg0_open, .long f_arg0_shut, .long f_arg0_free]))] → va_S A s.heap H locs → W p l e rm_X7_follow s m args below meth c H locs 0 0 Q (F0 m 62 ls [])) → W p l e rm_X7_follow s m args below meth c H locs 0 0 Q (F0 m 20 ls []) := by
    intro n
    induction n with
    | zero => intro x2 f_size c_found x h; exact (zi0 h).elim
    | succ n ih =>
      intro x2 f_size c_found x h H locs ls hl hP hD hS K62
      obtain ⟨r, hf, h⟩ := zis h
      have hf : zf_X7_follow_l20 f_size c_lattice_wetCells x2 c_found = some r := hf
      have J55 : ∀ (x2 : Int32) (s1 : Int32) (s2 : Int32) (c_found : Nat → Int32), zf_X7_follow_55 c_found x2 s1 s2 = some r → ∀ (H : Heap) (locs : List Loc) (ls : Array Slot), lv_has ls 3 [(0, .ref a_this), (2, .int x2)] → va_P D vwCl [(a_this, .inr (7, [.ref a_lattice, .ref a_found, .ref a_arg0, .int f_size])), (a_lattice, .inr (4, [.ref a_lattice_codes, .ref a_lattice_wetCells, .ref a_lattice_moves, .ref a_lattice_stepPipe, .ref a_lattice_stepSlot, .ref a_lattice_rowStart, .ref a_lattice_longer, .int f_lattice_columns, .int f_lattice_rows, .int f_lattice_size, .int f_lattice_steps])), (a_found, .inl (y.1, 4096, .inl c_found)), (a_lattice_codes, .inl (y.1, 132, .inl c_lattice_codes)), (a_lattice_wetCells, .inl (y.1, 132, .inl c_lattice_wetCells)), (a_lattice_moves, .inl (y.1, 1188, .inl c_lattice_moves)), (a_lattice_stepPipe, .inl (y.1, 40, .inl c_lattice_stepPipe)), (a_lattice_stepSlot, .inl (y.1, 40, .inl c_lattice_stepSlot)), (a_arg0, .inr (2, [.int f_arg0_columns, .int f_arg0_rows, .long f_arg0_toldOpen, .long f_arg0_toldShut, .long f_arg0_stones, .long f_arg0_open, .long f_arg0_shut, .long f_arg0_free]))] H → va_D A [(a_this, .inr (7, [.ref a_lattice, .ref a_found, .ref a_arg0, .int f_size])), (a_lattice, .inr (4, [.ref a_lattice_codes, .ref a_lattice_wetCells, .ref a_lattice_moves, .ref a_lattice_stepPipe, .ref a_lattice_stepSlot, .ref a_lattice_rowStart, .ref a_lattice_longer, .int f_lattice_columns, .int f_lattice_rows, .int f_lattice_size, .int f_lattice_steps])), (a_found, .inl (y.1, 4096, .inl c_found)), (a_lattice_codes, .inl (y.1, 132, .inl c_lattice_codes)), (a_lattice_wetCells, .inl (y.1, 132, .inl c_lattice_wetCells)), (a_lattice_moves, .inl (y.1, 1188, .inl c_lattice_moves)), (a_lattice_stepPipe, .inl (y.1, 40, .inl c_lattice_stepPipe)), (a_lattice_stepSlot, .inl (y.1, 40, .inl c_lattice_stepSlot)), (a_arg0, .inr (2, [.int f_arg0_columns, .int f_arg0_rows, .long f_arg0_toldOpen, .long f_arg0_toldShut, .long f_arg0_stones, .long f_arg0_open, .long f_arg0_shut, .long f_arg0_free]))] → va_S A s.heap H locs → W p l e rm_X7_follow s m args below meth c H locs 0 0 Q (F0 m 55 ls [.int s2, .int s1, .ref a_found]) := by
        intro x2 s1 s2 c_found hf H locs ls hl hP hD hS
        unfold zf_X7_follow_55 at hf
        obtain ⟨g55, hf⟩ := zg hf
        refine va_iast hx hb hK hP hD hS 2 0 rfl rfl g55 dX7_follow_55 (fun H locs hP hD hS => ?_)
        have hP : va_P D vwCl [(a_this, .inr (7, [.ref a_lattice, .ref a_found, .ref a_arg0, .int f_size])), (a_lattice, .inr (4, [.ref a_lattice_codes, .ref a_lattice_wetCells, .ref a_lattice_moves, .ref a_lattice_stepPipe, .ref a_lattice_stepSlot, .ref a_lattice_rowStart, .ref a_lattice_longer, .int f_lattice_columns, .int f_lattice_rows, .int f_lattice_size, .int f_lattice_steps])), (a_found, .inl (y.1, 4096, .inl (upd c_found s1.toNatClampNeg s2))), (a_lattice_codes, .inl (y.1, 132, .inl c_lattice_codes)), (a_lattice_wetCells, .inl (y.1, 132, .inl c_lattice_wetCells)), (a_lattice_moves, .inl (y.1, 1188, .inl c_lattice_moves)), (a_lattice_stepPipe, .inl (y.1, 40, .inl c_lattice_stepPipe)), (a_lattice_stepSlot, .inl (y.1, 40, .inl c_lattice_stepSlot)), (a_arg0, .inr (2, [.int f_arg0_columns, .int f_arg0_rows, .long f_arg0_toldOpen, .long f_arg0_toldShut, .long f_arg0_stones, .long f_arg0_open, .long f_arg0_shut, .long f_arg0_free]))] H := hP
        have hD : va_D A [(a_this, .inr (7, [.ref a_lattice, .ref a_found, .ref a_arg0, .int f_size])), (a_lattice, .inr (4, [.ref a_lattice_codes, .ref a_lattice_wetCells, .ref a_lattice_moves, .ref a_lattice_stepPipe, .ref a_lattice_stepSlot, .ref a_lattice_rowStart, .ref a_lattice_longer, .int f_lattice_columns, .int f_lattice_rows, .int f_lattice_size, .int f_lattice_steps])), (a_found, .inl (y.1, 4096, .inl (upd c_found s1.toNatClampNeg s2))), (a_lattice_codes, .inl (y.1, 132, .inl c_lattice_codes)), (a_lattice_wetCells, .inl (y.1, 132, .inl c_lattice_wetCells)), (a_lattice_moves, .inl (y.1, 1188, .inl c_lattice_moves)), (a_lattice_stepPipe, .inl (y.1, 40, .inl c_lattice_stepPipe)), (a_lattice_stepSlot, .inl (y.1, 40, .inl c_lattice_stepSlot)), (a_arg0, .inr (2, [.int f_arg0_columns, .int f_arg0_rows, .long f_arg0_toldOpen, .long f_arg0_toldShut, .long f_arg0_stones, .long f_arg0_open, .long f_arg0_shut, .long f_arg0_free]))] := hD
        refine lv_iinc (v := x2 + (1 : Int32)) (lv' := [(2, .int (x2 + (1 : Int32))), (0, .ref a_this)]) hx hb dX7_follow_56 hl (k := 1) rfl rfl (by decide) rfl (fun ls hl => ?_)
        refine lv_goto (tgt := 20) hx hb dX7_follow_59 (by decide) ?_
        obtain rfl := Option.some.inj hf
        exact ih (x2 + (1 : Int32)) f_size (upd c_found s1.toNatClampNeg s2) x h _ _ _ (lv_sub hl [1, 0] rfl) hP hD hS K62
      unfold zf_X7_follow_l20 at hf
      refine lv_iload_n hx hb dX7_follow_20 rfl (lv_at hl 1 rfl) ?_
      refine lv_aload_n hx hb dX7_follow_21 rfl (lv_at hl 0 rfl) ?_
      refine zget X hP 0 rfl rfl inF7 3 (by decide) q_188 rfl dX7_follow_22 ?_
      refine lv_icmp_ge (tgt := 62) hx hb dX7_follow_25 (by decide) (fun c25 => ?_) (fun c25 => ?_)
      · replace hf := zt c25 hf
        obtain rfl := Option.some.inj hf
        obtain rfl := Option.some.inj h
        exact K62 _ _ _ (lv_sub hl [0] rfl) hP hD hS
      · replace hf := ze c25 hf
        refine lv_aload_n hx hb dX7_follow_28 rfl (lv_at hl 0 rfl) ?_
        refine zget X hP 0 rfl rfl inF7 1 (by decide) q_186 rfl dX7_follow_29 ?_
        refine lv_iload_n hx hb dX7_follow_32 rfl (lv_at hl 1 rfl) ?_
        refine lv_aload_n hx hb dX7_follow_33 rfl (lv_at hl 0 rfl) ?_
        refine zget X hP 0 rfl rfl inF7 0 (by decide) q_185 rfl dX7_follow_34 ?_
        refine zget X hP 1 rfl rfl inF4 1 (by decide) q_69 rfl dX7_follow_37 ?_
        refine lv_aload_n hx hb dX7_follow_40 rfl (lv_at hl 0 rfl) ?_
        refine zget X hP 0 rfl rfl inF7 1 (by decide) q_186 rfl dX7_follow_41 ?_
        refine lv_iload_n hx hb dX7_follow_44 rfl (lv_at hl 1 rfl) ?_
        obtain ⟨g45, hf⟩ := zg hf
        refine va_iald hx hb hK hP 2 0 rfl rfl g45 dX7_follow_45 ?_
        obtain ⟨g46, hf⟩ := zg hf
        refine va_iald hx hb hK hP 4 0 rfl rfl g46 dX7_follow_46 ?_
        refine lv_if_eq (tgt := 54) hx hb dX7_follow_47 (by decide) (fun c47 => ?_) (fun c47 => ?_)
        · replace hf := zt c47 hf
          refine lv_iconst (v := 0) hx hb dX7_follow_54 (by decide) ?_
          exact J55 x2 x2 (0 : Int32) c_found hf _ _ _ hl hP hD hS
        · replace hf := ze c47 hf
          refine lv_iconst (v := 1) hx hb dX7_follow_50 (by decide) ?_
          refine lv_goto (tgt := 55) hx hb dX7_follow_51 (by decide) ?_
          exact J55 x2 x2 (1 : Int32) c_found hf _ _ _ hl hP hD hS
  have L64 : ∀ (n : Nat) (x2 : Int32) (f_size : Int32) (c_found : Nat → Int32) (x : (Nat → Int32)), zit (fun d => zf_X7_follow_l64 f_size d.1 d.2) n (x2, c_found) = some x → ∀ (H : Heap) (locs : List Loc) (ls : Array Slot), lv_has ls 3 [(0, .ref a_this), (2, .int x2)] → va_P D vwCl [(a_this, .inr (7, [.ref a_lattice, .ref a_found, .ref a_arg0, .int f_size])), (a_lattice, .inr (4, [.ref a_lattice_codes, .ref a_lattice_wetCells, .ref a_lattice_moves, .ref a_lattice_stepPipe, .ref a_lattice_stepSlot, .ref a_lattice_rowStart, .ref a_lattice_longer, .int f_lattice_columns, .int f_lattice_rows, .int f_lattice_size, .int f_lattice_steps])), (a_found, .inl (y.1, 4096, .inl c_found)), (a_lattice_codes, .inl (y.1, 132, .inl c_lattice_codes)), (a_lattice_wetCells, .inl (y.1, 132, .inl c_lattice_wetCells)), (a_lattice_moves, .inl (y.1, 1188, .inl c_lattice_moves)), (a_lattice_stepPipe, .inl (y.1, 40, .inl c_lattice_stepPipe)), (a_lattice_stepSlot, .inl (y.1, 40, .inl c_lattice_stepSlot)), (a_arg0, .inr (2, [.int f_arg0_columns, .int f_arg0_rows, .long f_arg0_toldOpen, .long f_arg0_toldShut, .long f_arg0_stones, .long f_arg0_open, .long f_arg0_shut, .long f_arg0_free]))] H → va_D A [(a_this, .inr (7, [.ref a_lattice, .ref a_found, .ref a_arg0, .int f_size])), (a_lattice, .inr (4, [.ref a_lattice_codes, .ref a_lattice_wetCells, .ref a_lattice_moves, .ref a_lattice_stepPipe, .ref a_lattice_stepSlot, .ref a_lattice_rowStart, .ref a_lattice_longer, .int f_lattice_columns, .int f_lattice_rows, .int f_lattice_size, .int f_lattice_steps])), (a_found, .inl (y.1, 4096, .inl c_found)), (a_lattice_codes, .inl (y.1, 132, .inl c_lattice_codes)), (a_lattice_wetCells, .inl (y.1, 132, .inl c_lattice_wetCells)), (a_lattice_moves, .inl (y.1, 1188, .inl c_lattice_moves)), (a_lattice_stepPipe, .inl (y.1, 40, .inl c_lattice_stepPipe)), (a_lattice_stepSlot, .inl (y.1, 40, .inl c_lattice_stepSlot)), (a_arg0, .inr (2, [.int f_arg0_columns, .int f_arg0_rows, .long f_arg0_toldOpen, .long f_arg0_toldShut, .long f_arg0_stones, .long f_arg0_open, .long f_arg0_shut, .long f_arg0_free]))] → va_S A s.heap H locs → (∀ (H : Heap) (locs : List Loc) (ls : Array Slot), lv_has ls 3 [] → va_P D vwCl [(a_this, .inr (7, [.ref a_lattice, .ref a_found, .ref a_arg0, .int f_size])), (a_lattice, .inr (4, [.ref a_lattice_codes, .ref a_lattice_wetCells, .ref a_lattice_moves, .ref a_lattice_stepPipe, .ref a_lattice_stepSlot, .ref a_lattice_rowStart, .ref a_lattice_longer, .int f_lattice_columns, .int f_lattice_rows, .int f_lattice_size, .int f_lattice_steps])), (a_found, .inl (y.1, 4096, .inl x)), (a_lattice_codes, .inl (y.1, 132, .inl c_lattice_codes)), (a_lattice_wetCells, .inl (y.1, 132, .inl c_lattice_wetCells)), (a_lattice_moves, .inl (y.1, 1188, .inl c_lattice_moves)), (a_lattice_stepPipe, .inl (y.1, 40, .inl c_lattice_stepPipe)), (a_lattice_stepSlot, .inl (y.1, 40, .inl c_lattice_stepSlot)), (a_arg0, .inr (2, [.int f_arg0_columns, .int f_arg0_rows, .long f_arg0_toldOpen, .long f_arg0_toldShut, .long f_arg0_stones, .long f_arg0_open, .long f_arg0_shut, .long f_arg0_free]))] H → va_D A [(a_this, .inr (7, [.ref a_lattice, .ref a_found, .ref a_arg0, .int f_size])), (a_lattice, .inr (4, [.ref a_lattice_codes, .ref a_lattice_wetCells, .ref a_lattice_moves, .ref a_lattice_stepPipe, .ref a_lattice_stepSlot, .ref a_lattice_rowStart, .ref a_lattice_longer, .int f_lattice_columns, .int f_lattice_rows, .int f_lattice_size, .int f_lattice_steps])), (a_found, .inl (y.1, 4096, .inl x)), (a_lattice_codes, .inl (y.1, 132, .inl c_lattice_codes)), (a_lattice_wetCells, .inl (y.1, 132, .inl c_lattice_wetCells)), (a_lattice_moves, .inl (y.1, 1188, .inl c_lattice_moves)), (a_lattice_stepPipe, .inl (y.1, 40, .inl c_lattice_stepPipe)), (a_lattice_stepSlot, .inl (y.1, 40, .inl c_lattice_stepSlot)), (a_arg0, .inr (2, [.int f_arg0_columns, .int f_arg0_rows, .long f_arg0_toldOpen, .long f_arg0_toldShut, .long f_arg0_stones, .long f_arg0_open, .long f_arg0_shut, .long f_arg0_free]))] → va_S A s.heap H locs → W p l e rm_X7_follow s m args below meth c H locs 0 0 Q (F0 m 102 ls [])) → W p l e rm_X7_follow s m args below meth c H locs 0 0 Q (F0 m 64 ls []) := by
    intro n
    induction n with
    | zero => intro x2 f_size c_found x h; exact (zi0 h).elim
    | succ n ih =>
      intro x2 f_size c_found x h H locs ls hl hP hD hS K102
      obtain ⟨r, hf, h⟩ := zis h
      have hf : zf_X7_follow_l64 f_size x2 c_found = some r := hf
      have J96 : ∀ (x2 : Int32) (c_found : Nat → Int32), zf_X7_follow_96 c_found x2 = some r → ∀ (H : Heap) (locs : List Loc) (ls : Array Slot), lv_has ls 3 [(0, .ref a_this), (2, .int x2)] → va_P D vwCl [(a_this, .inr (7, [.ref a_lattice, .ref a_found, .ref a_arg0, .int f_size])), (a_lattice, .inr (4, [.ref a_lattice_codes, .ref a_lattice_wetCells, .ref a_lattice_moves, .ref a_lattice_stepPipe, .ref a_lattice_stepSlot, .ref a_lattice_rowStart, .ref a_lattice_longer, .int f_lattice_columns, .int f_lattice_rows, .int f_lattice_size, .int f_lattice_steps])), (a_found, .inl (y.1, 4096, .inl c_found)), (a_lattice_codes, .inl (y.1, 132, .inl c_lattice_codes)), (a_lattice_wetCells, .inl (y.1, 132, .inl c_lattice_wetCells)), (a_lattice_moves, .inl (y.1, 1188, .inl c_lattice_moves)), (a_lattice_stepPipe, .inl (y.1, 40, .inl c_lattice_stepPipe)), (a_lattice_stepSlot, .inl (y.1, 40, .inl c_lattice_stepSlot)), (a_arg0, .inr (2, [.int f_arg0_columns, .int f_arg0_rows, .long f_arg0_toldOpen, .long f_arg0_toldShut, .long f_arg0_stones, .long f_arg0_open, .long f_arg0_shut, .long f_arg0_free]))] H → va_D A [(a_this, .inr (7, [.ref a_lattice, .ref a_found, .ref a_arg0, .int f_size])), (a_lattice, .inr (4, [.ref a_lattice_codes, .ref a_lattice_wetCells, .ref a_lattice_moves, .ref a_lattice_stepPipe, .ref a_lattice_stepSlot, .ref a_lattice_rowStart, .ref a_lattice_longer, .int f_lattice_columns, .int f_lattice_rows, .int f_lattice_size, .int f_lattice_steps])), (a_found, .inl (y.1, 4096, .inl c_found)), (a_lattice_codes, .inl (y.1, 132, .inl c_lattice_codes)), (a_lattice_wetCells, .inl (y.1, 132, .inl c_lattice_wetCells)), (a_lattice_moves, .inl (y.1, 1188, .inl c_lattice_moves)), (a_lattice_stepPipe, .inl (y.1, 40, .inl c_lattice_stepPipe)), (a_lattice_stepSlot, .inl (y.1, 40, .inl c_lattice_stepSlot)), (a_arg0, .inr (2, [.int f_arg0_columns, .int f_arg0_rows, .long f_arg0_toldOpen, .long f_arg0_toldShut, .long f_arg0_stones, .long f_arg0_open, .long f_arg0_shut, .long f_arg0_free]))] → va_S A s.heap H locs → W p l e rm_X7_follow s m args below meth c H locs 0 0 Q (F0 m 96 ls []) := by
        intro x2 c_found hf H locs ls hl hP hD hS
        unfold zf_X7_follow_96 at hf
        refine lv_iinc (v := x2 + (1 : Int32)) (lv' := [(2, .int (x2 + (1 : Int32))), (0, .ref a_this)]) hx hb dX7_follow_96 hl (k := 1) rfl rfl (by decide) rfl (fun ls hl => ?_)
        refine lv_goto (tgt := 64) hx hb dX7_follow_99 (by decide) ?_
        obtain rfl := Option.some.inj hf
        exact ih (x2 + (1 : Int32)) f_size c_found x h _ _ _ (lv_sub hl [1, 0] rfl) hP hD hS K102
      unfold zf_X7_follow_l64 at hf
      refine lv_iload_n hx hb dX7_follow_64 rfl (lv_at hl 1 rfl) ?_
      refine lv_aload_n hx hb dX7_follow_65 rfl (lv_at hl 0 rfl) ?_
      refine zget X hP 0 rfl rfl inF7 3 (by decide) q_188 rfl dX7_follow_66 ?_
      refine lv_icmp_ge (tgt := 102) hx hb dX7_follow_69 (by decide) (fun c69 => ?_) (fun c69 => ?_)
      · replace hf := zt c69 hf
        obtain rfl := Option.some.inj hf
        obtain rfl := Option.some.inj h
        exact K102 _ _ _ (lv_sub hl [] rfl) hP hD hS
      · replace hf := ze c69 hf
        refine lv_aload_n hx hb dX7_follow_72 rfl (lv_at hl 0 rfl) ?_
        refine zget X hP 0 rfl rfl inF7 1 (by decide) q_186 rfl dX7_follow_73 ?_
        refine lv_iload_n hx hb dX7_follow_76 rfl (lv_at hl 1 rfl) ?_
        obtain ⟨g77, hf⟩ := zg hf
        refine va_iald hx hb hK hP 2 0 rfl rfl g77 dX7_follow_77 ?_
        refine lv_if_eq (tgt := 96) hx hb dX7_follow_78 (by decide) (fun c78 => ?_) (fun c78 => ?_)
        · replace hf := zt c78 hf
          exact J96 x2 c_found hf _ _ _ hl hP hD hS
        · replace hf := ze c78 hf
          refine lv_aload_n hx hb dX7_follow_81 rfl (lv_at hl 0 rfl) ?_
          refine lv_iload_n hx hb dX7_follow_82 rfl (lv_at hl 1 rfl) ?_
          obtain ⟨o83, ho83, hf⟩ := zb hf
          refine zcV1 (wr := [(a_lattice, .inr (4, [.ref a_lattice_codes, .ref a_lattice_wetCells, .ref a_lattice_moves, .ref a_lattice_stepPipe, .ref a_lattice_stepSlot, .ref a_lattice_rowStart, .ref a_lattice_longer, .int f_lattice_columns, .int f_lattice_rows, .int f_lattice_size, .int f_lattice_steps])), (a_lattice_codes, .inl (y.1, 132, .inl c_lattice_codes)), (a_lattice_wetCells, .inl (y.1, 132, .inl c_lattice_wetCells)), (a_lattice_moves, .inl (y.1, 1188, .inl c_lattice_moves)), (a_lattice_stepPipe, .inl (y.1, 40, .inl c_lattice_stepPipe)), (a_lattice_stepSlot, .inl (y.1, 40, .inl c_lattice_stepSlot)), (a_arg0, .inr (2, [.int f_arg0_columns, .int f_arg0_rows, .long f_arg0_toldOpen, .long f_arg0_toldShut, .long f_arg0_stones, .long f_arg0_open, .long f_arg0_shut, .long f_arg0_free]))]) (rest := []) X (zc_X7_needsAll l D y a_this a_lattice a_found (some a_arg0) f_size c_found x2 o83 ho83) kf_RX7_35 ⟨(Nat.le_of_ble_eq_true rfl), (Nat.le_of_ble_eq_true rfl)⟩ hP hD hS [0, 2] [1, 3, 4, 5, 6, 7, 8] rfl rfl rfl rfl (by decide) 0 rfl rfl rfl rfl hl.1 (Nat.le_of_ble_eq_true rfl) dX7_follow_83 ⟨(Nat.le_of_ble_eq_true rfl), (Nat.le_of_ble_eq_true rfl)⟩ (fun H locs hP hD hS => ?_)
          have hP : va_P D vwCl [(a_lattice, .inr (4, [.ref a_lattice_codes, .ref a_lattice_wetCells, .ref a_lattice_moves, .ref a_lattice_stepPipe, .ref a_lattice_stepSlot, .ref a_lattice_rowStart, .ref a_lattice_longer, .int f_lattice_columns, .int f_lattice_rows, .int f_lattice_size, .int f_lattice_steps])), (a_lattice_codes, .inl (y.1, 132, .inl c_lattice_codes)), (a_lattice_wetCells, .inl (y.1, 132, .inl c_lattice_wetCells)), (a_lattice_moves, .inl (y.1, 1188, .inl c_lattice_moves)), (a_lattice_stepPipe, .inl (y.1, 40, .inl c_lattice_stepPipe)), (a_lattice_stepSlot, .inl (y.1, 40, .inl c_lattice_stepSlot)), (a_arg0, .inr (2, [.int f_arg0_columns, .int f_arg0_rows, .long f_arg0_toldOpen, .long f_arg0_toldShut, .long f_arg0_stones, .long f_arg0_open, .long f_arg0_shut, .long f_arg0_free])), (a_this, .inr (7, [.ref a_lattice, .ref a_found, .ref a_arg0, .int f_size])), (a_found, .inl (y.1, 4096, .inl c_found))] H := hP
          have hD : va_D A [(a_lattice, .inr (4, [.ref a_lattice_codes, .ref a_lattice_wetCells, .ref a_lattice_moves, .ref a_lattice_stepPipe, .ref a_lattice_stepSlot, .ref a_lattice_rowStart, .ref a_lattice_longer, .int f_lattice_columns, .int f_lattice_rows, .int f_lattice_size, .int f_lattice_steps])), (a_lattice_codes, .inl (y.1, 132, .inl c_lattice_codes)), (a_lattice_wetCells, .inl (y.1, 132, .inl c_lattice_wetCells)), (a_lattice_moves, .inl (y.1, 1188, .inl c_lattice_moves)), (a_lattice_stepPipe, .inl (y.1, 40, .inl c_lattice_stepPipe)), (a_lattice_stepSlot, .inl (y.1, 40, .inl c_lattice_stepSlot)), (a_arg0, .inr (2, [.int f_arg0_columns, .int f_arg0_rows, .long f_arg0_toldOpen, .long f_arg0_toldShut, .long f_arg0_stones, .long f_arg0_open, .long f_arg0_shut, .long f_arg0_free])), (a_this, .inr (7, [.ref a_lattice, .ref a_found, .ref a_arg0, .int f_size])), (a_found, .inl (y.1, 4096, .inl c_found))] := hD
          refine lv_if_eq (tgt := 96) hx hb dX7_follow_86 (by decide) (fun c86 => ?_) (fun c86 => ?_)
          · replace hf := zt c86 hf
            exact J96 x2 c_found hf _ _ _ hl (zPsub (is := [7, 0, 8, 1, 2, 3, 4, 5, 6]) hP rfl) (hD.sub [7, 0, 8, 1, 2, 3, 4, 5, 6] (by decide) rfl) hS
          · replace hf := ze c86 hf
            refine lv_aload_n hx hb dX7_follow_89 rfl (lv_at hl 0 rfl) ?_
            refine zget X hP 7 rfl rfl inF7 1 (by decide) q_186 rfl dX7_follow_90 ?_
            refine lv_iload_n hx hb dX7_follow_93 rfl (lv_at hl 1 rfl) ?_
            refine lv_iconst (v := 2) hx hb dX7_follow_94 (by decide) ?_
            obtain ⟨g95, hf⟩ := zg hf
            refine va_iast hx hb hK hP hD hS 8 0 rfl rfl g95 dX7_follow_95 (fun H locs hP hD hS => ?_)
            have hP : va_P D vwCl [(a_lattice, .inr (4, [.ref a_lattice_codes, .ref a_lattice_wetCells, .ref a_lattice_moves, .ref a_lattice_stepPipe, .ref a_lattice_stepSlot, .ref a_lattice_rowStart, .ref a_lattice_longer, .int f_lattice_columns, .int f_lattice_rows, .int f_lattice_size, .int f_lattice_steps])), (a_lattice_codes, .inl (y.1, 132, .inl c_lattice_codes)), (a_lattice_wetCells, .inl (y.1, 132, .inl c_lattice_wetCells)), (a_lattice_moves, .inl (y.1, 1188, .inl c_lattice_moves)), (a_lattice_stepPipe, .inl (y.1, 40, .inl c_lattice_stepPipe)), (a_lattice_stepSlot, .inl (y.1, 40, .inl c_lattice_stepSlot)), (a_arg0, .inr (2, [.int f_arg0_columns, .int f_arg0_rows, .long f_arg0_toldOpen, .long f_arg0_toldShut, .long f_arg0_stones, .long f_arg0_open, .long f_arg0_shut, .long f_arg0_free])), (a_this, .inr (7, [.ref a_lattice, .ref a_found, .ref a_arg0, .int f_size])), (a_found, .inl (y.1, 4096, .inl (upd c_found x2.toNatClampNeg (2 : Int32))))] H := hP
            have hD : va_D A [(a_lattice, .inr (4, [.ref a_lattice_codes, .ref a_lattice_wetCells, .ref a_lattice_moves, .ref a_lattice_stepPipe, .ref a_lattice_stepSlot, .ref a_lattice_rowStart, .ref a_lattice_longer, .int f_lattice_columns, .int f_lattice_rows, .int f_lattice_size, .int f_lattice_steps])), (a_lattice_codes, .inl (y.1, 132, .inl c_lattice_codes)), (a_lattice_wetCells, .inl (y.1, 132, .inl c_lattice_wetCells)), (a_lattice_moves, .inl (y.1, 1188, .inl c_lattice_moves)), (a_lattice_stepPipe, .inl (y.1, 40, .inl c_lattice_stepPipe)), (a_lattice_stepSlot, .inl (y.1, 40, .inl c_lattice_stepSlot)), (a_arg0, .inr (2, [.int f_arg0_columns, .int f_arg0_rows, .long f_arg0_toldOpen, .long f_arg0_toldShut, .long f_arg0_stones, .long f_arg0_open, .long f_arg0_shut, .long f_arg0_free])), (a_this, .inr (7, [.ref a_lattice, .ref a_found, .ref a_arg0, .int f_size])), (a_found, .inl (y.1, 4096, .inl (upd c_found x2.toNatClampNeg (2 : Int32))))] := hD
            exact J96 x2 (upd c_found x2.toNatClampNeg (2 : Int32)) hf _ _ _ hl (zPsub (is := [7, 0, 8, 1, 2, 3, 4, 5, 6]) hP rfl) (hD.sub [7, 0, 8, 1, 2, 3, 4, 5, 6] (by decide) rfl) hS
  unfold zf_X7_follow at hf
  refine lv_aload_n hx hb dX7_follow_0 rfl (lv_at hl 0 rfl) ?_
  refine zget X hP 0 rfl rfl inF7 2 (by decide) q_187 rfl dX7_follow_1 ?_
  refine lv_aload_n hx hb dX7_follow_4 rfl (lv_at hl 1 rfl) ?_
  refine lv_acmp_ne (rx := f_grid) (ry := some a_arg0) (tgt := 9) hx hb dX7_follow_5 (by decide) (fun c5 => ?_) (fun c5 => ?_)
  · replace hf := ze c5 hf
    refine lv_aload_n hx hb dX7_follow_9 rfl (lv_at hl 0 rfl) ?_
    refine lv_aload_n hx hb dX7_follow_10 rfl (lv_at hl 1 rfl) ?_
    refine zput (ty := (.object "WaterGrid$Grid")) X hP hD hS 0 rfl rfl inF7 tyX7_ok nmX7 2 (by decide) q_187 rfl rfl rfl rfl (Nat.le_of_ble_eq_true rfl) dX7_follow_11 (fun H locs hP hD hS => ?_)
    have hP : va_P D vwCl [(a_this, .inr (7, [.ref a_lattice, .ref a_found, .ref a_arg0, .int f_size])), (a_lattice, .inr (4, [.ref a_lattice_codes, .ref a_lattice_wetCells, .ref a_lattice_moves, .ref a_lattice_stepPipe, .ref a_lattice_stepSlot, .ref a_lattice_rowStart, .ref a_lattice_longer, .int f_lattice_columns, .int f_lattice_rows, .int f_lattice_size, .int f_lattice_steps])), (a_found, .inl (y.1, 4096, .inl c_found)), (a_lattice_codes, .inl (y.1, 132, .inl c_lattice_codes)), (a_lattice_wetCells, .inl (y.1, 132, .inl c_lattice_wetCells)), (a_lattice_moves, .inl (y.1, 1188, .inl c_lattice_moves)), (a_lattice_stepPipe, .inl (y.1, 40, .inl c_lattice_stepPipe)), (a_lattice_stepSlot, .inl (y.1, 40, .inl c_lattice_stepSlot)), (a_arg0, .inr (2, [.int f_arg0_columns, .int f_arg0_rows, .long f_arg0_toldOpen, .long f_arg0_toldShut, .long f_arg0_stones, .long f_arg0_open, .long f_arg0_shut, .long f_arg0_free]))] H := hP
    have hD : va_D A [(a_this, .inr (7, [.ref a_lattice, .ref a_found, .ref a_arg0, .int f_size])), (a_lattice, .inr (4, [.ref a_lattice_codes, .ref a_lattice_wetCells, .ref a_lattice_moves, .ref a_lattice_stepPipe, .ref a_lattice_stepSlot, .ref a_lattice_rowStart, .ref a_lattice_longer, .int f_lattice_columns, .int f_lattice_rows, .int f_lattice_size, .int f_lattice_steps])), (a_found, .inl (y.1, 4096, .inl c_found)), (a_lattice_codes, .inl (y.1, 132, .inl c_lattice_codes)), (a_lattice_wetCells, .inl (y.1, 132, .inl c_lattice_wetCells)), (a_lattice_moves, .inl (y.1, 1188, .inl c_lattice_moves)), (a_lattice_stepPipe, .inl (y.1, 40, .inl c_lattice_stepPipe)), (a_lattice_stepSlot, .inl (y.1, 40, .inl c_lattice_stepSlot)), (a_arg0, .inr (2, [.int f_arg0_columns, .int f_arg0_rows, .long f_arg0_toldOpen, .long f_arg0_toldShut, .long f_arg0_stones, .long f_arg0_open, .long f_arg0_shut, .long f_arg0_free]))] := hD
    refine lv_aload_n hx hb dX7_follow_14 rfl (lv_at hl 0 rfl) ?_
    obtain ⟨o15, ho15, hf⟩ := zb hf
    refine zcV0 (wr := [(a_lattice_wetCells, .inl (y.1, 132, .inl c_lattice_wetCells))]) (rest := []) X (zc_X7_findStates l D y a_this a_lattice a_found a_arg0 a_lattice_codes a_lattice_wetCells a_lattice_moves a_lattice_stepPipe a_lattice_stepSlot a_lattice_rowStart a_lattice_longer f_size f_lattice_columns f_lattice_rows f_lattice_size f_lattice_steps f_arg0_columns f_arg0_rows f_arg0_toldOpen f_arg0_toldShut f_arg0_stones f_arg0_open f_arg0_shut f_arg0_free c_found c_lattice_codes c_lattice_moves c_lattice_stepPipe c_lattice_stepSlot o15 ho15) kf_RX7_23 ⟨(Nat.le_of_ble_eq_true rfl), (Nat.le_of_ble_eq_true rfl)⟩ hP hD hS [0, 1, 2, 3, 5, 6, 7, 8] [4] rfl rfl rfl rfl (by decide) 0 rfl rfl rfl rfl hl.1 (Nat.le_of_ble_eq_true rfl) dX7_follow_15 ⟨(Nat.le_of_ble_eq_true rfl), (Nat.le_of_ble_eq_true rfl)⟩ (fun H locs hP hD hS => ?_)
    have hP : va_P D vwCl [(a_lattice_wetCells, .inl (y.1, 132, .inl c_lattice_wetCells)), (a_this, .inr (7, [.ref a_lattice, .ref a_found, .ref a_arg0, .int o15.1])), (a_lattice, .inr (4, [.ref a_lattice_codes, .ref a_lattice_wetCells, .ref a_lattice_moves, .ref a_lattice_stepPipe, .ref a_lattice_stepSlot, .ref a_lattice_rowStart, .ref a_lattice_longer, .int f_lattice_columns, .int f_lattice_rows, .int f_lattice_size, .int f_lattice_steps])), (a_found, .inl (y.1, 4096, .inl o15.2)), (a_lattice_codes, .inl (y.1, 132, .inl c_lattice_codes)), (a_lattice_moves, .inl (y.1, 1188, .inl c_lattice_moves)), (a_lattice_stepPipe, .inl (y.1, 40, .inl c_lattice_stepPipe)), (a_lattice_stepSlot, .inl (y.1, 40, .inl c_lattice_stepSlot)), (a_arg0, .inr (2, [.int f_arg0_columns, .int f_arg0_rows, .long f_arg0_toldOpen, .long f_arg0_toldShut, .long f_arg0_stones, .long f_arg0_open, .long f_arg0_shut, .long f_arg0_free]))] H := hP
    have hD : va_D A [(a_lattice_wetCells, .inl (y.1, 132, .inl c_lattice_wetCells)), (a_this, .inr (7, [.ref a_lattice, .ref a_found, .ref a_arg0, .int o15.1])), (a_lattice, .inr (4, [.ref a_lattice_codes, .ref a_lattice_wetCells, .ref a_lattice_moves, .ref a_lattice_stepPipe, .ref a_lattice_stepSlot, .ref a_lattice_rowStart, .ref a_lattice_longer, .int f_lattice_columns, .int f_lattice_rows, .int f_lattice_size, .int f_lattice_steps])), (a_found, .inl (y.1, 4096, .inl o15.2)), (a_lattice_codes, .inl (y.1, 132, .inl c_lattice_codes)), (a_lattice_moves, .inl (y.1, 1188, .inl c_lattice_moves)), (a_lattice_stepPipe, .inl (y.1, 40, .inl c_lattice_stepPipe)), (a_lattice_stepSlot, .inl (y.1, 40, .inl c_lattice_stepSlot)), (a_arg0, .inr (2, [.int f_arg0_columns, .int f_arg0_rows, .long f_arg0_toldOpen, .long f_arg0_toldShut, .long f_arg0_stones, .long f_arg0_open, .long f_arg0_shut, .long f_arg0_free]))] := hD
    refine lv_iconst (v := 0) hx hb dX7_follow_18 (by decide) ?_
    refine lv_istore_n (lv' := [(2, .int (0 : Int32)), (0, .ref a_this), (1, .ref a_arg0)]) hx hb dX7_follow_19 rfl hl (by decide) rfl (fun ls hl => ?_)
    obtain ⟨o20, ho20, hf⟩ := zb hf
    refine L20 zfu (0 : Int32) o15.1 o15.2 o20 ho20 _ _ _ (lv_sub hl [1, 0] rfl) (zPsub (is := [1, 2, 3, 4, 0, 5, 6, 7, 8]) hP rfl) (hD.sub [1, 2, 3, 4, 0, 5, 6, 7, 8] (by decide) rfl) hS (fun H locs ls hl hP hD hS => ?_)
    refine lv_iconst (v := 0) hx hb dX7_follow_62 (by decide) ?_
    refine lv_istore_n (lv' := [(2, .int (0 : Int32)), (0, .ref a_this)]) hx hb dX7_follow_63 rfl hl (by decide) rfl (fun ls hl => ?_)
    obtain ⟨o64, ho64, hf⟩ := zb hf
    refine L64 zfu (0 : Int32) o15.1 o20 o64 ho64 _ _ _ (lv_sub hl [1, 0] rfl) hP hD hS (fun H locs ls hl hP hD hS => ?_)
    obtain rfl := Option.some.inj hf
    exact zretv X hQ hP hD hS ⟨rfl, rfl⟩ dX7_follow_102 (Nat.le_of_ble_eq_true rfl) (Nat.le_of_ble_eq_true rfl)
  · replace hf := zt c5 hf
    obtain rfl := Option.some.inj hf
    exact zretv X hQ hP hD hS ⟨rfl, rfl⟩ dX7_follow_8 (Nat.le_of_ble_eq_true rfl) (Nat.le_of_ble_eq_true rfl)

theorem kf_RX7_93 : zCB RX7 93 yJ6_bitCount_0f7a4 cJ6_bitCount_0f7a4 1 (some .int) 1 ∧ Cond.static yJ6_bitCount_0f7a4 ∈ wAll := ⟨⟨q_1122, q_25, q_1120, by decide +kernel⟩, q_1121⟩
abbrev rm_X7_joiningAt : Room := { frames := 1, cells := 0, slots := 0, locals := 20 }
def zf_X7_joiningAt_44 (x3 : Int32) (x4 : Int32) : Option ((Int32 × Int32) ⊕ ((Unit) ⊕ (Int32))) :=
  some (.inl (x3, x4 + (1 : Int32)))
def zf_X7_joiningAt_l5 (f_size : Int32) (c_found : Nat → Int32) (x1 : Int32) (x2 : Int32) (x3 : Int32) (x4 : Int32) : Option ((Int32 × Int32) ⊕ ((Unit) ⊕ (Int32))) :=
  if f_size ≤ x4 then (some (.inr (.inl ()))) else (if zgd x4 4096 = true then (if (c_found x4.toNatClampNeg) = 0 then (zf_X7_joiningAt_44 x3 x4) else ((zf_J6_bitCount_0f7a4 x4).bind fun o26 =>
  if o26 = x1 then (if x3 = x2 then (some (.inr (.inr x4))) else (zf_X7_joiningAt_44 (x3 + (1 : Int32)) x4)) else (zf_X7_joiningAt_44 x3 x4))) else none)
def zf_X7_joiningAt (f_size : Int32) (c_found : Nat → Int32) (x1 : Int32) (x2 : Int32) : Option (Int32) :=
  (zit (fun d => zf_X7_joiningAt_l5 f_size c_found x1 x2 d.1 d.2) zfu ((0 : Int32), (0 : Int32))).bind fun o5 =>
  Sum.elim (fun e5 => some (-1 : Int32)) (fun e5 => some e5) o5
set_option maxHeartbeats 4000000 in
set_option maxRecDepth 100000 in
theorem zc_X7_joiningAt (l : Launch) (D : va_G) (y : zY) (a_this a_lattice a_found : Nat) (f_grid : Option Nat) (f_size : Int32) (c_found : Nat → Int32) (x1 : Int32) (x2 : Int32) (out : Int32) (hf : zf_X7_joiningAt f_size c_found x1 x2 = some out) : zC l D y yX7_joiningAt cX7_joiningAt 5 (some .int) rm_X7_joiningAt [.ref a_this, .int x1, .int x2] [(a_this, .inr (7, [.ref a_lattice, .ref a_found, va_rf f_grid, .int f_size])), (a_found, .inl (y.1, 4096, .inl c_found))] (zE (some (.int out)) [(a_this, .inr (7, [.ref a_lattice, .ref a_found, va_rf f_grid, .int f_size])), (a_found, .inl (y.1, 4096, .inl c_found))]) := by
  refine zmk (by decide) (Nat.le_of_ble_eq_true rfl) ?_
  intro p e s m args below meth c A Q ls X hQ hnm hP hD hS hl
  have X : zX p s m args meth c D y A RX7 cX7_joiningAt 5 (some .int) := X
  obtain ⟨hx, hb, hr, hml, hown, hts, hK, hA, hlocks⟩ := id X
  have hl : lv_has ls 5 [(0, .ref a_this), (1, .int x1), (2, .int x2)] := hl
  have L5 : ∀ (n : Nat) (x1 : Int32) (x2 : Int32) (x3 : Int32) (x4 : Int32) (x : (Unit) ⊕ (Int32)), zit (fun d => zf_X7_joiningAt_l5 f_size c_found x1 x2 d.1 d.2) n (x3, x4) = some x → ∀ (H : Heap) (locs : List Loc) (ls : Array Slot), lv_has ls 5 [(0, .ref a_this), (1, .int x1), (2, .int x2), (3, .int x3), (4, .int x4)] → va_P D vwCl [(a_this, .inr (7, [.ref a_lattice, .ref a_found, va_rf f_grid, .int f_size])), (a_found, .inl (y.1, 4096, .inl c_found))] H → va_D A [(a_this, .inr (7, [.ref a_lattice, .ref a_found, va_rf f_grid, .int f_size])), (a_found, .inl (y.1, 4096, .inl c_found))] → va_S A s.heap H locs → (∀ (ee : Unit), x = .inl ee → ∀ (H : Heap) (locs : List Loc) (ls : Array Slot), lv_has ls 5 [] → va_P D vwCl [(a_this, .inr (7, [.ref a_lattice, .ref a_found, va_rf f_grid, .int f_size])), (a_found, .inl (y.1, 4096, .inl c_found))] H → va_D A [(a_this, .inr (7, [.ref a_lattice, .ref a_found, va_rf f_grid, .int f_size])), (a_found, .inl (y.1, 4096, .inl c_found))] → va_S A s.heap H locs → W p l e rm_X7_joiningAt s m args below meth c H locs 0 0 Q (F0 m 50 ls [])) → (∀ (ee : Int32), x = (.inr ee) → ∀ (H : Heap) (locs : List Loc) (ls : Array Slot), lv_has ls 5 [(4, .int ee)] → va_P D vwCl [(a_this, .inr (7, [.ref a_lattice, .ref a_found, va_rf f_grid, .int f_size])), (a_found, .inl (y.1, 4096, .inl c_found))] H → va_D A [(a_this, .inr (7, [.ref a_lattice, .ref a_found, va_rf f_grid, .int f_size])), (a_found, .inl (y.1, 4096, .inl c_found))] → va_S A s.heap H locs → W p l e rm_X7_joiningAt s m args below meth c H locs 0 0 Q (F0 m 38 ls [])) → W p l e rm_X7_joiningAt s m args below meth c H locs 0 0 Q (F0 m 5 ls []) := by
    intro n
    induction n with
    | zero => intro x1 x2 x3 x4 x h; exact (zi0 h).elim
    | succ n ih =>
      intro x1 x2 x3 x4 x h H locs ls hl hP hD hS K50 K38
      obtain ⟨r, hf, h⟩ := zis h
      have hf : zf_X7_joiningAt_l5 f_size c_found x1 x2 x3 x4 = some r := hf
      have J44 : ∀ (x3 : Int32) (x4 : Int32), zf_X7_joiningAt_44 x3 x4 = some r → ∀ (H : Heap) (locs : List Loc) (ls : Array Slot), lv_has ls 5 [(0, .ref a_this), (1, .int x1), (2, .int x2), (3, .int x3), (4, .int x4)] → va_P D vwCl [(a_this, .inr (7, [.ref a_lattice, .ref a_found, va_rf f_grid, .int f_size])), (a_found, .inl (y.1, 4096, .inl c_found))] H → va_D A [(a_this, .inr (7, [.ref a_lattice, .ref a_found, va_rf f_grid, .int f_size])), (a_found, .inl (y.1, 4096, .inl c_found))] → va_S A s.heap H locs → W p l e rm_X7_joiningAt s m args below meth c H locs 0 0 Q (F0 m 44 ls []) := by
        intro x3 x4 hf H locs ls hl hP hD hS
        unfold zf_X7_joiningAt_44 at hf
        refine lv_iinc (v := x4 + (1 : Int32)) (lv' := [(4, .int (x4 + (1 : Int32))), (0, .ref a_this), (1, .int x1), (2, .int x2), (3, .int x3)]) hx hb dX7_joiningAt_44 hl (k := 4) rfl rfl (by decide) rfl (fun ls hl => ?_)
        refine lv_goto (tgt := 5) hx hb dX7_joiningAt_47 (by decide) ?_
        obtain rfl := Option.some.inj hf
        exact ih x1 x2 x3 (x4 + (1 : Int32)) x h _ _ _ (lv_sub hl [1, 2, 3, 4, 0] rfl) hP hD hS K50 K38
      unfold zf_X7_joiningAt_l5 at hf
      refine lv_iload hx hb dX7_joiningAt_5 (lv_at hl 4 rfl) ?_
      refine lv_aload_n hx hb dX7_joiningAt_7 rfl (lv_at hl 0 rfl) ?_
      refine zget X hP 0 rfl rfl inF7 3 (by decide) q_188 rfl dX7_joiningAt_8 ?_
      refine lv_icmp_ge (tgt := 50) hx hb dX7_joiningAt_11 (by decide) (fun c11 => ?_) (fun c11 => ?_)
      · replace hf := zt c11 hf
        obtain rfl := Option.some.inj hf
        obtain rfl := Option.some.inj h
        exact K50 _ rfl _ _ _ (lv_sub hl [] rfl) hP hD hS
      · replace hf := ze c11 hf
        refine lv_aload_n hx hb dX7_joiningAt_14 rfl (lv_at hl 0 rfl) ?_
        refine zget X hP 0 rfl rfl inF7 1 (by decide) q_186 rfl dX7_joiningAt_15 ?_
        refine lv_iload hx hb dX7_joiningAt_18 (lv_at hl 4 rfl) ?_
        obtain ⟨g20, hf⟩ := zg hf
        refine va_iald hx hb hK hP 1 0 rfl rfl g20 dX7_joiningAt_20 ?_
        refine lv_if_eq (tgt := 44) hx hb dX7_joiningAt_21 (by decide) (fun c21 => ?_) (fun c21 => ?_)
        · replace hf := zt c21 hf
          exact J44 x3 x4 hf _ _ _ hl hP hD hS
        · replace hf := ze c21 hf
          refine lv_iload hx hb dX7_joiningAt_24 (lv_at hl 4 rfl) ?_
          obtain ⟨o26, ho26, hf⟩ := zb hf
          refine zcS1 (wr := [(a_this, .inr (7, [.ref a_lattice, .ref a_found, va_rf f_grid, .int f_size])), (a_found, .inl (y.1, 4096, .inl c_found))]) (rest := []) X (zc_J6_bitCount_0f7a4 l D y x4 o26 ho26) kf_RX7_93 ⟨(Nat.le_of_ble_eq_true rfl), (Nat.le_of_ble_eq_true rfl)⟩ hP hD hS [] [0, 1] rfl rfl rfl rfl (by decide) rfl rfl hl.1 (Nat.le_of_ble_eq_true rfl) dX7_joiningAt_26 ⟨(Nat.le_of_ble_eq_true rfl), (Nat.le_of_ble_eq_true rfl)⟩ (fun H locs hP hD hS => ?_)
          have hP : va_P D vwCl [(a_this, .inr (7, [.ref a_lattice, .ref a_found, va_rf f_grid, .int f_size])), (a_found, .inl (y.1, 4096, .inl c_found))] H := hP
          have hD : va_D A [(a_this, .inr (7, [.ref a_lattice, .ref a_found, va_rf f_grid, .int f_size])), (a_found, .inl (y.1, 4096, .inl c_found))] := hD
          refine lv_iload_n hx hb dX7_joiningAt_29 rfl (lv_at hl 1 rfl) ?_
          refine lv_icmp_ne (tgt := 44) hx hb dX7_joiningAt_30 (by decide) (fun c30 => ?_) (fun c30 => ?_)
          · replace hf := ze c30 hf
            exact J44 x3 x4 hf _ _ _ hl hP hD hS
          · replace hf := zt c30 hf
            refine lv_iload_n hx hb dX7_joiningAt_33 rfl (lv_at hl 3 rfl) ?_
            refine lv_iload_n hx hb dX7_joiningAt_34 rfl (lv_at hl 2 rfl) ?_
            refine lv_icmp_ne (tgt := 41) hx hb dX7_joiningAt_35 (by decide) (fun c35 => ?_) (fun c35 => ?_)
            · replace hf := ze c35 hf
              refine lv_iinc (v := x3 + (1 : Int32)) (lv' := [(3, .int (x3 + (1 : Int32))), (0, .ref a_this), (1, .int x1), (2, .int x2), (4, .int x4)]) hx hb dX7_joiningAt_41 hl (k := 3) rfl rfl (by decide) rfl (fun ls hl => ?_)
              exact J44 (x3 + (1 : Int32)) x4 hf _ _ _ (lv_sub hl [1, 2, 3, 0, 4] rfl) hP hD hS
            · replace hf := zt c35 hf
              obtain rfl := Option.some.inj hf
              obtain rfl := Option.some.inj h
              exact K38 _ rfl _ _ _ (lv_sub hl [4] rfl) hP hD hS
  unfold zf_X7_joiningAt at hf
  refine lv_iconst (v := 0) hx hb dX7_joiningAt_0 (by decide) ?_
  refine lv_istore_n (lv' := [(3, .int (0 : Int32)), (0, .ref a_this), (1, .int x1), (2, .int x2)]) hx hb dX7_joiningAt_1 rfl hl (by decide) rfl (fun ls hl => ?_)
  refine lv_iconst (v := 0) hx hb dX7_joiningAt_2 (by decide) ?_
  refine lv_istore (lv' := [(4, .int (0 : Int32)), (3, .int (0 : Int32)), (0, .ref a_this), (1, .int x1), (2, .int x2)]) hx hb dX7_joiningAt_3 hl (by decide) rfl (fun ls hl => ?_)
  obtain ⟨o5, ho5, hf⟩ := zb hf
  refine L5 zfu x1 x2 (0 : Int32) (0 : Int32) o5 ho5 _ _ _ (lv_sub hl [2, 3, 4, 1, 0] rfl) hP hD hS (fun e5 he H locs ls hl hP hD hS => ?_) (fun e5 he H locs ls hl hP hD hS => ?_)
  · subst he
    replace hf := zsl hf
    refine lv_iconst (v := -1) hx hb dX7_joiningAt_50 (by decide) ?_
    obtain rfl := Option.some.inj hf
    exact zreti X hQ hP hD hS ⟨rfl, rfl⟩ rfl dX7_joiningAt_51 (Nat.le_of_ble_eq_true rfl) (Nat.le_of_ble_eq_true rfl)
  · subst he
    replace hf := zsr hf
    refine lv_iload hx hb dX7_joiningAt_38 (lv_at hl 0 rfl) ?_
    obtain rfl := Option.some.inj hf
    exact zreti X hQ hP hD hS ⟨rfl, rfl⟩ rfl dX7_joiningAt_40 (Nat.le_of_ble_eq_true rfl) (Nat.le_of_ble_eq_true rfl)


abbrev rm_X7_leastCount : Room := { frames := 0, cells := 0, slots := 0, locals := 0 }
def zf_X7_leastCount_25 (x1 : Int32) (x2 : Int32) : Option ((Int32 × Int32) ⊕ ((Int32))) :=
  some (.inl (x1, x2 + (1 : Int32)))
def zf_X7_leastCount_l4 (f_size : Int32) (c_found : Nat → Int32) (x1 : Int32) (x2 : Int32) : Option ((Int32 × Int32) ⊕ ((Int32))) :=
  if f_size ≤ x2 then (some (.inr x1)) else (if zgd x2 4096 = true then (if (c_found x2.toNatClampNeg) = (2 : Int32) then (zf_X7_leastCount_25 (x1 + (1 : Int32)) x2) else (zf_X7_leastCount_25 x1 x2)) else none)
def zf_X7_leastCount (f_size : Int32) (c_found : Nat → Int32) : Option (Int32) :=
  (zit (fun d => zf_X7_leastCount_l4 f_size c_found d.1 d.2) zfu ((0 : Int32), (0 : Int32))).bind fun o4 =>
  some o4
set_option maxHeartbeats 4000000 in
set_option maxRecDepth 100000 in
theorem zc_X7_leastCount (l : Launch) (D : va_G) (y : zY) (a_this a_lattice a_found : Nat) (f_grid : Option Nat) (f_size : Int32) (c_found : Nat → Int32) (out : Int32) (hf : zf_X7_leastCount f_size c_found = some out) : zC l D y yX7_leastCount cX7_leastCount 3 (some .int) rm_X7_leastCount [.ref a_this] [(a_this, .inr (7, [.ref a_lattice, .ref a_found, va_rf f_grid, .int f_size])), (a_found, .inl (y.1, 4096, .inl c_found))] (zE (some (.int out)) [(a_this, .inr (7, [.ref a_lattice, .ref a_found, va_rf f_grid, .int f_size])), (a_found, .inl (y.1, 4096, .inl c_found))]) := by
  refine zmk (by decide) (Nat.le_of_ble_eq_true rfl) ?_
  intro p e s m args below meth c A Q ls X hQ hnm hP hD hS hl
  have X : zX p s m args meth c D y A RX7 cX7_leastCount 3 (some .int) := X
  obtain ⟨hx, hb, hr, hml, hown, hts, hK, hA, hlocks⟩ := id X
  have hl : lv_has ls 3 [(0, .ref a_this)] := hl
  have L4 : ∀ (n : Nat) (x1 : Int32) (x2 : Int32) (x : (Int32)), zit (fun d => zf_X7_leastCount_l4 f_size c_found d.1 d.2) n (x1, x2) = some x → ∀ (H : Heap) (locs : List Loc) (ls : Array Slot), lv_has ls 3 [(0, .ref a_this), (1, .int x1), (2, .int x2)] → va_P D vwCl [(a_this, .inr (7, [.ref a_lattice, .ref a_found, va_rf f_grid, .int f_size])), (a_found, .inl (y.1, 4096, .inl c_found))] H → va_D A [(a_this, .inr (7, [.ref a_lattice, .ref a_found, va_rf f_grid, .int f_size])), (a_found, .inl (y.1, 4096, .inl c_found))] → va_S A s.heap H locs → (∀ (H : Heap) (locs : List Loc) (ls : Array Slot), lv_has ls 3 [(1, .int x)] → va_P D vwCl [(a_this, .inr (7, [.ref a_lattice, .ref a_found, va_rf f_grid, .int f_size])), (a_found, .inl (y.1, 4096, .inl c_found))] H → va_D A [(a_this, .inr (7, [.ref a_lattice, .ref a_found, va_rf f_grid, .int f_size])), (a_found, .inl (y.1, 4096, .inl c_found))] → va_S A s.heap H locs → W p l e rm_X7_leastCount s m args below meth c H locs 0 0 Q (F0 m 31 ls [])) → W p l e rm_X7_leastCount s m args below meth c H locs 0 0 Q (F0 m 4 ls []) := by
    intro n
    induction n with
    | zero => intro x1 x2 x h; exact (zi0 h).elim
    | succ n ih =>
      intro x1 x2 x h H locs ls hl hP hD hS K31
      obtain ⟨r, hf, h⟩ := zis h
      have hf : zf_X7_leastCount_l4 f_size c_found x1 x2 = some r := hf
      have J25 : ∀ (x1 : Int32) (x2 : Int32), zf_X7_leastCount_25 x1 x2 = some r → ∀ (H : Heap) (locs : List Loc) (ls : Array Slot), lv_has ls 3 [(0, .ref a_this), (1, .int x1), (2, .int x2)] → va_P D vwCl [(a_this, .inr (7, [.ref a_lattice, .ref a_found, va_rf f_grid, .int f_size])), (a_found, .inl (y.1, 4096, .inl c_found))] H → va_D A [(a_this, .inr (7, [.ref a_lattice, .ref a_found, va_rf f_grid, .int f_size])), (a_found, .inl (y.1, 4096, .inl c_found))] → va_S A s.heap H locs → W p l e rm_X7_leastCount s m args below meth c H locs 0 0 Q (F0 m 25 ls []) := by
        intro x1 x2 hf H locs ls hl hP hD hS
        unfold zf_X7_leastCount_25 at hf
        refine lv_iinc (v := x2 + (1 : Int32)) (lv' := [(2, .int (x2 + (1 : Int32))), (0, .ref a_this), (1, .int x1)]) hx hb dX7_leastCount_25 hl (k := 2) rfl rfl (by decide) rfl (fun ls hl => ?_)
        refine lv_goto (tgt := 4) hx hb dX7_leastCount_28 (by decide) ?_
        obtain rfl := Option.some.inj hf
        exact ih x1 (x2 + (1 : Int32)) x h _ _ _ (lv_sub hl [1, 2, 0] rfl) hP hD hS K31
      unfold zf_X7_leastCount_l4 at hf
      refine lv_iload_n hx hb dX7_leastCount_4 rfl (lv_at hl 2 rfl) ?_
      refine lv_aload_n hx hb dX7_leastCount_5 rfl (lv_at hl 0 rfl) ?_
      refine zget X hP 0 rfl rfl inF7 3 (by decide) q_188 rfl dX7_leastCount_6 ?_
      refine lv_icmp_ge (tgt := 31) hx hb dX7_leastCount_9 (by decide) (fun c9 => ?_) (fun c9 => ?_)
      · replace hf := zt c9 hf
        obtain rfl := Option.some.inj hf
        obtain rfl := Option.some.inj h
        exact K31 _ _ _ (lv_sub hl [1] rfl) hP hD hS
      · replace hf := ze c9 hf
        refine lv_aload_n hx hb dX7_leastCount_12 rfl (lv_at hl 0 rfl) ?_
        refine zget X hP 0 rfl rfl inF7 1 (by decide) q_186 rfl dX7_leastCount_13 ?_
        refine lv_iload_n hx hb dX7_leastCount_16 rfl (lv_at hl 2 rfl) ?_
        obtain ⟨g17, hf⟩ := zg hf
        refine va_iald hx hb hK hP 1 0 rfl rfl g17 dX7_leastCount_17 ?_
        refine lv_iconst (v := 2) hx hb dX7_leastCount_18 (by decide) ?_
        refine lv_icmp_ne (tgt := 25) hx hb dX7_leastCount_19 (by decide) (fun c19 => ?_) (fun c19 => ?_)
        · replace hf := ze c19 hf
          exact J25 x1 x2 hf _ _ _ hl hP hD hS
        · replace hf := zt c19 hf
          refine lv_iinc (v := x1 + (1 : Int32)) (lv' := [(1, .int (x1 + (1 : Int32))), (0, .ref a_this), (2, .int x2)]) hx hb dX7_leastCount_22 hl (k := 1) rfl rfl (by decide) rfl (fun ls hl => ?_)
          exact J25 (x1 + (1 : Int32)) x2 hf _ _ _ (lv_sub hl [1, 0, 2] rfl) hP hD hS
  unfold zf_X7_leastCount at hf
  refine lv_iconst (v := 0) hx hb dX7_leastCount_0 (by decide) ?_
  refine lv_istore_n (lv' := [(1, .int (0 : Int32)), (0, .ref a_this)]) hx hb dX7_leastCount_1 rfl hl (by decide) rfl (fun ls hl => ?_)
  refine lv_iconst (v := 0) hx hb dX7_leastCount_2 (by decide) ?_
  refine lv_istore_n (lv' := [(2, .int (0 : Int32)), (1, .int (0 : Int32)), (0, .ref a_this)]) hx hb dX7_leastCount_3 rfl hl (by decide) rfl (fun ls hl => ?_)
  obtain ⟨o4, ho4, hf⟩ := zb hf
  refine L4 zfu (0 : Int32) (0 : Int32) o4 ho4 _ _ _ (lv_sub hl [2, 1, 0] rfl) hP hD hS (fun H locs ls hl hP hD hS => ?_)
  refine lv_iload_n hx hb dX7_leastCount_31 rfl (lv_at hl 0 rfl) ?_
  obtain rfl := Option.some.inj hf
  exact zreti X hQ hP hD hS ⟨rfl, rfl⟩ rfl dX7_leastCount_32 (Nat.le_of_ble_eq_true rfl) (Nat.le_of_ble_eq_true rfl)


abbrev rm_X7_leastAt : Room := { frames := 0, cells := 0, slots := 0, locals := 0 }
def zf_X7_leastAt_32 (x2 : Int32) (x3 : Int32) : Option ((Int32 × Int32) ⊕ ((Unit) ⊕ (Int32))) :=
  some (.inl (x2, x3 + (1 : Int32)))
def zf_X7_leastAt_l4 (f_size : Int32) (c_found : Nat → Int32) (x1 : Int32) (x2 : Int32) (x3 : Int32) : Option ((Int32 × Int32) ⊕ ((Unit) ⊕ (Int32))) :=
  if f_size ≤ x3 then (some (.inr (.inl ()))) else (if zgd x3 4096 = true then (if (c_found x3.toNatClampNeg) = (2 : Int32) then (if x2 = x1 then (some (.inr (.inr x3))) else (zf_X7_leastAt_32 (x2 + (1 : Int32)) x3)) else (zf_X7_leastAt_32 x2 x3)) else none)
def zf_X7_leastAt (f_size : Int32) (c_found : Nat → Int32) (x1 : Int32) : Option (Int32) :=
  (zit (fun d => zf_X7_leastAt_l4 f_size c_found x1 d.1 d.2) zfu ((0 : Int32), (0 : Int32))).bind fun o4 =>
  Sum.elim (fun e4 => some (-1 : Int32)) (fun e4 => some e4) o4
set_option maxHeartbeats 4000000 in
set_option maxRecDepth 100000 in
theorem zc_X7_leastAt (l : Launch) (D : va_G) (y : zY) (a_this a_lattice a_found : Nat) (f_grid : Option Nat) (f_size : Int32) (c_found : Nat → Int32) (x1 : Int32) (out : Int32) (hf : zf_X7_leastAt f_size c_found x1 = some out) : zC l D y yX7_leastAt cX7_leastAt 4 (some .int) rm_X7_leastAt [.ref a_this, .int x1] [(a_this, .inr (7, [.ref a_lattice, .ref a_found, va_rf f_grid, .int f_size])), (a_found, .inl (y.1, 4096, .inl c_found))] (zE (some (.int out)) [(a_this, .inr (7, [.ref a_lattice, .ref a_found, va_rf f_grid, .int f_size])), (a_found, .inl (y.1, 4096, .inl c_found))]) := by
  refine zmk (by decide) (Nat.le_of_ble_eq_true rfl) ?_
  intro p e s m args below meth c A Q ls X hQ hnm hP hD hS hl
  have X : zX p s m args meth c D y A RX7 cX7_leastAt 4 (some .int) := X
  obtain ⟨hx, hb, hr, hml, hown, hts, hK, hA, hlocks⟩ := id X
  have hl : lv_has ls 4 [(0, .ref a_this), (1, .int x1)] := hl
  have L4 : ∀ (n : Nat) (x1 : Int32) (x2 : Int32) (x3 : Int32) (x : (Unit) ⊕ (Int32)), zit (fun d => zf_X7_leastAt_l4 f_size c_found x1 d.1 d.2) n (x2, x3) = some x → ∀ (H : Heap) (locs : List Loc) (ls : Array Slot), lv_has ls 4 [(0, .ref a_this), (1, .int x1), (2, .int x2), (3, .int x3)] → va_P D vwCl [(a_this, .inr (7, [.ref a_lattice, .ref a_found, va_rf f_grid, .int f_size])), (a_found, .inl (y.1, 4096, .inl c_found))] H → va_D A [(a_this, .inr (7, [.ref a_lattice, .ref a_found, va_rf f_grid, .int f_size])), (a_found, .inl (y.1, 4096, .inl c_found))] → va_S A s.heap H locs → (∀ (ee : Unit), x = .inl ee → ∀ (H : Heap) (locs : List Loc) (ls : Array Slot), lv_has ls 4 [] → va_P D vwCl [(a_this, .inr (7, [.ref a_lattice, .ref a_found, va_rf f_grid, .int f_size])), (a_found, .inl (y.1, 4096, .inl c_found))] H → va_D A [(a_this, .inr (7, [.ref a_lattice, .ref a_found, va_rf f_grid, .int f_size])), (a_found, .inl (y.1, 4096, .inl c_found))] → va_S A s.heap H locs → W p l e rm_X7_leastAt s m args below meth c H locs 0 0 Q (F0 m 38 ls [])) → (∀ (ee : Int32), x = (.inr ee) → ∀ (H : Heap) (locs : List Loc) (ls : Array Slot), lv_has ls 4 [(3, .int ee)] → va_P D vwCl [(a_this, .inr (7, [.ref a_lattice, .ref a_found, va_rf f_grid, .int f_size])), (a_found, .inl (y.1, 4096, .inl c_found))] H → va_D A [(a_this, .inr (7, [.ref a_lattice, .ref a_found, va_rf f_grid, .int f_size])), (a_found, .inl (y.1, 4096, .inl c_found))] → va_S A s.heap H locs → W p l e rm_X7_leastAt s m args below meth c H locs 0 0 Q (F0 m 27 ls [])) → W p l e rm_X7_leastAt s m args below meth c H locs 0 0 Q (F0 m 4 ls []) := by
    intro n
    induction n with
    | zero => intro x1 x2 x3 x h; exact (zi0 h).elim
    | succ n ih =>
      intro x1 x2 x3 x h H locs ls hl hP hD hS K38 K27
      obtain ⟨r, hf, h⟩ := zis h
      have hf : zf_X7_leastAt_l4 f_size c_found x1 x2 x3 = some r := hf
      have J32 : ∀ (x2 : Int32) (x3 : Int32), zf_X7_leastAt_32 x2 x3 = some r → ∀ (H : Heap) (locs : List Loc) (ls : Array Slot), lv_has ls 4 [(0, .ref a_this), (1, .int x1), (2, .int x2), (3, .int x3)] → va_P D vwCl [(a_this, .inr (7, [.ref a_lattice, .ref a_found, va_rf f_grid, .int f_size])), (a_found, .inl (y.1, 4096, .inl c_found))] H → va_D A [(a_this, .inr (7, [.ref a_lattice, .ref a_found, va_rf f_grid, .int f_size])), (a_found, .inl (y.1, 4096, .inl c_found))] → va_S A s.heap H locs → W p l e rm_X7_leastAt s m args below meth c H locs 0 0 Q (F0 m 32 ls []) := by
        intro x2 x3 hf H locs ls hl hP hD hS
        unfold zf_X7_leastAt_32 at hf
        refine lv_iinc (v := x3 + (1 : Int32)) (lv' := [(3, .int (x3 + (1 : Int32))), (0, .ref a_this), (1, .int x1), (2, .int x2)]) hx hb dX7_leastAt_32 hl (k := 3) rfl rfl (by decide) rfl (fun ls hl => ?_)
        refine lv_goto (tgt := 4) hx hb dX7_leastAt_35 (by decide) ?_
        obtain rfl := Option.some.inj hf
        exact ih x1 x2 (x3 + (1 : Int32)) x h _ _ _ (lv_sub hl [1, 2, 3, 0] rfl) hP hD hS K38 K27
      unfold zf_X7_leastAt_l4 at hf
      refine lv_iload_n hx hb dX7_leastAt_4 rfl (lv_at hl 3 rfl) ?_
      refine lv_aload_n hx hb dX7_leastAt_5 rfl (lv_at hl 0 rfl) ?_
      refine zget X hP 0 rfl rfl inF7 3 (by decide) q_188 rfl dX7_leastAt_6 ?_
      refine lv_icmp_ge (tgt := 38) hx hb dX7_leastAt_9 (by decide) (fun c9 => ?_) (fun c9 => ?_)
      · replace hf := zt c9 hf
        obtain rfl := Option.some.inj hf
        obtain rfl := Option.some.inj h
        exact K38 _ rfl _ _ _ (lv_sub hl [] rfl) hP hD hS
      · replace hf := ze c9 hf
        refine lv_aload_n hx hb dX7_leastAt_12 rfl (lv_at hl 0 rfl) ?_
        refine zget X hP 0 rfl rfl inF7 1 (by decide) q_186 rfl dX7_leastAt_13 ?_
        refine lv_iload_n hx hb dX7_leastAt_16 rfl (lv_at hl 3 rfl) ?_
        obtain ⟨g17, hf⟩ := zg hf
        refine va_iald hx hb hK hP 1 0 rfl rfl g17 dX7_leastAt_17 ?_
        refine lv_iconst (v := 2) hx hb dX7_leastAt_18 (by decide) ?_
        refine lv_icmp_ne (tgt := 32) hx hb dX7_leastAt_19 (by decide) (fun c19 => ?_) (fun c19 => ?_)
        · replace hf := ze c19 hf
          exact J32 x2 x3 hf _ _ _ hl hP hD hS
        · replace hf := zt c19 hf
          refine lv_iload_n hx hb dX7_leastAt_22 rfl (lv_at hl 2 rfl) ?_
          refine lv_iload_n hx hb dX7_leastAt_23 rfl (lv_at hl 1 rfl) ?_
          refine lv_icmp_ne (tgt := 29) hx hb dX7_leastAt_24 (by decide) (fun c24 => ?_) (fun c24 => ?_)
          · replace hf := ze c24 hf
            refine lv_iinc (v := x2 + (1 : Int32)) (lv' := [(2, .int (x2 + (1 : Int32))), (0, .ref a_this), (1, .int x1), (3, .int x3)]) hx hb dX7_leastAt_29 hl (k := 2) rfl rfl (by decide) rfl (fun ls hl => ?_)
            exact J32 (x2 + (1 : Int32)) x3 hf _ _ _ (lv_sub hl [1, 2, 0, 3] rfl) hP hD hS
          · replace hf := zt c24 hf
            obtain rfl := Option.some.inj hf
            obtain rfl := Option.some.inj h
            exact K27 _ rfl _ _ _ (lv_sub hl [3] rfl) hP hD hS
  unfold zf_X7_leastAt at hf
  refine lv_iconst (v := 0) hx hb dX7_leastAt_0 (by decide) ?_
  refine lv_istore_n (lv' := [(2, .int (0 : Int32)), (0, .ref a_this), (1, .int x1)]) hx hb dX7_leastAt_1 rfl hl (by decide) rfl (fun ls hl => ?_)
  refine lv_iconst (v := 0) hx hb dX7_leastAt_2 (by decide) ?_
  refine lv_istore_n (lv' := [(3, .int (0 : Int32)), (2, .int (0 : Int32)), (0, .ref a_this), (1, .int x1)]) hx hb dX7_leastAt_3 rfl hl (by decide) rfl (fun ls hl => ?_)
  obtain ⟨o4, ho4, hf⟩ := zb hf
  refine L4 zfu x1 (0 : Int32) (0 : Int32) o4 ho4 _ _ _ (lv_sub hl [2, 3, 1, 0] rfl) hP hD hS (fun e4 he H locs ls hl hP hD hS => ?_) (fun e4 he H locs ls hl hP hD hS => ?_)
  · subst he
    replace hf := zsl hf
    refine lv_iconst (v := -1) hx hb dX7_leastAt_38 (by decide) ?_
    obtain rfl := Option.some.inj hf
    exact zreti X hQ hP hD hS ⟨rfl, rfl⟩ rfl dX7_leastAt_39 (Nat.le_of_ble_eq_true rfl) (Nat.le_of_ble_eq_true rfl)
  · subst he
    replace hf := zsr hf
    refine lv_iload_n hx hb dX7_leastAt_27 rfl (lv_at hl 0 rfl) ?_
    obtain rfl := Option.some.inj hf
    exact zreti X hQ hP hD hS ⟨rfl, rfl⟩ rfl dX7_leastAt_28 (Nat.le_of_ble_eq_true rfl) (Nat.le_of_ble_eq_true rfl)

