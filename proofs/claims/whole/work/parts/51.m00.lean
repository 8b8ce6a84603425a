theorem kf_RX9_350 : zCB RX9 350 yX9_manyBy cX9_manyBy 4 (some .int) 1 ∧ Cond.instanceMethod yX9_manyBy ∈ wAll ∧ Cond.selects yX9_manyBy.cls yX9_manyBy yX9_manyBy ∈ wAll := ⟨⟨q_1872, q_9, q_1869, by decide +kernel⟩, q_1871, qp_98⟩
abbrev rm_X9_count : Room := { frames := 5, cells := 0, slots := 0, locals := 106 }
def zf_X9_count_30 (x3 : Int32) (s0 : Int32) (s1 : Int32) : Option ((Int32 × Int32) ⊕ ((Int32))) :=
  some (.inl (s0 + s1, x3 + (1 : Int32)))
def zf_X9_count_l9 (c_stone : Nat → Int32) (x2 : Int32) (x3 : Int32) : Option ((Int32 × Int32) ⊕ ((Int32))) :=
  if (25 : Int32) ≤ x3 then (some (.inr x2)) else (if zgd x3 25 = true then (if (c_stone x3.toNatClampNeg) = 0 then (zf_X9_count_30 x3 x2 (0 : Int32)) else (zf_X9_count_30 x3 x2 (1 : Int32))) else none)
def zf_X9_count (f_columns : Int32) (f_rows : Int32) (f_acts : Int32) (f_writtenMany : Int32) (c_told : Nat → Int32) (c_stone : Nat → Int32) (x1 : Int32) : Option (Int32 × Int32) :=
  (zit (fun d => zf_X9_count_l9 c_stone d.1 d.2) zfu ((0 : Int32), (0 : Int32))).bind fun o9 =>
  (if x1 = (0 : Int32) then (some (f_columns, (0 : Int32))) else (if x1 = (1 : Int32) then (some (f_rows, (0 : Int32))) else (if x1 = (2 : Int32) then ((zf_X9_manyBy f_columns f_rows c_told c_stone (0 : Int32)).bind fun o96 =>
  some (o96, (0 : Int32))) else (if x1 = (3 : Int32) then ((zf_X9_manyBy f_columns f_rows c_told c_stone (1 : Int32)).bind fun o102 =>
  some (o102, (0 : Int32))) else (if x1 = (4 : Int32) then ((zf_X9_manyBy f_columns f_rows c_told c_stone (2 : Int32)).bind fun o108 =>
  some (o108, (0 : Int32))) else (if x1 = (5 : Int32) then (some (o9, (0 : Int32))) else (if x1 = (6 : Int32) then (some (f_acts, (0 : Int32))) else (if x1 = (7 : Int32) then (some (f_writtenMany, (0 : Int32))) else (some ((-1 : Int32), (0 : Int32)))))))))))
set_option maxHeartbeats 4000000 in
set_option maxRecDepth 100000 in
theorem zc_X9_count (l : Launch) (D : va_G) (y : zY) (a_this a_tape a_newTold a_newHas a_newStone a_told a_stone a_pastTold a_pastStone a_pastColumns a_pastRows a_many a_number a_ways a_placeOf a_label a_old a_isOpen a_freeOnes a_joins a_given a_decided a_wet a_order a_kept a_written : Nat) (f_thrown : Int32) (f_taped : Int32) (f_size : Int32) (f_at : Int32) (f_fault : Int32) (f_newColumns : Int32) (f_newRows : Int32) (f_columns : Int32) (f_rows : Int32) (f_acts : Int32) (f_isLaid : Int32) (f_seed : Int32) (f_frees : Int32) (f_isKept : Int32) (f_keptHalf : Int32) (f_keptFree : Int32) (f_writtenMany : Int32) (c_told : Nat → Int32) (c_stone : Nat → Int32) (x1 : Int32) (out : Int32 × Int32) (hf : zf_X9_count f_columns f_rows f_acts f_writtenMany c_told c_stone x1 = some out) : zC l D y yX9_count cX9_count 4 (some .int) rm_X9_count [.ref a_this, .int x1] [(a_this, .inr (9, .int f_thrown :: .ref a_tape :: .int f_taped :: .int f_size :: .int f_at :: .int f_fault :: .int f_newColumns :: .int f_newRows :: .ref a_newTold :: .ref a_newHas :: .ref a_newStone :: .int f_columns :: .int f_rows :: .ref a_told :: .ref a_stone :: .int f_acts :: .ref a_pastTold :: .ref a_pastStone :: .ref a_pastColumns :: .ref a_pastRows :: .int f_isLaid :: .ref a_many :: .ref a_number :: .ref a_ways :: .ref a_placeOf :: .ref a_label :: .ref a_old :: .ref a_isOpen :: .ref a_freeOnes :: .ref a_joins :: .ref a_given :: .ref a_decided :: .ref a_wet :: .int f_seed :: .int f_frees :: .ref a_order :: .int f_isKept :: .int f_keptHalf :: .int f_keptFree :: .ref a_kept :: .ref a_written :: .int f_writtenMany :: [])), (a_told, .inl (y.1, 50, .inl c_told)), (a_stone, .inl (y.2.2.1, 25, .inl c_stone))] (zE (some (.int out.1)) [(a_this, .inr (9, .int out.2 :: .ref a_tape :: .int f_taped :: .int f_size :: .int f_at :: .int f_fault :: .int f_newColumns :: .int f_newRows :: .ref a_newTold :: .ref a_newHas :: .ref a_newStone :: .int f_columns :: .int f_rows :: .ref a_told :: .ref a_stone :: .int f_acts :: .ref a_pastTold :: .ref a_pastStone :: .ref a_pastColumns :: .ref a_pastRows :: .int f_isLaid :: .ref a_many :: .ref a_number :: .ref a_ways :: .ref a_placeOf :: .ref a_label :: .ref a_old :: .ref a_isOpen :: .ref a_freeOnes :: .ref a_joins :: .ref a_given :: .ref a_decided :: .ref a_wet :: .int f_seed :: .int f_frees :: .ref a_order :: .int f_isKept :: .int f_keptHalf :: .int f_keptFree :: .ref a_kept :: .ref a_written :: .int f_writtenMany :: [])), (a_told, .inl (y.1, 50, .inl c_told)), (a_stone, .inl (y.2.2.1, 25, .inl c_stone))]) := by
  refine zmk (by decide) (Nat.le_of_ble_eq_true rfl) ?_
  intro p e s m args below meth c A Q ls X hQ hnm hP hD hS hl
  have X : zX p s m args meth c D y A RX9 cX9_count 4 (some .int) := X
  obtain ⟨hx, hb, hr, hml, hown, hts, hK, hA, hlocks⟩ := id X
  have hl : lv_has ls 4 [(0, .ref a_this), (1, .int x1)] := hl
  have L9 : ∀ (n : Nat) (x1 : Int32) (x2 : Int32) (x3 : Int32) (f_thrown : Int32) (x : (Int32)), zit (fun d => zf_X9_count_l9 c_stone d.1 d.2) n (x2, x3) = some x → ∀ (H : Heap) (locs : List Loc) (ls : Array Slot), lv_has ls 4 [(0, .ref a_this), (1, .int x1), (2, .int x2), (3, .int x3)] → va_P D vwCl [(a_this, .inr (9, .int f_thrown :: .ref a_tape :: .int f_taped :: .int f_size :: .int f_at :: .int f_fault :: .int f_newColumns :: .int f_newRows :: .ref a_newTold :: .ref a_newHas :: .ref a_newStone :: .int f_columns :: .int f_rows :: .ref a_told :: .ref a_stone :: .int f_acts :: .ref a_pastTold :: .ref a_pastStone :: .ref a_pastColumns :: .ref a_pastRows :: .int f_isLaid :: .ref a_many :: .ref a_number :: .ref a_ways :: .ref a_placeOf :: .ref a_label :: .ref a_old :: .ref a_isOpen :: .ref a_freeOnes :: .ref a_joins :: .ref a_given :: .ref a_decided :: .ref a_wet :: .int f_seed :: .int f_frees :: .ref a_order :: .int f_isKept :: .int f_keptHalf :: .int f_keptFree :: .ref a_kept :: .ref a_written :: .int f_writtenMany :: [])), (a_told, .inl (y.1, 50, .inl c_told)), (a_stone, .inl (y.2.2.1, 25, .inl c_stone))] H → va_D A [(a_this, .inr (9, .int f_thrown :: .ref a_tape :: .int f_taped :: .int f_size :: .int f_at :: .int f_fault :: .int f_newColumns :: .int f_newRows :: .ref a_newTold :: .ref a_newHas :: .ref a_newStone :: .int f_columns :: .int f_rows :: .ref a_told :: .ref a_stone :: .int f_acts :: .ref a_pastTold :: .ref a_pastStone :: .ref a_pastColumns :: .ref a_pastRows :: .int f_isLaid :: .ref a_many :: .ref a_number :: .ref a_ways :: .ref a_placeOf :: .ref a_label :: .ref a_old :: .ref a_isOpen :: .ref a_freeOnes :: .ref a_joins :: .ref a_given :: .ref a_decided :: .ref a_wet :: .int f_seed :: .int f_frees :: .ref a_order :: .int f_isKept :: .int f_keptHalf :: .int f_keptFree :: .ref a_kept :: .ref a_written :: .int f_writtenMany :: [])), (a_told, .inl (y.1, 50, .inl c_told)), (a_stone, .inl (y.2.2.1, 25, .inl c_stone))] → va_S A s.heap H locs → (∀ (H : Heap) (locs : List Loc) (ls : Array Slot), lv_has ls 4 [(0, .ref a_this), (1, .int x1), (2, .int x)] → va_P D vwCl [(a_this, .inr (9, .int f_thrown :: .ref a_tape :: .int f_taped :: .int f_size :: .int f_at :: .int f_fault :: .int f_newColumns :: .int f_newRows :: .ref a_newTold :: .ref a_newHas :: .ref a_newStone :: .int f_columns :: .int f_rows :: .ref a_told :: .ref a_stone :: .int f_acts :: .ref a_pastTold :: .ref a_pastStone :: .ref a_pastColumns :: .ref a_pastRows :: .int f_isLaid :: .ref a_many :: .ref a_number :: .ref a_ways :: .ref a_placeOf :: .ref a_label :: .ref a_old :: .ref a_isOpen :: .ref a_freeOnes :: .ref a_joins :: .ref a_given :: .ref a_decided :: .ref a_wet :: .int f_seed :: .int f_frees :: .ref a_order :: .int f_isKept :: .int f_keptHalf :: .int f_keptFree :: .ref a_kept :: .ref a_written :: .int f_writtenMany :: [])), (a_told, .inl (y.1, 50, .inl c_told)), (a_stone, .inl (y.2.2.1, 25, .inl c_stone))] H → va_D A [(a_this, .inr (9, .int f_thrown :: .ref a_tape :: .int f_taped :: .int f_size :: .int f_at :: .int f_fault :: .int f_newColumns :: .int f_newRows :: .ref a_newTold :: .ref a_newHas :: .ref a_newStone :: .int f_columns :: .int f_rows :: .ref a_told :: .ref a_stone :: .int f_acts :: .ref a_pastTold :: .ref a_pastStone :: .ref a_pastColumns :: .ref a_pastRows :: .int f_isLaid :: .ref a_many :: .ref a_number :: .ref a_ways :: .ref a_placeOf :: .ref a_label :: .ref a_old :: .ref a_isOpen :: .ref a_freeOnes :: .ref a_joins :: .ref a_given :: .ref a_decided :: .ref a_wet :: .int f_seed :: .int f_frees :: .ref a_order :: .int f_isKept :: .int f_keptHalf :: .int f_keptFree :: .ref a_kept :: .ref a_written :: .int f_writtenMany :: [])), (a_told, .inl (y.1, 50, .inl c_told)), (a_stone, .inl (y.2.2.1, 25, .inl c_stone))] → va_S A s.heap H locs → W p l e rm_X9_count s m args below meth c H locs 0 0 Q (F0 m 38 ls [])) → W p l e rm_X9_count s m args below meth c H locs 0 0 Q (F0 m 9 ls []) := by
    intro n
    induction n with
    | zero => intro x1 x2 x3 f_thrown x h; exact (zi0 h).elim
    | succ n ih =>
      intro x1 x2 x3 f_thrown x h H locs ls hl hP hD hS K38
      obtain ⟨r, hf, h⟩ := zis h
      have hf : zf_X9_count_l9 c_stone x2 x3 = some r := hf
      have J30 : ∀ (x3 : Int32) (s0 : Int32) (s1 : Int32), zf_X9_count_30 x3 s0 s1 = some r → ∀ (H : Heap) (locs : List Loc) (ls : Array Slot), lv_has ls 4 [(0, .ref a_this), (1, .int x1), (3, .int x3)] → va_P D vwCl [(a_this, .inr (9, .int f_thrown :: .ref a_tape :: .int f_taped :: .int f_size :: .int f_at :: .int f_fault :: .int f_newColumns :: .int f_newRows :: .ref a_newTold :: .ref a_newHas :: .ref a_newStone :: .int f_columns :: .int f_rows :: .ref a_told :: .ref a_stone :: .int f_acts :: .ref a_pastTold :: .ref a_pastStone :: .ref a_pastColumns :: .ref a_pastRows :: .int f_isLaid :: .ref a_many :: .ref a_number :: .ref a_ways :: .ref a_placeOf :: .ref a_label :: .ref a_old :: .ref a_isOpen :: .ref a_freeOnes :: .ref a_joins :: .ref a_given :: .ref a_decided :: .ref a_wet :: .int f_seed :: .int f_frees :: .ref a_order :: .int f_isKept :: .int f_keptHalf :: .int f_keptFree :: .ref a_kept :: .ref a_written :: .int f_writtenMany :: [])), (a_told, .inl (y.1, 50, .inl c_told)), (a_stone, .inl (y.2.2.1, 25, .inl c_stone))] H → va_D A [(a_this, .inr (9, .int f_thrown :: .ref a_tape :: .int f_taped :: .int f_size :: .int f_at :: .int f_fault :: .int f_newColumns :: .int f_newRows :: .ref a_newTold :: .ref a_newHas :: .ref a_newStone :: .int f_columns :: .int f_rows :: .ref a_told :: .ref a_stone :: .int f_acts :: .ref a_pastTold :: .ref a_pastStone :: .ref a_pastColumns :: .ref a_pastRows :: .int f_isLaid :: .ref a_many :: .ref a_number :: .ref a_ways :: .ref a_placeOf :: .ref a_label :: .ref a_old :: .ref a_isOpen :: .ref a_freeOnes :: .ref a_joins :: .ref a_given :: .ref a_decided :: .ref a_wet :: .int f_seed :: .int f_frees :: .ref a_order :: .int f_isKept :: .int f_keptHalf :: .int f_keptFree :: .ref a_kept :: .ref a_written :: .int f_writtenMany :: [])), (a_told, .inl (y.1, 50, .inl c_told)), (a_stone, .inl (y.2.2.1, 25, .inl c_stone))] → va_S A s.heap H locs → W p l e rm_X9_count s m args below meth c H locs 0 0 Q (F0 m 30 ls [.int s1, .int s0]) := by
        intro x3 s0 s1 hf H locs ls hl hP hD hS
        unfold zf_X9_count_30 at hf
        refine lv_iadd hx hb dX9_count_30 ?_
        refine lv_istore_n (lv' := [(2, .int (s0 + s1)), (0, .ref a_this), (1, .int x1), (3, .int x3)]) hx hb dX9_count_31 rfl hl (by decide) rfl (fun ls hl => ?_)
        refine lv_iinc (v := x3 + (1 : Int32)) (lv' := [(3, .int (x3 + (1 : Int32))), (2, .int (s0 + s1)), (0, .ref a_this), (1, .int x1)]) hx hb dX9_count_32 hl (k := 3) rfl rfl (by decide) rfl (fun ls hl => ?_)
        refine lv_goto (tgt := 9) hx hb dX9_count_35 (by decide) ?_
        obtain rfl := Option.some.inj hf
        exact ih x1 (s0 + s1) (x3 + (1 : Int32)) f_thrown x h _ _ _ (lv_sub hl [2, 3, 1, 0] rfl) hP hD hS K38
      unfold zf_X9_count_l9 at hf
      refine lv_iload_n hx hb dX9_count_9 rfl (lv_at hl 3 rfl) ?_
      refine lv_bipush (v := 25) hx hb dX9_count_10 (by decide) ?_
      refine lv_icmp_ge (tgt := 38) hx hb dX9_count_12 (by decide) (fun c12 => ?_) (fun c12 => ?_)
      · replace hf := zt c12 hf
        obtain rfl := Option.some.inj hf
        obtain rfl := Option.some.inj h
        exact K38 _ _ _ (lv_sub hl [0, 1, 2] rfl) hP hD hS
      · replace hf := ze c12 hf
        refine lv_iload_n hx hb dX9_count_15 rfl (lv_at hl 2 rfl) ?_
        refine lv_aload_n hx hb dX9_count_16 rfl (lv_at hl 0 rfl) ?_
        refine zget X hP 0 rfl rfl inF9 14 (by decide) q_1346 rfl dX9_count_17 ?_
        refine lv_iload_n hx hb dX9_count_20 rfl (lv_at hl 3 rfl) ?_
        obtain ⟨g21, hf⟩ := zg hf
        refine va_zald hx hb hK hP 2 2 rfl rfl g21 dX9_count_21 ?_
        refine lv_if_eq (tgt := 29) hx hb dX9_count_22 (by decide) (fun c22 => ?_) (fun c22 => ?_)
        · replace hf := zt c22 hf
          refine lv_iconst (v := 0) hx hb dX9_count_29 (by decide) ?_
          exact J30 x3 x2 (0 : Int32) hf _ _ _ (lv_sub hl [0, 1, 3] rfl) hP hD hS
        · replace hf := ze c22 hf
          refine lv_iconst (v := 1) hx hb dX9_count_25 (by decide) ?_
          refine lv_goto (tgt := 30) hx hb dX9_count_26 (by decide) ?_
          exact J30 x3 x2 (1 : Int32) hf _ _ _ (lv_sub hl [0, 1, 3] rfl) hP hD hS
  unfold zf_X9_count at hf
  refine lv_aload_n hx hb dX9_count_0 rfl (lv_at hl 0 rfl) ?_
  refine lv_iconst (v := 0) hx hb dX9_count_1 (by decide) ?_
  refine zput (ty := .int) X hP hD hS 0 rfl rfl inF9 tyX9_ok nmX9 0 (by decide) q_1332 rfl rfl rfl rfl (Nat.le_of_ble_eq_true rfl) dX9_count_2 (fun H locs hP hD hS => ?_)
  have hP : va_P D vwCl [(a_this, .inr (9, .int (0 : Int32) :: .ref a_tape :: .int f_taped :: .int f_size :: .int f_at :: .int f_fault :: .int f_newColumns :: .int f_newRows :: .ref a_newTold :: .ref a_newHas :: .ref a_newStone :: .int f_columns :: .int f_rows :: .ref a_told :: .ref a_stone :: .int f_acts :: .ref a_pastTold :: .ref a_pastStone :: .ref a_pastColumns :: .ref a_pastRows :: .int f_isLaid :: .ref a_many :: .ref a_number :: .ref a_ways :: .ref a_placeOf :: .ref a_label :: .ref a_old :: .ref a_isOpen :: .ref a_freeOnes :: .ref a_joins :: .ref a_given :: .ref a_decided :: .ref a_wet :: .int f_seed :: .int f_frees :: .ref a_order :: .int f_isKept :: .int f_keptHalf :: .int f_keptFree :: .ref a_kept :: .ref a_written :: .int f_writtenMany :: [])), (a_told, .inl (y.1, 50, .inl c_told)), (a_stone, .inl (y.2.2.1, 25, .inl c_stone))] H := hP
  have hD : va_D A [(a_this, .inr (9, .int (0 : Int32) :: .ref a_tape :: .int f_taped :: .int f_size :: .int f_at :: .int f_fault :: .int f_newColumns :: .int f_newRows :: .ref a_newTold :: .ref a_newHas :: .ref a_newStone :: .int f_columns :: .int f_rows :: .ref a_told :: .ref a_stone :: .int f_acts :: .ref a_pastTold :: .ref a_pastStone :: .ref a_pastColumns :: .ref a_pastRows :: .int f_isLaid :: .ref a_many :: .ref a_number :: .ref a_ways :: .ref a_placeOf :: .ref a_label :: .ref a_old :: .ref a_isOpen :: .ref a_freeOnes :: .ref a_joins :: .ref a_given :: .ref a_decided :: .ref a_wet :: .int f_seed :: .int f_frees :: .ref a_order :: .int f_isKept :: .int f_keptHalf :: .int f_keptFree :: .ref a_kept :: .ref a_written :: .int f_writtenMany :: [])), (a_told, .inl (y.1, 50, .inl c_told)), (a_stone, .inl (y.2.2.1, 25, .inl c_stone))] := hD
  refine lv_iconst (v := 0) hx hb dX9_count_5 (by decide) ?_
  refine lv_istore_n (lv' := [(2, .int (0 : Int32)), (0, .ref a_this), (1, .int x1)]) hx hb dX9_count_6 rfl hl (by decide) rfl (fun ls hl => ?_)
  refine lv_iconst (v := 0) hx hb dX9_count_7 (by decide) ?_
  refine lv_istore_n (lv' := [(3, .int (0 : Int32)), (2, .int (0 : Int32)), (0, .ref a_this), (1, .int x1)]) hx hb dX9_count_8 rfl hl (by decide) rfl (fun ls hl => ?_)
  obtain ⟨o9, ho9, hf⟩ := zb hf
  refine L9 zfu x1 (0 : Int32) (0 : Int32) (0 : Int32) o9 ho9 _ _ _ (lv_sub hl [2, 3, 1, 0] rfl) hP hD hS (fun H locs ls hl hP hD hS => ?_)
  refine lv_iload_n hx hb dX9_count_38 rfl (lv_at hl 1 rfl) ?_
  by_cases c39_0 : x1 = (0 : Int32)
  · replace hf := zt c39_0 hf
    refine lv_tableIn (off := 45) (tgt := 84) hx hb dX9_count_39 (by rw [c39_0]; decide) (by rw [c39_0]; decide) (by rw [c39_0]; decide) (by decide) ?_
    refine lv_aload_n hx hb dX9_count_84 rfl (lv_at hl 0 rfl) ?_
    refine zget X hP 0 rfl rfl inF9 11 (by decide) q_1343 rfl dX9_count_85 ?_
    obtain rfl := Option.some.inj hf
    exact zreti X hQ hP hD hS ⟨rfl, rfl⟩ rfl dX9_count_88 (Nat.le_of_ble_eq_true rfl) (Nat.le_of_ble_eq_true rfl)
  replace hf := ze c39_0 hf
  by_cases c39_1 : x1 = (1 : Int32)
  · replace hf := zt c39_1 hf
    refine lv_tableIn (off := 50) (tgt := 89) hx hb dX9_count_39 (by rw [c39_1]; decide) (by rw [c39_1]; decide) (by rw [c39_1]; decide) (by decide) ?_
    refine lv_aload_n hx hb dX9_count_89 rfl (lv_at hl 0 rfl) ?_
    refine zget X hP 0 rfl rfl inF9 12 (by decide) q_1344 rfl dX9_count_90 ?_
    obtain rfl := Option.some.inj hf
    exact zreti X hQ hP hD hS ⟨rfl, rfl⟩ rfl dX9_count_93 (Nat.le_of_ble_eq_true rfl) (Nat.le_of_ble_eq_true rfl)
  replace hf := ze c39_1 hf
  by_cases c39_2 : x1 = (2 : Int32)
  · replace hf := zt c39_2 hf
    refine lv_tableIn (off := 55) (tgt := 94) hx hb dX9_count_39 (by rw [c39_2]; decide) (by rw [c39_2]; decide) (by rw [c39_2]; decide) (by decide) ?_
    refine lv_aload_n hx hb dX9_count_94 rfl (lv_at hl 0 rfl) ?_
    refine lv_iconst (v := 0) hx hb dX9_count_95 (by decide) ?_
    obtain ⟨o96, ho96, hf⟩ := zb hf
    refine zcV1 (wr := []) (rest := []) X (zc_X9_manyBy l D y a_this a_tape a_newTold a_newHas a_newStone a_told a_stone a_pastTold a_pastStone a_pastColumns a_pastRows a_many a_number a_ways a_placeOf a_label a_old a_isOpen a_freeOnes a_joins a_given a_decided a_wet a_order a_kept a_written (0 : Int32) f_taped f_size f_at f_fault f_newColumns f_newRows f_columns f_rows f_acts f_isLaid f_seed f_frees f_isKept f_keptHalf f_keptFree f_writtenMany c_told c_stone (0 : Int32) o96 ho96) kf_RX9_350 ⟨(Nat.le_of_ble_eq_true rfl), (Nat.le_of_ble_eq_true rfl)⟩ hP hD hS [0, 1, 2] [] rfl rfl rfl rfl (by decide) 0 rfl rfl rfl rfl hl.1 (Nat.le_of_ble_eq_true rfl) dX9_count_96 ⟨(Nat.le_of_ble_eq_true rfl), (Nat.le_of_ble_eq_true rfl)⟩ (fun H locs hP hD hS => ?_)
    have hP : va_P D vwCl [(a_this, .inr (9, .int (0 : Int32) :: .ref a_tape :: .int f_taped :: .int f_size :: .int f_at :: .int f_fault :: .int f_newColumns :: .int f_newRows :: .ref a_newTold :: .ref a_newHas :: .ref a_newStone :: .int f_columns :: .int f_rows :: .ref a_told :: .ref a_stone :: .int f_acts :: .ref a_pastTold :: .ref a_pastStone :: .ref a_pastColumns :: .ref a_pastRows :: .int f_isLaid :: .ref a_many :: .ref a_number :: .ref a_ways :: .ref a_placeOf :: .ref a_label :: .ref a_old :: .ref a_isOpen :: .ref a_freeOnes :: .ref a_joins :: .ref a_given :: .ref a_decided :: .ref a_wet :: .int f_seed :: .int f_frees :: .ref a_order :: .int f_isKept :: .int f_keptHalf :: .int f_keptFree :: .ref a_kept :: .ref a_written :: .int f_writtenMany :: [])), (a_told, .inl (y.1, 50, .inl c_told)), (a_stone, .inl (y.2.2.1, 25, .inl c_stone))] H := hP
    have hD : va_D A [(a_this, .inr (9, .int (0 : Int32) :: .ref a_tape :: .int f_taped :: .int f_size :: .int f_at :: .int f_fault :: .int f_newColumns :: .int f_newRows :: .ref a_newTold :: .ref a_newHas :: .ref a_newStone :: .int f_columns :: .int f_rows :: .ref a_told :: .ref a_stone :: .int f_acts :: .ref a_pastTold :: .ref a_pastStone :: .ref a_pastColumns :: .ref a_pastRows :: .int f_isLaid :: .ref a_many :: .ref a_number :: .ref a_ways :: .ref a_placeOf :: .ref a_label :: .ref a_old :: .ref a_isOpen :: .ref a_freeOnes :: .ref a_joins :: .ref a_given :: .ref a_decided :: .ref a_wet :: .int f_seed :: .int f_frees :: .ref a_order :: .int f_isKept :: .int f_keptHalf :: .int f_keptFree :: .ref a_kept :: .ref a_written :: .int f_writtenMany :: [])), (a_told, .inl (y.1, 50, .inl c_told)), (a_stone, .inl (y.2.2.1, 25, .inl c_stone))] := hD
    obtain rfl := Option.some.inj hf
    exact zreti X hQ hP hD hS ⟨rfl, rfl⟩ rfl dX9_count_99 (Nat.le_of_ble_eq_true rfl) (Nat.le_of_ble_eq_true rfl)
  replace hf := ze c39_2 hf
  by_cases c39_3 : x1 = (3 : Int32)
  · replace hf := zt c39_3 hf
    refine lv_tableIn (off := 61) (tgt := 100) hx hb dX9_count_39 (by rw [c39_3]; decide) (by rw [c39_3]; decide) (by rw [c39_3]; decide) (by decide) ?_
    refine lv_aload_n hx hb dX9_count_100 rfl (lv_at hl 0 rfl) ?_
    refine lv_iconst (v := 1) hx hb dX9_count_101 (by decide) ?_
    obtain ⟨o102, ho102, hf⟩ := zb hf
    refine zcV1 (wr := []) (rest := []) X (zc_X9_manyBy l D y a_this a_tape a_newTold a_newHas a_newStone a_told a_stone a_pastTold a_pastStone a_pastColumns a_pastRows a_many a_number a_ways a_placeOf a_label a_old a_isOpen a_freeOnes a_joins a_given a_decided a_wet a_order a_kept a_written (0 : Int32) f_taped f_size f_at f_fault f_newColumns f_newRows f_columns f_rows f_acts f_isLaid f_seed f_frees f_isKept f_keptHalf f_keptFree f_writtenMany c_told c_stone (1 : Int32) o102 ho102) kf_RX9_350 ⟨(Nat.le_of_ble_eq_true rfl), (Nat.le_of_ble_eq_true rfl)⟩ hP hD hS [0, 1, 2] [] rfl rfl rfl rfl (by decide) 0 rfl rfl rfl rfl hl.1 (Nat.le_of_ble_eq_true rfl) dX9_count_102 ⟨(Nat.le_of_ble_eq_true rfl), (Nat.le_of_ble_eq_true rfl)⟩ (fun H locs hP hD hS => ?_)
    have hP : va_P D vwCl [(a_this, .inr (9, .int (0 : Int32) :: .ref a_tape :: .int f_taped :: .int f_size :: .int f_at :: .int f_fault :: .int f_newColumns :: .int f_newRows :: .ref a_newTold :: .ref a_newHas :: .ref a_newStone :: .int f_columns :: .int f_rows :: .ref a_told :: .ref a_stone :: .int f_acts :: .ref a_pastTold :: .ref a_pastStone :: .ref a_pastColumns :: .ref a_pastRows :: .int f_isLaid :: .ref a_many :: .ref a_number :: .ref a_ways :: .ref a_placeOf :: .ref a_label :: .ref a_old :: .ref a_isOpen :: .ref a_freeOnes :: .ref a_joins :: .ref a_given :: .ref a_decided :: .ref a_wet :: .int f_seed :: .int f_frees :: .ref a_order :: .int f_isKept :: .int f_keptHalf :: .int f_keptFree :: .ref a_kept :: .ref a_written :: .int f_writtenMany :: [])), (a_told, .inl (y.1, 50, .inl c_told)), (a_stone, .inl (y.2.2.1, 25, .inl c_stone))] H := hP
    have hD : va_D A [(a_this, .inr (9, .int (0 : Int32) :: .ref a_tape :: .int f_taped :: .int f_size :: .int f_at :: .int f_fault :: .int f_newColumns :: .int f_newRows :: .ref a_newTold :: .ref a_newHas :: .ref a_newStone :: .int f_columns :: .int f_rows :: .ref a_told :: .ref a_stone :: .int f_acts :: .ref a_pastTold :: .ref a_pastStone :: .ref a_pastColumns :: .ref a_pastRows :: .int f_isLaid :: .ref a_many :: .ref a_number :: .ref a_ways :: .ref a_placeOf :: .ref a_label :: .ref a_old :: .ref a_isOpen :: .ref a_freeOnes :: .ref a_joins :: .ref a_given :: .ref a_decided :: .ref a_wet :: .int f_seed :: .int f_frees :: .ref a_order :: .int f_isKept :: .int f_keptHalf :: .int f_keptFree :: .ref a_kept :: .ref a_written :: .int f_writtenMany :: [])), (a_told, .inl (y.1, 50, .inl c_told)), (a_stone, .inl (y.2.2.1, 25, .inl c_stone))] := hD
    obtain rfl := Option.some.inj hf
    exact zreti X hQ hP hD hS ⟨rfl, rfl⟩ rfl dX9_count_105 (Nat.le_of_ble_eq_true rfl) (Nat.le_of_ble_eq_true rfl)
  replace hf := ze c39_3 hf
  by_cases c39_4 : x1 = (4 : Int32)
  · replace hf := zt c39_4 hf
    refine lv_tableIn (off := 67) (tgt := 106) hx hb dX9_count_39 (by rw [c39_4]; decide) (by rw [c39_4]; decide) (by rw [c39_4]; decide) (by decide) ?_
    refine lv_aload_n hx hb dX9_count_106 rfl (lv_at hl 0 rfl) ?_
    refine lv_iconst (v := 2) hx hb dX9_count_107 (by decide) ?_
    obtain ⟨o108, ho108, hf⟩ := zb hf
    refine zcV1 (wr := []) (rest := []) X (zc_X9_manyBy l D y a_this a_tape a_newTold a_newHas a_newStone a_told a_stone a_pastTold a_pastStone a_pastColumns a_pastRows a_many a_number a_ways a_placeOf a_label a_old a_isOpen a_freeOnes a_joins a_given a_decided a_wet a_order a_kept a_written (0 : Int32) f_taped f_size f_at f_fault f_newColumns f_newRows f_columns f_rows f_acts f_isLaid f_seed f_frees f_isKept f_keptHalf f_keptFree f_writtenMany c_told c_stone (2 : Int32) o108 ho108) kf_RX9_350 ⟨(Nat.le_of_ble_eq_true rfl), (Nat.le_of_ble_eq_true rfl)⟩ hP hD hS [0, 1, 2] [] rfl rfl rfl rfl (by decide) 0 rfl rfl rfl rfl hl.1 (Nat.le_of_ble_eq_true rfl) dX9_count_108 ⟨(Nat.le_of_ble_eq_true rfl), (Nat.le_of_ble_eq_true rfl)⟩ (fun H locs hP hD hS => ?_)
    have hP : va_P D vwCl [(a_this, .inr (9, .int (0 : Int32) :: .ref a_tape :: .int f_taped :: .int f_size :: .int f_at :: .int f_fault :: .int f_newColumns :: .int f_newRows :: .ref a_newTold :: .ref a_newHas :: .ref a_newStone :: .int f_columns :: .int f_rows :: .ref a_told :: .ref a_stone :: .int f_acts :: .ref a_pastTold :: .ref a_pastStone :: .ref a_pastColumns :: .ref a_pastRows :: .int f_isLaid :: .ref a_many :: .ref a_number :: .ref a_ways :: .ref a_placeOf :: .ref a_label :: .ref a_old :: .ref a_isOpen :: .ref a_freeOnes :: .ref a_joins :: .ref a_given :: .ref a_decided :: .ref a_wet :: .int f_seed :: .int f_frees :: .ref a_order :: .int f_isKept :: .int f_keptHalf :: .int f_keptFree :: .ref a_kept :: .ref a_written :: .int f_writtenMany :: [])), (a_told, .inl (y.1, 50, .inl c_told)), (a_stone, .inl (y.2.2.1, 25, .inl c_stone))] H := hP
    have hD : va_D A [(a_this, .inr (9, .int (0 : Int32) :: .ref a_tape :: .int f_taped :: .int f_size :: .int f_at :: .int f_fault :: .int f_newColumns :: .int f_newRows :: .ref a_newTold :: .ref a_newHas :: .ref a_newStone :: .int f_columns :: .int f_rows :: .ref a_told :: .ref a_stone :: .int f_acts :: .ref a_pastTold :: .ref a_pastStone :: .ref a_pastColumns :: .ref a_pastRows :: .int f_isLaid :: .ref a_many :: .ref a_number :: .ref a_ways :: .ref a_placeOf :: .ref a_label :: .ref a_old :: .ref a_isOpen :: .ref a_freeOnes :: .ref a_joins :: .ref a_given :: .ref a_decided :: .ref a_wet :: .int f_seed :: .int f_frees :: .ref a_order :: .int f_isKept :: .int f_keptHalf :: .int f_keptFree :: .ref a_kept :: .ref a_written :: .int f_writtenMany :: [])), (a_told, .inl (y.1, 50, .inl c_told)), (a_stone, .inl (y.2.2.1, 25, .inl c_stone))] := hD
    obtain rfl := Option.some.inj hf
    exact zreti X hQ hP hD hS ⟨rfl, rfl⟩ rfl dX9_count_111 (Nat.le_of_ble_eq_true rfl) (Nat.le_of_ble_eq_true rfl)
  replace hf := ze c39_4 hf
  by_cases c39_5 : x1 = (5 : Int32)
  · replace hf := zt c39_5 hf
    refine lv_tableIn (off := 73) (tgt := 112) hx hb dX9_count_39 (by rw [c39_5]; decide) (by rw [c39_5]; decide) (by rw [c39_5]; decide) (by decide) ?_
    refine lv_iload_n hx hb dX9_count_112 rfl (lv_at hl 2 rfl) ?_
    obtain rfl := Option.some.inj hf
    exact zreti X hQ hP hD hS ⟨rfl, rfl⟩ rfl dX9_count_113 (Nat.le_of_ble_eq_true rfl) (Nat.le_of_ble_eq_true rfl)
  replace hf := ze c39_5 hf
  by_cases c39_6 : x1 = (6 : Int32)
  · replace hf := zt c39_6 hf
    refine lv_tableIn (off := 75) (tgt := 114) hx hb dX9_count_39 (by rw [c39_6]; decide) (by rw [c39_6]; decide) (by rw [c39_6]; decide) (by decide) ?_
    refine lv_aload_n hx hb dX9_count_114 rfl (lv_at hl 0 rfl) ?_
    refine zget X hP 0 rfl rfl inF9 15 (by decide) q_1347 rfl dX9_count_115 ?_
    obtain rfl := Option.some.inj hf
    exact zreti X hQ hP hD hS ⟨rfl, rfl⟩ rfl dX9_count_118 (Nat.le_of_ble_eq_true rfl) (Nat.le_of_ble_eq_true rfl)
  replace hf := ze c39_6 hf
  by_cases c39_7 : x1 = (7 : Int32)
  · replace hf := zt c39_7 hf
    refine lv_tableIn (off := 80) (tgt := 119) hx hb dX9_count_39 (by rw [c39_7]; decide) (by rw [c39_7]; decide) (by rw [c39_7]; decide) (by decide) ?_
    refine lv_aload_n hx hb dX9_count_119 rfl (lv_at hl 0 rfl) ?_
    refine zget X hP 0 rfl rfl inF9 41 (by decide) q_1373 rfl dX9_count_120 ?_
    obtain rfl := Option.some.inj hf
    exact zreti X hQ hP hD hS ⟨rfl, rfl⟩ rfl dX9_count_123 (Nat.le_of_ble_eq_true rfl) (Nat.le_of_ble_eq_true rfl)
  replace hf := ze c39_7 hf
  refine lv_tableOut (tgt := 124) hx hb dX9_count_39 (ztsO (n := 7) (by decide) (fun k hk => by
    rcases (show k = 0 ∨ k = 1 ∨ k = 2 ∨ k = 3 ∨ k = 4 ∨ k = 5 ∨ k = 6 ∨ k = 7 by omega) with rfl | rfl | rfl | rfl | rfl | rfl | rfl | rfl
    · exact c39_0
    · exact c39_1
    · exact c39_2
    · exact c39_3
    · exact c39_4
    · exact c39_5
    · exact c39_6
    · exact c39_7
    )) (by decide) ?_
  refine lv_iconst (v := -1) hx hb dX9_count_124 (by decide) ?_
  obtain rfl := Option.some.inj hf
  exact zreti X hQ hP hD hS ⟨rfl, rfl⟩ rfl dX9_count_125 (Nat.le_of_ble_eq_true rfl) (Nat.le_of_ble_eq_true rfl)

