
abbrev rm_X9_thrown : Room := { frames := 0, cells := 0, slots := 0, locals := 0 }
def zf_X9_thrown (f_thrown : Int32) : Option (Int32) :=
  some f_thrown
set_option maxHeartbeats 4000000 in
set_option maxRecDepth 100000 in
theorem zc_X9_thrown (l : Launch) (D : va_G) (y : zY) (a_this a_tape a_newTold a_newHas a_newStone a_told a_stone a_pastTold a_pastStone a_pastColumns a_pastRows a_many a_number a_ways a_placeOf a_label a_old a_isOpen a_freeOnes a_joins a_given a_decided a_wet a_order a_kept a_written : Nat) (f_thrown : Int32) (f_taped : Int32) (f_size : Int32) (f_at : Int32) (f_fault : Int32) (f_newColumns : Int32) (f_newRows : Int32) (f_columns : Int32) (f_rows : Int32) (f_acts : Int32) (f_isLaid : Int32) (f_seed : Int32) (f_frees : Int32) (f_isKept : Int32) (f_keptHalf : Int32) (f_keptFree : Int32) (f_writtenMany : Int32) (out : Int32) (hf : zf_X9_thrown f_thrown = some out) : zC l D y yX9_thrown cX9_thrown 1 (some .int) rm_X9_thrown [.ref a_this] [(a_this, .inr (9, .int f_thrown :: .ref a_tape :: .int f_taped :: .int f_size :: .int f_at :: .int f_fault :: .int f_newColumns :: .int f_newRows :: .ref a_newTold :: .ref a_newHas :: .ref a_newStone :: .int f_columns :: .int f_rows :: .ref a_told :: .ref a_stone :: .int f_acts :: .ref a_pastTold :: .ref a_pastStone :: .ref a_pastColumns :: .ref a_pastRows :: .int f_isLaid :: .ref a_many :: .ref a_number :: .ref a_ways :: .ref a_placeOf :: .ref a_label :: .ref a_old :: .ref a_isOpen :: .ref a_freeOnes :: .ref a_joins :: .ref a_given :: .ref a_decided :: .ref a_wet :: .int f_seed :: .int f_frees :: .ref a_order :: .int f_isKept :: .int f_keptHalf :: .int f_keptFree :: .ref a_kept :: .ref a_written :: .int f_writtenMany :: []))] (zE (some (.int out)) [(a_this, .inr (9, .int f_thrown :: .ref a_tape :: .int f_taped :: .int f_size :: .int f_at :: .int f_fault :: .int f_newColumns :: .int f_newRows :: .ref a_newTold :: .ref a_newHas :: .ref a_newStone :: .int f_columns :: .int f_rows :: .ref a_told :: .ref a_stone :: .int f_acts :: .ref a_pastTold :: .ref a_pastStone :: .ref a_pastColumns :: .ref a_pastRows :: .int f_isLaid :: .ref a_many :: .ref a_number :: .ref a_ways :: .ref a_placeOf :: .ref a_label :: .ref a_old :: .ref a_isOpen :: .ref a_freeOnes :: .ref a_joins :: .ref a_given :: .ref a_decided :: .ref a_wet :: .int f_seed :: .int f_frees :: .ref a_order :: .int f_isKept :: .int f_keptHalf :: .int f_keptFree :: .ref a_kept :: .ref a_written :: .int f_writtenMany :: []))]) := by
  refine zmk (by decide) (Nat.le_of_ble_eq_true rfl) ?_
  intro p e s m args below meth c A Q ls X hQ hnm hP hD hS hl
  have X : zX p s m args meth c D y A RX9 cX9_thrown 1 (some .int) := X
  obtain ⟨hx, hb, hr, hml, hown, hts, hK, hA, hlocks⟩ := id X
  have hl : lv_has ls 1 [(0, .ref a_this)] := hl
  unfold zf_X9_thrown at hf
  refine lv_aload_n hx hb dX9_thrown_0 rfl (lv_at hl 0 rfl) ?_
  refine zget X hP 0 rfl rfl inF9 0 (by decide) q_1332 rfl dX9_thrown_1 ?_
  obtain rfl := Option.some.inj hf
  exact zreti X hQ hP hD hS ⟨rfl, rfl⟩ rfl dX9_thrown_4 (Nat.le_of_ble_eq_true rfl) (Nat.le_of_ble_eq_true rfl)


abbrev rm_X9_isIn : Room := { frames := 0, cells := 0, slots := 0, locals := 0 }
def zf_X9_isIn (x0 : Int32) (x1 : Int32) (x2 : Int32) : Option (Int32) :=
  if x0 < x1 then (some (0 : Int32)) else (if x2 < x0 then (some (0 : Int32)) else (some (1 : Int32)))
set_option maxHeartbeats 4000000 in
set_option maxRecDepth 100000 in
theorem zc_X9_isIn (l : Launch) (D : va_G) (y : zY) (x0 : Int32) (x1 : Int32) (x2 : Int32) (out : Int32) (hf : zf_X9_isIn x0 x1 x2 = some out) : zC l D y yX9_isIn cX9_isIn 3 (some .boolean) rm_X9_isIn [.int x0, .int x1, .int x2] [] (zE (some (.int out)) []) := by
  refine zmk (by decide) (Nat.le_of_ble_eq_true rfl) ?_
  intro p e s m args below meth c A Q ls X hQ hnm hP hD hS hl
  have X : zX p s m args meth c D y A RX9 cX9_isIn 3 (some .boolean) := X
  obtain ⟨hx, hb, hr, hml, hown, hts, hK, hA, hlocks⟩ := id X
  have hl : lv_has ls 3 [(0, .int x0), (1, .int x1), (2, .int x2)] := hl
  unfold zf_X9_isIn at hf
  refine lv_iload_n hx hb dX9_isIn_0 rfl (lv_at hl 0 rfl) ?_
  refine lv_iload_n hx hb dX9_isIn_1 rfl (lv_at hl 1 rfl) ?_
  refine lv_icmp_lt (tgt := 14) hx hb dX9_isIn_2 (by decide) (fun c2 => ?_) (fun c2 => ?_)
  · replace hf := zt c2 hf
    refine lv_iconst (v := 0) hx hb dX9_isIn_14 (by decide) ?_
    obtain rfl := Option.some.inj hf
    exact zreti X hQ hP hD hS ⟨rfl, rfl⟩ rfl dX9_isIn_15 (Nat.le_of_ble_eq_true rfl) (Nat.le_of_ble_eq_true rfl)
  · replace hf := ze c2 hf
    refine lv_iload_n hx hb dX9_isIn_5 rfl (lv_at hl 0 rfl) ?_
    refine lv_iload_n hx hb dX9_isIn_6 rfl (lv_at hl 2 rfl) ?_
    refine lv_icmp_gt (tgt := 14) hx hb dX9_isIn_7 (by decide) (fun c7 => ?_) (fun c7 => ?_)
    · replace hf := zt c7 hf
      refine lv_iconst (v := 0) hx hb dX9_isIn_14 (by decide) ?_
      obtain rfl := Option.some.inj hf
      exact zreti X hQ hP hD hS ⟨rfl, rfl⟩ rfl dX9_isIn_15 (Nat.le_of_ble_eq_true rfl) (Nat.le_of_ble_eq_true rfl)
    · replace hf := ze c7 hf
      refine lv_iconst (v := 1) hx hb dX9_isIn_10 (by decide) ?_
      refine lv_goto (tgt := 15) hx hb dX9_isIn_11 (by decide) ?_
      obtain rfl := Option.some.inj hf
      exact zreti X hQ hP hD hS ⟨rfl, rfl⟩ rfl dX9_isIn_15 (Nat.le_of_ble_eq_true rfl) (Nat.le_of_ble_eq_true rfl)


abbrev rm_X9_feed : Room := { frames := 0, cells := 0, slots := 0, locals := 0 }
def zf_X9_feed_76 (f_taped : Int32) (c_tape : Nat → Int32) (x6 : Int32) (s0 : Int32) : Option ((Int32 × Int32 × (Nat → Int32)) ⊕ ((Int32 × (Nat → Int32)))) :=
  if zgd f_taped 400 = true then (some (.inl (x6 + (1 : Int32), f_taped + (1 : Int32), upd c_tape f_taped.toNatClampNeg ((zshr s0 ((24 : Int32) - ((8 : Int32) * (zrem x6 (4 : Int32))))) &&& (255 : Int32))))) else none
def zf_X9_feed_l23 (x1 : Int32) (x2 : Int32) (x3 : Int32) (x4 : Int32) (x5 : Int32) (x6 : Int32) (f_taped : Int32) (c_tape : Nat → Int32) : Option ((Int32 × Int32 × (Nat → Int32)) ⊕ ((Int32 × (Nat → Int32)))) :=
  if (20 : Int32) ≤ x6 then (some (.inr (f_taped, c_tape))) else (if (4 : Int32) ≤ x6 then (if (8 : Int32) ≤ x6 then (if (12 : Int32) ≤ x6 then (if (16 : Int32) ≤ x6 then (zf_X9_feed_76 f_taped c_tape x6 x5) else (zf_X9_feed_76 f_taped c_tape x6 x4)) else (zf_X9_feed_76 f_taped c_tape x6 x3)) else (zf_X9_feed_76 f_taped c_tape x6 x2)) else (zf_X9_feed_76 f_taped c_tape x6 x1))
def zf_X9_feed (f_taped : Int32) (c_tape : Nat → Int32) (x1 : Int32) (x2 : Int32) (x3 : Int32) (x4 : Int32) (x5 : Int32) : Option (Int32 × Int32 × Int32 × (Nat → Int32)) :=
  if (f_taped + (20 : Int32)) ≤ (400 : Int32) then ((zit (fun d => zf_X9_feed_l23 x1 x2 x3 x4 x5 d.1 d.2.1 d.2.2) zfu ((0 : Int32), f_taped, c_tape)).bind fun o23 =>
  some (o23.1, (0 : Int32), o23.1, o23.2)) else (some ((-1 : Int32), (0 : Int32), f_taped, c_tape))
set_option maxHeartbeats 4000000 in
set_option maxRecDepth 100000 in
theorem zc_X9_feed (l : Launch) (D : va_G) (y : zY) (a_this a_tape a_newTold a_newHas a_newStone a_told a_stone a_pastTold a_pastStone a_pastColumns a_pastRows a_many a_number a_ways a_placeOf a_label a_old a_isOpen a_freeOnes a_joins a_given a_decided a_wet a_order a_kept a_written : Nat) (f_thrown : Int32) (f_taped : Int32) (f_size : Int32) (f_at : Int32) (f_fault : Int32) (f_newColumns : Int32) (f_newRows : Int32) (f_columns : Int32) (f_rows : Int32) (f_acts : Int32) (f_isLaid : Int32) (f_seed : Int32) (f_frees : Int32) (f_isKept : Int32) (f_keptHalf : Int32) (f_keptFree : Int32) (f_writtenMany : Int32) (c_tape : Nat → Int32) (x1 : Int32) (x2 : Int32) (x3 : Int32) (x4 : Int32) (x5 : Int32) (out : Int32 × Int32 × Int32 × (Nat → Int32)) (hf : zf_X9_feed f_taped c_tape x1 x2 x3 x4 x5 = some out) : zC l D y yX9_feed cX9_feed 8 (some .int) rm_X9_feed [.ref a_this, .int x1, .int x2, .int x3, .int x4, .int x5] [(a_this, .inr (9, .int f_thrown :: .ref a_tape :: .int f_taped :: .int f_size :: .int f_at :: .int f_fault :: .int f_newColumns :: .int f_newRows :: .ref a_newTold :: .ref a_newHas :: .ref a_newStone :: .int f_columns :: .int f_rows :: .ref a_told :: .ref a_stone :: .int f_acts :: .ref a_pastTold :: .ref a_pastStone :: .ref a_pastColumns :: .ref a_pastRows :: .int f_isLaid :: .ref a_many :: .ref a_number :: .ref a_ways :: .ref a_placeOf :: .ref a_label :: .ref a_old :: .ref a_isOpen :: .ref a_freeOnes :: .ref a_joins :: .ref a_given :: .ref a_decided :: .ref a_wet :: .int f_seed :: .int f_frees :: .ref a_order :: .int f_isKept :: .int f_keptHalf :: .int f_keptFree :: .ref a_kept :: .ref a_written :: .int f_writtenMany :: [])), (a_tape, .inl (y.1, 400, .inl c_tape))] (zE (some (.int out.1)) [(a_this, .inr (9, .int out.2.1 :: .ref a_tape :: .int out.2.2.1 :: .int f_size :: .int f_at :: .int f_fault :: .int f_newColumns :: .int f_newRows :: .ref a_newTold :: .ref a_newHas :: .ref a_newStone :: .int f_columns :: .int f_rows :: .ref a_told :: .ref a_stone :: .int f_acts :: .ref a_pastTold :: .ref a_pastStone :: .ref a_pastColumns :: .ref a_pastRows :: .int f_isLaid :: .ref a_many :: .ref a_number :: .ref a_ways :: .ref a_placeOf :: .ref a_label :: .ref a_old :: .ref a_isOpen :: .ref a_freeOnes :: .ref a_joins :: .ref a_given :: .ref a_decided :: .ref a_wet :: .int f_seed :: .int f_frees :: .ref a_order :: .int f_isKept :: .int f_keptHalf :: .int f_keptFree :: .ref a_kept :: .ref a_written :: .int f_writtenMany :: [])), (a_tape, .inl (y.1, 400, .inl out.2.2.2))]) := by
  refine zmk (by decide) (Nat.le_of_ble_eq_true rfl) ?_
  intro p e s m args below meth c A Q ls X hQ hnm hP hD hS hl
  have X : zX p s m args meth c D y A RX9 cX9_feed 8 (some .int) := X
  obtain ⟨hx, hb, hr, hml, hown, hts, hK, hA, hlocks⟩ := id X
  have hl : lv_has ls 8 [(0, .ref a_this), (1, .int x1), (2, .int x2), (3, .int x3), (4, .int x4), (5, .int x5)] := hl
  have L23 : ∀ (n : Nat) (x1 : Int32) (x2 : Int32) (x3 : Int32) (x4 : Int32) (x5 : Int32) (x6 : Int32) (f_thrown : Int32) (f_taped : Int32) (c_tape : Nat → Int32) (x : (Int32 × (Nat → Int32))), zit (fun d => zf_X9_feed_l23 x1 x2 x3 x4 x5 d.1 d.2.1 d.2.2) n (x6, f_taped, c_tape) = some x → ∀ (H : Heap) (locs : List Loc) (ls : Array Slot), lv_has ls 8 [(0, .ref a_this), (1, .int x1), (2, .int x2), (3, .int x3), (4, .int x4), (5, .int x5), (6, .int x6)] → va_P D vwCl [(a_this, .inr (9, .int f_thrown :: .ref a_tape :: .int f_taped :: .int f_size :: .int f_at :: .int f_fault :: .int f_newColumns :: .int f_newRows :: .ref a_newTold :: .ref a_newHas :: .ref a_newStone :: .int f_columns :: .int f_rows :: .ref a_told :: .ref a_stone :: .int f_acts :: .ref a_pastTold :: .ref a_pastStone :: .ref a_pastColumns :: .ref a_pastRows :: .int f_isLaid :: .ref a_many :: .ref a_number :: .ref a_ways :: .ref a_placeOf :: .ref a_label :: .ref a_old :: .ref a_isOpen :: .ref a_freeOnes :: .ref a_joins :: .ref a_given :: .ref a_decided :: .ref a_wet :: .int f_seed :: .int f_frees :: .ref a_order :: .int f_isKept :: .int f_keptHalf :: .int f_keptFree :: .ref a_kept :: .ref a_written :: .int f_writtenMany :: [])), (a_tape, .inl (y.1, 400, .inl c_tape))] H → va_D A [(a_this, .inr (9, .int f_thrown :: .ref a_tape :: .int f_taped :: .int f_size :: .int f_at :: .int f_fault :: .int f_newColumns :: .int f_newRows :: .ref a_newTold :: .ref a_newHas :: .ref a_newStone :: .int f_columns :: .int f_rows :: .ref a_told :: .ref a_stone :: .int f_acts :: .ref a_pastTold :: .ref a_pastStone :: .ref a_pastColumns :: .ref a_pastRows :: .int f_isLaid :: .ref a_many :: .ref a_number :: .ref a_ways :: .ref a_placeOf :: .ref a_label :: .ref a_old :: .ref a_isOpen :: .ref a_freeOnes :: .ref a_joins :: .ref a_given :: .ref a_decided :: .ref a_wet :: .int f_seed :: .int f_frees :: .ref a_order :: .int f_isKept :: .int f_keptHalf :: .int f_keptFree :: .ref a_kept :: .ref a_written :: .int f_writtenMany :: [])), (a_tape, .inl (y.1, 400, .inl c_tape))] → va_S A s.heap H locs → (∀ (H : Heap) (locs : List Loc) (ls : Array Slot), lv_has ls 8 [(0, .ref a_this)] → va_P D vwCl [(a_this, .inr (9, .int f_thrown :: .ref a_tape :: .int x.1 :: .int f_size :: .int f_at :: .int f_fault :: .int f_newColumns :: .int f_newRows :: .ref a_newTold :: .ref a_newHas :: .ref a_newStone :: .int f_columns :: .int f_rows :: .ref a_told :: .ref a_stone :: .int f_acts :: .ref a_pastTold :: .ref a_pastStone :: .ref a_pastColumns :: .ref a_pastRows :: .int f_isLaid :: .ref a_many :: .ref a_number :: .ref a_ways :: .ref a_placeOf :: .ref a_label :: .ref a_old :: .ref a_isOpen :: .ref a_freeOnes :: .ref a_joins :: .ref a_given :: .ref a_decided :: .ref a_wet :: .int f_seed :: .int f_frees :: .ref a_order :: .int f_isKept :: .int f_keptHalf :: .int f_keptFree :: .ref a_kept :: .ref a_written :: .int f_writtenMany :: [])), (a_tape, .inl (y.1, 400, .inl x.2))] H → va_D A [(a_this, .inr (9, .int f_thrown :: .ref a_tape :: .int x.1 :: .int f_size :: .int f_at :: .int f_fault :: .int f_newColumns :: .int f_newRows :: .ref a_newTold :: .ref a_newHas :: .ref a_newStone :: .int f_columns :: .int f_rows :: .ref a_told :: .ref a_stone :: .int f_acts :: .ref a_pastTold :: .ref a_pastStone :: .ref a_pastColumns :: .ref a_pastRows :: .int f_isLaid :: .ref a_many :: .ref a_number :: .ref a_ways :: .ref a_placeOf :: .ref a_label :: .ref a_old :: .ref a_isOpen :: .ref a_freeOnes :: .ref a_joins :: .ref a_given :: .ref a_decided :: .ref a_wet :: .int f_seed :: .int f_frees :: .ref a_order :: .int f_isKept :: .int f_keptHalf :: .int f_keptFree :: .ref a_kept :: .ref a_written :: .int f_writtenMany :: [])), (a_tape, .inl (y.1, 400, .inl x.2))] → va_S A s.heap H locs → W p l e rm_X9_feed s m args below meth c H locs 0 0 Q (F0 m 120 ls [])) → W p l e rm_X9_feed s m args below meth c H locs 0 0 Q (F0 m 23 ls []) := by
    intro n
    induction n with
    | zero => intro x1 x2 x3 x4 x5 x6 f_thrown f_taped c_tape x h; exact (zi0 h).elim
    | succ n ih =>
      intro x1 x2 x3 x4 x5 x6 f_thrown f_taped c_tape x h H locs ls hl hP hD hS K120
      obtain ⟨r, hf, h⟩ := zis h
      have hf : zf_X9_feed_l23 x1 x2 x3 x4 x5 x6 f_taped c_tape = some r := hf
      have J76 : ∀ (x6 : Int32) (s0 : Int32) (f_taped : Int32) (c_tape : Nat → Int32), zf_X9_feed_76 f_taped c_tape x6 s0 = some r → ∀ (H : Heap) (locs : List Loc) (ls : Array Slot), lv_has ls 8 [(0, .ref a_this), (1, .int x1), (2, .int x2), (3, .int x3), (4, .int x4), (5, .int x5), (6, .int x6)] → va_P D vwCl [(a_this, .inr (9, .int f_thrown :: .ref a_tape :: .int f_taped :: .int f_size :: .int f_at :: .int f_fault :: .int f_newColumns :: .int f_newRows :: .ref a_newTold :: .ref a_newHas :: .ref a_newStone :: .int f_columns :: .int f_rows :: .ref a_told :: .ref a_stone :: .int f_acts :: .ref a_pastTold :: .ref a_pastStone :: .ref a_pastColumns :: .ref a_pastRows :: .int f_isLaid :: .ref a_many :: .ref a_number :: .ref a_ways :: .ref a_placeOf :: .ref a_label :: .ref a_old :: .ref a_isOpen :: .ref a_freeOnes :: .ref a_joins :: .ref a_given :: .ref a_decided :: .ref a_wet :: .int f_seed :: .int f_frees :: .ref a_order :: .int f_isKept :: .int f_keptHalf :: .int f_keptFree :: .ref a_kept :: .ref a_written :: .int f_writtenMany :: [])), (a_tape, .inl (y.1, 400, .inl c_tape))] H → va_D A [(a_this, .inr (9, .int f_thrown :: .ref a_tape :: .int f_taped :: .int f_size :: .int f_at :: .int f_fault :: .int f_newColumns :: .int f_newRows :: .ref a_newTold :: .ref a_newHas :: .ref a_newStone :: .int f_columns :: .int f_rows :: .ref a_told :: .ref a_stone :: .int f_acts :: .ref a_pastTold :: .ref a_pastStone :: .ref a_pastColumns :: .ref a_pastRows :: .int f_isLaid :: .ref a_many :: .ref a_number :: .ref a_ways :: .ref a_placeOf :: .ref a_label :: .ref a_old :: .ref a_isOpen :: .ref a_freeOnes :: .ref a_joins :: .ref a_given :: .ref a_decided :: .ref a_wet :: .int f_seed :: .int f_frees :: .ref a_order :: .int f_isKept :: .int f_keptHalf :: .int f_keptFree :: .ref a_kept :: .ref a_written :: .int f_writtenMany :: [])), (a_tape, .inl (y.1, 400, .inl c_tape))] → va_S A s.heap H locs → W p l e rm_X9_feed s m args below meth c H locs 0 0 Q (F0 m 76 ls [.int s0]) := by
        intro x6 s0 f_taped c_tape hf H locs ls hl hP hD hS
        unfold zf_X9_feed_76 at hf
        refine lv_istore (lv' := [(7, .int s0), (0, .ref a_this), (1, .int x1), (2, .int x2), (3, .int x3), (4, .int x4), (5, .int x5), (6, .int x6)]) hx hb dX9_feed_76 hl (by decide) rfl (fun ls hl => ?_)
        refine lv_aload_n hx hb dX9_feed_78 rfl (lv_at hl 1 rfl) ?_
        refine zget X hP 0 rfl rfl inF9 1 (by decide) q_1333 rfl dX9_feed_79 ?_
        refine lv_aload_n hx hb dX9_feed_82 rfl (lv_at hl 1 rfl) ?_
        refine zget X hP 0 rfl rfl inF9 2 (by decide) q_1334 rfl dX9_feed_83 ?_
        refine lv_iload hx hb dX9_feed_86 (lv_at hl 0 rfl) ?_
        refine lv_bipush (v := 24) hx hb dX9_feed_88 (by decide) ?_
        refine lv_bipush (v := 8) hx hb dX9_feed_90 (by decide) ?_
        refine lv_iload hx hb dX9_feed_92 (lv_at hl 7 rfl) ?_
        refine lv_iconst (v := 4) hx hb dX9_feed_94 (by decide) ?_
        refine lv_irem hx hb dX9_feed_95 (by decide) ?_
        refine lv_imul hx hb dX9_feed_96 ?_
        refine lv_isub hx hb dX9_feed_97 ?_
        refine lv_ishr hx hb dX9_feed_98 ?_
        refine lv_sipush (v := 255) hx hb dX9_feed_99 (by decide) ?_
        refine lv_iand hx hb dX9_feed_102 ?_
        obtain ⟨g103, hf⟩ := zg hf
        refine va_iast hx hb hK hP hD hS 1 0 rfl rfl g103 dX9_feed_103 (fun H locs hP hD hS => ?_)
        have hP : va_P D vwCl [(a_this, .inr (9, .int f_thrown :: .ref a_tape :: .int f_taped :: .int f_size :: .int f_at :: .int f_fault :: .int f_newColumns :: .int f_newRows :: .ref a_newTold :: .ref a_newHas :: .ref a_newStone :: .int f_columns :: .int f_rows :: .ref a_told :: .ref a_stone :: .int f_acts :: .ref a_pastTold :: .ref a_pastStone :: .ref a_pastColumns :: .ref a_pastRows :: .int f_isLaid :: .ref a_many :: .ref a_number :: .ref a_ways :: .ref a_placeOf :: .ref a_label :: .ref a_old :: .ref a_isOpen :: .ref a_freeOnes :: .ref a_joins :: .ref a_given :: .ref a_decided :: .ref a_wet :: .int f_seed :: .int f_frees :: .ref a_order :: .int f_isKept :: .int f_keptHalf :: .int f_keptFree :: .ref a_kept :: .ref a_written :: .int f_writtenMany :: [])), (a_tape, .inl (y.1, 400, .inl (upd c_tape f_taped.toNatClampNeg ((zshr s0 ((24 : Int32) - ((8 : Int32) * (zrem x6 (4 : Int32))))) &&& (255 : Int32)))))] H := hP
        have hD : va_D A [(a_this, .inr (9, .int f_thrown :: .ref a_tape :: .int f_taped :: .int f_size :: .int f_at :: .int f_fault :: .int f_newColumns :: .int f_newRows :: .ref a_newTold :: .ref a_newHas :: .ref a_newStone :: .int f_columns :: .int f_rows :: .ref a_told :: .ref a_stone :: .int f_acts :: .ref a_pastTold :: .ref a_pastStone :: .ref a_pastColumns :: .ref a_pastRows :: .int f_isLaid :: .ref a_many :: .ref a_number :: .ref a_ways :: .ref a_placeOf :: .ref a_label :: .ref a_old :: .ref a_isOpen :: .ref a_freeOnes :: .ref a_joins :: .ref a_given :: .ref a_decided :: .ref a_wet :: .int f_seed :: .int f_frees :: .ref a_order :: .int f_isKept :: .int f_keptHalf :: .int f_keptFree :: .ref a_kept :: .ref a_written :: .int f_writtenMany :: [])), (a_tape, .inl (y.1, 400, .inl (upd c_tape f_taped.toNatClampNeg ((zshr s0 ((24 : Int32) - ((8 : Int32) * (zrem x6 (4 : Int32))))) &&& (255 : Int32)))))] := hD
        refine lv_aload_n hx hb dX9_feed_104 rfl (lv_at hl 1 rfl) ?_
        refine lv_dup hx hb dX9_feed_105 rfl ?_
        refine zget X hP 0 rfl rfl inF9 2 (by decide) q_1334 rfl dX9_feed_106 ?_
        refine lv_iconst (v := 1) hx hb dX9_feed_109 (by decide) ?_
        refine lv_iadd hx hb dX9_feed_110 ?_
        refine zput (ty := .int) X hP hD hS 0 rfl rfl inF9 tyX9_ok nmX9 2 (by decide) q_1334 rfl rfl rfl rfl (Nat.le_of_ble_eq_true rfl) dX9_feed_111 (fun H locs hP hD hS => ?_)
        have hP : va_P D vwCl [(a_this, .inr (9, .int f_thrown :: .ref a_tape :: .int (f_taped + (1 : Int32)) :: .int f_size :: .int f_at :: .int f_fault :: .int f_newColumns :: .int f_newRows :: .ref a_newTold :: .ref a_newHas :: .ref a_newStone :: .int f_columns :: .int f_rows :: .ref a_told :: .ref a_stone :: .int f_acts :: .ref a_pastTold :: .ref a_pastStone :: .ref a_pastColumns :: .ref a_pastRows :: .int f_isLaid :: .ref a_many :: .ref a_number :: .ref a_ways :: .ref a_placeOf :: .ref a_label :: .ref a_old :: .ref a_isOpen :: .ref a_freeOnes :: .ref a_joins :: .ref a_given :: .ref a_decided :: .ref a_wet :: .int f_seed :: .int f_frees :: .ref a_order :: .int f_isKept :: .int f_keptHalf :: .int f_keptFree :: .ref a_kept :: .ref a_written :: .int f_writtenMany :: [])), (a_tape, .inl (y.1, 400, .inl (upd c_tape f_taped.toNatClampNeg ((zshr s0 ((24 : Int32) - ((8 : Int32) * (zrem x6 (4 : Int32))))) &&& (255 : Int32)))))] H := hP
        have hD : va_D A [(a_this, .inr (9, .int f_thrown :: .ref a_tape :: .int (f_taped + (1 : Int32)) :: .int f_size :: .int f_at :: .int f_fault :: .int f_newColumns :: .int f_newRows :: .ref a_newTold :: .ref a_newHas :: .ref a_newStone :: .int f_columns :: .int f_rows :: .ref a_told :: .ref a_stone :: .int f_acts :: .ref a_pastTold :: .ref a_pastStone :: .ref a_pastColumns :: .ref a_pastRows :: .int f_isLaid :: .ref a_many :: .ref a_number :: .ref a_ways :: .ref a_placeOf :: .ref a_label :: .ref a_old :: .ref a_isOpen :: .ref a_freeOnes :: .ref a_joins :: .ref a_given :: .ref a_decided :: .ref a_wet :: .int f_seed :: .int f_frees :: .ref a_order :: .int f_isKept :: .int f_keptHalf :: .int f_keptFree :: .ref a_kept :: .ref a_written :: .int f_writtenMany :: [])), (a_tape, .inl (y.1, 400, .inl (upd c_tape f_taped.toNatClampNeg ((zshr s0 ((24 : Int32) - ((8 : Int32) * (zrem x6 (4 : Int32))))) &&& (255 : Int32)))))] := hD
        refine lv_iinc (v := x6 + (1 : Int32)) (lv' := [(6, .int (x6 + (1 : Int32))), (7, .int s0), (0, .ref a_this), (1, .int x1), (2, .int x2), (3, .int x3), (4, .int x4), (5, .int x5)]) hx hb dX9_feed_114 hl (k := 7) rfl rfl (by decide) rfl (fun ls hl => ?_)
        refine lv_goto (tgt := 23) hx hb dX9_feed_117 (by decide) ?_
        obtain rfl := Option.some.inj hf
        exact ih x1 x2 x3 x4 x5 (x6 + (1 : Int32)) f_thrown (f_taped + (1 : Int32)) (upd c_tape f_taped.toNatClampNeg ((zshr s0 ((24 : Int32) - ((8 : Int32) * (zrem x6 (4 : Int32))))) &&& (255 : Int32))) x h _ _ _ (lv_sub hl [2, 3, 4, 5, 6, 7, 0] rfl) hP hD hS K120
      unfold zf_X9_feed_l23 at hf
      refine lv_iload hx hb dX9_feed_23 (lv_at hl 6 rfl) ?_
      refine lv_bipush (v := 20) hx hb dX9_feed_25 (by decide) ?_
      refine lv_icmp_ge (tgt := 120) hx hb dX9_feed_27 (by decide) (fun c27 => ?_) (fun c27 => ?_)
      · replace hf := zt c27 hf
        obtain rfl := Option.some.inj hf
        obtain rfl := Option.some.inj h
        exact K120 _ _ _ (lv_sub hl [0] rfl) hP hD hS
      · replace hf := ze c27 hf
        refine lv_iload hx hb dX9_feed_30 (lv_at hl 6 rfl) ?_
        refine lv_iconst (v := 4) hx hb dX9_feed_32 (by decide) ?_
        refine lv_icmp_ge (tgt := 40) hx hb dX9_feed_33 (by decide) (fun c33 => ?_) (fun c33 => ?_)
        · replace hf := zt c33 hf
          refine lv_iload hx hb dX9_feed_40 (lv_at hl 6 rfl) ?_
          refine lv_bipush (v := 8) hx hb dX9_feed_42 (by decide) ?_
          refine lv_icmp_ge (tgt := 51) hx hb dX9_feed_44 (by decide) (fun c44 => ?_) (fun c44 => ?_)
          · replace hf := zt c44 hf
            refine lv_iload hx hb dX9_feed_51 (lv_at hl 6 rfl) ?_
            refine lv_bipush (v := 12) hx hb dX9_feed_53 (by decide) ?_
            refine lv_icmp_ge (tgt := 62) hx hb dX9_feed_55 (by decide) (fun c55 => ?_) (fun c55 => ?_)
            · replace hf := zt c55 hf
              refine lv_iload hx hb dX9_feed_62 (lv_at hl 6 rfl) ?_
              refine lv_bipush (v := 16) hx hb dX9_feed_64 (by decide) ?_
              refine lv_icmp_ge (tgt := 74) hx hb dX9_feed_66 (by decide) (fun c66 => ?_) (fun c66 => ?_)
              · replace hf := zt c66 hf
                refine lv_iload hx hb dX9_feed_74 (lv_at hl 5 rfl) ?_
                exact J76 x6 x5 f_taped c_tape hf _ _ _ hl hP hD hS
              · replace hf := ze c66 hf
                refine lv_iload hx hb dX9_feed_69 (lv_at hl 4 rfl) ?_
                refine lv_goto (tgt := 76) hx hb dX9_feed_71 (by decide) ?_
                exact J76 x6 x4 f_taped c_tape hf _ _ _ hl hP hD hS
            · replace hf := ze c55 hf
              refine lv_iload_n hx hb dX9_feed_58 rfl (lv_at hl 3 rfl) ?_
              refine lv_goto (tgt := 76) hx hb dX9_feed_59 (by decide) ?_
              exact J76 x6 x3 f_taped c_tape hf _ _ _ hl hP hD hS
          · replace hf := ze c44 hf
            refine lv_iload_n hx hb dX9_feed_47 rfl (lv_at hl 2 rfl) ?_
            refine lv_goto (tgt := 76) hx hb dX9_feed_48 (by decide) ?_
            exact J76 x6 x2 f_taped c_tape hf _ _ _ hl hP hD hS
        · replace hf := ze c33 hf
          refine lv_iload_n hx hb dX9_feed_36 rfl (lv_at hl 1 rfl) ?_
          refine lv_goto (tgt := 76) hx hb dX9_feed_37 (by decide) ?_
          exact J76 x6 x1 f_taped c_tape hf _ _ _ hl hP hD hS
  unfold zf_X9_feed at hf
  refine lv_aload_n hx hb dX9_feed_0 rfl (lv_at hl 0 rfl) ?_
  refine lv_iconst (v := 0) hx hb dX9_feed_1 (by decide) ?_
  refine zput (ty := .int) X hP hD hS 0 rfl rfl inF9 tyX9_ok nmX9 0 (by decide) q_1332 rfl rfl rfl rfl (Nat.le_of_ble_eq_true rfl) dX9_feed_2 (fun H locs hP hD hS => ?_)
  have hP : va_P D vwCl [(a_this, .inr (9, .int (0 : Int32) :: .ref a_tape :: .int f_taped :: .int f_size :: .int f_at :: .int f_fault :: .int f_newColumns :: .int f_newRows :: .ref a_newTold :: .ref a_newHas :: .ref a_newStone :: .int f_columns :: .int f_rows :: .ref a_told :: .ref a_stone :: .int f_acts :: .ref a_pastTold :: .ref a_pastStone :: .ref a_pastColumns :: .ref a_pastRows :: .int f_isLaid :: .ref a_many :: .ref a_number :: .ref a_ways :: .ref a_placeOf :: .ref a_label :: .ref a_old :: .ref a_isOpen :: .ref a_freeOnes :: .ref a_joins :: .ref a_given :: .ref a_decided :: .ref a_wet :: .int f_seed :: .int f_frees :: .ref a_order :: .int f_isKept :: .int f_keptHalf :: .int f_keptFree :: .ref a_kept :: .ref a_written :: .int f_writtenMany :: [])), (a_tape, .inl (y.1, 400, .inl c_tape))] H := hP
  have hD : va_D A [(a_this, .inr (9, .int (0 : Int32) :: .ref a_tape :: .int f_taped :: .int f_size :: .int f_at :: .int f_fault :: .int f_newColumns :: .int f_newRows :: .ref a_newTold :: .ref a_newHas :: .ref a_newStone :: .int f_columns :: .int f_rows :: .ref a_told :: .ref a_stone :: .int f_acts :: .ref a_pastTold :: .ref a_pastStone :: .ref a_pastColumns :: .ref a_pastRows :: .int f_isLaid :: .ref a_many :: .ref a_number :: .ref a_ways :: .ref a_placeOf :: .ref a_label :: .ref a_old :: .ref a_isOpen :: .ref a_freeOnes :: .ref a_joins :: .ref a_given :: .ref a_decided :: .ref a_wet :: .int f_seed :: .int f_frees :: .ref a_order :: .int f_isKept :: .int f_keptHalf :: .int f_keptFree :: .ref a_kept :: .ref a_written :: .int f_writtenMany :: [])), (a_tape, .inl (y.1, 400, .inl c_tape))] := hD
  refine lv_aload_n hx hb dX9_feed_5 rfl (lv_at hl 0 rfl) ?_
  refine zget X hP 0 rfl rfl inF9 2 (by decide) q_1334 rfl dX9_feed_6 ?_
  refine lv_bipush (v := 20) hx hb dX9_feed_9 (by decide) ?_
  refine lv_iadd hx hb dX9_feed_11 ?_
  refine lv_sipush (v := 400) hx hb dX9_feed_12 (by decide) ?_
  refine lv_icmp_le (tgt := 20) hx hb dX9_feed_15 (by decide) (fun c15 => ?_) (fun c15 => ?_)
  · replace hf := zt c15 hf
    refine lv_iconst (v := 0) hx hb dX9_feed_20 (by decide) ?_
    refine lv_istore (lv' := [(6, .int (0 : Int32)), (0, .ref a_this), (1, .int x1), (2, .int x2), (3, .int x3), (4, .int x4), (5, .int x5)]) hx hb dX9_feed_21 hl (by decide) rfl (fun ls hl => ?_)
    obtain ⟨o23, ho23, hf⟩ := zb hf
    refine L23 zfu x1 x2 x3 x4 x5 (0 : Int32) (0 : Int32) f_taped c_tape o23 ho23 _ _ _ (lv_sub hl [1, 2, 3, 4, 5, 6, 0] rfl) hP hD hS (fun H locs ls hl hP hD hS => ?_)
    refine lv_aload_n hx hb dX9_feed_120 rfl (lv_at hl 0 rfl) ?_
    refine zget X hP 0 rfl rfl inF9 2 (by decide) q_1334 rfl dX9_feed_121 ?_
    obtain rfl := Option.some.inj hf
    exact zreti X hQ hP hD hS ⟨rfl, rfl⟩ rfl dX9_feed_124 (Nat.le_of_ble_eq_true rfl) (Nat.le_of_ble_eq_true rfl)
  · replace hf := ze c15 hf
    refine lv_iconst (v := -1) hx hb dX9_feed_18 (by decide) ?_
    obtain rfl := Option.some.inj hf
    exact zreti X hQ hP hD hS ⟨rfl, rfl⟩ rfl dX9_feed_19 (Nat.le_of_ble_eq_true rfl) (Nat.le_of_ble_eq_true rfl)


abbrev rm_X9_end : Room := { frames := 0, cells := 0, slots := 0, locals := 0 }
def zf_X9_end (f_taped : Int32) (x1 : Int32) : Option (Int32 × Int32 × Int32) :=
  if x1 < 0 then (some ((0 : Int32), (0 : Int32), f_taped)) else (if x1 ≤ f_taped then (some ((1 : Int32), (0 : Int32), x1)) else (some ((0 : Int32), (0 : Int32), f_taped)))
set_option maxHeartbeats 4000000 in
set_option maxRecDepth 100000 in
theorem zc_X9_end (l : Launch) (D : va_G) (y : zY) (a_this a_tape a_newTold a_newHas a_newStone a_told a_stone a_pastTold a_pastStone a_pastColumns a_pastRows a_many a_number a_ways a_placeOf a_label a_old a_isOpen a_freeOnes a_joins a_given a_decided a_wet a_order a_kept a_written : Nat) (f_thrown : Int32) (f_taped : Int32) (f_size : Int32) (f_at : Int32) (f_fault : Int32) (f_newColumns : Int32) (f_newRows : Int32) (f_columns : Int32) (f_rows : Int32) (f_acts : Int32) (f_isLaid : Int32) (f_seed : Int32) (f_frees : Int32) (f_isKept : Int32) (f_keptHalf : Int32) (f_keptFree : Int32) (f_writtenMany : Int32) (x1 : Int32) (out : Int32 × Int32 × Int32) (hf : zf_X9_end f_taped x1 = some out) : zC l D y yX9_end cX9_end 2 (some .boolean) rm_X9_end [.ref a_this, .int x1] [(a_this, .inr (9, .int f_thrown :: .ref a_tape :: .int f_taped :: .int f_size :: .int f_at :: .int f_fault :: .int f_newColumns :: .int f_newRows :: .ref a_newTold :: .ref a_newHas :: .ref a_newStone :: .int f_columns :: .int f_rows :: .ref a_told :: .ref a_stone :: .int f_acts :: .ref a_pastTold :: .ref a_pastStone :: .ref a_pastColumns :: .ref a_pastRows :: .int f_isLaid :: .ref a_many :: .ref a_number :: .ref a_ways :: .ref a_placeOf :: .ref a_label :: .ref a_old :: .ref a_isOpen :: .ref a_freeOnes :: .ref a_joins :: .ref a_given :: .ref a_decided :: .ref a_wet :: .int f_seed :: .int f_frees :: .ref a_order :: .int f_isKept :: .int f_keptHalf :: .int f_keptFree :: .ref a_kept :: .ref a_written :: .int f_writtenMany :: []))] (zE (some (.int out.1)) [(a_this, .inr (9, .int out.2.1 :: .ref a_tape :: .int out.2.2 :: .int f_size :: .int f_at :: .int f_fault :: .int f_newColumns :: .int f_newRows :: .ref a_newTold :: .ref a_newHas :: .ref a_newStone :: .int f_columns :: .int f_rows :: .ref a_told :: .ref a_stone :: .int f_acts :: .ref a_pastTold :: .ref a_pastStone :: .ref a_pastColumns :: .ref a_pastRows :: .int f_isLaid :: .ref a_many :: .ref a_number :: .ref a_ways :: .ref a_placeOf :: .ref a_label :: .ref a_old :: .ref a_isOpen :: .ref a_freeOnes :: .ref a_joins :: .ref a_given :: .ref a_decided :: .ref a_wet :: .int f_seed :: .int f_frees :: .ref a_order :: .int f_isKept :: .int f_keptHalf :: .int f_keptFree :: .ref a_kept :: .ref a_written :: .int f_writtenMany :: []))]) := by
  refine zmk (by decide) (Nat.le_of_ble_eq_true rfl) ?_
  intro p e s m args below meth c A Q ls X hQ hnm hP hD hS hl
  have X : zX p s m args meth c D y A RX9 cX9_end 2 (some .boolean) := X
  obtain ⟨hx, hb, hr, hml, hown, hts, hK, hA, hlocks⟩ := id X
  have hl : lv_has ls 2 [(0, .ref a_this), (1, .int x1)] := hl
  unfold zf_X9_end at hf
  refine lv_aload_n hx hb dX9_end_0 rfl (lv_at hl 0 rfl) ?_
  refine lv_iconst (v := 0) hx hb dX9_end_1 (by decide) ?_
  refine zput (ty := .int) X hP hD hS 0 rfl rfl inF9 tyX9_ok nmX9 0 (by decide) q_1332 rfl rfl rfl rfl (Nat.le_of_ble_eq_true rfl) dX9_end_2 (fun H locs hP hD hS => ?_)
  have hP : va_P D vwCl [(a_this, .inr (9, .int (0 : Int32) :: .ref a_tape :: .int f_taped :: .int f_size :: .int f_at :: .int f_fault :: .int f_newColumns :: .int f_newRows :: .ref a_newTold :: .ref a_newHas :: .ref a_newStone :: .int f_columns :: .int f_rows :: .ref a_told :: .ref a_stone :: .int f_acts :: .ref a_pastTold :: .ref a_pastStone :: .ref a_pastColumns :: .ref a_pastRows :: .int f_isLaid :: .ref a_many :: .ref a_number :: .ref a_ways :: .ref a_placeOf :: .ref a_label :: .ref a_old :: .ref a_isOpen :: .ref a_freeOnes :: .ref a_joins :: .ref a_given :: .ref a_decided :: .ref a_wet :: .int f_seed :: .int f_frees :: .ref a_order :: .int f_isKept :: .int f_keptHalf :: .int f_keptFree :: .ref a_kept :: .ref a_written :: .int f_writtenMany :: []))] H := hP
  have hD : va_D A [(a_this, .inr (9, .int (0 : Int32) :: .ref a_tape :: .int f_taped :: .int f_size :: .int f_at :: .int f_fault :: .int f_newColumns :: .int f_newRows :: .ref a_newTold :: .ref a_newHas :: .ref a_newStone :: .int f_columns :: .int f_rows :: .ref a_told :: .ref a_stone :: .int f_acts :: .ref a_pastTold :: .ref a_pastStone :: .ref a_pastColumns :: .ref a_pastRows :: .int f_isLaid :: .ref a_many :: .ref a_number :: .ref a_ways :: .ref a_placeOf :: .ref a_label :: .ref a_old :: .ref a_isOpen :: .ref a_freeOnes :: .ref a_joins :: .ref a_given :: .ref a_decided :: .ref a_wet :: .int f_seed :: .int f_frees :: .ref a_order :: .int f_isKept :: .int f_keptHalf :: .int f_keptFree :: .ref a_kept :: .ref a_written :: .int f_writtenMany :: []))] := hD
  refine lv_iload_n hx hb dX9_end_5 rfl (lv_at hl 1 rfl) ?_
  refine lv_if_lt (tgt := 17) hx hb dX9_end_6 (by decide) (fun c6 => ?_) (fun c6 => ?_)
  · replace hf := zt c6 hf
    refine lv_iconst (v := 0) hx hb dX9_end_17 (by decide) ?_
    obtain rfl := Option.some.inj hf
    exact zreti X hQ hP hD hS ⟨rfl, rfl⟩ rfl dX9_end_18 (Nat.le_of_ble_eq_true rfl) (Nat.le_of_ble_eq_true rfl)
  · replace hf := ze c6 hf
    refine lv_iload_n hx hb dX9_end_9 rfl (lv_at hl 1 rfl) ?_
    refine lv_aload_n hx hb dX9_end_10 rfl (lv_at hl 0 rfl) ?_
    refine zget X hP 0 rfl rfl inF9 2 (by decide) q_1334 rfl dX9_end_11 ?_
    refine lv_icmp_le (tgt := 19) hx hb dX9_end_14 (by decide) (fun c14 => ?_) (fun c14 => ?_)
    · replace hf := zt c14 hf
      refine lv_aload_n hx hb dX9_end_19 rfl (lv_at hl 0 rfl) ?_
      refine lv_iload_n hx hb dX9_end_20 rfl (lv_at hl 1 rfl) ?_
      refine zput (ty := .int) X hP hD hS 0 rfl rfl inF9 tyX9_ok nmX9 2 (by decide) q_1334 rfl rfl rfl rfl (Nat.le_of_ble_eq_true rfl) dX9_end_21 (fun H locs hP hD hS => ?_)
      have hP : va_P D vwCl [(a_this, .inr (9, .int (0 : Int32) :: .ref a_tape :: .int x1 :: .int f_size :: .int f_at :: .int f_fault :: .int f_newColumns :: .int f_newRows :: .ref a_newTold :: .ref a_newHas :: .ref a_newStone :: .int f_columns :: .int f_rows :: .ref a_told :: .ref a_stone :: .int f_acts :: .ref a_pastTold :: .ref a_pastStone :: .ref a_pastColumns :: .ref a_pastRows :: .int f_isLaid :: .ref a_many :: .ref a_number :: .ref a_ways :: .ref a_placeOf :: .ref a_label :: .ref a_old :: .ref a_isOpen :: .ref a_freeOnes :: .ref a_joins :: .ref a_given :: .ref a_decided :: .ref a_wet :: .int f_seed :: .int f_frees :: .ref a_order :: .int f_isKept :: .int f_keptHalf :: .int f_keptFree :: .ref a_kept :: .ref a_written :: .int f_writtenMany :: []))] H := hP
      have hD : va_D A [(a_this, .inr (9, .int (0 : Int32) :: .ref a_tape :: .int x1 :: .int f_size :: .int f_at :: .int f_fault :: .int f_newColumns :: .int f_newRows :: .ref a_newTold :: .ref a_newHas :: .ref a_newStone :: .int f_columns :: .int f_rows :: .ref a_told :: .ref a_stone :: .int f_acts :: .ref a_pastTold :: .ref a_pastStone :: .ref a_pastColumns :: .ref a_pastRows :: .int f_isLaid :: .ref a_many :: .ref a_number :: .ref a_ways :: .ref a_placeOf :: .ref a_label :: .ref a_old :: .ref a_isOpen :: .ref a_freeOnes :: .ref a_joins :: .ref a_given :: .ref a_decided :: .ref a_wet :: .int f_seed :: .int f_frees :: .ref a_order :: .int f_isKept :: .int f_keptHalf :: .int f_keptFree :: .ref a_kept :: .ref a_written :: .int f_writtenMany :: []))] := hD
      refine lv_iconst (v := 1) hx hb dX9_end_24 (by decide) ?_
      obtain rfl := Option.some.inj hf
      exact zreti X hQ hP hD hS ⟨rfl, rfl⟩ rfl dX9_end_25 (Nat.le_of_ble_eq_true rfl) (Nat.le_of_ble_eq_true rfl)
    · replace hf := ze c14 hf
      refine lv_iconst (v := 0) hx hb dX9_end_17 (by decide) ?_
      obtain rfl := Option.some.inj hf
      exact zreti X hQ hP hD hS ⟨rfl, rfl⟩ rfl dX9_end_18 (Nat.le_of_ble_eq_true rfl) (Nat.le_of_ble_eq_true rfl)


abbrev rm_X9_wrong : Room := { frames := 0, cells := 0, slots := 0, locals := 0 }
def zf_X9_wrong (f_at : Int32) (f_fault : Int32) : Option (Int32) :=
  if f_fault = (-1 : Int32) then (some f_at) else (some f_fault)
set_option maxHeartbeats 4000000 in
set_option maxRecDepth 100000 in
theorem zc_X9_wrong (l : Launch) (D : va_G) (y : zY) (a_this a_tape a_newTold a_newHas a_newStone a_told a_stone a_pastTold a_pastStone a_pastColumns a_pastRows a_many a_number a_ways a_placeOf a_label a_old a_isOpen a_freeOnes a_joins a_given a_decided a_wet a_order a_kept a_written : Nat) (f_thrown : Int32) (f_taped : Int32) (f_size : Int32) (f_at : Int32) (f_fault : Int32) (f_newColumns : Int32) (f_newRows : Int32) (f_columns : Int32) (f_rows : Int32) (f_acts : Int32) (f_isLaid : Int32) (f_seed : Int32) (f_frees : Int32) (f_isKept : Int32) (f_keptHalf : Int32) (f_keptFree : Int32) (f_writtenMany : Int32) (out : Int32) (hf : zf_X9_wrong f_at f_fault = some out) : zC l D y yX9_wrong cX9_wrong 1 (none : Option Jvm.ClassFile.FieldType) rm_X9_wrong [.ref a_this] [(a_this, .inr (9, .int f_thrown :: .ref a_tape :: .int f_taped :: .int f_size :: .int f_at :: .int f_fault :: .int f_newColumns :: .int f_newRows :: .ref a_newTold :: .ref a_newHas :: .ref a_newStone :: .int f_columns :: .int f_rows :: .ref a_told :: .ref a_stone :: .int f_acts :: .ref a_pastTold :: .ref a_pastStone :: .ref a_pastColumns :: .ref a_pastRows :: .int f_isLaid :: .ref a_many :: .ref a_number :: .ref a_ways :: .ref a_placeOf :: .ref a_label :: .ref a_old :: .ref a_isOpen :: .ref a_freeOnes :: .ref a_joins :: .ref a_given :: .ref a_decided :: .ref a_wet :: .int f_seed :: .int f_frees :: .ref a_order :: .int f_isKept :: .int f_keptHalf :: .int f_keptFree :: .ref a_kept :: .ref a_written :: .int f_writtenMany :: []))] (zE none [(a_this, .inr (9, .int f_thrown :: .ref a_tape :: .int f_taped :: .int f_size :: .int f_at :: .int out :: .int f_newColumns :: .int f_newRows :: .ref a_newTold :: .ref a_newHas :: .ref a_newStone :: .int f_columns :: .int f_rows :: .ref a_told :: .ref a_stone :: .int f_acts :: .ref a_pastTold :: .ref a_pastStone :: .ref a_pastColumns :: .ref a_pastRows :: .int f_isLaid :: .ref a_many :: .ref a_number :: .ref a_ways :: .ref a_placeOf :: .ref a_label :: .ref a_old :: .ref a_isOpen :: .ref a_freeOnes :: .ref a_joins :: .ref a_given :: .ref a_decided :: .ref a_wet :: .int f_seed :: .int f_frees :: .ref a_order :: .int f_isKept :: .int f_keptHalf :: .int f_keptFree :: .ref a_kept :: .ref a_written :: .int f_writtenMany :: []))]) := by
  refine zmk (by decide) (Nat.le_of_ble_eq_true rfl) ?_
  intro p e s m args below meth c A Q ls X hQ hnm hP hD hS hl
  have X : zX p s m args meth c D y A RX9 cX9_wrong 1 (none : Option Jvm.ClassFile.FieldType) := X
  obtain ⟨hx, hb, hr, hml, hown, hts, hK, hA, hlocks⟩ := id X
  have hl : lv_has ls 1 [(0, .ref a_this)] := hl
  unfold zf_X9_wrong at hf
  refine lv_aload_n hx hb dX9_wrong_0 rfl (lv_at hl 0 rfl) ?_
  refine zget X hP 0 rfl rfl inF9 5 (by decide) q_1337 rfl dX9_wrong_1 ?_
  refine lv_iconst (v := -1) hx hb dX9_wrong_4 (by decide) ?_
  refine lv_icmp_ne (tgt := 16) hx hb dX9_wrong_5 (by decide) (fun c5 => ?_) (fun c5 => ?_)
  · replace hf := ze c5 hf
    obtain rfl := Option.some.inj hf
    exact zretv X hQ hP hD hS ⟨rfl, rfl⟩ dX9_wrong_16 (Nat.le_of_ble_eq_true rfl) (Nat.le_of_ble_eq_true rfl)
  · replace hf := zt c5 hf
    refine lv_aload_n hx hb dX9_wrong_8 rfl (lv_at hl 0 rfl) ?_
    refine lv_aload_n hx hb dX9_wrong_9 rfl (lv_at hl 0 rfl) ?_
    refine zget X hP 0 rfl rfl inF9 4 (by decide) q_1336 rfl dX9_wrong_10 ?_
    refine zput (ty := .int) X hP hD hS 0 rfl rfl inF9 tyX9_ok nmX9 5 (by decide) q_1337 rfl rfl rfl rfl (Nat.le_of_ble_eq_true rfl) dX9_wrong_13 (fun H locs hP hD hS => ?_)
    have hP : va_P D vwCl [(a_this, .inr (9, .int f_thrown :: .ref a_tape :: .int f_taped :: .int f_size :: .int f_at :: .int f_at :: .int f_newColumns :: .int f_newRows :: .ref a_newTold :: .ref a_newHas :: .ref a_newStone :: .int f_columns :: .int f_rows :: .ref a_told :: .ref a_stone :: .int f_acts :: .ref a_pastTold :: .ref a_pastStone :: .ref a_pastColumns :: .ref a_pastRows :: .int f_isLaid :: .ref a_many :: .ref a_number :: .ref a_ways :: .ref a_placeOf :: .ref a_label :: .ref a_old :: .ref a_isOpen :: .ref a_freeOnes :: .ref a_joins :: .ref a_given :: .ref a_decided :: .ref a_wet :: .int f_seed :: .int f_frees :: .ref a_order :: .int f_isKept :: .int f_keptHalf :: .int f_keptFree :: .ref a_kept :: .ref a_written :: .int f_writtenMany :: []))] H := hP
    have hD : va_D A [(a_this, .inr (9, .int f_thrown :: .ref a_tape :: .int f_taped :: .int f_size :: .int f_at :: .int f_at :: .int f_newColumns :: .int f_newRows :: .ref a_newTold :: .ref a_newHas :: .ref a_newStone :: .int f_columns :: .int f_rows :: .ref a_told :: .ref a_stone :: .int f_acts :: .ref a_pastTold :: .ref a_pastStone :: .ref a_pastColumns :: .ref a_pastRows :: .int f_isLaid :: .ref a_many :: .ref a_number :: .ref a_ways :: .ref a_placeOf :: .ref a_label :: .ref a_old :: .ref a_isOpen :: .ref a_freeOnes :: .ref a_joins :: .ref a_given :: .ref a_decided :: .ref a_wet :: .int f_seed :: .int f_frees :: .ref a_order :: .int f_isKept :: .int f_keptHalf :: .int f_keptFree :: .ref a_kept :: .ref a_written :: .int f_writtenMany :: []))] := hD
    obtain rfl := Option.some.inj hf
    exact zretv X hQ hP hD hS ⟨rfl, rfl⟩ dX9_wrong_16 (Nat.le_of_ble_eq_true rfl) (Nat.le_of_ble_eq_true rfl)


abbrev rm_X9_here : Room := { frames := 0, cells := 0, slots := 0, locals := 0 }
def zf_X9_here_53 (f_at : Int32) : Option ((Int32) ⊕ ((Int32))) :=
  some (.inl (f_at + (1 : Int32)))
def zf_X9_here_l0 (f_size : Int32) (c_tape : Nat → Int32) (f_at : Int32) : Option ((Int32) ⊕ ((Int32))) :=
  if f_size ≤ f_at then (some (.inr f_at)) else (if zgd f_at 400 = true then (if (c_tape f_at.toNatClampNeg) = (32 : Int32) then (zf_X9_here_53 f_at) else (if zgd f_at 400 = true then (if (c_tape f_at.toNatClampNeg) = (9 : Int32) then (zf_X9_here_53 f_at) else (if zgd f_at 400 = true then (if (c_tape f_at.toNatClampNeg) = (10 : Int32) then (zf_X9_here_53 f_at) else (some (.inr f_at))) else none)) else none)) else none)
def zf_X9_here_66 (f_size : Int32) (f_at : Int32) (c_tape : Nat → Int32) : Option (Int32 × Int32) :=
  if f_size ≤ f_at then (some ((-1 : Int32), f_at)) else (if zgd f_at 400 = true then (some (c_tape f_at.toNatClampNeg, f_at)) else none)
def zf_X9_here (f_size : Int32) (f_at : Int32) (c_tape : Nat → Int32) : Option (Int32 × Int32) :=
  if f_size ≤ f_at then (zf_X9_here_66 f_size f_at c_tape) else (if zgd f_at 400 = true then (if (c_tape f_at.toNatClampNeg) = (32 : Int32) then ((zit (fun d => zf_X9_here_l0 f_size c_tape d) zfu (f_at + (1 : Int32))).bind fun o0 =>
  zf_X9_here_66 f_size o0 c_tape) else (if zgd f_at 400 = true then (if (c_tape f_at.toNatClampNeg) = (9 : Int32) then ((zit (fun d => zf_X9_here_l0 f_size c_tape d) zfu (f_at + (1 : Int32))).bind fun o0 =>
  zf_X9_here_66 f_size o0 c_tape) else (if zgd f_at 400 = true then (if (c_tape f_at.toNatClampNeg) = (10 : Int32) then ((zit (fun d => zf_X9_here_l0 f_size c_tape d) zfu (f_at + (1 : Int32))).bind fun o0 =>
  zf_X9_here_66 f_size o0 c_tape) else (zf_X9_here_66 f_size f_at c_tape)) else none)) else none)) else none)
set_option maxHeartbeats 4000000 in
set_option maxRecDepth 100000 in
theorem zc_X9_here (l : Launch) (D : va_G) (y : zY) (a_this a_tape a_newTold a_newHas a_newStone a_told a_stone a_pastTold a_pastStone a_pastColumns a_pastRows a_many a_number a_ways a_placeOf a_label a_old a_isOpen a_freeOnes a_joins a_given a_decided a_wet a_order a_kept a_written : Nat) (f_thrown : Int32) (f_taped : Int32) (f_size : Int32) (f_at : Int32) (f_fault : Int32) (f_newColumns : Int32) (f_newRows : Int32) (f_columns : Int32) (f_rows : Int32) (f_acts : Int32) (f_isLaid : Int32) (f_seed : Int32) (f_frees : Int32) (f_isKept : Int32) (f_keptHalf : Int32) (f_keptFree : Int32) (f_writtenMany : Int32) (c_tape : Nat → Int32) (out : Int32 × Int32) (hf : zf_X9_here f_size f_at c_tape = some out) : zC l D y yX9_here cX9_here 1 (some .int) rm_X9_here [.ref a_this] [(a_this, .inr (9, .int f_thrown :: .ref a_tape :: .int f_taped :: .int f_size :: .int f_at :: .int f_fault :: .int f_newColumns :: .int f_newRows :: .ref a_newTold :: .ref a_newHas :: .ref a_newStone :: .int f_columns :: .int f_rows :: .ref a_told :: .ref a_stone :: .int f_acts :: .ref a_pastTold :: .ref a_pastStone :: .ref a_pastColumns :: .ref a_pastRows :: .int f_isLaid :: .ref a_many :: .ref a_number :: .ref a_ways :: .ref a_placeOf :: .ref a_label :: .ref a_old :: .ref a_isOpen :: .ref a_freeOnes :: .ref a_joins :: .ref a_given :: .ref a_decided :: .ref a_wet :: .int f_seed :: .int f_frees :: .ref a_order :: .int f_isKept :: .int f_keptHalf :: .int f_keptFree :: .ref a_kept :: .ref a_written :: .int f_writtenMany :: [])), (a_tape, .inl (y.1, 400, .inl c_tape))] (zE (some (.int out.1)) [(a_this, .inr (9, .int f_thrown :: .ref a_tape :: .int f_taped :: .int f_size :: .int out.2 :: .int f_fault :: .int f_newColumns :: .int f_newRows :: .ref a_newTold :: .ref a_newHas :: .ref a_newStone :: .int f_columns :: .int f_rows :: .ref a_told :: .ref a_stone :: .int f_acts :: .ref a_pastTold :: .ref a_pastStone :: .ref a_pastColumns :: .ref a_pastRows :: .int f_isLaid :: .ref a_many :: .ref a_number :: .ref a_ways :: .ref a_placeOf :: .ref a_label :: .ref a_old :: .ref a_isOpen :: .ref a_freeOnes :: .ref a_joins :: .ref a_given :: .ref a_decided :: .ref a_wet :: .int f_seed :: .int f_frees :: .ref a_order :: .int f_isKept :: .int f_keptHalf :: .int f_keptFree :: .ref a_kept :: .ref a_written :: .int f_writtenMany :: [])), (a_tape, .inl (y.1, 400, .inl c_tape))]) := by
  refine zmk (by decide) (Nat.le_of_ble_eq_true rfl) ?_
  intro p e s m args below meth c A Q ls X hQ hnm hP hD hS hl
  have X : zX p s m args meth c D y A RX9 cX9_here 1 (some .int) := X
  obtain ⟨hx, hb, hr, hml, hown, hts, hK, hA, hlocks⟩ := id X
  have hl : lv_has ls 1 [(0, .ref a_this)] := hl
  have L0 : ∀ (n : Nat) (f_at : Int32) (x : (Int32)), zit (fun d => zf_X9_here_l0 f_size c_tape d) n f_at = some x → ∀ (H : Heap) (locs : List Loc) (ls : Array Slot), lv_has ls 1 [(0, .ref a_this)] → va_P D vwCl [(a_this, .inr (9, .int f_thrown :: .ref a_tape :: .int f_taped :: .int f_size :: .int f_at :: .int f_fault :: .int f_newColumns :: .int f_newRows :: .ref a_newTold :: .ref a_newHas :: .ref a_newStone :: .int f_columns :: .int f_rows :: .ref a_told :: .ref a_stone :: .int f_acts :: .ref a_pastTold :: .ref a_pastStone :: .ref a_pastColumns :: .ref a_pastRows :: .int f_isLaid :: .ref a_many :: .ref a_number :: .ref a_ways :: .ref a_placeOf :: .ref a_label :: .ref a_old :: .ref a_isOpen :: .ref a_freeOnes :: .ref a_joins :: .ref a_given :: .ref a_decided :: .ref a_wet :: .int f_seed :: .int f_frees :: .ref a_order :: .int f_isKept :: .int f_keptHalf :: .int f_keptFree :: .ref a_kept :: .ref a_written :: .int f_writtenMany :: [])), (a_tape, .inl (y.1, 400, .inl c_tape))] H → va_D A [(a_this, .inr (9, .int f_thrown :: .ref a_tape :: .int f_taped :: .int f_size :: .int f_at :: .int f_fault :: .int f_newColumns :: .int f_newRows :: .ref a_newTold :: .ref a_newHas :: .ref a_newStone :: .int f_columns :: .int f_rows :: .ref a_told :: .ref a_stone :: .int f_acts :: .ref a_pastTold :: .ref a_pastStone :: .ref a_pastColumns :: .ref a_pastRows :: .int f_isLaid :: .ref a_many :: .ref a_number :: .ref a_ways :: .ref a_placeOf :: .ref a_label :: .ref a_old :: .ref a_isOpen :: .ref a_freeOnes :: .ref a_joins :: .ref a_given :: .ref a_decided :: .ref a_wet :: .int f_seed :: .int f_frees :: .ref a_order :: .int f_isKept :: .int f_keptHalf :: .int f_keptFree :: .ref a_kept :: .ref a_written :: .int f_writtenMany :: [])), (a_tape, .inl (y.1, 400, .inl c_tape))] → va_S A s.heap H locs → (∀ (H : Heap) (locs : List Loc) (ls : Array Slot), lv_has ls 1 [(0, .ref a_this)] → va_P D vwCl [(a_this, .inr (9, .int f_thrown :: .ref a_tape :: .int f_taped :: .int f_size :: .int x :: .int f_fault :: .int f_newColumns :: .int f_newRows :: .ref a_newTold :: .ref a_newHas :: .ref a_newStone :: .int f_columns :: .int f_rows :: .ref a_told :: .ref a_stone :: .int f_acts :: .ref a_pastTold :: .ref a_pastStone :: .ref a_pastColumns :: .ref a_pastRows :: .int f_isLaid :: .ref a_many :: .ref a_number :: .ref a_ways :: .ref a_placeOf :: .ref a_label :: .ref a_old :: .ref a_isOpen :: .ref a_freeOnes :: .ref a_joins :: .ref a_given :: .ref a_decided :: .ref a_wet :: .int f_seed :: .int f_frees :: .ref a_order :: .int f_isKept :: .int f_keptHalf :: .int f_keptFree :: .ref a_kept :: .ref a_written :: .int f_writtenMany :: [])), (a_tape, .inl (y.1, 400, .inl c_tape))] H → va_D A [(a_this, .inr (9, .int f_thrown :: .ref a_tape :: .int f_taped :: .int f_size :: .int x :: .int f_fault :: .int f_newColumns :: .int f_newRows :: .ref a_newTold :: .ref a_newHas :: .ref a_newStone :: .int f_columns :: .int f_rows :: .ref a_told :: .ref a_stone :: .int f_acts :: .ref a_pastTold :: .ref a_pastStone :: .ref a_pastColumns :: .ref a_pastRows :: .int f_isLaid :: .ref a_many :: .ref a_number :: .ref a_ways :: .ref a_placeOf :: .ref a_label :: .ref a_old :: .ref a_isOpen :: .ref a_freeOnes :: .ref a_joins :: .ref a_given :: .ref a_decided :: .ref a_wet :: .int f_seed :: .int f_frees :: .ref a_order :: .int f_isKept :: .int f_keptHalf :: .int f_keptFree :: .ref a_kept :: .ref a_written :: .int f_writtenMany :: [])), (a_tape, .inl (y.1, 400, .inl c_tape))] → va_S A s.heap H locs → W p l e rm_X9_here s m args below meth c H locs 0 0 Q (F0 m 66 ls [])) → W p l e rm_X9_here s m args below meth c H locs 0 0 Q (F0 m 0 ls []) := by
    intro n
    induction n with
    | zero => intro f_at x h; exact (zi0 h).elim
    | succ n ih =>
      intro f_at x h H locs ls hl hP hD hS K66
      obtain ⟨r, hf, h⟩ := zis h
      have hf : zf_X9_here_l0 f_size c_tape f_at = some r := hf
      have J53 : ∀ (f_at : Int32), zf_X9_here_53 f_at = some r → ∀ (H : Heap) (locs : List Loc) (ls : Array Slot), lv_has ls 1 [(0, .ref a_this)] → va_P D vwCl [(a_this, .inr (9, .int f_thrown :: .ref a_tape :: .int f_taped :: .int f_size :: .int f_at :: .int f_fault :: .int f_newColumns :: .int f_newRows :: .ref a_newTold :: .ref a_newHas :: .ref a_newStone :: .int f_columns :: .int f_rows :: .ref a_told :: .ref a_stone :: .int f_acts :: .ref a_pastTold :: .ref a_pastStone :: .ref a_pastColumns :: .ref a_pastRows :: .int f_isLaid :: .ref a_many :: .ref a_number :: .ref a_ways :: .ref a_placeOf :: .ref a_label :: .ref a_old :: .ref a_isOpen :: .ref a_freeOnes :: .ref a_joins :: .ref a_given :: .ref a_decided :: .ref a_wet :: .int f_seed :: .int f_frees :: .ref a_order :: .int f_isKept :: .int f_keptHalf :: .int f_keptFree :: .ref a_kept :: .ref a_written :: .int f_writtenMany :: [])), (a_tape, .inl (y.1, 400, .inl c_tape))] H → va_D A [(a_this, .inr (9, .int f_thrown :: .ref a_tape :: .int f_taped :: .int f_size :: .int f_at :: .int f_fault :: .int f_newColumns :: .int f_newRows :: .ref a_newTold :: .ref a_newHas :: .ref a_newStone :: .int f_columns :: .int f_rows :: .ref a_told :: .ref a_stone :: .int f_acts :: .ref a_pastTold :: .ref a_pastStone :: .ref a_pastColumns :: .ref a_pastRows :: .int f_isLaid :: .ref a_many :: .ref a_number :: .ref a_ways :: .ref a_placeOf :: .ref a_label :: .ref a_old :: .ref a_isOpen :: .ref a_freeOnes :: .ref a_joins :: .ref a_given :: .ref a_decided :: .ref a_wet :: .int f_seed :: .int f_frees :: .ref a_order :: .int f_isKept :: .int f_keptHalf :: .int f_keptFree :: .ref a_kept :: .ref a_written :: .int f_writtenMany :: [])), (a_tape, .inl (y.1, 400, .inl c_tape))] → va_S A s.heap H locs → W p l e rm_X9_here s m args below meth c H locs 0 0 Q (F0 m 53 ls []) := by
        intro f_at hf H locs ls hl hP hD hS
        unfold zf_X9_here_53 at hf
        refine lv_aload_n hx hb dX9_here_53 rfl (lv_at hl 0 rfl) ?_
        refine lv_dup hx hb dX9_here_54 rfl ?_
        refine zget X hP 0 rfl rfl inF9 4 (by decide) q_1336 rfl dX9_here_55 ?_
        refine lv_iconst (v := 1) hx hb dX9_here_58 (by decide) ?_
        refine lv_iadd hx hb dX9_here_59 ?_
        refine zput (ty := .int) X hP hD hS 0 rfl rfl inF9 tyX9_ok nmX9 4 (by decide) q_1336 rfl rfl rfl rfl (Nat.le_of_ble_eq_true rfl) dX9_here_60 (fun H locs hP hD hS => ?_)
        have hP : va_P D vwCl [(a_this, .inr (9, .int f_thrown :: .ref a_tape :: .int f_taped :: .int f_size :: .int (f_at + (1 : Int32)) :: .int f_fault :: .int f_newColumns :: .int f_newRows :: .ref a_newTold :: .ref a_newHas :: .ref a_newStone :: .int f_columns :: .int f_rows :: .ref a_told :: .ref a_stone :: .int f_acts :: .ref a_pastTold :: .ref a_pastStone :: .ref a_pastColumns :: .ref a_pastRows :: .int f_isLaid :: .ref a_many :: .ref a_number :: .ref a_ways :: .ref a_placeOf :: .ref a_label :: .ref a_old :: .ref a_isOpen :: .ref a_freeOnes :: .ref a_joins :: .ref a_given :: .ref a_decided :: .ref a_wet :: .int f_seed :: .int f_frees :: .ref a_order :: .int f_isKept :: .int f_keptHalf :: .int f_keptFree :: .ref a_kept :: .ref a_written :: .int f_writtenMany :: [])), (a_tape, .inl (y.1, 400, .inl c_tape))] H := hP
        have hD : va_D A [(a_this, .inr (9, .int f_thrown :: .ref a_tape :: .int f_taped :: .int f_size :: .int (f_at + (1 : Int32)) :: .int f_fault :: .int f_newColumns :: .int f_newRows :: .ref a_newTold :: .ref a_newHas :: .ref a_newStone :: .int f_columns :: .int f_rows :: .ref a_told :: .ref a_stone :: .int f_acts :: .ref a_pastTold :: .ref a_pastStone :: .ref a_pastColumns :: .ref a_pastRows :: .int f_isLaid :: .ref a_many :: .ref a_number :: .ref a_ways :: .ref a_placeOf :: .ref a_label :: .ref a_old :: .ref a_isOpen :: .ref a_freeOnes :: .ref a_joins :: .ref a_given :: .ref a_decided :: .ref a_wet :: .int f_seed :: .int f_frees :: .ref a_order :: .int f_isKept :: .int f_keptHalf :: .int f_keptFree :: .ref a_kept :: .ref a_written :: .int f_writtenMany :: [])), (a_tape, .inl (y.1, 400, .inl c_tape))] := hD
        refine lv_goto (tgt := 0) hx hb dX9_here_63 (by decide) ?_
        obtain rfl := Option.some.inj hf
        exact ih (f_at + (1 : Int32)) x h _ _ _ hl hP hD hS K66
      unfold zf_X9_here_l0 at hf
      refine lv_aload_n hx hb dX9_here_0 rfl (lv_at hl 0 rfl) ?_
      refine zget X hP 0 rfl rfl inF9 4 (by decide) q_1336 rfl dX9_here_1 ?_
      refine lv_aload_n hx hb dX9_here_4 rfl (lv_at hl 0 rfl) ?_
      refine zget X hP 0 rfl rfl inF9 3 (by decide) q_1335 rfl dX9_here_5 ?_
      refine lv_icmp_ge (tgt := 66) hx hb dX9_here_8 (by decide) (fun c8 => ?_) (fun c8 => ?_)
      · replace hf := zt c8 hf
        obtain rfl := Option.some.inj hf
        obtain rfl := Option.some.inj h
        exact K66 _ _ _ hl hP hD hS
      · replace hf := ze c8 hf
        refine lv_aload_n hx hb dX9_here_11 rfl (lv_at hl 0 rfl) ?_
        refine zget X hP 0 rfl rfl inF9 1 (by decide) q_1333 rfl dX9_here_12 ?_
        refine lv_aload_n hx hb dX9_here_15 rfl (lv_at hl 0 rfl) ?_
        refine zget X hP 0 rfl rfl inF9 4 (by decide) q_1336 rfl dX9_here_16 ?_
        obtain ⟨g19, hf⟩ := zg hf
        refine va_iald hx hb hK hP 1 0 rfl rfl g19 dX9_here_19 ?_
        refine lv_bipush (v := 32) hx hb dX9_here_20 (by decide) ?_
        refine lv_icmp_eq (tgt := 53) hx hb dX9_here_22 (by decide) (fun c22 => ?_) (fun c22 => ?_)
        · replace hf := zt c22 hf
          exact J53 f_at hf _ _ _ hl hP hD hS
        · replace hf := ze c22 hf
          refine lv_aload_n hx hb dX9_here_25 rfl (lv_at hl 0 rfl) ?_
          refine zget X hP 0 rfl rfl inF9 1 (by decide) q_1333 rfl dX9_here_26 ?_
          refine lv_aload_n hx hb dX9_here_29 rfl (lv_at hl 0 rfl) ?_
          refine zget X hP 0 rfl rfl inF9 4 (by decide) q_1336 rfl dX9_here_30 ?_
          obtain ⟨g33, hf⟩ := zg hf
          refine va_iald hx hb hK hP 1 0 rfl rfl g33 dX9_here_33 ?_
          refine lv_bipush (v := 9) hx hb dX9_here_34 (by decide) ?_
          refine lv_icmp_eq (tgt := 53) hx hb dX9_here_36 (by decide) (fun c36 => ?_) (fun c36 => ?_)
          · replace hf := zt c36 hf
            exact J53 f_at hf _ _ _ hl hP hD hS
          · replace hf := ze c36 hf
            refine lv_aload_n hx hb dX9_here_39 rfl (lv_at hl 0 rfl) ?_
            refine zget X hP 0 rfl rfl inF9 1 (by decide) q_1333 rfl dX9_here_40 ?_
            refine lv_aload_n hx hb dX9_here_43 rfl (lv_at hl 0 rfl) ?_
            refine zget X hP 0 rfl rfl inF9 4 (by decide) q_1336 rfl dX9_here_44 ?_
            obtain ⟨g47, hf⟩ := zg hf
            refine va_iald hx hb hK hP 1 0 rfl rfl g47 dX9_here_47 ?_
            refine lv_bipush (v := 10) hx hb dX9_here_48 (by decide) ?_
            refine lv_icmp_ne (tgt := 66) hx hb dX9_here_50 (by decide) (fun c50 => ?_) (fun c50 => ?_)
            · replace hf := ze c50 hf
              obtain rfl := Option.some.inj hf
              obtain rfl := Option.some.inj h
              exact K66 _ _ _ hl hP hD hS
            · replace hf := zt c50 hf
              exact J53 f_at hf _ _ _ hl hP hD hS
  have J66 : ∀ (f_at : Int32), zf_X9_here_66 f_size f_at c_tape = some out → ∀ (H : Heap) (locs : List Loc) (ls : Array Slot), lv_has ls 1 [(0, .ref a_this)] → va_P D vwCl [(a_this, .inr (9, .int f_thrown :: .ref a_tape :: .int f_taped :: .int f_size :: .int f_at :: .int f_fault :: .int f_newColumns :: .int f_newRows :: .ref a_newTold :: .ref a_newHas :: .ref a_newStone :: .int f_columns :: .int f_rows :: .ref a_told :: .ref a_stone :: .int f_acts :: .ref a_pastTold :: .ref a_pastStone :: .ref a_pastColumns :: .ref a_pastRows :: .int f_isLaid :: .ref a_many :: .ref a_number :: .ref a_ways :: .ref a_placeOf :: .ref a_label :: .ref a_old :: .ref a_isOpen :: .ref a_freeOnes :: .ref a_joins :: .ref a_given :: .ref a_decided :: .ref a_wet :: .int f_seed :: .int f_frees :: .ref a_order :: .int f_isKept :: .int f_keptHalf :: .int f_keptFree :: .ref a_kept :: .ref a_written :: .int f_writtenMany :: [])), (a_tape, .inl (y.1, 400, .inl c_tape))] H → va_D A [(a_this, .inr (9, .int f_thrown :: .ref a_tape :: .int f_taped :: .int f_size :: .int f_at :: .int f_fault :: .int f_newColumns :: .int f_newRows :: .ref a_newTold :: .ref a_newHas :: .ref a_newStone :: .int f_columns :: .int f_rows :: .ref a_told :: .ref a_stone :: .int f_acts :: .ref a_pastTold :: .ref a_pastStone :: .ref a_pastColumns :: .ref a_pastRows :: .int f_isLaid :: .ref a_many :: .ref a_number :: .ref a_ways :: .ref a_placeOf :: .ref a_label :: .ref a_old :: .ref a_isOpen :: .ref a_freeOnes :: .ref a_joins :: .ref a_given :: .ref a_decided :: .ref a_wet :: .int f_seed :: .int f_frees :: .ref a_order :: .int f_isKept :: .int f_keptHalf :: .int f_keptFree :: .ref a_kept :: .ref a_written :: .int f_writtenMany :: [])), (a_tape, .inl (y.1, 400, .inl c_tape))] → va_S A s.heap H locs → W p l e rm_X9_here s m args below meth c H locs 0 0 Q (F0 m 66 ls []) := by
    intro f_at hf H locs ls hl hP hD hS
    unfold zf_X9_here_66 at hf
    refine lv_aload_n hx hb dX9_here_66 rfl (lv_at hl 0 rfl) ?_
    refine zget X hP 0 rfl rfl inF9 4 (by decide) q_1336 rfl dX9_here_67 ?_
    refine lv_aload_n hx hb dX9_here_70 rfl (lv_at hl 0 rfl) ?_
    refine zget X hP 0 rfl rfl inF9 3 (by decide) q_1335 rfl dX9_here_71 ?_
    refine lv_icmp_ge (tgt := 89) hx hb dX9_here_74 (by decide) (fun c74 => ?_) (fun c74 => ?_)
    · replace hf := zt c74 hf
      refine lv_iconst (v := -1) hx hb dX9_here_89 (by decide) ?_
      obtain rfl := Option.some.inj hf
      exact zreti X hQ hP hD hS ⟨rfl, rfl⟩ rfl dX9_here_90 (Nat.le_of_ble_eq_true rfl) (Nat.le_of_ble_eq_true rfl)
    · replace hf := ze c74 hf
      refine lv_aload_n hx hb dX9_here_77 rfl (lv_at hl 0 rfl) ?_
      refine zget X hP 0 rfl rfl inF9 1 (by decide) q_1333 rfl dX9_here_78 ?_
      refine lv_aload_n hx hb dX9_here_81 rfl (lv_at hl 0 rfl) ?_
      refine zget X hP 0 rfl rfl inF9 4 (by decide) q_1336 rfl dX9_here_82 ?_
      obtain ⟨g85, hf⟩ := zg hf
      refine va_iald hx hb hK hP 1 0 rfl rfl g85 dX9_here_85 ?_
      refine lv_goto (tgt := 90) hx hb dX9_here_86 (by decide) ?_
      obtain rfl := Option.some.inj hf
      exact zreti X hQ hP hD hS ⟨rfl, rfl⟩ rfl dX9_here_90 (Nat.le_of_ble_eq_true rfl) (Nat.le_of_ble_eq_true rfl)
  unfold zf_X9_here at hf
  refine lv_aload_n hx hb dX9_here_0 rfl (lv_at hl 0 rfl) ?_
  refine zget X hP 0 rfl rfl inF9 4 (by decide) q_1336 rfl dX9_here_1 ?_
  refine lv_aload_n hx hb dX9_here_4 rfl (lv_at hl 0 rfl) ?_
  refine zget X hP 0 rfl rfl inF9 3 (by decide) q_1335 rfl dX9_here_5 ?_
  refine lv_icmp_ge (tgt := 66) hx hb dX9_here_8 (by decide) (fun c8 => ?_) (fun c8 => ?_)
  · replace hf := zt c8 hf
    exact J66 f_at hf _ _ _ hl hP hD hS
  · replace hf := ze c8 hf
    refine lv_aload_n hx hb dX9_here_11 rfl (lv_at hl 0 rfl) ?_
    refine zget X hP 0 rfl rfl inF9 1 (by decide) q_1333 rfl dX9_here_12 ?_
    refine lv_aload_n hx hb dX9_here_15 rfl (lv_at hl 0 rfl) ?_
    refine zget X hP 0 rfl rfl inF9 4 (by decide) q_1336 rfl dX9_here_16 ?_
    obtain ⟨g19, hf⟩ := zg hf
    refine va_iald hx hb hK hP 1 0 rfl rfl g19 dX9_here_19 ?_
    refine lv_bipush (v := 32) hx hb dX9_here_20 (by decide) ?_
    refine lv_icmp_eq (tgt := 53) hx hb dX9_here_22 (by decide) (fun c22 => ?_) (fun c22 => ?_)
    · replace hf := zt c22 hf
      refine lv_aload_n hx hb dX9_here_53 rfl (lv_at hl 0 rfl) ?_
      refine lv_dup hx hb dX9_here_54 rfl ?_
      refine zget X hP 0 rfl rfl inF9 4 (by decide) q_1336 rfl dX9_here_55 ?_
      refine lv_iconst (v := 1) hx hb dX9_here_58 (by decide) ?_
      refine lv_iadd hx hb dX9_here_59 ?_
      refine zput (ty := .int) X hP hD hS 0 rfl rfl inF9 tyX9_ok nmX9 4 (by decide) q_1336 rfl rfl rfl rfl (Nat.le_of_ble_eq_true rfl) dX9_here_60 (fun H locs hP hD hS => ?_)
      have hP : va_P D vwCl [(a_this, .inr (9, .int f_thrown :: .ref a_tape :: .int f_taped :: .int f_size :: .int (f_at + (1 : Int32)) :: .int f_fault :: .int f_newColumns :: .int f_newRows :: .ref a_newTold :: .ref a_newHas :: .ref a_newStone :: .int f_columns :: .int f_rows :: .ref a_told :: .ref a_stone :: .int f_acts :: .ref a_pastTold :: .ref a_pastStone :: .ref a_pastColumns :: .ref a_pastRows :: .int f_isLaid :: .ref a_many :: .ref a_number :: .ref a_ways :: .ref a_placeOf :: .ref a_label :: .ref a_old :: .ref a_isOpen :: .ref a_freeOnes :: .ref a_joins :: .ref a_given :: .ref a_decided :: .ref a_wet :: .int f_seed :: .int f_frees :: .ref a_order :: .int f_isKept :: .int f_keptHalf :: .int f_keptFree :: .ref a_kept :: .ref a_written :: .int f_writtenMany :: [])), (a_tape, .inl (y.1, 400, .inl c_tape))] H := hP
      have hD : va_D A [(a_this, .inr (9, .int f_thrown :: .ref a_tape :: .int f_taped :: .int f_size :: .int (f_at + (1 : Int32)) :: .int f_fault :: .int f_newColumns :: .int f_newRows :: .ref a_newTold :: .ref a_newHas :: .ref a_newStone :: .int f_columns :: .int f_rows :: .ref a_told :: .ref a_stone :: .int f_acts :: .ref a_pastTold :: .ref a_pastStone :: .ref a_pastColumns :: .ref a_pastRows :: .int f_isLaid :: .ref a_many :: .ref a_number :: .ref a_ways :: .ref a_placeOf :: .ref a_label :: .ref a_old :: .ref a_isOpen :: .ref a_freeOnes :: .ref a_joins :: .ref a_given :: .ref a_decided :: .ref a_wet :: .int f_seed :: .int f_frees :: .ref a_order :: .int f_isKept :: .int f_keptHalf :: .int f_keptFree :: .ref a_kept :: .ref a_written :: .int f_writtenMany :: [])), (a_tape, .inl (y.1, 400, .inl c_tape))] := hD
      refine lv_goto (tgt := 0) hx hb dX9_here_63 (by decide) ?_
      obtain ⟨o0, ho0, hf⟩ := zb hf
      refine L0 zfu (f_at + (1 : Int32)) o0 ho0 _ _ _ hl hP hD hS (fun H locs ls hl hP hD hS => ?_)
      exact J66 o0 hf _ _ _ hl hP hD hS
    · replace hf := ze c22 hf
      refine lv_aload_n hx hb dX9_here_25 rfl (lv_at hl 0 rfl) ?_
      refine zget X hP 0 rfl rfl inF9 1 (by decide) q_1333 rfl dX9_here_26 ?_
      refine lv_aload_n hx hb dX9_here_29 rfl (lv_at hl 0 rfl) ?_
      refine zget X hP 0 rfl rfl inF9 4 (by decide) q_1336 rfl dX9_here_30 ?_
      obtain ⟨g33, hf⟩ := zg hf
      refine va_iald hx hb hK hP 1 0 rfl rfl g33 dX9_here_33 ?_
      refine lv_bipush (v := 9) hx hb dX9_here_34 (by decide) ?_
      refine lv_icmp_eq (tgt := 53) hx hb dX9_here_36 (by decide) (fun c36 => ?_) (fun c36 => ?_)
      · replace hf := zt c36 hf
        refine lv_aload_n hx hb dX9_here_53 rfl (lv_at hl 0 rfl) ?_
        refine lv_dup hx hb dX9_here_54 rfl ?_
        refine zget X hP 0 rfl rfl inF9 4 (by decide) q_1336 rfl dX9_here_55 ?_
        refine lv_iconst (v := 1) hx hb dX9_here_58 (by decide) ?_
        refine lv_iadd hx hb dX9_here_59 ?_
        refine zput (ty := .int) X hP hD hS 0 rfl rfl inF9 tyX9_ok nmX9 4 (by decide) q_1336 rfl rfl rfl rfl (Nat.le_of_ble_eq_true rfl) dX9_here_60 (fun H locs hP hD hS => ?_)
        have hP : va_P D vwCl [(a_this, .inr (9, .int f_thrown :: .ref a_tape :: .int f_taped :: .int f_size :: .int (f_at + (1 : Int32)) :: .int f_fault :: .int f_newColumns :: .int f_newRows :: .ref a_newTold :: .ref a_newHas :: .ref a_newStone :: .int f_columns :: .int f_rows :: .ref a_told :: .ref a_stone :: .int f_acts :: .ref a_pastTold :: .ref a_pastStone :: .ref a_pastColumns :: .ref a_pastRows :: .int f_isLaid :: .ref a_many :: .ref a_number :: .ref a_ways :: .ref a_placeOf :: .ref a_label :: .ref a_old :: .ref a_isOpen :: .ref a_freeOnes :: .ref a_joins :: .ref a_given :: .ref a_decided :: .ref a_wet :: .int f_seed :: .int f_frees :: .ref a_order :: .int f_isKept :: .int f_keptHalf :: .int f_keptFree :: .ref a_kept :: .ref a_written :: .int f_writtenMany :: [])), (a_tape, .inl (y.1, 400, .inl c_tape))] H := hP
        have hD : va_D A [(a_this, .inr (9, .int f_thrown :: .ref a_tape :: .int f_taped :: .int f_size :: .int (f_at + (1 : Int32)) :: .int f_fault :: .int f_newColumns :: .int f_newRows :: .ref a_newTold :: .ref a_newHas :: .ref a_newStone :: .int f_columns :: .int f_rows :: .ref a_told :: .ref a_stone :: .int f_acts :: .ref a_pastTold :: .ref a_pastStone :: .ref a_pastColumns :: .ref a_pastRows :: .int f_isLaid :: .ref a_many :: .ref a_number :: .ref a_ways :: .ref a_placeOf :: .ref a_label :: .ref a_old :: .ref a_isOpen :: .ref a_freeOnes :: .ref a_joins :: .ref a_given :: .ref a_decided :: .ref a_wet :: .int f_seed :: .int f_frees :: .ref a_order :: .int f_isKept :: .int f_keptHalf :: .int f_keptFree :: .ref a_kept :: .ref a_written :: .int f_writtenMany :: [])), (a_tape, .inl (y.1, 400, .inl c_tape))] := hD
        refine lv_goto (tgt := 0) hx hb dX9_here_63 (by decide) ?_
        obtain ⟨o0, ho0, hf⟩ := zb hf
        refine L0 zfu (f_at + (1 : Int32)) o0 ho0 _ _ _ hl hP hD hS (fun H locs ls hl hP hD hS => ?_)
        exact J66 o0 hf _ _ _ hl hP hD hS
      · replace hf := ze c36 hf
        refine lv_aload_n hx hb dX9_here_39 rfl (lv_at hl 0 rfl) ?_
        refine zget X hP 0 rfl rfl inF9 1 (by decide) q_1333 rfl dX9_here_40 ?_
        refine lv_aload_n hx hb dX9_here_43 rfl (lv_at hl 0 rfl) ?_
        refine zget X hP 0 rfl rfl inF9 4 (by decide) q_1336 rfl dX9_here_44 ?_
        obtain ⟨g47, hf⟩ := zg hf
        refine va_iald hx hb hK hP 1 0 rfl rfl g47 dX9_here_47 ?_
        refine lv_bipush (v := 10) hx hb dX9_here_48 (by decide) ?_
        refine lv_icmp_ne (tgt := 66) hx hb dX9_here_50 (by decide) (fun c50 => ?_) (fun c50 => ?_)
        · replace hf := ze c50 hf
          exact J66 f_at hf _ _ _ hl hP hD hS
        · replace hf := zt c50 hf
          refine lv_aload_n hx hb dX9_here_53 rfl (lv_at hl 0 rfl) ?_
          refine lv_dup hx hb dX9_here_54 rfl ?_
          refine zget X hP 0 rfl rfl inF9 4 (by decide) q_1336 rfl dX9_here_55 ?_
          refine lv_iconst (v := 1) hx hb dX9_here_58 (by decide) ?_
          refine lv_iadd hx hb dX9_here_59 ?_
          refine zput (ty := .int) X hP hD hS 0 rfl rfl inF9 tyX9_ok nmX9 4 (by decide) q_1336 rfl rfl rfl rfl (Nat.le_of_ble_eq_true rfl) dX9_here_60 (fun H locs hP hD hS => ?_)
          have hP : va_P D vwCl [(a_this, .inr (9, .int f_thrown :: .ref a_tape :: .int f_taped :: .int f_size :: .int (f_at + (1 : Int32)) :: .int f_fault :: .int f_newColumns :: .int f_newRows :: .ref a_newTold :: .ref a_newHas :: .ref a_newStone :: .int f_columns :: .int f_rows :: .ref a_told :: .ref a_stone :: .int f_acts :: .ref a_pastTold :: .ref a_pastStone :: .ref a_pastColumns :: .ref a_pastRows :: .int f_isLaid :: .ref a_many :: .ref a_number :: .ref a_ways :: .ref a_placeOf :: .ref a_label :: .ref a_old :: .ref a_isOpen :: .ref a_freeOnes :: .ref a_joins :: .ref a_given :: .ref a_decided :: .ref a_wet :: .int f_seed :: .int f_frees :: .ref a_order :: .int f_isKept :: .int f_keptHalf :: .int f_keptFree :: .ref a_kept :: .ref a_written :: .int f_writtenMany :: [])), (a_tape, .inl (y.1, 400, .inl c_tape))] H := hP
          have hD : va_D A [(a_this, .inr (9, .int f_thrown :: .ref a_tape :: .int f_taped :: .int f_size :: .int (f_at + (1 : Int32)) :: .int f_fault :: .int f_newColumns :: .int f_newRows :: .ref a_newTold :: .ref a_newHas :: .ref a_newStone :: .int f_columns :: .int f_rows :: .ref a_told :: .ref a_stone :: .int f_acts :: .ref a_pastTold :: .ref a_pastStone :: .ref a_pastColumns :: .ref a_pastRows :: .int f_isLaid :: .ref a_many :: .ref a_number :: .ref a_ways :: .ref a_placeOf :: .ref a_label :: .ref a_old :: .ref a_isOpen :: .ref a_freeOnes :: .ref a_joins :: .ref a_given :: .ref a_decided :: .ref a_wet :: .int f_seed :: .int f_frees :: .ref a_order :: .int f_isKept :: .int f_keptHalf :: .int f_keptFree :: .ref a_kept :: .ref a_written :: .int f_writtenMany :: [])), (a_tape, .inl (y.1, 400, .inl c_tape))] := hD
          refine lv_goto (tgt := 0) hx hb dX9_here_63 (by decide) ?_
          obtain ⟨o0, ho0, hf⟩ := zb hf
          refine L0 zfu (f_at + (1 : Int32)) o0 ho0 _ _ _ hl hP hD hS (fun H locs ls hl hP hD hS => ?_)
          exact J66 o0 hf _ _ _ hl hP hD hS

theorem kf_RX9_115 : zCB RX9 115 yX9_here cX9_here 1 (some .int) 0 ∧ Cond.instanceMethod yX9_here ∈ wAll ∧ Cond.selects yX9_here.cls yX9_here yX9_here ∈ wAll := ⟨⟨q_1492, q_9, q_1489, by decide +kernel⟩, q_1491, qp_59⟩
abbrev rm_X9_wordSize : Room := { frames := 1, cells := 0, slots := 0, locals := 20 }
def zf_X9_wordSize_l10 (f_size : Int32) (c_tape : Nat → Int32) (x1 : Int32) (x2 : Int32) : Option ((Int32) ⊕ ((Int32))) :=
  if x1 = (-1 : Int32) then (some (.inr x2)) else (if f_size ≤ x2 then (some (.inr x2)) else (if zgd x2 400 = true then (if (c_tape x2.toNatClampNeg) < (97 : Int32) then (some (.inr x2)) else (if zgd x2 400 = true then (if (122 : Int32) < (c_tape x2.toNatClampNeg) then (some (.inr x2)) else (some (.inl (x2 + (1 : Int32))))) else none)) else none))
def zf_X9_wordSize_51 (f_at : Int32) (x2 : Int32) : Option (Int32 × Int32) :=
  some (x2 - f_at, f_at)
def zf_X9_wordSize (f_size : Int32) (f_at : Int32) (c_tape : Nat → Int32) : Option (Int32 × Int32) :=
  (zf_X9_here f_size f_at c_tape).bind fun o1 =>
  (zit (fun d => zf_X9_wordSize_l10 f_size c_tape o1.1 d) zfu o1.2).bind fun o10 =>
  zf_X9_wordSize_51 o1.2 o10
set_option maxHeartbeats 4000000 in
set_option maxRecDepth 100000 in
theorem zc_X9_wordSize (l : Launch) (D : va_G) (y : zY) (a_this a_tape a_newTold a_newHas a_newStone a_told a_stone a_pastTold a_pastStone a_pastColumns a_pastRows a_many a_number a_ways a_placeOf a_label a_old a_isOpen a_freeOnes a_joins a_given a_decided a_wet a_order a_kept a_written : Nat) (f_thrown : Int32) (f_taped : Int32) (f_size : Int32) (f_at : Int32) (f_fault : Int32) (f_newColumns : Int32) (f_newRows : Int32) (f_columns : Int32) (f_rows : Int32) (f_acts : Int32) (f_isLaid : Int32) (f_seed : Int32) (f_frees : Int32) (f_isKept : Int32) (f_keptHalf : Int32) (f_keptFree : Int32) (f_writtenMany : Int32) (c_tape : Nat → Int32) (out : Int32 × Int32) (hf : zf_X9_wordSize f_size f_at c_tape = some out) : zC l D y yX9_wordSize cX9_wordSize 3 (some .int) rm_X9_wordSize [.ref a_this] [(a_this, .inr (9, .int f_thrown :: .ref a_tape :: .int f_taped :: .int f_size :: .int f_at :: .int f_fault :: .int f_newColumns :: .int f_newRows :: .ref a_newTold :: .ref a_newHas :: .ref a_newStone :: .int f_columns :: .int f_rows :: .ref a_told :: .ref a_stone :: .int f_acts :: .ref a_pastTold :: .ref a_pastStone :: .ref a_pastColumns :: .ref a_pastRows :: .int f_isLaid :: .ref a_many :: .ref a_number :: .ref a_ways :: .ref a_placeOf :: .ref a_label :: .ref a_old :: .ref a_isOpen :: .ref a_freeOnes :: .ref a_joins :: .ref a_given :: .ref a_decided :: .ref a_wet :: .int f_seed :: .int f_frees :: .ref a_order :: .int f_isKept :: .int f_keptHalf :: .int f_keptFree :: .ref a_kept :: .ref a_written :: .int f_writtenMany :: [])), (a_tape, .inl (y.1, 400, .inl c_tape))] (zE (some (.int out.1)) [(a_this, .inr (9, .int f_thrown :: .ref a_tape :: .int f_taped :: .int f_size :: .int out.2 :: .int f_fault :: .int f_newColumns :: .int f_newRows :: .ref a_newTold :: .ref a_newHas :: .ref a_newStone :: .int f_columns :: .int f_rows :: .ref a_told :: .ref a_stone :: .int f_acts :: .ref a_pastTold :: .ref a_pastStone :: .ref a_pastColumns :: .ref a_pastRows :: .int f_isLaid :: .ref a_many :: .ref a_number :: .ref a_ways :: .ref a_placeOf :: .ref a_label :: .ref a_old :: .ref a_isOpen :: .ref a_freeOnes :: .ref a_joins :: .ref a_given :: .ref a_decided :: .ref a_wet :: .int f_seed :: .int f_frees :: .ref a_order :: .int f_isKept :: .int f_keptHalf :: .int f_keptFree :: .ref a_kept :: .ref a_written :: .int f_writtenMany :: [])), (a_tape, .inl (y.1, 400, .inl c_tape))]) := by
  refine zmk (by decide) (Nat.le_of_ble_eq_true rfl) ?_
  intro p e s m args below meth c A Q ls X hQ hnm hP hD hS hl
  have X : zX p s m args meth c D y A RX9 cX9_wordSize 3 (some .int) := X
  obtain ⟨hx, hb, hr, hml, hown, hts, hK, hA, hlocks⟩ := id X
  have hl : lv_has ls 3 [(0, .ref a_this)] := hl
  have L10 : ∀ (n : Nat) (x1 : Int32) (x2 : Int32) (f_at : Int32) (x : (Int32)), zit (fun d => zf_X9_wordSize_l10 f_size c_tape x1 d) n x2 = some x → ∀ (H : Heap) (locs : List Loc) (ls : Array Slot), lv_has ls 3 [(0, .ref a_this), (1, .int x1), (2, .int x2)] → va_P D vwCl [(a_this, .inr (9, .int f_thrown :: .ref a_tape :: .int f_taped :: .int f_size :: .int f_at :: .int f_fault :: .int f_newColumns :: .int f_newRows :: .ref a_newTold :: .ref a_newHas :: .ref a_newStone :: .int f_columns :: .int f_rows :: .ref a_told :: .ref a_stone :: .int f_acts :: .ref a_pastTold :: .ref a_pastStone :: .ref a_pastColumns :: .ref a_pastRows :: .int f_isLaid :: .ref a_many :: .ref a_number :: .ref a_ways :: .ref a_placeOf :: .ref a_label :: .ref a_old :: .ref a_isOpen :: .ref a_freeOnes :: .ref a_joins :: .ref a_given :: .ref a_decided :: .ref a_wet :: .int f_seed :: .int f_frees :: .ref a_order :: .int f_isKept :: .int f_keptHalf :: .int f_keptFree :: .ref a_kept :: .ref a_written :: .int f_writtenMany :: [])), (a_tape, .inl (y.1, 400, .inl c_tape))] H → va_D A [(a_this, .inr (9, .int f_thrown :: .ref a_tape :: .int f_taped :: .int f_size :: .int f_at :: .int f_fault :: .int f_newColumns :: .int f_newRows :: .ref a_newTold :: .ref a_newHas :: .ref a_newStone :: .int f_columns :: .int f_rows :: .ref a_told :: .ref a_stone :: .int f_acts :: .ref a_pastTold :: .ref a_pastStone :: .ref a_pastColumns :: .ref a_pastRows :: .int f_isLaid :: .ref a_many :: .ref a_number :: .ref a_ways :: .ref a_placeOf :: .ref a_label :: .ref a_old :: .ref a_isOpen :: .ref a_freeOnes :: .ref a_joins :: .ref a_given :: .ref a_decided :: .ref a_wet :: .int f_seed :: .int f_frees :: .ref a_order :: .int f_isKept :: .int f_keptHalf :: .int f_keptFree :: .ref a_kept :: .ref a_written :: .int f_writtenMany :: [])), (a_tape, .inl (y.1, 400, .inl c_tape))] → va_S A s.heap H locs → (∀ (H : Heap) (locs : List Loc) (ls : Array Slot), lv_has ls 3 [(0, .ref a_this), (2, .int x)] → va_P D vwCl [(a_this, .inr (9, .int f_thrown :: .ref a_tape :: .int f_taped :: .int f_size :: .int f_at :: .int f_fault :: .int f_newColumns :: .int f_newRows :: .ref a_newTold :: .ref a_newHas :: .ref a_newStone :: .int f_columns :: .int f_rows :: .ref a_told :: .ref a_stone :: .int f_acts :: .ref a_pastTold :: .ref a_pastStone :: .ref a_pastColumns :: .ref a_pastRows :: .int f_isLaid :: .ref a_many :: .ref a_number :: .ref a_ways :: .ref a_placeOf :: .ref a_label :: .ref a_old :: .ref a_isOpen :: .ref a_freeOnes :: .ref a_joins :: .ref a_given :: .ref a_decided :: .ref a_wet :: .int f_seed :: .int f_frees :: .ref a_order :: .int f_isKept :: .int f_keptHalf :: .int f_keptFree :: .ref a_kept :: .ref a_written :: .int f_writtenMany :: [])), (a_tape, .inl (y.1, 400, .inl c_tape))] H → va_D A [(a_this, .inr (9, .int f_thrown :: .ref a_tape :: .int f_taped :: .int f_size :: .int f_at :: .int f_fault :: .int f_newColumns :: .int f_newRows :: .ref a_newTold :: .ref a_newHas :: .ref a_newStone :: .int f_columns :: .int f_rows :: .ref a_told :: .ref a_stone :: .int f_acts :: .ref a_pastTold :: .ref a_pastStone :: .ref a_pastColumns :: .ref a_pastRows :: .int f_isLaid :: .ref a_many :: .ref a_number :: .ref a_ways :: .ref a_placeOf :: .ref a_label :: .ref a_old :: .ref a_isOpen :: .ref a_freeOnes :: .ref a_joins :: .ref a_given :: .ref a_decided :: .ref a_wet :: .int f_seed :: .int f_frees :: .ref a_order :: .int f_isKept :: .int f_keptHalf :: .int f_keptFree :: .ref a_kept :: .ref a_written :: .int f_writtenMany :: [])), (a_tape, .inl (y.1, 400, .inl c_tape))] → va_S A s.heap H locs → W p l e rm_X9_wordSize s m args below meth c H locs 0 0 Q (F0 m 51 ls [])) → W p l e rm_X9_wordSize s m args below meth c H locs 0 0 Q (F0 m 10 ls []) := by
    intro n
    induction n with
    | zero => intro x1 x2 f_at x h; exact (zi0 h).elim
    | succ n ih =>
      intro x1 x2 f_at x h H locs ls hl hP hD hS K51
      obtain ⟨r, hf, h⟩ := zis h
      have hf : zf_X9_wordSize_l10 f_size c_tape x1 x2 = some r := hf
      unfold zf_X9_wordSize_l10 at hf
      refine lv_iload_n hx hb dX9_wordSize_10 rfl (lv_at hl 1 rfl) ?_
      refine lv_iconst (v := -1) hx hb dX9_wordSize_11 (by decide) ?_
      refine lv_icmp_eq (tgt := 51) hx hb dX9_wordSize_12 (by decide) (fun c12 => ?_) (fun c12 => ?_)
      · replace hf := zt c12 hf
        obtain rfl := Option.some.inj hf
        obtain rfl := Option.some.inj h
        exact K51 _ _ _ (lv_sub hl [0, 2] rfl) hP hD hS
      · replace hf := ze c12 hf
        refine lv_iload_n hx hb dX9_wordSize_15 rfl (lv_at hl 2 rfl) ?_
        refine lv_aload_n hx hb dX9_wordSize_16 rfl (lv_at hl 0 rfl) ?_
        refine zget X hP 0 rfl rfl inF9 3 (by decide) q_1335 rfl dX9_wordSize_17 ?_
        refine lv_icmp_ge (tgt := 51) hx hb dX9_wordSize_20 (by decide) (fun c20 => ?_) (fun c20 => ?_)
        · replace hf := zt c20 hf
          obtain rfl := Option.some.inj hf
          obtain rfl := Option.some.inj h
          exact K51 _ _ _ (lv_sub hl [0, 2] rfl) hP hD hS
        · replace hf := ze c20 hf
          refine lv_aload_n hx hb dX9_wordSize_23 rfl (lv_at hl 0 rfl) ?_
          refine zget X hP 0 rfl rfl inF9 1 (by decide) q_1333 rfl dX9_wordSize_24 ?_
          refine lv_iload_n hx hb dX9_wordSize_27 rfl (lv_at hl 2 rfl) ?_
          obtain ⟨g28, hf⟩ := zg hf
          refine va_iald hx hb hK hP 1 0 rfl rfl g28 dX9_wordSize_28 ?_
          refine lv_bipush (v := 97) hx hb dX9_wordSize_29 (by decide) ?_
          refine lv_icmp_lt (tgt := 51) hx hb dX9_wordSize_31 (by decide) (fun c31 => ?_) (fun c31 => ?_)
          · replace hf := zt c31 hf
            obtain rfl := Option.some.inj hf
            obtain rfl := Option.some.inj h
            exact K51 _ _ _ (lv_sub hl [0, 2] rfl) hP hD hS
          · replace hf := ze c31 hf
            refine lv_aload_n hx hb dX9_wordSize_34 rfl (lv_at hl 0 rfl) ?_
            refine zget X hP 0 rfl rfl inF9 1 (by decide) q_1333 rfl dX9_wordSize_35 ?_
            refine lv_iload_n hx hb dX9_wordSize_38 rfl (lv_at hl 2 rfl) ?_
            obtain ⟨g39, hf⟩ := zg hf
            refine va_iald hx hb hK hP 1 0 rfl rfl g39 dX9_wordSize_39 ?_
            refine lv_bipush (v := 122) hx hb dX9_wordSize_40 (by decide) ?_
            refine lv_icmp_gt (tgt := 51) hx hb dX9_wordSize_42 (by decide) (fun c42 => ?_) (fun c42 => ?_)
            · replace hf := zt c42 hf
              obtain rfl := Option.some.inj hf
              obtain rfl := Option.some.inj h
              exact K51 _ _ _ (lv_sub hl [0, 2] rfl) hP hD hS
            · replace hf := ze c42 hf
              refine lv_iinc (v := x2 + (1 : Int32)) (lv' := [(2, .int (x2 + (1 : Int32))), (0, .ref a_this), (1, .int x1)]) hx hb dX9_wordSize_45 hl (k := 2) rfl rfl (by decide) rfl (fun ls hl => ?_)
              refine lv_goto (tgt := 10) hx hb dX9_wordSize_48 (by decide) ?_
              obtain rfl := Option.some.inj hf
              exact ih x1 (x2 + (1 : Int32)) f_at x h _ _ _ (lv_sub hl [1, 2, 0] rfl) hP hD hS K51
  have J51 : ∀ (x2 : Int32) (f_at : Int32), zf_X9_wordSize_51 f_at x2 = some out → ∀ (H : Heap) (locs : List Loc) (ls : Array Slot), lv_has ls 3 [(0, .ref a_this), (2, .int x2)] → va_P D vwCl [(a_this, .inr (9, .int f_thrown :: .ref a_tape :: .int f_taped :: .int f_size :: .int f_at :: .int f_fault :: .int f_newColumns :: .int f_newRows :: .ref a_newTold :: .ref a_newHas :: .ref a_newStone :: .int f_columns :: .int f_rows :: .ref a_told :: .ref a_stone :: .int f_acts :: .ref a_pastTold :: .ref a_pastStone :: .ref a_pastColumns :: .ref a_pastRows :: .int f_isLaid :: .ref a_many :: .ref a_number :: .ref a_ways :: .ref a_placeOf :: .ref a_label :: .ref a_old :: .ref a_isOpen :: .ref a_freeOnes :: .ref a_joins :: .ref a_given :: .ref a_decided :: .ref a_wet :: .int f_seed :: .int f_frees :: .ref a_order :: .int f_isKept :: .int f_keptHalf :: .int f_keptFree :: .ref a_kept :: .ref a_written :: .int f_writtenMany :: [])), (a_tape, .inl (y.1, 400, .inl c_tape))] H → va_D A [(a_this, .inr (9, .int f_thrown :: .ref a_tape :: .int f_taped :: .int f_size :: .int f_at :: .int f_fault :: .int f_newColumns :: .int f_newRows :: .ref a_newTold :: .ref a_newHas :: .ref a_newStone :: .int f_columns :: .int f_rows :: .ref a_told :: .ref a_stone :: .int f_acts :: .ref a_pastTold :: .ref a_pastStone :: .ref a_pastColumns :: .ref a_pastRows :: .int f_isLaid :: .ref a_many :: .ref a_number :: .ref a_ways :: .ref a_placeOf :: .ref a_label :: .ref a_old :: .ref a_isOpen :: .ref a_freeOnes :: .ref a_joins :: .ref a_given :: .ref a_decided :: .ref a_wet :: .int f_seed :: .int f_frees :: .ref a_order :: .int f_isKept :: .int f_keptHalf :: .int f_keptFree :: .ref a_kept :: .ref a_written :: .int f_writtenMany :: [])), (a_tape, .inl (y.1, 400, .inl c_tape))] → va_S A s.heap H locs → W p l e rm_X9_wordSize s m args below meth c H locs 0 0 Q (F0 m 51 ls []) := by
    intro x2 f_at hf H locs ls hl hP hD hS
    unfold zf_X9_wordSize_51 at hf
    refine lv_iload_n hx hb dX9_wordSize_51 rfl (lv_at hl 1 rfl) ?_
    refine lv_aload_n hx hb dX9_wordSize_52 rfl (lv_at hl 0 rfl) ?_
    refine zget X hP 0 rfl rfl inF9 4 (by decide) q_1336 rfl dX9_wordSize_53 ?_
    refine lv_isub hx hb dX9_wordSize_56 ?_
    obtain rfl := Option.some.inj hf
    exact zreti X hQ hP hD hS ⟨rfl, rfl⟩ rfl dX9_wordSize_57 (Nat.le_of_ble_eq_true rfl) (Nat.le_of_ble_eq_true rfl)
  unfold zf_X9_wordSize at hf
  refine lv_aload_n hx hb dX9_wordSize_0 rfl (lv_at hl 0 rfl) ?_
  obtain ⟨o1, ho1, hf⟩ := zb hf
  refine zcV1 (wr := []) (rest := []) X (zc_X9_here l D y a_this a_tape a_newTold a_newHas a_newStone a_told a_stone a_pastTold a_pastStone a_pastColumns a_pastRows a_many a_number a_ways a_placeOf a_label a_old a_isOpen a_freeOnes a_joins a_given a_decided a_wet a_order a_kept a_written f_thrown f_taped f_size f_at f_fault f_newColumns f_newRows f_columns f_rows f_acts f_isLaid f_seed f_frees f_isKept f_keptHalf f_keptFree f_writtenMany c_tape o1 ho1) kf_RX9_115 ⟨(Nat.le_of_ble_eq_true rfl), (Nat.le_of_ble_eq_true rfl)⟩ hP hD hS [0, 1] [] rfl rfl rfl rfl (by decide) 0 rfl rfl rfl rfl hl.1 (Nat.le_of_ble_eq_true rfl) dX9_wordSize_1 ⟨(Nat.le_of_ble_eq_true rfl), (Nat.le_of_ble_eq_true rfl)⟩ (fun H locs hP hD hS => ?_)
  have hP : va_P D vwCl [(a_this, .inr (9, .int f_thrown :: .ref a_tape :: .int f_taped :: .int f_size :: .int o1.2 :: .int f_fault :: .int f_newColumns :: .int f_newRows :: .ref a_newTold :: .ref a_newHas :: .ref a_newStone :: .int f_columns :: .int f_rows :: .ref a_told :: .ref a_stone :: .int f_acts :: .ref a_pastTold :: .ref a_pastStone :: .ref a_pastColumns :: .ref a_pastRows :: .int f_isLaid :: .ref a_many :: .ref a_number :: .ref a_ways :: .ref a_placeOf :: .ref a_label :: .ref a_old :: .ref a_isOpen :: .ref a_freeOnes :: .ref a_joins :: .ref a_given :: .ref a_decided :: .ref a_wet :: .int f_seed :: .int f_frees :: .ref a_order :: .int f_isKept :: .int f_keptHalf :: .int f_keptFree :: .ref a_kept :: .ref a_written :: .int f_writtenMany :: [])), (a_tape, .inl (y.1, 400, .inl c_tape))] H := hP
  have hD : va_D A [(a_this, .inr (9, .int f_thrown :: .ref a_tape :: .int f_taped :: .int f_size :: .int o1.2 :: .int f_fault :: .int f_newColumns :: .int f_newRows :: .ref a_newTold :: .ref a_newHas :: .ref a_newStone :: .int f_columns :: .int f_rows :: .ref a_told :: .ref a_stone :: .int f_acts :: .ref a_pastTold :: .ref a_pastStone :: .ref a_pastColumns :: .ref a_pastRows :: .int f_isLaid :: .ref a_many :: .ref a_number :: .ref a_ways :: .ref a_placeOf :: .ref a_label :: .ref a_old :: .ref a_isOpen :: .ref a_freeOnes :: .ref a_joins :: .ref a_given :: .ref a_decided :: .ref a_wet :: .int f_seed :: .int f_frees :: .ref a_order :: .int f_isKept :: .int f_keptHalf :: .int f_keptFree :: .ref a_kept :: .ref a_written :: .int f_writtenMany :: [])), (a_tape, .inl (y.1, 400, .inl c_tape))] := hD
  refine lv_istore_n (lv' := [(1, .int o1.1), (0, .ref a_this)]) hx hb dX9_wordSize_4 rfl hl (by decide) rfl (fun ls hl => ?_)
  refine lv_aload_n hx hb dX9_wordSize_5 rfl (lv_at hl 1 rfl) ?_
  refine zget X hP 0 rfl rfl inF9 4 (by decide) q_1336 rfl dX9_wordSize_6 ?_
  refine lv_istore_n (lv' := [(2, .int o1.2), (1, .int o1.1), (0, .ref a_this)]) hx hb dX9_wordSize_9 rfl hl (by decide) rfl (fun ls hl => ?_)
  obtain ⟨o10, ho10, hf⟩ := zb hf
  refine L10 zfu o1.1 o1.2 o1.2 o10 ho10 _ _ _ (lv_sub hl [2, 1, 0] rfl) hP hD hS (fun H locs ls hl hP hD hS => ?_)
  exact J51 o10 o1.2 hf _ _ _ hl hP hD hS

theorem kf_RX9_135 : zCB RX9 135 yX9_wrong cX9_wrong 1 (none : Option Jvm.ClassFile.FieldType) 0 ∧ Cond.instanceMethod yX9_wrong ∈ wAll ∧ Cond.selects yX9_wrong.cls yX9_wrong yX9_wrong ∈ wAll := ⟨⟨q_1498, q_9, q_1495, by decide +kernel⟩, q_1497, qp_60⟩
abbrev rm_X9_must : Room := { frames := 1, cells := 0, slots := 0, locals := 20 }
def zf_X9_must (f_size : Int32) (f_at : Int32) (f_fault : Int32) (c_tape : Nat → Int32) (x1 : Int32) : Option (Int32 × Int32) :=
  if f_fault = (-1 : Int32) then ((zf_X9_here f_size f_at c_tape).bind fun o10 =>
  if o10.1 = x1 then (some (o10.2 + (1 : Int32), f_fault)) else ((zf_X9_wrong o10.2 f_fault).bind fun o31 =>
  some (o10.2, o31))) else (some (f_at, f_fault))
set_option maxHeartbeats 4000000 in
set_option maxRecDepth 100000 in
theorem zc_X9_must (l : Launch) (D : va_G) (y : zY) (a_this a_tape a_newTold a_newHas a_newStone a_told a_stone a_pastTold a_pastStone a_pastColumns a_pastRows a_many a_number a_ways a_placeOf a_label a_old a_isOpen a_freeOnes a_joins a_given a_decided a_wet a_order a_kept a_written : Nat) (f_thrown : Int32) (f_taped : Int32) (f_size : Int32) (f_at : Int32) (f_fault : Int32) (f_newColumns : Int32) (f_newRows : Int32) (f_columns : Int32) (f_rows : Int32) (f_acts : Int32) (f_isLaid : Int32) (f_seed : Int32) (f_frees : Int32) (f_isKept : Int32) (f_keptHalf : Int32) (f_keptFree : Int32) (f_writtenMany : Int32) (c_tape : Nat → Int32) (x1 : Int32) (out : Int32 × Int32) (hf : zf_X9_must f_size f_at f_fault c_tape x1 = some out) : zC l D y yX9_must cX9_must 2 (none : Option Jvm.ClassFile.FieldType) rm_X9_must [.ref a_this, .int x1] [(a_this, .inr (9, .int f_thrown :: .ref a_tape :: .int f_taped :: .int f_size :: .int f_at :: .int f_fault :: .int f_newColumns :: .int f_newRows :: .ref a_newTold :: .ref a_newHas :: .ref a_newStone :: .int f_columns :: .int f_rows :: .ref a_told :: .ref a_stone :: .int f_acts :: .ref a_pastTold :: .ref a_pastStone :: .ref a_pastColumns :: .ref a_pastRows :: .int f_isLaid :: .ref a_many :: .ref a_number :: .ref a_ways :: .ref a_placeOf :: .ref a_label :: .ref a_old :: .ref a_isOpen :: .ref a_freeOnes :: .ref a_joins :: .ref a_given :: .ref a_decided :: .ref a_wet :: .int f_seed :: .int f_frees :: .ref a_order :: .int f_isKept :: .int f_keptHalf :: .int f_keptFree :: .ref a_kept :: .ref a_written :: .int f_writtenMany :: [])), (a_tape, .inl (y.1, 400, .inl c_tape))] (zE none [(a_this, .inr (9, .int f_thrown :: .ref a_tape :: .int f_taped :: .int f_size :: .int out.1 :: .int out.2 :: .int f_newColumns :: .int f_newRows :: .ref a_newTold :: .ref a_newHas :: .ref a_newStone :: .int f_columns :: .int f_rows :: .ref a_told :: .ref a_stone :: .int f_acts :: .ref a_pastTold :: .ref a_pastStone :: .ref a_pastColumns :: .ref a_pastRows :: .int f_isLaid :: .ref a_many :: .ref a_number :: .ref a_ways :: .ref a_placeOf :: .ref a_label :: .ref a_old :: .ref a_isOpen :: .ref a_freeOnes :: .ref a_joins :: .ref a_given :: .ref a_decided :: .ref a_wet :: .int f_seed :: .int f_frees :: .ref a_order :: .int f_isKept :: .int f_keptHalf :: .int f_keptFree :: .ref a_kept :: .ref a_written :: .int f_writtenMany :: [])), (a_tape, .inl (y.1, 400, .inl c_tape))]) := by
  refine zmk (by decide) (Nat.le_of_ble_eq_true rfl) ?_
  intro p e s m args below meth c A Q ls X hQ hnm hP hD hS hl
  have X : zX p s m args meth c D y A RX9 cX9_must 2 (none : Option Jvm.ClassFile.FieldType) := X
  obtain ⟨hx, hb, hr, hml, hown, hts, hK, hA, hlocks⟩ := id X
  have hl : lv_has ls 2 [(0, .ref a_this), (1, .int x1)] := hl
  unfold zf_X9_must at hf
  refine lv_aload_n hx hb dX9_must_0 rfl (lv_at hl 0 rfl) ?_
  refine zget X hP 0 rfl rfl inF9 5 (by decide) q_1337 rfl dX9_must_1 ?_
  refine lv_iconst (v := -1) hx hb dX9_must_4 (by decide) ?_
  refine lv_icmp_eq (tgt := 9) hx hb dX9_must_5 (by decide) (fun c5 => ?_) (fun c5 => ?_)
  · replace hf := zt c5 hf
    refine lv_aload_n hx hb dX9_must_9 rfl (lv_at hl 0 rfl) ?_
    obtain ⟨o10, ho10, hf⟩ := zb hf
    refine zcV1 (wr := []) (rest := []) X (zc_X9_here l D y a_this a_tape a_newTold a_newHas a_newStone a_told a_stone a_pastTold a_pastStone a_pastColumns a_pastRows a_many a_number a_ways a_placeOf a_label a_old a_isOpen a_freeOnes a_joins a_given a_decided a_wet a_order a_kept a_written f_thrown f_taped f_size f_at f_fault f_newColumns f_newRows f_columns f_rows f_acts f_isLaid f_seed f_frees f_isKept f_keptHalf f_keptFree f_writtenMany c_tape o10 ho10) kf_RX9_115 ⟨(Nat.le_of_ble_eq_true rfl), (Nat.le_of_ble_eq_true rfl)⟩ hP hD hS [0, 1] [] rfl rfl rfl rfl (by decide) 0 rfl rfl rfl rfl hl.1 (Nat.le_of_ble_eq_true rfl) dX9_must_10 ⟨(Nat.le_of_ble_eq_true rfl), (Nat.le_of_ble_eq_true rfl)⟩ (fun H locs hP hD hS => ?_)
    have hP : va_P D vwCl [(a_this, .inr (9, .int f_thrown :: .ref a_tape :: .int f_taped :: .int f_size :: .int o10.2 :: .int f_fault :: .int f_newColumns :: .int f_newRows :: .ref a_newTold :: .ref a_newHas :: .ref a_newStone :: .int f_columns :: .int f_rows :: .ref a_told :: .ref a_stone :: .int f_acts :: .ref a_pastTold :: .ref a_pastStone :: .ref a_pastColumns :: .ref a_pastRows :: .int f_isLaid :: .ref a_many :: .ref a_number :: .ref a_ways :: .ref a_placeOf :: .ref a_label :: .ref a_old :: .ref a_isOpen :: .ref a_freeOnes :: .ref a_joins :: .ref a_given :: .ref a_decided :: .ref a_wet :: .int f_seed :: .int f_frees :: .ref a_order :: .int f_isKept :: .int f_keptHalf :: .int f_keptFree :: .ref a_kept :: .ref a_written :: .int f_writtenMany :: [])), (a_tape, .inl (y.1, 400, .inl c_tape))] H := hP
    have hD : va_D A [(a_this, .inr (9, .int f_thrown :: .ref a_tape :: .int f_taped :: .int f_size :: .int o10.2 :: .int f_fault :: .int f_newColumns :: .int f_newRows :: .ref a_newTold :: .ref a_newHas :: .ref a_newStone :: .int f_columns :: .int f_rows :: .ref a_told :: .ref a_stone :: .int f_acts :: .ref a_pastTold :: .ref a_pastStone :: .ref a_pastColumns :: .ref a_pastRows :: .int f_isLaid :: .ref a_many :: .ref a_number :: .ref a_ways :: .ref a_placeOf :: .ref a_label :: .ref a_old :: .ref a_isOpen :: .ref a_freeOnes :: .ref a_joins :: .ref a_given :: .ref a_decided :: .ref a_wet :: .int f_seed :: .int f_frees :: .ref a_order :: .int f_isKept :: .int f_keptHalf :: .int f_keptFree :: .ref a_kept :: .ref a_written :: .int f_writtenMany :: [])), (a_tape, .inl (y.1, 400, .inl c_tape))] := hD
    refine lv_iload_n hx hb dX9_must_13 rfl (lv_at hl 1 rfl) ?_
    refine lv_icmp_ne (tgt := 30) hx hb dX9_must_14 (by decide) (fun c14 => ?_) (fun c14 => ?_)
    · replace hf := ze c14 hf
      refine lv_aload_n hx hb dX9_must_30 rfl (lv_at hl 0 rfl) ?_
      obtain ⟨o31, ho31, hf⟩ := zb hf
      refine zcV0 (wr := [(a_tape, .inl (y.1, 400, .inl c_tape))]) (rest := []) X (zc_X9_wrong l D y a_this a_tape a_newTold a_newHas a_newStone a_told a_stone a_pastTold a_pastStone a_pastColumns a_pastRows a_many a_number a_ways a_placeOf a_label a_old a_isOpen a_freeOnes a_joins a_given a_decided a_wet a_order a_kept a_written f_thrown f_taped f_size o10.2 f_fault f_newColumns f_newRows f_columns f_rows f_acts f_isLaid f_seed f_frees f_isKept f_keptHalf f_keptFree f_writtenMany o31 ho31) kf_RX9_135 ⟨(Nat.le_of_ble_eq_true rfl), (Nat.le_of_ble_eq_true rfl)⟩ hP hD hS [0] [1] rfl rfl rfl rfl (by decide) 0 rfl rfl rfl rfl hl.1 (Nat.le_of_ble_eq_true rfl) dX9_must_31 ⟨(Nat.le_of_ble_eq_true rfl), (Nat.le_of_ble_eq_true rfl)⟩ (fun H locs hP hD hS => ?_)
      have hP : va_P D vwCl [(a_tape, .inl (y.1, 400, .inl c_tape)), (a_this, .inr (9, .int f_thrown :: .ref a_tape :: .int f_taped :: .int f_size :: .int o10.2 :: .int o31 :: .int f_newColumns :: .int f_newRows :: .ref a_newTold :: .ref a_newHas :: .ref a_newStone :: .int f_columns :: .int f_rows :: .ref a_told :: .ref a_stone :: .int f_acts :: .ref a_pastTold :: .ref a_pastStone :: .ref a_pastColumns :: .ref a_pastRows :: .int f_isLaid :: .ref a_many :: .ref a_number :: .ref a_ways :: .ref a_placeOf :: .ref a_label :: .ref a_old :: .ref a_isOpen :: .ref a_freeOnes :: .ref a_joins :: .ref a_given :: .ref a_decided :: .ref a_wet :: .int f_seed :: .int f_frees :: .ref a_order :: .int f_isKept :: .int f_keptHalf :: .int f_keptFree :: .ref a_kept :: .ref a_written :: .int f_writtenMany :: []))] H := hP
      have hD : va_D A [(a_tape, .inl (y.1, 400, .inl c_tape)), (a_this, .inr (9, .int f_thrown :: .ref a_tape :: .int f_taped :: .int f_size :: .int o10.2 :: .int o31 :: .int f_newColumns :: .int f_newRows :: .ref a_newTold :: .ref a_newHas :: .ref a_newStone :: .int f_columns :: .int f_rows :: .ref a_told :: .ref a_stone :: .int f_acts :: .ref a_pastTold :: .ref a_pastStone :: .ref a_pastColumns :: .ref a_pastRows :: .int f_isLaid :: .ref a_many :: .ref a_number :: .ref a_ways :: .ref a_placeOf :: .ref a_label :: .ref a_old :: .ref a_isOpen :: .ref a_freeOnes :: .ref a_joins :: .ref a_given :: .ref a_decided :: .ref a_wet :: .int f_seed :: .int f_frees :: .ref a_order :: .int f_isKept :: .int f_keptHalf :: .int f_keptFree :: .ref a_kept :: .ref a_written :: .int f_writtenMany :: []))] := hD
      obtain rfl := Option.some.inj hf
      exact zretv X hQ (zPsub (is := [1, 0]) hP rfl) (hD.sub [1, 0] (by decide) rfl) hS ⟨rfl, rfl⟩ dX9_must_34 (Nat.le_of_ble_eq_true rfl) (Nat.le_of_ble_eq_true rfl)
    · replace hf := zt c14 hf
      refine lv_aload_n hx hb dX9_must_17 rfl (lv_at hl 0 rfl) ?_
      refine lv_dup hx hb dX9_must_18 rfl ?_
      refine zget X hP 0 rfl rfl inF9 4 (by decide) q_1336 rfl dX9_must_19 ?_
      refine lv_iconst (v := 1) hx hb dX9_must_22 (by decide) ?_
      refine lv_iadd hx hb dX9_must_23 ?_
      refine zput (ty := .int) X hP hD hS 0 rfl rfl inF9 tyX9_ok nmX9 4 (by decide) q_1336 rfl rfl rfl rfl (Nat.le_of_ble_eq_true rfl) dX9_must_24 (fun H locs hP hD hS => ?_)
      have hP : va_P D vwCl [(a_this, .inr (9, .int f_thrown :: .ref a_tape :: .int f_taped :: .int f_size :: .int (o10.2 + (1 : Int32)) :: .int f_fault :: .int f_newColumns :: .int f_newRows :: .ref a_newTold :: .ref a_newHas :: .ref a_newStone :: .int f_columns :: .int f_rows :: .ref a_told :: .ref a_stone :: .int f_acts :: .ref a_pastTold :: .ref a_pastStone :: .ref a_pastColumns :: .ref a_pastRows :: .int f_isLaid :: .ref a_many :: .ref a_number :: .ref a_ways :: .ref a_placeOf :: .ref a_label :: .ref a_old :: .ref a_isOpen :: .ref a_freeOnes :: .ref a_joins :: .ref a_given :: .ref a_decided :: .ref a_wet :: .int f_seed :: .int f_frees :: .ref a_order :: .int f_isKept :: .int f_keptHalf :: .int f_keptFree :: .ref a_kept :: .ref a_written :: .int f_writtenMany :: [])), (a_tape, .inl (y.1, 400, .inl c_tape))] H := hP
      have hD : va_D A [(a_this, .inr (9, .int f_thrown :: .ref a_tape :: .int f_taped :: .int f_size :: .int (o10.2 + (1 : Int32)) :: .int f_fault :: .int f_newColumns :: .int f_newRows :: .ref a_newTold :: .ref a_newHas :: .ref a_newStone :: .int f_columns :: .int f_rows :: .ref a_told :: .ref a_stone :: .int f_acts :: .ref a_pastTold :: .ref a_pastStone :: .ref a_pastColumns :: .ref a_pastRows :: .int f_isLaid :: .ref a_many :: .ref a_number :: .ref a_ways :: .ref a_placeOf :: .ref a_label :: .ref a_old :: .ref a_isOpen :: .ref a_freeOnes :: .ref a_joins :: .ref a_given :: .ref a_decided :: .ref a_wet :: .int f_seed :: .int f_frees :: .ref a_order :: .int f_isKept :: .int f_keptHalf :: .int f_keptFree :: .ref a_kept :: .ref a_written :: .int f_writtenMany :: [])), (a_tape, .inl (y.1, 400, .inl c_tape))] := hD
      refine lv_goto (tgt := 34) hx hb dX9_must_27 (by decide) ?_
      obtain rfl := Option.some.inj hf
      exact zretv X hQ hP hD hS ⟨rfl, rfl⟩ dX9_must_34 (Nat.le_of_ble_eq_true rfl) (Nat.le_of_ble_eq_true rfl)
  · replace hf := ze c5 hf
    obtain rfl := Option.some.inj hf
    exact zretv X hQ hP hD hS ⟨rfl, rfl⟩ dX9_must_8 (Nat.le_of_ble_eq_true rfl) (Nat.le_of_ble_eq_true rfl)


abbrev rm_X9_isDigit : Room := { frames := 0, cells := 0, slots := 0, locals := 0 }
def zf_X9_isDigit (f_size : Int32) (c_tape : Nat → Int32) (x1 : Int32) : Option (Int32) :=
  if f_size ≤ x1 then (some (0 : Int32)) else (if zgd x1 400 = true then (if (c_tape x1.toNatClampNeg) < (48 : Int32) then (some (0 : Int32)) else (if zgd x1 400 = true then (if (57 : Int32) < (c_tape x1.toNatClampNeg) then (some (0 : Int32)) else (some (1 : Int32))) else none)) else none)
set_option maxHeartbeats 4000000 in
set_option maxRecDepth 100000 in
theorem zc_X9_isDigit (l : Launch) (D : va_G) (y : zY) (a_this a_tape a_newTold a_newHas a_newStone a_told a_stone a_pastTold a_pastStone a_pastColumns a_pastRows a_many a_number a_ways a_placeOf a_label a_old a_isOpen a_freeOnes a_joins a_given a_decided a_wet a_order a_kept a_written : Nat) (f_thrown : Int32) (f_taped : Int32) (f_size : Int32) (f_at : Int32) (f_fault : Int32) (f_newColumns : Int32) (f_newRows : Int32) (f_columns : Int32) (f_rows : Int32) (f_acts : Int32) (f_isLaid : Int32) (f_seed : Int32) (f_frees : Int32) (f_isKept : Int32) (f_keptHalf : Int32) (f_keptFree : Int32) (f_writtenMany : Int32) (c_tape : Nat → Int32) (x1 : Int32) (out : Int32) (hf : zf_X9_isDigit f_size c_tape x1 = some out) : zC l D y yX9_isDigit cX9_isDigit 2 (some .boolean) rm_X9_isDigit [.ref a_this, .int x1] [(a_this, .inr (9, .int f_thrown :: .ref a_tape :: .int f_taped :: .int f_size :: .int f_at :: .int f_fault :: .int f_newColumns :: .int f_newRows :: .ref a_newTold :: .ref a_newHas :: .ref a_newStone :: .int f_columns :: .int f_rows :: .ref a_told :: .ref a_stone :: .int f_acts :: .ref a_pastTold :: .ref a_pastStone :: .ref a_pastColumns :: .ref a_pastRows :: .int f_isLaid :: .ref a_many :: .ref a_number :: .ref a_ways :: .ref a_placeOf :: .ref a_label :: .ref a_old :: .ref a_isOpen :: .ref a_freeOnes :: .ref a_joins :: .ref a_given :: .ref a_decided :: .ref a_wet :: .int f_seed :: .int f_frees :: .ref a_order :: .int f_isKept :: .int f_keptHalf :: .int f_keptFree :: .ref a_kept :: .ref a_written :: .int f_writtenMany :: [])), (a_tape, .inl (y.1, 400, .inl c_tape))] (zE (some (.int out)) [(a_this, .inr (9, .int f_thrown :: .ref a_tape :: .int f_taped :: .int f_size :: .int f_at :: .int f_fault :: .int f_newColumns :: .int f_newRows :: .ref a_newTold :: .ref a_newHas :: .ref a_newStone :: .int f_columns :: .int f_rows :: .ref a_told :: .ref a_stone :: .int f_acts :: .ref a_pastTold :: .ref a_pastStone :: .ref a_pastColumns :: .ref a_pastRows :: .int f_isLaid :: .ref a_many :: .ref a_number :: .ref a_ways :: .ref a_placeOf :: .ref a_label :: .ref a_old :: .ref a_isOpen :: .ref a_freeOnes :: .ref a_joins :: .ref a_given :: .ref a_decided :: .ref a_wet :: .int f_seed :: .int f_frees :: .ref a_order :: .int f_isKept :: .int f_keptHalf :: .int f_keptFree :: .ref a_kept :: .ref a_written :: .int f_writtenMany :: [])), (a_tape, .inl (y.1, 400, .inl c_tape))]) := by
  refine zmk (by decide) (Nat.le_of_ble_eq_true rfl) ?_
  intro p e s m args below meth c A Q ls X hQ hnm hP hD hS hl
  have X : zX p s m args meth c D y A RX9 cX9_isDigit 2 (some .boolean) := X
  obtain ⟨hx, hb, hr, hml, hown, hts, hK, hA, hlocks⟩ := id X
  have hl : lv_has ls 2 [(0, .ref a_this), (1, .int x1)] := hl
  unfold zf_X9_isDigit at hf
  refine lv_iload_n hx hb dX9_isDigit_0 rfl (lv_at hl 1 rfl) ?_
  refine lv_aload_n hx hb dX9_isDigit_1 rfl (lv_at hl 0 rfl) ?_
  refine zget X hP 0 rfl rfl inF9 3 (by decide) q_1335 rfl dX9_isDigit_2 ?_
  refine lv_icmp_ge (tgt := 34) hx hb dX9_isDigit_5 (by decide) (fun c5 => ?_) (fun c5 => ?_)
  · replace hf := zt c5 hf
    refine lv_iconst (v := 0) hx hb dX9_isDigit_34 (by decide) ?_
    obtain rfl := Option.some.inj hf
    exact zreti X hQ hP hD hS ⟨rfl, rfl⟩ rfl dX9_isDigit_35 (Nat.le_of_ble_eq_true rfl) (Nat.le_of_ble_eq_true rfl)
  · replace hf := ze c5 hf
    refine lv_aload_n hx hb dX9_isDigit_8 rfl (lv_at hl 0 rfl) ?_
    refine zget X hP 0 rfl rfl inF9 1 (by decide) q_1333 rfl dX9_isDigit_9 ?_
    refine lv_iload_n hx hb dX9_isDigit_12 rfl (lv_at hl 1 rfl) ?_
    obtain ⟨g13, hf⟩ := zg hf
    refine va_iald hx hb hK hP 1 0 rfl rfl g13 dX9_isDigit_13 ?_
    refine lv_bipush (v := 48) hx hb dX9_isDigit_14 (by decide) ?_
    refine lv_icmp_lt (tgt := 34) hx hb dX9_isDigit_16 (by decide) (fun c16 => ?_) (fun c16 => ?_)
    · replace hf := zt c16 hf
      refine lv_iconst (v := 0) hx hb dX9_isDigit_34 (by decide) ?_
      obtain rfl := Option.some.inj hf
      exact zreti X hQ hP hD hS ⟨rfl, rfl⟩ rfl dX9_isDigit_35 (Nat.le_of_ble_eq_true rfl) (Nat.le_of_ble_eq_true rfl)
    · replace hf := ze c16 hf
      refine lv_aload_n hx hb dX9_isDigit_19 rfl (lv_at hl 0 rfl) ?_
      refine zget X hP 0 rfl rfl inF9 1 (by decide) q_1333 rfl dX9_isDigit_20 ?_
      refine lv_iload_n hx hb dX9_isDigit_23 rfl (lv_at hl 1 rfl) ?_
      obtain ⟨g24, hf⟩ := zg hf
      refine va_iald hx hb hK hP 1 0 rfl rfl g24 dX9_isDigit_24 ?_
      refine lv_bipush (v := 57) hx hb dX9_isDigit_25 (by decide) ?_
      refine lv_icmp_gt (tgt := 34) hx hb dX9_isDigit_27 (by decide) (fun c27 => ?_) (fun c27 => ?_)
      · replace hf := zt c27 hf
        refine lv_iconst (v := 0) hx hb dX9_isDigit_34 (by decide) ?_
        obtain rfl := Option.some.inj hf
        exact zreti X hQ hP hD hS ⟨rfl, rfl⟩ rfl dX9_isDigit_35 (Nat.le_of_ble_eq_true rfl) (Nat.le_of_ble_eq_true rfl)
      · replace hf := ze c27 hf
        refine lv_iconst (v := 1) hx hb dX9_isDigit_30 (by decide) ?_
        refine lv_goto (tgt := 35) hx hb dX9_isDigit_31 (by decide) ?_
        obtain rfl := Option.some.inj hf
        exact zreti X hQ hP hD hS ⟨rfl, rfl⟩ rfl dX9_isDigit_35 (Nat.le_of_ble_eq_true rfl) (Nat.le_of_ble_eq_true rfl)

theorem kf_RX9_138 : zCB RX9 138 yX9_isDigit cX9_isDigit 2 (some .boolean) 1 ∧ Cond.instanceMethod yX9_isDigit ∈ wAll ∧ Cond.selects yX9_isDigit.cls yX9_isDigit yX9_isDigit ∈ wAll := ⟨⟨q_1506, q_9, q_1503, by decide +kernel⟩, q_1505, qp_62⟩
theorem kf_RX9_142 : zCB RX9 142 yX9_isIn cX9_isIn 3 (some .boolean) 3 ∧ Cond.static yX9_isIn ∈ wAll := ⟨⟨q_1509, q_9, q_1507, by decide +kernel⟩, q_1508⟩
abbrev rm_X9_digit : Room := { frames := 1, cells := 0, slots := 0, locals := 22 }
def zf_X9_digit_60 (f_at : Int32) (f_fault : Int32) (x1 : Int32) (x3 : Int32) : Option (Int32 × Int32 × Int32) :=
  if f_fault = (-1 : Int32) then (some (x3 - (48 : Int32), f_at + (1 : Int32), f_fault)) else (some (x1, f_at, f_fault))
def zf_X9_digit_56 (f_at : Int32) (f_fault : Int32) (x1 : Int32) (x3 : Int32) : Option (Int32 × Int32 × Int32) :=
  (zf_X9_wrong f_at f_fault).bind fun o57 =>
  zf_X9_digit_60 f_at o57 x1 x3
def zf_X9_digit (f_size : Int32) (f_at : Int32) (f_fault : Int32) (c_tape : Nat → Int32) (x1 : Int32) (x2 : Int32) : Option (Int32 × Int32 × Int32) :=
  if f_fault = (-1 : Int32) then ((zf_X9_here f_size f_at c_tape).bind fun o11 =>
  if o11.1 = (-1 : Int32) then (zf_X9_digit_56 o11.2 f_fault x1 o11.1) else ((zf_X9_isDigit f_size c_tape o11.2).bind fun o25 =>
  if o25 = 0 then (zf_X9_digit_56 o11.2 f_fault x1 o11.1) else ((zf_X9_isDigit f_size c_tape (o11.2 + (1 : Int32))).bind fun o38 =>
  if o38 = 0 then ((zf_X9_isIn (o11.1 - (48 : Int32)) x1 x2).bind fun o50 =>
  if o50 = 0 then (zf_X9_digit_56 o11.2 f_fault x1 o11.1) else (zf_X9_digit_60 o11.2 f_fault x1 o11.1)) else (zf_X9_digit_56 o11.2 f_fault x1 o11.1)))) else (some (x1, f_at, f_fault))
set_option maxHeartbeats 4000000 in
set_option maxRecDepth 100000 in
theorem zc_X9_digit (l : Launch) (D : va_G) (y : zY) (a_this a_tape a_newTold a_newHas a_newStone a_told a_stone a_pastTold a_pastStone a_pastColumns a_pastRows a_many a_number a_ways a_placeOf a_label a_old a_isOpen a_freeOnes a_joins a_given a_decided a_wet a_order a_kept a_written : Nat) (f_thrown : Int32) (f_taped : Int32) (f_size : Int32) (f_at : Int32) (f_fault : Int32) (f_newColumns : Int32) (f_newRows : Int32) (f_columns : Int32) (f_rows : Int32) (f_acts : Int32) (f_isLaid : Int32) (f_seed : Int32) (f_frees : Int32) (f_isKept : Int32) (f_keptHalf : Int32) (f_keptFree : Int32) (f_writtenMany : Int32) (c_tape : Nat → Int32) (x1 : Int32) (x2 : Int32) (out : Int32 × Int32 × Int32) (hf : zf_X9_digit f_size f_at f_fault c_tape x1 x2 = some out) : zC l D y yX9_digit cX9_digit 4 (some .int) rm_X9_digit [.ref a_this, .int x1, .int x2] [(a_this, .inr (9, .int f_thrown :: .ref a_tape :: .int f_taped :: .int f_size :: .int f_at :: .int f_fault :: .int f_newColumns :: .int f_newRows :: .ref a_newTold :: .ref a_newHas :: .ref a_newStone :: .int f_columns :: .int f_rows :: .ref a_told :: .ref a_stone :: .int f_acts :: .ref a_pastTold :: .ref a_pastStone :: .ref a_pastColumns :: .ref a_pastRows :: .int f_isLaid :: .ref a_many :: .ref a_number :: .ref a_ways :: .ref a_placeOf :: .ref a_label :: .ref a_old :: .ref a_isOpen :: .ref a_freeOnes :: .ref a_joins :: .ref a_given :: .ref a_decided :: .ref a_wet :: .int f_seed :: .int f_frees :: .ref a_order :: .int f_isKept :: .int f_keptHalf :: .int f_keptFree :: .ref a_kept :: .ref a_written :: .int f_writtenMany :: [])), (a_tape, .inl (y.1, 400, .inl c_tape))] (zE (some (.int out.1)) [(a_this, .inr (9, .int f_thrown :: .ref a_tape :: .int f_taped :: .int f_size :: .int out.2.1 :: .int out.2.2 :: .int f_newColumns :: .int f_newRows :: .ref a_newTold :: .ref a_newHas :: .ref a_newStone :: .int f_columns :: .int f_rows :: .ref a_told :: .ref a_stone :: .int f_acts :: .ref a_pastTold :: .ref a_pastStone :: .ref a_pastColumns :: .ref a_pastRows :: .int f_isLaid :: .ref a_many :: .ref a_number :: .ref a_ways :: .ref a_placeOf :: .ref a_label :: .ref a_old :: .ref a_isOpen :: .ref a_freeOnes :: .ref a_joins :: .ref a_given :: .ref a_decided :: .ref a_wet :: .int f_seed :: .int f_frees :: .ref a_order :: .int f_isKept :: .int f_keptHalf :: .int f_keptFree :: .ref a_kept :: .ref a_written :: .int f_writtenMany :: [])), (a_tape, .inl (y.1, 400, .inl c_tape))]) := by
  refine zmk (by decide) (Nat.le_of_ble_eq_true rfl) ?_
  intro p e s m args below meth c A Q ls X hQ hnm hP hD hS hl
  have X : zX p s m args meth c D y A RX9 cX9_digit 4 (some .int) := X
  obtain ⟨hx, hb, hr, hml, hown, hts, hK, hA, hlocks⟩ := id X
  have hl : lv_has ls 4 [(0, .ref a_this), (1, .int x1), (2, .int x2)] := hl
  have J60 : ∀ (x3 : Int32) (f_at : Int32) (f_fault : Int32), zf_X9_digit_60 f_at f_fault x1 x3 = some out → ∀ (H : Heap) (locs : List Loc) (ls : Array Slot), lv_has ls 4 [(0, .ref a_this), (1, .int x1), (3, .int x3)] → va_P D vwCl [(a_this, .inr (9, .int f_thrown :: .ref a_tape :: .int f_taped :: .int f_size :: .int f_at :: .int f_fault :: .int f_newColumns :: .int f_newRows :: .ref a_newTold :: .ref a_newHas :: .ref a_newStone :: .int f_columns :: .int f_rows :: .ref a_told :: .ref a_stone :: .int f_acts :: .ref a_pastTold :: .ref a_pastStone :: .ref a_pastColumns :: .ref a_pastRows :: .int f_isLaid :: .ref a_many :: .ref a_number :: .ref a_ways :: .ref a_placeOf :: .ref a_label :: .ref a_old :: .ref a_isOpen :: .ref a_freeOnes :: .ref a_joins :: .ref a_given :: .ref a_decided :: .ref a_wet :: .int f_seed :: .int f_frees :: .ref a_order :: .int f_isKept :: .int f_keptHalf :: .int f_keptFree :: .ref a_kept :: .ref a_written :: .int f_writtenMany :: [])), (a_tape, .inl (y.1, 400, .inl c_tape))] H → va_D A [(a_this, .inr (9, .int f_thrown :: .ref a_tape :: .int f_taped :: .int f_size :: .int f_at :: .int f_fault :: .int f_newColumns :: .int f_newRows :: .ref a_newTold :: .ref a_newHas :: .ref a_newStone :: .int f_columns :: .int f_rows :: .ref a_told :: .ref a_stone :: .int f_acts :: .ref a_pastTold :: .ref a_pastStone :: .ref a_pastColumns :: .ref a_pastRows :: .int f_isLaid :: .ref a_many :: .ref a_number :: .ref a_ways :: .ref a_placeOf :: .ref a_label :: .ref a_old :: .ref a_isOpen :: .ref a_freeOnes :: .ref a_joins :: .ref a_given :: .ref a_decided :: .ref a_wet :: .int f_seed :: .int f_frees :: .ref a_order :: .int f_isKept :: .int f_keptHalf :: .int f_keptFree :: .ref a_kept :: .ref a_written :: .int f_writtenMany :: [])), (a_tape, .inl (y.1, 400, .inl c_tape))] → va_S A s.heap H locs → W p l e rm_X9_digit s m args below meth c H locs 0 0 Q (F0 m 60 ls []) := by
    intro x3 f_at f_fault hf H locs ls hl hP hD hS
    unfold zf_X9_digit_60 at hf
    refine lv_aload_n hx hb dX9_digit_60 rfl (lv_at hl 0 rfl) ?_
    refine zget X hP 0 rfl rfl inF9 5 (by decide) q_1337 rfl dX9_digit_61 ?_
    refine lv_iconst (v := -1) hx hb dX9_digit_64 (by decide) ?_
    refine lv_icmp_eq (tgt := 70) hx hb dX9_digit_65 (by decide) (fun c65 => ?_) (fun c65 => ?_)
    · replace hf := zt c65 hf
      refine lv_aload_n hx hb dX9_digit_70 rfl (lv_at hl 0 rfl) ?_
      refine lv_dup hx hb dX9_digit_71 rfl ?_
      refine zget X hP 0 rfl rfl inF9 4 (by decide) q_1336 rfl dX9_digit_72 ?_
      refine lv_iconst (v := 1) hx hb dX9_digit_75 (by decide) ?_
      refine lv_iadd hx hb dX9_digit_76 ?_
      refine zput (ty := .int) X hP hD hS 0 rfl rfl inF9 tyX9_ok nmX9 4 (by decide) q_1336 rfl rfl rfl rfl (Nat.le_of_ble_eq_true rfl) dX9_digit_77 (fun H locs hP hD hS => ?_)
      have hP : va_P D vwCl [(a_this, .inr (9, .int f_thrown :: .ref a_tape :: .int f_taped :: .int f_size :: .int (f_at + (1 : Int32)) :: .int f_fault :: .int f_newColumns :: .int f_newRows :: .ref a_newTold :: .ref a_newHas :: .ref a_newStone :: .int f_columns :: .int f_rows :: .ref a_told :: .ref a_stone :: .int f_acts :: .ref a_pastTold :: .ref a_pastStone :: .ref a_pastColumns :: .ref a_pastRows :: .int f_isLaid :: .ref a_many :: .ref a_number :: .ref a_ways :: .ref a_placeOf :: .ref a_label :: .ref a_old :: .ref a_isOpen :: .ref a_freeOnes :: .ref a_joins :: .ref a_given :: .ref a_decided :: .ref a_wet :: .int f_seed :: .int f_frees :: .ref a_order :: .int f_isKept :: .int f_keptHalf :: .int f_keptFree :: .ref a_kept :: .ref a_written :: .int f_writtenMany :: [])), (a_tape, .inl (y.1, 400, .inl c_tape))] H := hP
      have hD : va_D A [(a_this, .inr (9, .int f_thrown :: .ref a_tape :: .int f_taped :: .int f_size :: .int (f_at + (1 : Int32)) :: .int f_fault :: .int f_newColumns :: .int f_newRows :: .ref a_newTold :: .ref a_newHas :: .ref a_newStone :: .int f_columns :: .int f_rows :: .ref a_told :: .ref a_stone :: .int f_acts :: .ref a_pastTold :: .ref a_pastStone :: .ref a_pastColumns :: .ref a_pastRows :: .int f_isLaid :: .ref a_many :: .ref a_number :: .ref a_ways :: .ref a_placeOf :: .ref a_label :: .ref a_old :: .ref a_isOpen :: .ref a_freeOnes :: .ref a_joins :: .ref a_given :: .ref a_decided :: .ref a_wet :: .int f_seed :: .int f_frees :: .ref a_order :: .int f_isKept :: .int f_keptHalf :: .int f_keptFree :: .ref a_kept :: .ref a_written :: .int f_writtenMany :: [])), (a_tape, .inl (y.1, 400, .inl c_tape))] := hD
      refine lv_iload_n hx hb dX9_digit_80 rfl (lv_at hl 2 rfl) ?_
      refine lv_bipush (v := 48) hx hb dX9_digit_81 (by decide) ?_
      refine lv_isub hx hb dX9_digit_83 ?_
      obtain rfl := Option.some.inj hf
      exact zreti X hQ hP hD hS ⟨rfl, rfl⟩ rfl dX9_digit_84 (Nat.le_of_ble_eq_true rfl) (Nat.le_of_ble_eq_true rfl)
    · replace hf := ze c65 hf
      refine lv_iload_n hx hb dX9_digit_68 rfl (lv_at hl 1 rfl) ?_
      obtain rfl := Option.some.inj hf
      exact zreti X hQ hP hD hS ⟨rfl, rfl⟩ rfl dX9_digit_69 (Nat.le_of_ble_eq_true rfl) (Nat.le_of_ble_eq_true rfl)
  have J56 : ∀ (x3 : Int32) (f_at : Int32) (f_fault : Int32), zf_X9_digit_56 f_at f_fault x1 x3 = some out → ∀ (H : Heap) (locs : List Loc) (ls : Array Slot), lv_has ls 4 [(0, .ref a_this), (1, .int x1), (3, .int x3)] → va_P D vwCl [(a_this, .inr (9, .int f_thrown :: .ref a_tape :: .int f_taped :: .int f_size :: .int f_at :: .int f_fault :: .int f_newColumns :: .int f_newRows :: .ref a_newTold :: .ref a_newHas :: .ref a_newStone :: .int f_columns :: .int f_rows :: .ref a_told :: .ref a_stone :: .int f_acts :: .ref a_pastTold :: .ref a_pastStone :: .ref a_pastColumns :: .ref a_pastRows :: .int f_isLaid :: .ref a_many :: .ref a_number :: .ref a_ways :: .ref a_placeOf :: .ref a_label :: .ref a_old :: .ref a_isOpen :: .ref a_freeOnes :: .ref a_joins :: .ref a_given :: .ref a_decided :: .ref a_wet :: .int f_seed :: .int f_frees :: .ref a_order :: .int f_isKept :: .int f_keptHalf :: .int f_keptFree :: .ref a_kept :: .ref a_written :: .int f_writtenMany :: [])), (a_tape, .inl (y.1, 400, .inl c_tape))] H → va_D A [(a_this, .inr (9, .int f_thrown :: .ref a_tape :: .int f_taped :: .int f_size :: .int f_at :: .int f_fault :: .int f_newColumns :: .int f_newRows :: .ref a_newTold :: .ref a_newHas :: .ref a_newStone :: .int f_columns :: .int f_rows :: .ref a_told :: .ref a_stone :: .int f_acts :: .ref a_pastTold :: .ref a_pastStone :: .ref a_pastColumns :: .ref a_pastRows :: .int f_isLaid :: .ref a_many :: .ref a_number :: .ref a_ways :: .ref a_placeOf :: .ref a_label :: .ref a_old :: .ref a_isOpen :: .ref a_freeOnes :: .ref a_joins :: .ref a_given :: .ref a_decided :: .ref a_wet :: .int f_seed :: .int f_frees :: .ref a_order :: .int f_isKept :: .int f_keptHalf :: .int f_keptFree :: .ref a_kept :: .ref a_written :: .int f_writtenMany :: [])), (a_tape, .inl (y.1, 400, .inl c_tape))] → va_S A s.heap H locs → W p l e rm_X9_digit s m args below meth c H locs 0 0 Q (F0 m 56 ls []) := by
    intro x3 f_at f_fault hf H locs ls hl hP hD hS
    unfold zf_X9_digit_56 at hf
    refine lv_aload_n hx hb dX9_digit_56 rfl (lv_at hl 0 rfl) ?_
    obtain ⟨o57, ho57, hf⟩ := zb hf
    refine zcV0 (wr := [(a_tape, .inl (y.1, 400, .inl c_tape))]) (rest := []) X (zc_X9_wrong l D y a_this a_tape a_newTold a_newHas a_newStone a_told a_stone a_pastTold a_pastStone a_pastColumns a_pastRows a_many a_number a_ways a_placeOf a_label a_old a_isOpen a_freeOnes a_joins a_given a_decided a_wet a_order a_kept a_written f_thrown f_taped f_size f_at f_fault f_newColumns f_newRows f_columns f_rows f_acts f_isLaid f_seed f_frees f_isKept f_keptHalf f_keptFree f_writtenMany o57 ho57) kf_RX9_135 ⟨(Nat.le_of_ble_eq_true rfl), (Nat.le_of_ble_eq_true rfl)⟩ hP hD hS [0] [1] rfl rfl rfl rfl (by decide) 0 rfl rfl rfl rfl hl.1 (Nat.le_of_ble_eq_true rfl) dX9_digit_57 ⟨(Nat.le_of_ble_eq_true rfl), (Nat.le_of_ble_eq_true rfl)⟩ (fun H locs hP hD hS => ?_)
    have hP : va_P D vwCl [(a_tape, .inl (y.1, 400, .inl c_tape)), (a_this, .inr (9, .int f_thrown :: .ref a_tape :: .int f_taped :: .int f_size :: .int f_at :: .int o57 :: .int f_newColumns :: .int f_newRows :: .ref a_newTold :: .ref a_newHas :: .ref a_newStone :: .int f_columns :: .int f_rows :: .ref a_told :: .ref a_stone :: .int f_acts :: .ref a_pastTold :: .ref a_pastStone :: .ref a_pastColumns :: .ref a_pastRows :: .int f_isLaid :: .ref a_many :: .ref a_number :: .ref a_ways :: .ref a_placeOf :: .ref a_label :: .ref a_old :: .ref a_isOpen :: .ref a_freeOnes :: .ref a_joins :: .ref a_given :: .ref a_decided :: .ref a_wet :: .int f_seed :: .int f_frees :: .ref a_order :: .int f_isKept :: .int f_keptHalf :: .int f_keptFree :: .ref a_kept :: .ref a_written :: .int f_writtenMany :: []))] H := hP
    have hD : va_D A [(a_tape, .inl (y.1, 400, .inl c_tape)), (a_this, .inr (9, .int f_thrown :: .ref a_tape :: .int f_taped :: .int f_size :: .int f_at :: .int o57 :: .int f_newColumns :: .int f_newRows :: .ref a_newTold :: .ref a_newHas :: .ref a_newStone :: .int f_columns :: .int f_rows :: .ref a_told :: .ref a_stone :: .int f_acts :: .ref a_pastTold :: .ref a_pastStone :: .ref a_pastColumns :: .ref a_pastRows :: .int f_isLaid :: .ref a_many :: .ref a_number :: .ref a_ways :: .ref a_placeOf :: .ref a_label :: .ref a_old :: .ref a_isOpen :: .ref a_freeOnes :: .ref a_joins :: .ref a_given :: .ref a_decided :: .ref a_wet :: .int f_seed :: .int f_frees :: .ref a_order :: .int f_isKept :: .int f_keptHalf :: .int f_keptFree :: .ref a_kept :: .ref a_written :: .int f_writtenMany :: []))] := hD
    exact J60 x3 f_at o57 hf _ _ _ hl (zPsub (is := [1, 0]) hP rfl) (hD.sub [1, 0] (by decide) rfl) hS
  unfold zf_X9_digit at hf
  refine lv_aload_n hx hb dX9_digit_0 rfl (lv_at hl 0 rfl) ?_
  refine zget X hP 0 rfl rfl inF9 5 (by decide) q_1337 rfl dX9_digit_1 ?_
  refine lv_iconst (v := -1) hx hb dX9_digit_4 (by decide) ?_
  refine lv_icmp_eq (tgt := 10) hx hb dX9_digit_5 (by decide) (fun c5 => ?_) (fun c5 => ?_)
  · replace hf := zt c5 hf
    refine lv_aload_n hx hb dX9_digit_10 rfl (lv_at hl 0 rfl) ?_
    obtain ⟨o11, ho11, hf⟩ := zb hf
    refine zcV1 (wr := []) (rest := []) X (zc_X9_here l D y a_this a_tape a_newTold a_newHas a_newStone a_told a_stone a_pastTold a_pastStone a_pastColumns a_pastRows a_many a_number a_ways a_placeOf a_label a_old a_isOpen a_freeOnes a_joins a_given a_decided a_wet a_order a_kept a_written f_thrown f_taped f_size f_at f_fault f_newColumns f_newRows f_columns f_rows f_acts f_isLaid f_seed f_frees f_isKept f_keptHalf f_keptFree f_writtenMany c_tape o11 ho11) kf_RX9_115 ⟨(Nat.le_of_ble_eq_true rfl), (Nat.le_of_ble_eq_true rfl)⟩ hP hD hS [0, 1] [] rfl rfl rfl rfl (by decide) 0 rfl rfl rfl rfl hl.1 (Nat.le_of_ble_eq_true rfl) dX9_digit_11 ⟨(Nat.le_of_ble_eq_true rfl), (Nat.le_of_ble_eq_true rfl)⟩ (fun H locs hP hD hS => ?_)
    have hP : va_P D vwCl [(a_this, .inr (9, .int f_thrown :: .ref a_tape :: .int f_taped :: .int f_size :: .int o11.2 :: .int f_fault :: .int f_newColumns :: .int f_newRows :: .ref a_newTold :: .ref a_newHas :: .ref a_newStone :: .int f_columns :: .int f_rows :: .ref a_told :: .ref a_stone :: .int f_acts :: .ref a_pastTold :: .ref a_pastStone :: .ref a_pastColumns :: .ref a_pastRows :: .int f_isLaid :: .ref a_many :: .ref a_number :: .ref a_ways :: .ref a_placeOf :: .ref a_label :: .ref a_old :: .ref a_isOpen :: .ref a_freeOnes :: .ref a_joins :: .ref a_given :: .ref a_decided :: .ref a_wet :: .int f_seed :: .int f_frees :: .ref a_order :: .int f_isKept :: .int f_keptHalf :: .int f_keptFree :: .ref a_kept :: .ref a_written :: .int f_writtenMany :: [])), (a_tape, .inl (y.1, 400, .inl c_tape))] H := hP
    have hD : va_D A [(a_this, .inr (9, .int f_thrown :: .ref a_tape :: .int f_taped :: .int f_size :: .int o11.2 :: .int f_fault :: .int f_newColumns :: .int f_newRows :: .ref a_newTold :: .ref a_newHas :: .ref a_newStone :: .int f_columns :: .int f_rows :: .ref a_told :: .ref a_stone :: .int f_acts :: .ref a_pastTold :: .ref a_pastStone :: .ref a_pastColumns :: .ref a_pastRows :: .int f_isLaid :: .ref a_many :: .ref a_number :: .ref a_ways :: .ref a_placeOf :: .ref a_label :: .ref a_old :: .ref a_isOpen :: .ref a_freeOnes :: .ref a_joins :: .ref a_given :: .ref a_decided :: .ref a_wet :: .int f_seed :: .int f_frees :: .ref a_order :: .int f_isKept :: .int f_keptHalf :: .int f_keptFree :: .ref a_kept :: .ref a_written :: .int f_writtenMany :: [])), (a_tape, .inl (y.1, 400, .inl c_tape))] := hD
    refine lv_istore_n (lv' := [(3, .int o11.1), (0, .ref a_this), (1, .int x1), (2, .int x2)]) hx hb dX9_digit_14 rfl hl (by decide) rfl (fun ls hl => ?_)
    refine lv_iload_n hx hb dX9_digit_15 rfl (lv_at hl 0 rfl) ?_
    refine lv_iconst (v := -1) hx hb dX9_digit_16 (by decide) ?_
    refine lv_icmp_eq (tgt := 56) hx hb dX9_digit_17 (by decide) (fun c17 => ?_) (fun c17 => ?_)
    · replace hf := zt c17 hf
      exact J56 o11.1 o11.2 f_fault hf _ _ _ (lv_sub hl [1, 2, 0] rfl) hP hD hS
    · replace hf := ze c17 hf
      refine lv_aload_n hx hb dX9_digit_20 rfl (lv_at hl 1 rfl) ?_
      refine lv_aload_n hx hb dX9_digit_21 rfl (lv_at hl 1 rfl) ?_
      refine zget X hP 0 rfl rfl inF9 4 (by decide) q_1336 rfl dX9_digit_22 ?_
      obtain ⟨o25, ho25, hf⟩ := zb hf
      refine zcV1 (wr := []) (rest := []) X (zc_X9_isDigit l D y a_this a_tape a_newTold a_newHas a_newStone a_told a_stone a_pastTold a_pastStone a_pastColumns a_pastRows a_many a_number a_ways a_placeOf a_label a_old a_isOpen a_freeOnes a_joins a_given a_decided a_wet a_order a_kept a_written f_thrown f_taped f_size o11.2 f_fault f_newColumns f_newRows f_columns f_rows f_acts f_isLaid f_seed f_frees f_isKept f_keptHalf f_keptFree f_writtenMany c_tape o11.2 o25 ho25) kf_RX9_138 ⟨(Nat.le_of_ble_eq_true rfl), (Nat.le_of_ble_eq_true rfl)⟩ hP hD hS [0, 1] [] rfl rfl rfl rfl (by decide) 0 rfl rfl rfl rfl hl.1 (Nat.le_of_ble_eq_true rfl) dX9_digit_25 ⟨(Nat.le_of_ble_eq_true rfl), (Nat.le_of_ble_eq_true rfl)⟩ (fun H locs hP hD hS => ?_)
      have hP : va_P D vwCl [(a_this, .inr (9, .int f_thrown :: .ref a_tape :: .int f_taped :: .int f_size :: .int o11.2 :: .int f_fault :: .int f_newColumns :: .int f_newRows :: .ref a_newTold :: .ref a_newHas :: .ref a_newStone :: .int f_columns :: .int f_rows :: .ref a_told :: .ref a_stone :: .int f_acts :: .ref a_pastTold :: .ref a_pastStone :: .ref a_pastColumns :: .ref a_pastRows :: .int f_isLaid :: .ref a_many :: .ref a_number :: .ref a_ways :: .ref a_placeOf :: .ref a_label :: .ref a_old :: .ref a_isOpen :: .ref a_freeOnes :: .ref a_joins :: .ref a_given :: .ref a_decided :: .ref a_wet :: .int f_seed :: .int f_frees :: .ref a_order :: .int f_isKept :: .int f_keptHalf :: .int f_keptFree :: .ref a_kept :: .ref a_written :: .int f_writtenMany :: [])), (a_tape, .inl (y.1, 400, .inl c_tape))] H := hP
      have hD : va_D A [(a_this, .inr (9, .int f_thrown :: .ref a_tape :: .int f_taped :: .int f_size :: .int o11.2 :: .int f_fault :: .int f_newColumns :: .int f_newRows :: .ref a_newTold :: .ref a_newHas :: .ref a_newStone :: .int f_columns :: .int f_rows :: .ref a_told :: .ref a_stone :: .int f_acts :: .ref a_pastTold :: .ref a_pastStone :: .ref a_pastColumns :: .ref a_pastRows :: .int f_isLaid :: .ref a_many :: .ref a_number :: .ref a_ways :: .ref a_placeOf :: .ref a_label :: .ref a_old :: .ref a_isOpen :: .ref a_freeOnes :: .ref a_joins :: .ref a_given :: .ref a_decided :: .ref a_wet :: .int f_seed :: .int f_frees :: .ref a_order :: .int f_isKept :: .int f_keptHalf :: .int f_keptFree :: .ref a_kept :: .ref a_written :: .int f_writtenMany :: [])), (a_tape, .inl (y.1, 400, .inl c_tape))] := hD
      refine lv_if_eq (tgt := 56) hx hb dX9_digit_28 (by decide) (fun c28 => ?_) (fun c28 => ?_)
      · replace hf := zt c28 hf
        exact J56 o11.1 o11.2 f_fault hf _ _ _ (lv_sub hl [1, 2, 0] rfl) hP hD hS
      · replace hf := ze c28 hf
        refine lv_aload_n hx hb dX9_digit_31 rfl (lv_at hl 1 rfl) ?_
        refine lv_aload_n hx hb dX9_digit_32 rfl (lv_at hl 1 rfl) ?_
        refine zget X hP 0 rfl rfl inF9 4 (by decide) q_1336 rfl dX9_digit_33 ?_
        refine lv_iconst (v := 1) hx hb dX9_digit_36 (by decide) ?_
        refine lv_iadd hx hb dX9_digit_37 ?_
        obtain ⟨o38, ho38, hf⟩ := zb hf
        refine zcV1 (wr := []) (rest := []) X (zc_X9_isDigit l D y a_this a_tape a_newTold a_newHas a_newStone a_told a_stone a_pastTold a_pastStone a_pastColumns a_pastRows a_many a_number a_ways a_placeOf a_label a_old a_isOpen a_freeOnes a_joins a_given a_decided a_wet a_order a_kept a_written f_thrown f_taped f_size o11.2 f_fault f_newColumns f_newRows f_columns f_rows f_acts f_isLaid f_seed f_frees f_isKept f_keptHalf f_keptFree f_writtenMany c_tape (o11.2 + (1 : Int32)) o38 ho38) kf_RX9_138 ⟨(Nat.le_of_ble_eq_true rfl), (Nat.le_of_ble_eq_true rfl)⟩ hP hD hS [0, 1] [] rfl rfl rfl rfl (by decide) 0 rfl rfl rfl rfl hl.1 (Nat.le_of_ble_eq_true rfl) dX9_digit_38 ⟨(Nat.le_of_ble_eq_true rfl), (Nat.le_of_ble_eq_true rfl)⟩ (fun H locs hP hD hS => ?_)
        have hP : va_P D vwCl [(a_this, .inr (9, .int f_thrown :: .ref a_tape :: .int f_taped :: .int f_size :: .int o11.2 :: .int f_fault :: .int f_newColumns :: .int f_newRows :: .ref a_newTold :: .ref a_newHas :: .ref a_newStone :: .int f_columns :: .int f_rows :: .ref a_told :: .ref a_stone :: .int f_acts :: .ref a_pastTold :: .ref a_pastStone :: .ref a_pastColumns :: .ref a_pastRows :: .int f_isLaid :: .ref a_many :: .ref a_number :: .ref a_ways :: .ref a_placeOf :: .ref a_label :: .ref a_old :: .ref a_isOpen :: .ref a_freeOnes :: .ref a_joins :: .ref a_given :: .ref a_decided :: .ref a_wet :: .int f_seed :: .int f_frees :: .ref a_order :: .int f_isKept :: .int f_keptHalf :: .int f_keptFree :: .ref a_kept :: .ref a_written :: .int f_writtenMany :: [])), (a_tape, .inl (y.1, 400, .inl c_tape))] H := hP
        have hD : va_D A [(a_this, .inr (9, .int f_thrown :: .ref a_tape :: .int f_taped :: .int f_size :: .int o11.2 :: .int f_fault :: .int f_newColumns :: .int f_newRows :: .ref a_newTold :: .ref a_newHas :: .ref a_newStone :: .int f_columns :: .int f_rows :: .ref a_told :: .ref a_stone :: .int f_acts :: .ref a_pastTold :: .ref a_pastStone :: .ref a_pastColumns :: .ref a_pastRows :: .int f_isLaid :: .ref a_many :: .ref a_number :: .ref a_ways :: .ref a_placeOf :: .ref a_label :: .ref a_old :: .ref a_isOpen :: .ref a_freeOnes :: .ref a_joins :: .ref a_given :: .ref a_decided :: .ref a_wet :: .int f_seed :: .int f_frees :: .ref a_order :: .int f_isKept :: .int f_keptHalf :: .int f_keptFree :: .ref a_kept :: .ref a_written :: .int f_writtenMany :: [])), (a_tape, .inl (y.1, 400, .inl c_tape))] := hD
        refine lv_if_ne (tgt := 56) hx hb dX9_digit_41 (by decide) (fun c41 => ?_) (fun c41 => ?_)
        · replace hf := ze c41 hf
          exact J56 o11.1 o11.2 f_fault hf _ _ _ (lv_sub hl [1, 2, 0] rfl) hP hD hS
        · replace hf := zt c41 hf
          refine lv_iload_n hx hb dX9_digit_44 rfl (lv_at hl 0 rfl) ?_
          refine lv_bipush (v := 48) hx hb dX9_digit_45 (by decide) ?_
          refine lv_isub hx hb dX9_digit_47 ?_
          refine lv_iload_n hx hb dX9_digit_48 rfl (lv_at hl 2 rfl) ?_
          refine lv_iload_n hx hb dX9_digit_49 rfl (lv_at hl 3 rfl) ?_
          obtain ⟨o50, ho50, hf⟩ := zb hf
          refine zcS1 (wr := [(a_this, .inr (9, .int f_thrown :: .ref a_tape :: .int f_taped :: .int f_size :: .int o11.2 :: .int f_fault :: .int f_newColumns :: .int f_newRows :: .ref a_newTold :: .ref a_newHas :: .ref a_newStone :: .int f_columns :: .int f_rows :: .ref a_told :: .ref a_stone :: .int f_acts :: .ref a_pastTold :: .ref a_pastStone :: .ref a_pastColumns :: .ref a_pastRows :: .int f_isLaid :: .ref a_many :: .ref a_number :: .ref a_ways :: .ref a_placeOf :: .ref a_label :: .ref a_old :: .ref a_isOpen :: .ref a_freeOnes :: .ref a_joins :: .ref a_given :: .ref a_decided :: .ref a_wet :: .int f_seed :: .int f_frees :: .ref a_order :: .int f_isKept :: .int f_keptHalf :: .int f_keptFree :: .ref a_kept :: .ref a_written :: .int f_writtenMany :: [])), (a_tape, .inl (y.1, 400, .inl c_tape))]) (rest := []) X (zc_X9_isIn l D y (o11.1 - (48 : Int32)) x1 x2 o50 ho50) kf_RX9_142 ⟨(Nat.le_of_ble_eq_true rfl), (Nat.le_of_ble_eq_true rfl)⟩ hP hD hS [] [0, 1] rfl rfl rfl rfl (by decide) rfl rfl hl.1 (Nat.le_of_ble_eq_true rfl) dX9_digit_50 ⟨(Nat.le_of_ble_eq_true rfl), (Nat.le_of_ble_eq_true rfl)⟩ (fun H locs hP hD hS => ?_)
          have hP : va_P D vwCl [(a_this, .inr (9, .int f_thrown :: .ref a_tape :: .int f_taped :: .int f_size :: .int o11.2 :: .int f_fault :: .int f_newColumns :: .int f_newRows :: .ref a_newTold :: .ref a_newHas :: .ref a_newStone :: .int f_columns :: .int f_rows :: .ref a_told :: .ref a_stone :: .int f_acts :: .ref a_pastTold :: .ref a_pastStone :: .ref a_pastColumns :: .ref a_pastRows :: .int f_isLaid :: .ref a_many :: .ref a_number :: .ref a_ways :: .ref a_placeOf :: .ref a_label :: .ref a_old :: .ref a_isOpen :: .ref a_freeOnes :: .ref a_joins :: .ref a_given :: .ref a_decided :: .ref a_wet :: .int f_seed :: .int f_frees :: .ref a_order :: .int f_isKept :: .int f_keptHalf :: .int f_keptFree :: .ref a_kept :: .ref a_written :: .int f_writtenMany :: [])), (a_tape, .inl (y.1, 400, .inl c_tape))] H := hP
          have hD : va_D A [(a_this, .inr (9, .int f_thrown :: .ref a_tape :: .int f_taped :: .int f_size :: .int o11.2 :: .int f_fault :: .int f_newColumns :: .int f_newRows :: .ref a_newTold :: .ref a_newHas :: .ref a_newStone :: .int f_columns :: .int f_rows :: .ref a_told :: .ref a_stone :: .int f_acts :: .ref a_pastTold :: .ref a_pastStone :: .ref a_pastColumns :: .ref a_pastRows :: .int f_isLaid :: .ref a_many :: .ref a_number :: .ref a_ways :: .ref a_placeOf :: .ref a_label :: .ref a_old :: .ref a_isOpen :: .ref a_freeOnes :: .ref a_joins :: .ref a_given :: .ref a_decided :: .ref a_wet :: .int f_seed :: .int f_frees :: .ref a_order :: .int f_isKept :: .int f_keptHalf :: .int f_keptFree :: .ref a_kept :: .ref a_written :: .int f_writtenMany :: [])), (a_tape, .inl (y.1, 400, .inl c_tape))] := hD
          refine lv_if_ne (tgt := 60) hx hb dX9_digit_53 (by decide) (fun c53 => ?_) (fun c53 => ?_)
          · replace hf := ze c53 hf
            exact J60 o11.1 o11.2 f_fault hf _ _ _ (lv_sub hl [1, 2, 0] rfl) hP hD hS
          · replace hf := zt c53 hf
            exact J56 o11.1 o11.2 f_fault hf _ _ _ (lv_sub hl [1, 2, 0] rfl) hP hD hS
  · replace hf := ze c5 hf
    refine lv_iload_n hx hb dX9_digit_8 rfl (lv_at hl 1 rfl) ?_
    obtain rfl := Option.some.inj hf
    exact zreti X hQ hP hD hS ⟨rfl, rfl⟩ rfl dX9_digit_9 (Nat.le_of_ble_eq_true rfl) (Nat.le_of_ble_eq_true rfl)

theorem kf_RX9_149 : zCB RX9 149 yX9_digit cX9_digit 4 (some .int) 2 ∧ Cond.instanceMethod yX9_digit ∈ wAll ∧ Cond.selects yX9_digit.cls yX9_digit yX9_digit ∈ wAll := ⟨⟨q_1502, q_9, q_1499, by decide +kernel⟩, q_1501, qp_61⟩
abbrev rm_X9_stoneLine : Room := { frames := 2, cells := 0, slots := 0, locals := 45 }
def zf_X9_stoneLine_77 (f_at : Int32) (f_fault : Int32) (c_newStone : Nat → Int32) (x1 : Int32) (x4 : Int32) : Option (Int32 × Int32 × (Nat → Int32)) :=
  if zgd (((5 : Int32) * x4) + x1) 25 = true then (some (f_at, f_fault, upd c_newStone (((5 : Int32) * x4) + x1).toNatClampNeg (vp_nar .boolean (1 : Int32)))) else none
def zf_X9_stoneLine (f_size : Int32) (f_at : Int32) (f_fault : Int32) (f_newColumns : Int32) (f_newRows : Int32) (c_tape : Nat → Int32) (c_newStone : Nat → Int32) : Option (Int32 × Int32 × (Nat → Int32)) :=
  (zf_X9_digit f_size (f_at + (5 : Int32)) f_fault c_tape (0 : Int32) (f_newColumns - (1 : Int32))).bind fun o18 =>
  (zf_X9_here f_size o18.2.1 c_tape).bind fun o23 =>
  (zf_X9_digit f_size o23.2 o18.2.2 c_tape (0 : Int32) (f_newRows - (1 : Int32))).bind fun o40 =>
  if o40.2.2 = (-1 : Int32) then (if zgd (((5 : Int32) * o40.1) + o18.1) 25 = true then (if (c_newStone (((5 : Int32) * o40.1) + o18.1).toNatClampNeg) = 0 then (zf_X9_stoneLine_77 o40.2.1 o40.2.2 c_newStone o18.1 o40.1) else ((zf_X9_wrong o23.2 o40.2.2).bind fun o74 =>
  zf_X9_stoneLine_77 o23.2 o74 c_newStone o18.1 o40.1)) else none) else (some (o40.2.1, o40.2.2, c_newStone))
set_option maxHeartbeats 4000000 in
set_option maxRecDepth 100000 in
theorem zc_X9_stoneLine (l : Launch) (D : va_G) (y : zY) (a_this a_tape a_newTold a_newHas a_newStone a_told a_stone a_pastTold a_pastStone a_pastColumns a_pastRows a_many a_number a_ways a_placeOf a_label a_old a_isOpen a_freeOnes a_joins a_given a_decided a_wet a_order a_kept a_written : Nat) (f_thrown : Int32) (f_taped : Int32) (f_size : Int32) (f_at : Int32) (f_fault : Int32) (f_newColumns : Int32) (f_newRows : Int32) (f_columns : Int32) (f_rows : Int32) (f_acts : Int32) (f_isLaid : Int32) (f_seed : Int32) (f_frees : Int32) (f_isKept : Int32) (f_keptHalf : Int32) (f_keptFree : Int32) (f_writtenMany : Int32) (c_tape : Nat → Int32) (c_newStone : Nat → Int32) (out : Int32 × Int32 × (Nat → Int32)) (hf : zf_X9_stoneLine f_size f_at f_fault f_newColumns f_newRows c_tape c_newStone = some out) : zC l D y yX9_stoneLine cX9_stoneLine 5 (none : Option Jvm.ClassFile.FieldType) rm_X9_stoneLine [.ref a_this] [(a_this, .inr (9, .int f_thrown :: .ref a_tape :: .int f_taped :: .int f_size :: .int f_at :: .int f_fault :: .int f_newColumns :: .int f_newRows :: .ref a_newTold :: .ref a_newHas :: .ref a_newStone :: .int f_columns :: .int f_rows :: .ref a_told :: .ref a_stone :: .int f_acts :: .ref a_pastTold :: .ref a_pastStone :: .ref a_pastColumns :: .ref a_pastRows :: .int f_isLaid :: .ref a_many :: .ref a_number :: .ref a_ways :: .ref a_placeOf :: .ref a_label :: .ref a_old :: .ref a_isOpen :: .ref a_freeOnes :: .ref a_joins :: .ref a_given :: .ref a_decided :: .ref a_wet :: .int f_seed :: .int f_frees :: .ref a_order :: .int f_isKept :: .int f_keptHalf :: .int f_keptFree :: .ref a_kept :: .ref a_written :: .int f_writtenMany :: [])), (a_tape, .inl (y.1, 400, .inl c_tape)), (a_newStone, .inl (y.2.2.1, 25, .inl c_newStone))] (zE none [(a_this, .inr (9, .int f_thrown :: .ref a_tape :: .int f_taped :: .int f_size :: .int out.1 :: .int out.2.1 :: .int f_newColumns :: .int f_newRows :: .ref a_newTold :: .ref a_newHas :: .ref a_newStone :: .int f_columns :: .int f_rows :: .ref a_told :: .ref a_stone :: .int f_acts :: .ref a_pastTold :: .ref a_pastStone :: .ref a_pastColumns :: .ref a_pastRows :: .int f_isLaid :: .ref a_many :: .ref a_number :: .ref a_ways :: .ref a_placeOf :: .ref a_label :: .ref a_old :: .ref a_isOpen :: .ref a_freeOnes :: .ref a_joins :: .ref a_given :: .ref a_decided :: .ref a_wet :: .int f_seed :: .int f_frees :: .ref a_order :: .int f_isKept :: .int f_keptHalf :: .int f_keptFree :: .ref a_kept :: .ref a_written :: .int f_writtenMany :: [])), (a_tape, .inl (y.1, 400, .inl c_tape)), (a_newStone, .inl (y.2.2.1, 25, .inl out.2.2))]) := by
  refine zmk (by decide) (Nat.le_of_ble_eq_true rfl) ?_
  intro p e s m args below meth c A Q ls X hQ hnm hP hD hS hl
  have X : zX p s m args meth c D y A RX9 cX9_stoneLine 5 (none : Option Jvm.ClassFile.FieldType) := X
  obtain ⟨hx, hb, hr, hml, hown, hts, hK, hA, hlocks⟩ := id X
  have hl : lv_has ls 5 [(0, .ref a_this)] := hl
  have J77 : ∀ (x1 : Int32) (x4 : Int32) (f_at : Int32) (f_fault : Int32) (c_newStone : Nat → Int32), zf_X9_stoneLine_77 f_at f_fault c_newStone x1 x4 = some out → ∀ (H : Heap) (locs : List Loc) (ls : Array Slot), lv_has ls 5 [(0, .ref a_this), (1, .int x1), (4, .int x4)] → va_P D vwCl [(a_this, .inr (9, .int f_thrown :: .ref a_tape :: .int f_taped :: .int f_size :: .int f_at :: .int f_fault :: .int f_newColumns :: .int f_newRows :: .ref a_newTold :: .ref a_newHas :: .ref a_newStone :: .int f_columns :: .int f_rows :: .ref a_told :: .ref a_stone :: .int f_acts :: .ref a_pastTold :: .ref a_pastStone :: .ref a_pastColumns :: .ref a_pastRows :: .int f_isLaid :: .ref a_many :: .ref a_number :: .ref a_ways :: .ref a_placeOf :: .ref a_label :: .ref a_old :: .ref a_isOpen :: .ref a_freeOnes :: .ref a_joins :: .ref a_given :: .ref a_decided :: .ref a_wet :: .int f_seed :: .int f_frees :: .ref a_order :: .int f_isKept :: .int f_keptHalf :: .int f_keptFree :: .ref a_kept :: .ref a_written :: .int f_writtenMany :: [])), (a_tape, .inl (y.1, 400, .inl c_tape)), (a_newStone, .inl (y.2.2.1, 25, .inl c_newStone))] H → va_D A [(a_this, .inr (9, .int f_thrown :: .ref a_tape :: .int f_taped :: .int f_size :: .int f_at :: .int f_fault :: .int f_newColumns :: .int f_newRows :: .ref a_newTold :: .ref a_newHas :: .ref a_newStone :: .int f_columns :: .int f_rows :: .ref a_told :: .ref a_stone :: .int f_acts :: .ref a_pastTold :: .ref a_pastStone :: .ref a_pastColumns :: .ref a_pastRows :: .int f_isLaid :: .ref a_many :: .ref a_number :: .ref a_ways :: .ref a_placeOf :: .ref a_label :: .ref a_old :: .ref a_isOpen :: .ref a_freeOnes :: .ref a_joins :: .ref a_given :: .ref a_decided :: .ref a_wet :: .int f_seed :: .int f_frees :: .ref a_order :: .int f_isKept :: .int f_keptHalf :: .int f_keptFree :: .ref a_kept :: .ref a_written :: .int f_writtenMany :: [])), (a_tape, .inl (y.1, 400, .inl c_tape)), (a_newStone, .inl (y.2.2.1, 25, .inl c_newStone))] → va_S A s.heap H locs → W p l e rm_X9_stoneLine s m args below meth c H locs 0 0 Q (F0 m 77 ls []) := by
    intro x1 x4 f_at f_fault c_newStone hf H locs ls hl hP hD hS
    unfold zf_X9_stoneLine_77 at hf
    refine lv_aload_n hx hb dX9_stoneLine_77 rfl (lv_at hl 0 rfl) ?_
    refine zget X hP 0 rfl rfl inF9 10 (by decide) q_1342 rfl dX9_stoneLine_78 ?_
    refine lv_iconst (v := 5) hx hb dX9_stoneLine_81 (by decide) ?_
    refine lv_iload hx hb dX9_stoneLine_82 (lv_at hl 2 rfl) ?_
    refine lv_imul hx hb dX9_stoneLine_84 ?_
    refine lv_iload_n hx hb dX9_stoneLine_85 rfl (lv_at hl 1 rfl) ?_
    refine lv_iadd hx hb dX9_stoneLine_86 ?_
    refine lv_iconst (v := 1) hx hb dX9_stoneLine_87 (by decide) ?_
    obtain ⟨g88, hf⟩ := zg hf
    refine va_zast hx hb hK hP hD hS 2 2 rfl rfl g88 dX9_stoneLine_88 (fun H locs hP hD hS => ?_)
    have hP : va_P D vwCl [(a_this, .inr (9, .int f_thrown :: .ref a_tape :: .int f_taped :: .int f_size :: .int f_at :: .int f_fault :: .int f_newColumns :: .int f_newRows :: .ref a_newTold :: .ref a_newHas :: .ref a_newStone :: .int f_columns :: .int f_rows :: .ref a_told :: .ref a_stone :: .int f_acts :: .ref a_pastTold :: .ref a_pastStone :: .ref a_pastColumns :: .ref a_pastRows :: .int f_isLaid :: .ref a_many :: .ref a_number :: .ref a_ways :: .ref a_placeOf :: .ref a_label :: .ref a_old :: .ref a_isOpen :: .ref a_freeOnes :: .ref a_joins :: .ref a_given :: .ref a_decided :: .ref a_wet :: .int f_seed :: .int f_frees :: .ref a_order :: .int f_isKept :: .int f_keptHalf :: .int f_keptFree :: .ref a_kept :: .ref a_written :: .int f_writtenMany :: [])), (a_tape, .inl (y.1, 400, .inl c_tape)), (a_newStone, .inl (y.2.2.1, 25, .inl (upd c_newStone (((5 : Int32) * x4) + x1).toNatClampNeg (vp_nar .boolean (1 : Int32)))))] H := hP
    have hD : va_D A [(a_this, .inr (9, .int f_thrown :: .ref a_tape :: .int f_taped :: .int f_size :: .int f_at :: .int f_fault :: .int f_newColumns :: .int f_newRows :: .ref a_newTold :: .ref a_newHas :: .ref a_newStone :: .int f_columns :: .int f_rows :: .ref a_told :: .ref a_stone :: .int f_acts :: .ref a_pastTold :: .ref a_pastStone :: .ref a_pastColumns :: .ref a_pastRows :: .int f_isLaid :: .ref a_many :: .ref a_number :: .ref a_ways :: .ref a_placeOf :: .ref a_label :: .ref a_old :: .ref a_isOpen :: .ref a_freeOnes :: .ref a_joins :: .ref a_given :: .ref a_decided :: .ref a_wet :: .int f_seed :: .int f_frees :: .ref a_order :: .int f_isKept :: .int f_keptHalf :: .int f_keptFree :: .ref a_kept :: .ref a_written :: .int f_writtenMany :: [])), (a_tape, .inl (y.1, 400, .inl c_tape)), (a_newStone, .inl (y.2.2.1, 25, .inl (upd c_newStone (((5 : Int32) * x4) + x1).toNatClampNeg (vp_nar .boolean (1 : Int32)))))] := hD
    obtain rfl := Option.some.inj hf
    exact zretv X hQ hP hD hS ⟨rfl, rfl⟩ dX9_stoneLine_89 (Nat.le_of_ble_eq_true rfl) (Nat.le_of_ble_eq_true rfl)
  unfold zf_X9_stoneLine at hf
  refine lv_aload_n hx hb dX9_stoneLine_0 rfl (lv_at hl 0 rfl) ?_
  refine lv_dup hx hb dX9_stoneLine_1 rfl ?_
  refine zget X hP 0 rfl rfl inF9 4 (by decide) q_1336 rfl dX9_stoneLine_2 ?_
  refine lv_iconst (v := 5) hx hb dX9_stoneLine_5 (by decide) ?_
  refine lv_iadd hx hb dX9_stoneLine_6 ?_
  refine zput (ty := .int) X hP hD hS 0 rfl rfl inF9 tyX9_ok nmX9 4 (by decide) q_1336 rfl rfl rfl rfl (Nat.le_of_ble_eq_true rfl) dX9_stoneLine_7 (fun H locs hP hD hS => ?_)
  have hP : va_P D vwCl [(a_this, .inr (9, .int f_thrown :: .ref a_tape :: .int f_taped :: .int f_size :: .int (f_at + (5 : Int32)) :: .int f_fault :: .int f_newColumns :: .int f_newRows :: .ref a_newTold :: .ref a_newHas :: .ref a_newStone :: .int f_columns :: .int f_rows :: .ref a_told :: .ref a_stone :: .int f_acts :: .ref a_pastTold :: .ref a_pastStone :: .ref a_pastColumns :: .ref a_pastRows :: .int f_isLaid :: .ref a_many :: .ref a_number :: .ref a_ways :: .ref a_placeOf :: .ref a_label :: .ref a_old :: .ref a_isOpen :: .ref a_freeOnes :: .ref a_joins :: .ref a_given :: .ref a_decided :: .ref a_wet :: .int f_seed :: .int f_frees :: .ref a_order :: .int f_isKept :: .int f_keptHalf :: .int f_keptFree :: .ref a_kept :: .ref a_written :: .int f_writtenMany :: [])), (a_tape, .inl (y.1, 400, .inl c_tape)), (a_newStone, .inl (y.2.2.1, 25, .inl c_newStone))] H := hP
  have hD : va_D A [(a_this, .inr (9, .int f_thrown :: .ref a_tape :: .int f_taped :: .int f_size :: .int (f_at + (5 : Int32)) :: .int f_fault :: .int f_newColumns :: .int f_newRows :: .ref a_newTold :: .ref a_newHas :: .ref a_newStone :: .int f_columns :: .int f_rows :: .ref a_told :: .ref a_stone :: .int f_acts :: .ref a_pastTold :: .ref a_pastStone :: .ref a_pastColumns :: .ref a_pastRows :: .int f_isLaid :: .ref a_many :: .ref a_number :: .ref a_ways :: .ref a_placeOf :: .ref a_label :: .ref a_old :: .ref a_isOpen :: .ref a_freeOnes :: .ref a_joins :: .ref a_given :: .ref a_decided :: .ref a_wet :: .int f_seed :: .int f_frees :: .ref a_order :: .int f_isKept :: .int f_keptHalf :: .int f_keptFree :: .ref a_kept :: .ref a_written :: .int f_writtenMany :: [])), (a_tape, .inl (y.1, 400, .inl c_tape)), (a_newStone, .inl (y.2.2.1, 25, .inl c_newStone))] := hD
  refine lv_aload_n hx hb dX9_stoneLine_10 rfl (lv_at hl 0 rfl) ?_
  refine lv_iconst (v := 0) hx hb dX9_stoneLine_11 (by decide) ?_
  refine lv_aload_n hx hb dX9_stoneLine_12 rfl (lv_at hl 0 rfl) ?_
  refine zget X hP 0 rfl rfl inF9 6 (by decide) q_1338 rfl dX9_stoneLine_13 ?_
  refine lv_iconst (v := 1) hx hb dX9_stoneLine_16 (by decide) ?_
  refine lv_isub hx hb dX9_stoneLine_17 ?_
  obtain ⟨o18, ho18, hf⟩ := zb hf
  refine zcV1 (wr := [(a_newStone, .inl (y.2.2.1, 25, .inl c_newStone))]) (rest := []) X (zc_X9_digit l D y a_this a_tape a_newTold a_newHas a_newStone a_told a_stone a_pastTold a_pastStone a_pastColumns a_pastRows a_many a_number a_ways a_placeOf a_label a_old a_isOpen a_freeOnes a_joins a_given a_decided a_wet a_order a_kept a_written f_thrown f_taped f_size (f_at + (5 : Int32)) f_fault f_newColumns f_newRows f_columns f_rows f_acts f_isLaid f_seed f_frees f_isKept f_keptHalf f_keptFree f_writtenMany c_tape (0 : Int32) (f_newColumns - (1 : Int32)) o18 ho18) kf_RX9_149 ⟨(Nat.le_of_ble_eq_true rfl), (Nat.le_of_ble_eq_true rfl)⟩ hP hD hS [0, 1] [2] rfl rfl rfl rfl (by decide) 0 rfl rfl rfl rfl hl.1 (Nat.le_of_ble_eq_true rfl) dX9_stoneLine_18 ⟨(Nat.le_of_ble_eq_true rfl), (Nat.le_of_ble_eq_true rfl)⟩ (fun H locs hP hD hS => ?_)
  have hP : va_P D vwCl [(a_newStone, .inl (y.2.2.1, 25, .inl c_newStone)), (a_this, .inr (9, .int f_thrown :: .ref a_tape :: .int f_taped :: .int f_size :: .int o18.2.1 :: .int o18.2.2 :: .int f_newColumns :: .int f_newRows :: .ref a_newTold :: .ref a_newHas :: .ref a_newStone :: .int f_columns :: .int f_rows :: .ref a_told :: .ref a_stone :: .int f_acts :: .ref a_pastTold :: .ref a_pastStone :: .ref a_pastColumns :: .ref a_pastRows :: .int f_isLaid :: .ref a_many :: .ref a_number :: .ref a_ways :: .ref a_placeOf :: .ref a_label :: .ref a_old :: .ref a_isOpen :: .ref a_freeOnes :: .ref a_joins :: .ref a_given :: .ref a_decided :: .ref a_wet :: .int f_seed :: .int f_frees :: .ref a_order :: .int f_isKept :: .int f_keptHalf :: .int f_keptFree :: .ref a_kept :: .ref a_written :: .int f_writtenMany :: [])), (a_tape, .inl (y.1, 400, .inl c_tape))] H := hP
  have hD : va_D A [(a_newStone, .inl (y.2.2.1, 25, .inl c_newStone)), (a_this, .inr (9, .int f_thrown :: .ref a_tape :: .int f_taped :: .int f_size :: .int o18.2.1 :: .int o18.2.2 :: .int f_newColumns :: .int f_newRows :: .ref a_newTold :: .ref a_newHas :: .ref a_newStone :: .int f_columns :: .int f_rows :: .ref a_told :: .ref a_stone :: .int f_acts :: .ref a_pastTold :: .ref a_pastStone :: .ref a_pastColumns :: .ref a_pastRows :: .int f_isLaid :: .ref a_many :: .ref a_number :: .ref a_ways :: .ref a_placeOf :: .ref a_label :: .ref a_old :: .ref a_isOpen :: .ref a_freeOnes :: .ref a_joins :: .ref a_given :: .ref a_decided :: .ref a_wet :: .int f_seed :: .int f_frees :: .ref a_order :: .int f_isKept :: .int f_keptHalf :: .int f_keptFree :: .ref a_kept :: .ref a_written :: .int f_writtenMany :: [])), (a_tape, .inl (y.1, 400, .inl c_tape))] := hD
  refine lv_istore_n (lv' := [(1, .int o18.1), (0, .ref a_this)]) hx hb dX9_stoneLine_21 rfl hl (by decide) rfl (fun ls hl => ?_)
  refine lv_aload_n hx hb dX9_stoneLine_22 rfl (lv_at hl 1 rfl) ?_
  obtain ⟨o23, ho23, hf⟩ := zb hf
  refine zcV1 (wr := [(a_newStone, .inl (y.2.2.1, 25, .inl c_newStone))]) (rest := []) X (zc_X9_here l D y a_this a_tape a_newTold a_newHas a_newStone a_told a_stone a_pastTold a_pastStone a_pastColumns a_pastRows a_many a_number a_ways a_placeOf a_label a_old a_isOpen a_freeOnes a_joins a_given a_decided a_wet a_order a_kept a_written f_thrown f_taped f_size o18.2.1 o18.2.2 f_newColumns f_newRows f_columns f_rows f_acts f_isLaid f_seed f_frees f_isKept f_keptHalf f_keptFree f_writtenMany c_tape o23 ho23) kf_RX9_115 ⟨(Nat.le_of_ble_eq_true rfl), (Nat.le_of_ble_eq_true rfl)⟩ hP hD hS [1, 2] [0] rfl rfl rfl rfl (by decide) 1 rfl rfl rfl rfl hl.1 (Nat.le_of_ble_eq_true rfl) dX9_stoneLine_23 ⟨(Nat.le_of_ble_eq_true rfl), (Nat.le_of_ble_eq_true rfl)⟩ (fun H locs hP hD hS => ?_)
  have hP : va_P D vwCl [(a_newStone, .inl (y.2.2.1, 25, .inl c_newStone)), (a_this, .inr (9, .int f_thrown :: .ref a_tape :: .int f_taped :: .int f_size :: .int o23.2 :: .int o18.2.2 :: .int f_newColumns :: .int f_newRows :: .ref a_newTold :: .ref a_newHas :: .ref a_newStone :: .int f_columns :: .int f_rows :: .ref a_told :: .ref a_stone :: .int f_acts :: .ref a_pastTold :: .ref a_pastStone :: .ref a_pastColumns :: .ref a_pastRows :: .int f_isLaid :: .ref a_many :: .ref a_number :: .ref a_ways :: .ref a_placeOf :: .ref a_label :: .ref a_old :: .ref a_isOpen :: .ref a_freeOnes :: .ref a_joins :: .ref a_given :: .ref a_decided :: .ref a_wet :: .int f_seed :: .int f_frees :: .ref a_order :: .int f_isKept :: .int f_keptHalf :: .int f_keptFree :: .ref a_kept :: .ref a_written :: .int f_writtenMany :: [])), (a_tape, .inl (y.1, 400, .inl c_tape))] H := hP
  have hD : va_D A [(a_newStone, .inl (y.2.2.1, 25, .inl c_newStone)), (a_this, .inr (9, .int f_thrown :: .ref a_tape :: .int f_taped :: .int f_size :: .int o23.2 :: .int o18.2.2 :: .int f_newColumns :: .int f_newRows :: .ref a_newTold :: .ref a_newHas :: .ref a_newStone :: .int f_columns :: .int f_rows :: .ref a_told :: .ref a_stone :: .int f_acts :: .ref a_pastTold :: .ref a_pastStone :: .ref a_pastColumns :: .ref a_pastRows :: .int f_isLaid :: .ref a_many :: .ref a_number :: .ref a_ways :: .ref a_placeOf :: .ref a_label :: .ref a_old :: .ref a_isOpen :: .ref a_freeOnes :: .ref a_joins :: .ref a_given :: .ref a_decided :: .ref a_wet :: .int f_seed :: .int f_frees :: .ref a_order :: .int f_isKept :: .int f_keptHalf :: .int f_keptFree :: .ref a_kept :: .ref a_written :: .int f_writtenMany :: [])), (a_tape, .inl (y.1, 400, .inl c_tape))] := hD
  refine lv_istore_n (lv' := [(2, .int o23.1), (1, .int o18.1), (0, .ref a_this)]) hx hb dX9_stoneLine_26 rfl hl (by decide) rfl (fun ls hl => ?_)
  refine lv_aload_n hx hb dX9_stoneLine_27 rfl (lv_at hl 2 rfl) ?_
  refine zget X hP 1 rfl rfl inF9 4 (by decide) q_1336 rfl dX9_stoneLine_28 ?_
  refine lv_istore_n (lv' := [(3, .int o23.2), (2, .int o23.1), (1, .int o18.1), (0, .ref a_this)]) hx hb dX9_stoneLine_31 rfl hl (by decide) rfl (fun ls hl => ?_)
  refine lv_aload_n hx hb dX9_stoneLine_32 rfl (lv_at hl 3 rfl) ?_
  refine lv_iconst (v := 0) hx hb dX9_stoneLine_33 (by decide) ?_
  refine lv_aload_n hx hb dX9_stoneLine_34 rfl (lv_at hl 3 rfl) ?_
  refine zget X hP 1 rfl rfl inF9 7 (by decide) q_1339 rfl dX9_stoneLine_35 ?_
  refine lv_iconst (v := 1) hx hb dX9_stoneLine_38 (by decide) ?_
  refine lv_isub hx hb dX9_stoneLine_39 ?_
  obtain ⟨o40, ho40, hf⟩ := zb hf
  refine zcV1 (wr := [(a_newStone, .inl (y.2.2.1, 25, .inl c_newStone))]) (rest := []) X (zc_X9_digit l D y a_this a_tape a_newTold a_newHas a_newStone a_told a_stone a_pastTold a_pastStone a_pastColumns a_pastRows a_many a_number a_ways a_placeOf a_label a_old a_isOpen a_freeOnes a_joins a_given a_decided a_wet a_order a_kept a_written f_thrown f_taped f_size o23.2 o18.2.2 f_newColumns f_newRows f_columns f_rows f_acts f_isLaid f_seed f_frees f_isKept f_keptHalf f_keptFree f_writtenMany c_tape (0 : Int32) (f_newRows - (1 : Int32)) o40 ho40) kf_RX9_149 ⟨(Nat.le_of_ble_eq_true rfl), (Nat.le_of_ble_eq_true rfl)⟩ hP hD hS [1, 2] [0] rfl rfl rfl rfl (by decide) 1 rfl rfl rfl rfl hl.1 (Nat.le_of_ble_eq_true rfl) dX9_stoneLine_40 ⟨(Nat.le_of_ble_eq_true rfl), (Nat.le_of_ble_eq_true rfl)⟩ (fun H locs hP hD hS => ?_)
  have hP : va_P D vwCl [(a_newStone, .inl (y.2.2.1, 25, .inl c_newStone)), (a_this, .inr (9, .int f_thrown :: .ref a_tape :: .int f_taped :: .int f_size :: .int o40.2.1 :: .int o40.2.2 :: .int f_newColumns :: .int f_newRows :: .ref a_newTold :: .ref a_newHas :: .ref a_newStone :: .int f_columns :: .int f_rows :: .ref a_told :: .ref a_stone :: .int f_acts :: .ref a_pastTold :: .ref a_pastStone :: .ref a_pastColumns :: .ref a_pastRows :: .int f_isLaid :: .ref a_many :: .ref a_number :: .ref a_ways :: .ref a_placeOf :: .ref a_label :: .ref a_old :: .ref a_isOpen :: .ref a_freeOnes :: .ref a_joins :: .ref a_given :: .ref a_decided :: .ref a_wet :: .int f_seed :: .int f_frees :: .ref a_order :: .int f_isKept :: .int f_keptHalf :: .int f_keptFree :: .ref a_kept :: .ref a_written :: .int f_writtenMany :: [])), (a_tape, .inl (y.1, 400, .inl c_tape))] H := hP
  have hD : va_D A [(a_newStone, .inl (y.2.2.1, 25, .inl c_newStone)), (a_this, .inr (9, .int f_thrown :: .ref a_tape :: .int f_taped :: .int f_size :: .int o40.2.1 :: .int o40.2.2 :: .int f_newColumns :: .int f_newRows :: .ref a_newTold :: .ref a_newHas :: .ref a_newStone :: .int f_columns :: .int f_rows :: .ref a_told :: .ref a_stone :: .int f_acts :: .ref a_pastTold :: .ref a_pastStone :: .ref a_pastColumns :: .ref a_pastRows :: .int f_isLaid :: .ref a_many :: .ref a_number :: .ref a_ways :: .ref a_placeOf :: .ref a_label :: .ref a_old :: .ref a_isOpen :: .ref a_freeOnes :: .ref a_joins :: .ref a_given :: .ref a_decided :: .ref a_wet :: .int f_seed :: .int f_frees :: .ref a_order :: .int f_isKept :: .int f_keptHalf :: .int f_keptFree :: .ref a_kept :: .ref a_written :: .int f_writtenMany :: [])), (a_tape, .inl (y.1, 400, .inl c_tape))] := hD
  refine lv_istore (lv' := [(4, .int o40.1), (3, .int o23.2), (2, .int o23.1), (1, .int o18.1), (0, .ref a_this)]) hx hb dX9_stoneLine_43 hl (by decide) rfl (fun ls hl => ?_)
  refine lv_aload_n hx hb dX9_stoneLine_45 rfl (lv_at hl 4 rfl) ?_
  refine zget X hP 1 rfl rfl inF9 5 (by decide) q_1337 rfl dX9_stoneLine_46 ?_
  refine lv_iconst (v := -1) hx hb dX9_stoneLine_49 (by decide) ?_
  refine lv_icmp_eq (tgt := 54) hx hb dX9_stoneLine_50 (by decide) (fun c50 => ?_) (fun c50 => ?_)
  · replace hf := zt c50 hf
    refine lv_aload_n hx hb dX9_stoneLine_54 rfl (lv_at hl 4 rfl) ?_
    refine zget X hP 1 rfl rfl inF9 10 (by decide) q_1342 rfl dX9_stoneLine_55 ?_
    refine lv_iconst (v := 5) hx hb dX9_stoneLine_58 (by decide) ?_
    refine lv_iload hx hb dX9_stoneLine_59 (lv_at hl 0 rfl) ?_
    refine lv_imul hx hb dX9_stoneLine_61 ?_
    refine lv_iload_n hx hb dX9_stoneLine_62 rfl (lv_at hl 3 rfl) ?_
    refine lv_iadd hx hb dX9_stoneLine_63 ?_
    obtain ⟨g64, hf⟩ := zg hf
    refine va_zald hx hb hK hP 0 2 rfl rfl g64 dX9_stoneLine_64 ?_
    refine lv_if_eq (tgt := 77) hx hb dX9_stoneLine_65 (by decide) (fun c65 => ?_) (fun c65 => ?_)
    · replace hf := zt c65 hf
      exact J77 o18.1 o40.1 o40.2.1 o40.2.2 c_newStone hf _ _ _ (lv_sub hl [4, 3, 0] rfl) (zPsub (is := [1, 2, 0]) hP rfl) (hD.sub [1, 2, 0] (by decide) rfl) hS
    · replace hf := ze c65 hf
      refine lv_aload_n hx hb dX9_stoneLine_68 rfl (lv_at hl 4 rfl) ?_
      refine lv_iload_n hx hb dX9_stoneLine_69 rfl (lv_at hl 1 rfl) ?_
      refine zput (ty := .int) X hP hD hS 1 rfl rfl inF9 tyX9_ok nmX9 4 (by decide) q_1336 rfl rfl rfl rfl (Nat.le_of_ble_eq_true rfl) dX9_stoneLine_70 (fun H locs hP hD hS => ?_)
      have hP : va_P D vwCl [(a_newStone, .inl (y.2.2.1, 25, .inl c_newStone)), (a_this, .inr (9, .int f_thrown :: .ref a_tape :: .int f_taped :: .int f_size :: .int o23.2 :: .int o40.2.2 :: .int f_newColumns :: .int f_newRows :: .ref a_newTold :: .ref a_newHas :: .ref a_newStone :: .int f_columns :: .int f_rows :: .ref a_told :: .ref a_stone :: .int f_acts :: .ref a_pastTold :: .ref a_pastStone :: .ref a_pastColumns :: .ref a_pastRows :: .int f_isLaid :: .ref a_many :: .ref a_number :: .ref a_ways :: .ref a_placeOf :: .ref a_label :: .ref a_old :: .ref a_isOpen :: .ref a_freeOnes :: .ref a_joins :: .ref a_given :: .ref a_decided :: .ref a_wet :: .int f_seed :: .int f_frees :: .ref a_order :: .int f_isKept :: .int f_keptHalf :: .int f_keptFree :: .ref a_kept :: .ref a_written :: .int f_writtenMany :: [])), (a_tape, .inl (y.1, 400, .inl c_tape))] H := hP
      have hD : va_D A [(a_newStone, .inl (y.2.2.1, 25, .inl c_newStone)), (a_this, .inr (9, .int f_thrown :: .ref a_tape :: .int f_taped :: .int f_size :: .int o23.2 :: .int o40.2.2 :: .int f_newColumns :: .int f_newRows :: .ref a_newTold :: .ref a_newHas :: .ref a_newStone :: .int f_columns :: .int f_rows :: .ref a_told :: .ref a_stone :: .int f_acts :: .ref a_pastTold :: .ref a_pastStone :: .ref a_pastColumns :: .ref a_pastRows :: .int f_isLaid :: .ref a_many :: .ref a_number :: .ref a_ways :: .ref a_placeOf :: .ref a_label :: .ref a_old :: .ref a_isOpen :: .ref a_freeOnes :: .ref a_joins :: .ref a_given :: .ref a_decided :: .ref a_wet :: .int f_seed :: .int f_frees :: .ref a_order :: .int f_isKept :: .int f_keptHalf :: .int f_keptFree :: .ref a_kept :: .ref a_written :: .int f_writtenMany :: [])), (a_tape, .inl (y.1, 400, .inl c_tape))] := hD
      refine lv_aload_n hx hb dX9_stoneLine_73 rfl (lv_at hl 4 rfl) ?_
      obtain ⟨o74, ho74, hf⟩ := zb hf
      refine zcV0 (wr := [(a_newStone, .inl (y.2.2.1, 25, .inl c_newStone)), (a_tape, .inl (y.1, 400, .inl c_tape))]) (rest := []) X (zc_X9_wrong l D y a_this a_tape a_newTold a_newHas a_newStone a_told a_stone a_pastTold a_pastStone a_pastColumns a_pastRows a_many a_number a_ways a_placeOf a_label a_old a_isOpen a_freeOnes a_joins a_given a_decided a_wet a_order a_kept a_written f_thrown f_taped f_size o23.2 o40.2.2 f_newColumns f_newRows f_columns f_rows f_acts f_isLaid f_seed f_frees f_isKept f_keptHalf f_keptFree f_writtenMany o74 ho74) kf_RX9_135 ⟨(Nat.le_of_ble_eq_true rfl), (Nat.le_of_ble_eq_true rfl)⟩ hP hD hS [1] [0, 2] rfl rfl rfl rfl (by decide) 1 rfl rfl rfl rfl hl.1 (Nat.le_of_ble_eq_true rfl) dX9_stoneLine_74 ⟨(Nat.le_of_ble_eq_true rfl), (Nat.le_of_ble_eq_true rfl)⟩ (fun H locs hP hD hS => ?_)
      have hP : va_P D vwCl [(a_newStone, .inl (y.2.2.1, 25, .inl c_newStone)), (a_tape, .inl (y.1, 400, .inl c_tape)), (a_this, .inr (9, .int f_thrown :: .ref a_tape :: .int f_taped :: .int f_size :: .int o23.2 :: .int o74 :: .int f_newColumns :: .int f_newRows :: .ref a_newTold :: .ref a_newHas :: .ref a_newStone :: .int f_columns :: .int f_rows :: .ref a_told :: .ref a_stone :: .int f_acts :: .ref a_pastTold :: .ref a_pastStone :: .ref a_pastColumns :: .ref a_pastRows :: .int f_isLaid :: .ref a_many :: .ref a_number :: .ref a_ways :: .ref a_placeOf :: .ref a_label :: .ref a_old :: .ref a_isOpen :: .ref a_freeOnes :: .ref a_joins :: .ref a_given :: .ref a_decided :: .ref a_wet :: .int f_seed :: .int f_frees :: .ref a_order :: .int f_isKept :: .int f_keptHalf :: .int f_keptFree :: .ref a_kept :: .ref a_written :: .int f_writtenMany :: []))] H := hP
      have hD : va_D A [(a_newStone, .inl (y.2.2.1, 25, .inl c_newStone)), (a_tape, .inl (y.1, 400, .inl c_tape)), (a_this, .inr (9, .int f_thrown :: .ref a_tape :: .int f_taped :: .int f_size :: .int o23.2 :: .int o74 :: .int f_newColumns :: .int f_newRows :: .ref a_newTold :: .ref a_newHas :: .ref a_newStone :: .int f_columns :: .int f_rows :: .ref a_told :: .ref a_stone :: .int f_acts :: .ref a_pastTold :: .ref a_pastStone :: .ref a_pastColumns :: .ref a_pastRows :: .int f_isLaid :: .ref a_many :: .ref a_number :: .ref a_ways :: .ref a_placeOf :: .ref a_label :: .ref a_old :: .ref a_isOpen :: .ref a_freeOnes :: .ref a_joins :: .ref a_given :: .ref a_decided :: .ref a_wet :: .int f_seed :: .int f_frees :: .ref a_order :: .int f_isKept :: .int f_keptHalf :: .int f_keptFree :: .ref a_kept :: .ref a_written :: .int f_writtenMany :: []))] := hD
      exact J77 o18.1 o40.1 o23.2 o74 c_newStone hf _ _ _ (lv_sub hl [4, 3, 0] rfl) (zPsub (is := [2, 1, 0]) hP rfl) (hD.sub [2, 1, 0] (by decide) rfl) hS
  · replace hf := ze c50 hf
    obtain rfl := Option.some.inj hf
    exact zretv X hQ (zPsub (is := [1, 2, 0]) hP rfl) (hD.sub [1, 2, 0] (by decide) rfl) hS ⟨rfl, rfl⟩ dX9_stoneLine_53 (Nat.le_of_ble_eq_true rfl) (Nat.le_of_ble_eq_true rfl)


abbrev rm_X9_isThere : Room := { frames := 0, cells := 0, slots := 0, locals := 0 }
def zf_X9_isThere_25 (x1 : Int32) (x2 : Int32) (x3 : Int32) (x4 : Int32) (s0 : Int32) : Option (Int32) :=
  if x1 ≤ x3 then (some (0 : Int32)) else (if x2 ≤ x4 then (some (0 : Int32)) else (if s0 = 0 then (if x1 ≤ (x3 + (1 : Int32)) then (some (0 : Int32)) else (some (1 : Int32))) else (if x2 ≤ (x4 + (1 : Int32)) then (some (0 : Int32)) else (some (1 : Int32)))))
def zf_X9_isThere (x0 : Int32) (x1 : Int32) (x2 : Int32) : Option (Int32) :=
  if (zrem x0 (2 : Int32)) = (1 : Int32) then (zf_X9_isThere_25 x1 x2 ((zrem x0 (10 : Int32)) / (2 : Int32)) (x0 / (10 : Int32)) (1 : Int32)) else (zf_X9_isThere_25 x1 x2 ((zrem x0 (10 : Int32)) / (2 : Int32)) (x0 / (10 : Int32)) (0 : Int32))
set_option maxHeartbeats 4000000 in
set_option maxRecDepth 100000 in
theorem zc_X9_isThere (l : Launch) (D : va_G) (y : zY) (x0 : Int32) (x1 : Int32) (x2 : Int32) (out : Int32) (hf : zf_X9_isThere x0 x1 x2 = some out) : zC l D y yX9_isThere cX9_isThere 6 (some .boolean) rm_X9_isThere [.int x0, .int x1, .int x2] [] (zE (some (.int out)) []) := by
  refine zmk (by decide) (Nat.le_of_ble_eq_true rfl) ?_
  intro p e s m args below meth c A Q ls X hQ hnm hP hD hS hl
  have X : zX p s m args meth c D y A RX9 cX9_isThere 6 (some .boolean) := X
  obtain ⟨hx, hb, hr, hml, hown, hts, hK, hA, hlocks⟩ := id X
  have hl : lv_has ls 6 [(0, .int x0), (1, .int x1), (2, .int x2)] := hl
  have J25 : ∀ (x3 : Int32) (x4 : Int32) (s0 : Int32), zf_X9_isThere_25 x1 x2 x3 x4 s0 = some out → ∀ (H : Heap) (locs : List Loc) (ls : Array Slot), lv_has ls 6 [(1, .int x1), (2, .int x2), (3, .int x3), (4, .int x4)] → va_P D vwCl [] H → va_D A [] → va_S A s.heap H locs → W p l e rm_X9_isThere s m args below meth c H locs 0 0 Q (F0 m 25 ls [.int s0]) := by
    intro x3 x4 s0 hf H locs ls hl hP hD hS
    unfold zf_X9_isThere_25 at hf
    refine lv_istore (lv' := [(5, .int s0), (1, .int x1), (2, .int x2), (3, .int x3), (4, .int x4)]) hx hb dX9_isThere_25 hl (by decide) rfl (fun ls hl => ?_)
    refine lv_iload_n hx hb dX9_isThere_27 rfl (lv_at hl 3 rfl) ?_
    refine lv_iload_n hx hb dX9_isThere_28 rfl (lv_at hl 1 rfl) ?_
    refine lv_icmp_ge (tgt := 65) hx hb dX9_isThere_29 (by decide) (fun c29 => ?_) (fun c29 => ?_)
    · replace hf := zt c29 hf
      refine lv_iconst (v := 0) hx hb dX9_isThere_65 (by decide) ?_
      obtain rfl := Option.some.inj hf
      exact zreti X hQ hP hD hS ⟨rfl, rfl⟩ rfl dX9_isThere_66 (Nat.le_of_ble_eq_true rfl) (Nat.le_of_ble_eq_true rfl)
    · replace hf := ze c29 hf
      refine lv_iload hx hb dX9_isThere_32 (lv_at hl 4 rfl) ?_
      refine lv_iload_n hx hb dX9_isThere_34 rfl (lv_at hl 2 rfl) ?_
      refine lv_icmp_ge (tgt := 65) hx hb dX9_isThere_35 (by decide) (fun c35 => ?_) (fun c35 => ?_)
      · replace hf := zt c35 hf
        refine lv_iconst (v := 0) hx hb dX9_isThere_65 (by decide) ?_
        obtain rfl := Option.some.inj hf
        exact zreti X hQ hP hD hS ⟨rfl, rfl⟩ rfl dX9_isThere_66 (Nat.le_of_ble_eq_true rfl) (Nat.le_of_ble_eq_true rfl)
      · replace hf := ze c35 hf
        refine lv_iload hx hb dX9_isThere_38 (lv_at hl 0 rfl) ?_
        refine lv_if_eq (tgt := 54) hx hb dX9_isThere_40 (by decide) (fun c40 => ?_) (fun c40 => ?_)
        · replace hf := zt c40 hf
          refine lv_iload_n hx hb dX9_isThere_54 rfl (lv_at hl 3 rfl) ?_
          refine lv_iconst (v := 1) hx hb dX9_isThere_55 (by decide) ?_
          refine lv_iadd hx hb dX9_isThere_56 ?_
          refine lv_iload_n hx hb dX9_isThere_57 rfl (lv_at hl 1 rfl) ?_
          refine lv_icmp_ge (tgt := 65) hx hb dX9_isThere_58 (by decide) (fun c58 => ?_) (fun c58 => ?_)
          · replace hf := zt c58 hf
            refine lv_iconst (v := 0) hx hb dX9_isThere_65 (by decide) ?_
            obtain rfl := Option.some.inj hf
            exact zreti X hQ hP hD hS ⟨rfl, rfl⟩ rfl dX9_isThere_66 (Nat.le_of_ble_eq_true rfl) (Nat.le_of_ble_eq_true rfl)
          · replace hf := ze c58 hf
            refine lv_iconst (v := 1) hx hb dX9_isThere_61 (by decide) ?_
            refine lv_goto (tgt := 66) hx hb dX9_isThere_62 (by decide) ?_
            obtain rfl := Option.some.inj hf
            exact zreti X hQ hP hD hS ⟨rfl, rfl⟩ rfl dX9_isThere_66 (Nat.le_of_ble_eq_true rfl) (Nat.le_of_ble_eq_true rfl)
        · replace hf := ze c40 hf
          refine lv_iload hx hb dX9_isThere_43 (lv_at hl 4 rfl) ?_
          refine lv_iconst (v := 1) hx hb dX9_isThere_45 (by decide) ?_
          refine lv_iadd hx hb dX9_isThere_46 ?_
          refine lv_iload_n hx hb dX9_isThere_47 rfl (lv_at hl 2 rfl) ?_
          refine lv_icmp_ge (tgt := 65) hx hb dX9_isThere_48 (by decide) (fun c48 => ?_) (fun c48 => ?_)
          · replace hf := zt c48 hf
            refine lv_iconst (v := 0) hx hb dX9_isThere_65 (by decide) ?_
            obtain rfl := Option.some.inj hf
            exact zreti X hQ hP hD hS ⟨rfl, rfl⟩ rfl dX9_isThere_66 (Nat.le_of_ble_eq_true rfl) (Nat.le_of_ble_eq_true rfl)
          · replace hf := ze c48 hf
            refine lv_goto (tgt := 61) hx hb dX9_isThere_51 (by decide) ?_
            refine lv_iconst (v := 1) hx hb dX9_isThere_61 (by decide) ?_
            refine lv_goto (tgt := 66) hx hb dX9_isThere_62 (by decide) ?_
            obtain rfl := Option.some.inj hf
            exact zreti X hQ hP hD hS ⟨rfl, rfl⟩ rfl dX9_isThere_66 (Nat.le_of_ble_eq_true rfl) (Nat.le_of_ble_eq_true rfl)
  unfold zf_X9_isThere at hf
  refine lv_iload_n hx hb dX9_isThere_0 rfl (lv_at hl 0 rfl) ?_
  refine lv_bipush (v := 10) hx hb dX9_isThere_1 (by decide) ?_
  refine lv_irem hx hb dX9_isThere_3 (by decide) ?_
  refine lv_iconst (v := 2) hx hb dX9_isThere_4 (by decide) ?_
  refine lv_idiv hx hb dX9_isThere_5 (by decide) ?_
  refine lv_istore_n (lv' := [(3, .int ((zrem x0 (10 : Int32)) / (2 : Int32))), (0, .int x0), (1, .int x1), (2, .int x2)]) hx hb dX9_isThere_6 rfl hl (by decide) rfl (fun ls hl => ?_)
  refine lv_iload_n hx hb dX9_isThere_7 rfl (lv_at hl 1 rfl) ?_
  refine lv_bipush (v := 10) hx hb dX9_isThere_8 (by decide) ?_
  refine lv_idiv hx hb dX9_isThere_10 (by decide) ?_
  refine lv_istore (lv' := [(4, .int (x0 / (10 : Int32))), (3, .int ((zrem x0 (10 : Int32)) / (2 : Int32))), (0, .int x0), (1, .int x1), (2, .int x2)]) hx hb dX9_isThere_11 hl (by decide) rfl (fun ls hl => ?_)
  refine lv_iload_n hx hb dX9_isThere_13 rfl (lv_at hl 2 rfl) ?_
  refine lv_iconst (v := 2) hx hb dX9_isThere_14 (by decide) ?_
  refine lv_irem hx hb dX9_isThere_15 (by decide) ?_
  refine lv_iconst (v := 1) hx hb dX9_isThere_16 (by decide) ?_
  refine lv_icmp_ne (tgt := 24) hx hb dX9_isThere_17 (by decide) (fun c17 => ?_) (fun c17 => ?_)
  · replace hf := ze c17 hf
    refine lv_iconst (v := 0) hx hb dX9_isThere_24 (by decide) ?_
    exact J25 ((zrem x0 (10 : Int32)) / (2 : Int32)) (x0 / (10 : Int32)) (0 : Int32) hf _ _ _ (lv_sub hl [3, 4, 1, 0] rfl) hP hD hS
  · replace hf := zt c17 hf
    refine lv_iconst (v := 1) hx hb dX9_isThere_20 (by decide) ?_
    refine lv_goto (tgt := 25) hx hb dX9_isThere_21 (by decide) ?_
    exact J25 ((zrem x0 (10 : Int32)) / (2 : Int32)) (x0 / (10 : Int32)) (1 : Int32) hf _ _ _ (lv_sub hl [3, 4, 1, 0] rfl) hP hD hS


abbrev rm_X9_from : Room := { frames := 0, cells := 0, slots := 0, locals := 0 }
def zf_X9_from (x0 : Int32) : Option (Int32) :=
  some (((5 : Int32) * (x0 / (10 : Int32))) + ((zrem x0 (10 : Int32)) / (2 : Int32)))
set_option maxHeartbeats 4000000 in
set_option maxRecDepth 100000 in
theorem zc_X9_from (l : Launch) (D : va_G) (y : zY) (x0 : Int32) (out : Int32) (hf : zf_X9_from x0 = some out) : zC l D y yX9_from cX9_from 1 (some .int) rm_X9_from [.int x0] [] (zE (some (.int out)) []) := by
  refine zmk (by decide) (Nat.le_of_ble_eq_true rfl) ?_
  intro p e s m args below meth c A Q ls X hQ hnm hP hD hS hl
  have X : zX p s m args meth c D y A RX9 cX9_from 1 (some .int) := X
  obtain ⟨hx, hb, hr, hml, hown, hts, hK, hA, hlocks⟩ := id X
  have hl : lv_has ls 1 [(0, .int x0)] := hl
  unfold zf_X9_from at hf
  refine lv_iconst (v := 5) hx hb dX9_from_0 (by decide) ?_
  refine lv_iload_n hx hb dX9_from_1 rfl (lv_at hl 0 rfl) ?_
  refine lv_bipush (v := 10) hx hb dX9_from_2 (by decide) ?_
  refine lv_idiv hx hb dX9_from_4 (by decide) ?_
  refine lv_imul hx hb dX9_from_5 ?_
  refine lv_iload_n hx hb dX9_from_6 rfl (lv_at hl 0 rfl) ?_
  refine lv_bipush (v := 10) hx hb dX9_from_7 (by decide) ?_
  refine lv_irem hx hb dX9_from_9 (by decide) ?_
  refine lv_iconst (v := 2) hx hb dX9_from_10 (by decide) ?_
  refine lv_idiv hx hb dX9_from_11 (by decide) ?_
  refine lv_iadd hx hb dX9_from_12 ?_
  obtain rfl := Option.some.inj hf
  exact zreti X hQ hP hD hS ⟨rfl, rfl⟩ rfl dX9_from_13 (Nat.le_of_ble_eq_true rfl) (Nat.le_of_ble_eq_true rfl)

theorem kf_RX9_190 : zCB RX9 190 yX9_from cX9_from 1 (some .int) 1 ∧ Cond.static yX9_from ∈ wAll := ⟨⟨q_1538, q_9, q_1536, by decide +kernel⟩, q_1537⟩
abbrev rm_X9_to : Room := { frames := 1, cells := 0, slots := 0, locals := 20 }
def zf_X9_to (x0 : Int32) : Option (Int32) :=
  (zf_X9_from x0).bind fun o1 =>
  if (zrem x0 (2 : Int32)) = (1 : Int32) then (some (o1 + (5 : Int32))) else (some (o1 + (1 : Int32)))
set_option maxHeartbeats 4000000 in
set_option maxRecDepth 100000 in
theorem zc_X9_to (l : Launch) (D : va_G) (y : zY) (x0 : Int32) (out : Int32) (hf : zf_X9_to x0 = some out) : zC l D y yX9_to cX9_to 1 (some .int) rm_X9_to [.int x0] [] (zE (some (.int out)) []) := by
  refine zmk (by decide) (Nat.le_of_ble_eq_true rfl) ?_
  intro p e s m args below meth c A Q ls X hQ hnm hP hD hS hl
  have X : zX p s m args meth c D y A RX9 cX9_to 1 (some .int) := X
  obtain ⟨hx, hb, hr, hml, hown, hts, hK, hA, hlocks⟩ := id X
  have hl : lv_has ls 1 [(0, .int x0)] := hl
  unfold zf_X9_to at hf
  refine lv_iload_n hx hb dX9_to_0 rfl (lv_at hl 0 rfl) ?_
  obtain ⟨o1, ho1, hf⟩ := zb hf
  refine zcS1 (wr := []) (rest := []) X (zc_X9_from l D y x0 o1 ho1) kf_RX9_190 ⟨(Nat.le_of_ble_eq_true rfl), (Nat.le_of_ble_eq_true rfl)⟩ hP hD hS [] [] rfl rfl rfl rfl (by decide) rfl rfl hl.1 (Nat.le_of_ble_eq_true rfl) dX9_to_1 ⟨(Nat.le_of_ble_eq_true rfl), (Nat.le_of_ble_eq_true rfl)⟩ (fun H locs hP hD hS => ?_)
  have hP : va_P D vwCl [] H := hP
  have hD : va_D A [] := hD
  refine lv_iload_n hx hb dX9_to_4 rfl (lv_at hl 0 rfl) ?_
  refine lv_iconst (v := 2) hx hb dX9_to_5 (by decide) ?_
  refine lv_irem hx hb dX9_to_6 (by decide) ?_
  refine lv_iconst (v := 1) hx hb dX9_to_7 (by decide) ?_
  refine lv_icmp_ne (tgt := 15) hx hb dX9_to_8 (by decide) (fun c8 => ?_) (fun c8 => ?_)
  · replace hf := ze c8 hf
    refine lv_iconst (v := 1) hx hb dX9_to_15 (by decide) ?_
    refine lv_iadd hx hb dX9_to_16 ?_
    obtain rfl := Option.some.inj hf
    exact zreti X hQ hP hD hS ⟨rfl, rfl⟩ rfl dX9_to_17 (Nat.le_of_ble_eq_true rfl) (Nat.le_of_ble_eq_true rfl)
  · replace hf := zt c8 hf
    refine lv_iconst (v := 5) hx hb dX9_to_11 (by decide) ?_
    refine lv_goto (tgt := 16) hx hb dX9_to_12 (by decide) ?_
    refine lv_iadd hx hb dX9_to_16 ?_
    obtain rfl := Option.some.inj hf
    exact zreti X hQ hP hD hS ⟨rfl, rfl⟩ rfl dX9_to_17 (Nat.le_of_ble_eq_true rfl) (Nat.le_of_ble_eq_true rfl)

theorem kf_RX9_194 : zCB RX9 194 yX9_to cX9_to 1 (some .int) 1 ∧ Cond.static yX9_to ∈ wAll := ⟨⟨q_1541, q_9, q_1539, by decide +kernel⟩, q_1540⟩
abbrev rm_X9_howBy : Room := { frames := 2, cells := 0, slots := 0, locals := 40 }
def zf_X9_howBy (c_arg0 : Nat → Int32) (c_arg1 : Nat → Int32) (n_arg0 : Nat) (n_arg1 : Nat) (x2 : Int32) : Option (Int32) :=
  (zf_X9_from x2).bind fun o2 =>
  if zgd o2 n_arg1 = true then (if (c_arg1 o2.toNatClampNeg) = 0 then ((zf_X9_to x2).bind fun o11 =>
  if zgd o11 n_arg1 = true then (if (c_arg1 o11.toNatClampNeg) = 0 then (if zgd x2 n_arg0 = true then (some (c_arg0 x2.toNatClampNeg)) else none) else (some (2 : Int32))) else none) else (some (2 : Int32))) else none
set_option maxHeartbeats 4000000 in
set_option maxRecDepth 100000 in
theorem zc_X9_howBy (l : Launch) (D : va_G) (y : zY) (a_arg0 a_arg1 : Nat) (n_arg0 : Nat) (n_arg1 : Nat) (c_arg0 : Nat → Int32) (c_arg1 : Nat → Int32) (x2 : Int32) (out : Int32) (hf : zf_X9_howBy c_arg0 c_arg1 n_arg0 n_arg1 x2 = some out) : zC l D y yX9_howBy cX9_howBy 3 (some .int) rm_X9_howBy [.ref a_arg0, .ref a_arg1, .int x2] [(a_arg0, .inl (y.1, n_arg0, .inl c_arg0)), (a_arg1, .inl (y.2.2.1, n_arg1, .inl c_arg1))] (zE (some (.int out)) [(a_arg0, .inl (y.1, n_arg0, .inl c_arg0)), (a_arg1, .inl (y.2.2.1, n_arg1, .inl c_arg1))]) := by
  refine zmk (by decide) (Nat.le_of_ble_eq_true rfl) ?_
  intro p e s m args below meth c A Q ls X hQ hnm hP hD hS hl
  have X : zX p s m args meth c D y A RX9 cX9_howBy 3 (some .int) := X
  obtain ⟨hx, hb, hr, hml, hown, hts, hK, hA, hlocks⟩ := id X
  have hl : lv_has ls 3 [(0, .ref a_arg0), (1, .ref a_arg1), (2, .int x2)] := hl
  unfold zf_X9_howBy at hf
  refine lv_aload_n hx hb dX9_howBy_0 rfl (lv_at hl 1 rfl) ?_
  refine lv_iload_n hx hb dX9_howBy_1 rfl (lv_at hl 2 rfl) ?_
  obtain ⟨o2, ho2, hf⟩ := zb hf
  refine zcS1 (wr := [(a_arg0, .inl (y.1, n_arg0, .inl c_arg0)), (a_arg1, .inl (y.2.2.1, n_arg1, .inl c_arg1))]) (rest := [.ref a_arg1]) X (zc_X9_from l D y x2 o2 ho2) kf_RX9_190 ⟨(Nat.le_of_ble_eq_true rfl), (Nat.le_of_ble_eq_true rfl)⟩ hP hD hS [] [0, 1] rfl rfl rfl rfl (by decide) rfl rfl hl.1 (Nat.le_of_ble_eq_true rfl) dX9_howBy_2 ⟨(Nat.le_of_ble_eq_true rfl), (Nat.le_of_ble_eq_true rfl)⟩ (fun H locs hP hD hS => ?_)
  have hP : va_P D vwCl [(a_arg0, .inl (y.1, n_arg0, .inl c_arg0)), (a_arg1, .inl (y.2.2.1, n_arg1, .inl c_arg1))] H := hP
  have hD : va_D A [(a_arg0, .inl (y.1, n_arg0, .inl c_arg0)), (a_arg1, .inl (y.2.2.1, n_arg1, .inl c_arg1))] := hD
  obtain ⟨g5, hf⟩ := zg hf
  refine va_zald hx hb hK hP 1 2 rfl rfl g5 dX9_howBy_5 ?_
  refine lv_if_ne (tgt := 18) hx hb dX9_howBy_6 (by decide) (fun c6 => ?_) (fun c6 => ?_)
  · replace hf := ze c6 hf
    refine lv_iconst (v := 2) hx hb dX9_howBy_18 (by decide) ?_
    refine lv_goto (tgt := 25) hx hb dX9_howBy_19 (by decide) ?_
    obtain rfl := Option.some.inj hf
    exact zreti X hQ hP hD hS ⟨rfl, rfl⟩ rfl dX9_howBy_25 (Nat.le_of_ble_eq_true rfl) (Nat.le_of_ble_eq_true rfl)
  · replace hf := zt c6 hf
    refine lv_aload_n hx hb dX9_howBy_9 rfl (lv_at hl 1 rfl) ?_
    refine lv_iload_n hx hb dX9_howBy_10 rfl (lv_at hl 2 rfl) ?_
    obtain ⟨o11, ho11, hf⟩ := zb hf
    refine zcS1 (wr := [(a_arg0, .inl (y.1, n_arg0, .inl c_arg0)), (a_arg1, .inl (y.2.2.1, n_arg1, .inl c_arg1))]) (rest := [.ref a_arg1]) X (zc_X9_to l D y x2 o11 ho11) kf_RX9_194 ⟨(Nat.le_of_ble_eq_true rfl), (Nat.le_of_ble_eq_true rfl)⟩ hP hD hS [] [0, 1] rfl rfl rfl rfl (by decide) rfl rfl hl.1 (Nat.le_of_ble_eq_true rfl) dX9_howBy_11 ⟨(Nat.le_of_ble_eq_true rfl), (Nat.le_of_ble_eq_true rfl)⟩ (fun H locs hP hD hS => ?_)
    have hP : va_P D vwCl [(a_arg0, .inl (y.1, n_arg0, .inl c_arg0)), (a_arg1, .inl (y.2.2.1, n_arg1, .inl c_arg1))] H := hP
    have hD : va_D A [(a_arg0, .inl (y.1, n_arg0, .inl c_arg0)), (a_arg1, .inl (y.2.2.1, n_arg1, .inl c_arg1))] := hD
    obtain ⟨g14, hf⟩ := zg hf
    refine va_zald hx hb hK hP 1 2 rfl rfl g14 dX9_howBy_14 ?_
    refine lv_if_eq (tgt := 22) hx hb dX9_howBy_15 (by decide) (fun c15 => ?_) (fun c15 => ?_)
    · replace hf := zt c15 hf
      refine lv_aload_n hx hb dX9_howBy_22 rfl (lv_at hl 0 rfl) ?_
      refine lv_iload_n hx hb dX9_howBy_23 rfl (lv_at hl 2 rfl) ?_
      obtain ⟨g24, hf⟩ := zg hf
      refine va_iald hx hb hK hP 0 0 rfl rfl g24 dX9_howBy_24 ?_
      obtain rfl := Option.some.inj hf
      exact zreti X hQ hP hD hS ⟨rfl, rfl⟩ rfl dX9_howBy_25 (Nat.le_of_ble_eq_true rfl) (Nat.le_of_ble_eq_true rfl)
    · replace hf := ze c15 hf
      refine lv_iconst (v := 2) hx hb dX9_howBy_18 (by decide) ?_
      refine lv_goto (tgt := 25) hx hb dX9_howBy_19 (by decide) ?_
      obtain rfl := Option.some.inj hf
      exact zreti X hQ hP hD hS ⟨rfl, rfl⟩ rfl dX9_howBy_25 (Nat.le_of_ble_eq_true rfl) (Nat.le_of_ble_eq_true rfl)

theorem kf_RX9_197 : zCB RX9 197 yX9_isThere cX9_isThere 6 (some .boolean) 3 ∧ Cond.static yX9_isThere ∈ wAll := ⟨⟨q_1532, q_9, q_1530, by decide +kernel⟩, q_1531⟩
theorem kf_RX9_200 : zCB RX9 200 yX9_howBy cX9_howBy 3 (some .int) 3 ∧ Cond.static yX9_howBy ∈ wAll := ⟨⟨q_1535, q_9, q_1533, by decide +kernel⟩, q_1534⟩
abbrev rm_X9_freeBy : Room := { frames := 3, cells := 0, slots := 0, locals := 62 }
def zf_X9_freeBy_40 (x5 : Int32) (s0 : Int32) (s1 : Int32) : Option ((Int32 × Int32) ⊕ ((Int32))) :=
  some (.inl (s0 + s1, x5 + (1 : Int32)))
def zf_X9_freeBy_39 (x5 : Int32) (s0 : Int32) : Option ((Int32 × Int32) ⊕ ((Int32))) :=
  zf_X9_freeBy_40 x5 s0 (0 : Int32)
def zf_X9_freeBy_l6 (c_arg0 : Nat → Int32) (c_arg1 : Nat → Int32) (n_arg0 : Nat) (n_arg1 : Nat) (x2 : Int32) (x3 : Int32) (x4 : Int32) (x5 : Int32) : Option ((Int32 × Int32) ⊕ ((Int32))) :=
  if (50 : Int32) ≤ x5 then (some (.inr x4)) else ((zf_X9_isThere x5 x2 x3).bind fun o19 =>
  if o19 = 0 then (zf_X9_freeBy_39 x5 x4) else ((zf_X9_howBy c_arg0 c_arg1 n_arg0 n_arg1 x5).bind fun o29 =>
  if o29 = 0 then (zf_X9_freeBy_40 x5 x4 (1 : Int32)) else (zf_X9_freeBy_39 x5 x4)))
def zf_X9_freeBy (c_arg0 : Nat → Int32) (c_arg1 : Nat → Int32) (n_arg0 : Nat) (n_arg1 : Nat) (x2 : Int32) (x3 : Int32) : Option (Int32) :=
  (zit (fun d => zf_X9_freeBy_l6 c_arg0 c_arg1 n_arg0 n_arg1 x2 x3 d.1 d.2) zfu ((0 : Int32), (0 : Int32))).bind fun o6 =>
  some o6
set_option maxHeartbeats 4000000 in
set_option maxRecDepth 100000 in
theorem zc_X9_freeBy (l : Launch) (D : va_G) (y : zY) (a_arg0 a_arg1 : Nat) (n_arg0 : Nat) (n_arg1 : Nat) (c_arg0 : Nat → Int32) (c_arg1 : Nat → Int32) (x2 : Int32) (x3 : Int32) (out : Int32) (hf : zf_X9_freeBy c_arg0 c_arg1 n_arg0 n_arg1 x2 x3 = some out) : zC l D y yX9_freeBy cX9_freeBy 6 (some .int) rm_X9_freeBy [.ref a_arg0, .ref a_arg1, .int x2, .int x3] [(a_arg0, .inl (y.1, n_arg0, .inl c_arg0)), (a_arg1, .inl (y.2.2.1, n_arg1, .inl c_arg1))] (zE (some (.int out)) [(a_arg0, .inl (y.1, n_arg0, .inl c_arg0)), (a_arg1, .inl (y.2.2.1, n_arg1, .inl c_arg1))]) := by
  refine zmk (by decide) (Nat.le_of_ble_eq_true rfl) ?_
  intro p e s m args below meth c A Q ls X hQ hnm hP hD hS hl
  have X : zX p s m args meth c D y A RX9 cX9_freeBy 6 (some .int) := X
  obtain ⟨hx, hb, hr, hml, hown, hts, hK, hA, hlocks⟩ := id X
  have hl : lv_has ls 6 [(0, .ref a_arg0), (1, .ref a_arg1), (2, .int x2), (3, .int x3)] := hl
  have L6 : ∀ (n : Nat) (x2 : Int32) (x3 : Int32) (x4 : Int32) (x5 : Int32) (x : (Int32)), zit (fun d => zf_X9_freeBy_l6 c_arg0 c_arg1 n_arg0 n_arg1 x2 x3 d.1 d.2) n (x4, x5) = some x → ∀ (H : Heap) (locs : List Loc) (ls : Array Slot), lv_has ls 6 [(0, .ref a_arg0), (1, .ref a_arg1), (2, .int x2), (3, .int x3), (4, .int x4), (5, .int x5)] → va_P D vwCl [(a_arg0, .inl (y.1, n_arg0, .inl c_arg0)), (a_arg1, .inl (y.2.2.1, n_arg1, .inl c_arg1))] H → va_D A [(a_arg0, .inl (y.1, n_arg0, .inl c_arg0)), (a_arg1, .inl (y.2.2.1, n_arg1, .inl c_arg1))] → va_S A s.heap H locs → (∀ (H : Heap) (locs : List Loc) (ls : Array Slot), lv_has ls 6 [(4, .int x)] → va_P D vwCl [(a_arg0, .inl (y.1, n_arg0, .inl c_arg0)), (a_arg1, .inl (y.2.2.1, n_arg1, .inl c_arg1))] H → va_D A [(a_arg0, .inl (y.1, n_arg0, .inl c_arg0)), (a_arg1, .inl (y.2.2.1, n_arg1, .inl c_arg1))] → va_S A s.heap H locs → W p l e rm_X9_freeBy s m args below meth c H locs 0 0 Q (F0 m 49 ls [])) → W p l e rm_X9_freeBy s m args below meth c H locs 0 0 Q (F0 m 6 ls []) := by
    intro n
    induction n with
    | zero => intro x2 x3 x4 x5 x h; exact (zi0 h).elim
    | succ n ih =>
      intro x2 x3 x4 x5 x h H locs ls hl hP hD hS K49
      obtain ⟨r, hf, h⟩ := zis h
      have hf : zf_X9_freeBy_l6 c_arg0 c_arg1 n_arg0 n_arg1 x2 x3 x4 x5 = some r := hf
      have J40 : ∀ (x5 : Int32) (s0 : Int32) (s1 : Int32), zf_X9_freeBy_40 x5 s0 s1 = some r → ∀ (H : Heap) (locs : List Loc) (ls : Array Slot), lv_has ls 6 [(0, .ref a_arg0), (1, .ref a_arg1), (2, .int x2), (3, .int x3), (5, .int x5)] → va_P D vwCl [(a_arg0, .inl (y.1, n_arg0, .inl c_arg0)), (a_arg1, .inl (y.2.2.1, n_arg1, .inl c_arg1))] H → va_D A [(a_arg0, .inl (y.1, n_arg0, .inl c_arg0)), (a_arg1, .inl (y.2.2.1, n_arg1, .inl c_arg1))] → va_S A s.heap H locs → W p l e rm_X9_freeBy s m args below meth c H locs 0 0 Q (F0 m 40 ls [.int s1, .int s0]) := by
        intro x5 s0 s1 hf H locs ls hl hP hD hS
        unfold zf_X9_freeBy_40 at hf
        refine lv_iadd hx hb dX9_freeBy_40 ?_
        refine lv_istore (lv' := [(4, .int (s0 + s1)), (0, .ref a_arg0), (1, .ref a_arg1), (2, .int x2), (3, .int x3), (5, .int x5)]) hx hb dX9_freeBy_41 hl (by decide) rfl (fun ls hl => ?_)
        refine lv_iinc (v := x5 + (1 : Int32)) (lv' := [(5, .int (x5 + (1 : Int32))), (4, .int (s0 + s1)), (0, .ref a_arg0), (1, .ref a_arg1), (2, .int x2), (3, .int x3)]) hx hb dX9_freeBy_43 hl (k := 5) rfl rfl (by decide) rfl (fun ls hl => ?_)
        refine lv_goto (tgt := 6) hx hb dX9_freeBy_46 (by decide) ?_
        obtain rfl := Option.some.inj hf
        exact ih x2 x3 (s0 + s1) (x5 + (1 : Int32)) x h _ _ _ (lv_sub hl [2, 3, 4, 5, 1, 0] rfl) hP hD hS K49
      have J39 : ∀ (x5 : Int32) (s0 : Int32), zf_X9_freeBy_39 x5 s0 = some r → ∀ (H : Heap) (locs : List Loc) (ls : Array Slot), lv_has ls 6 [(0, .ref a_arg0), (1, .ref a_arg1), (2, .int x2), (3, .int x3), (5, .int x5)] → va_P D vwCl [(a_arg0, .inl (y.1, n_arg0, .inl c_arg0)), (a_arg1, .inl (y.2.2.1, n_arg1, .inl c_arg1))] H → va_D A [(a_arg0, .inl (y.1, n_arg0, .inl c_arg0)), (a_arg1, .inl (y.2.2.1, n_arg1, .inl c_arg1))] → va_S A s.heap H locs → W p l e rm_X9_freeBy s m args below meth c H locs 0 0 Q (F0 m 39 ls [.int s0]) := by
        intro x5 s0 hf H locs ls hl hP hD hS
        unfold zf_X9_freeBy_39 at hf
        refine lv_iconst (v := 0) hx hb dX9_freeBy_39 (by decide) ?_
        exact J40 x5 s0 (0 : Int32) hf _ _ _ hl hP hD hS
      unfold zf_X9_freeBy_l6 at hf
      refine lv_iload hx hb dX9_freeBy_6 (lv_at hl 5 rfl) ?_
      refine lv_bipush (v := 50) hx hb dX9_freeBy_8 (by decide) ?_
      refine lv_icmp_ge (tgt := 49) hx hb dX9_freeBy_10 (by decide) (fun c10 => ?_) (fun c10 => ?_)
      · replace hf := zt c10 hf
        obtain rfl := Option.some.inj hf
        obtain rfl := Option.some.inj h
        exact K49 _ _ _ (lv_sub hl [4] rfl) hP hD hS
      · replace hf := ze c10 hf
        refine lv_iload hx hb dX9_freeBy_13 (lv_at hl 4 rfl) ?_
        refine lv_iload hx hb dX9_freeBy_15 (lv_at hl 5 rfl) ?_
        refine lv_iload_n hx hb dX9_freeBy_17 rfl (lv_at hl 2 rfl) ?_
        refine lv_iload_n hx hb dX9_freeBy_18 rfl (lv_at hl 3 rfl) ?_
        obtain ⟨o19, ho19, hf⟩ := zb hf
        refine zcS1 (wr := [(a_arg0, .inl (y.1, n_arg0, .inl c_arg0)), (a_arg1, .inl (y.2.2.1, n_arg1, .inl c_arg1))]) (rest := [.int x4]) X (zc_X9_isThere l D y x5 x2 x3 o19 ho19) kf_RX9_197 ⟨(Nat.le_of_ble_eq_true rfl), (Nat.le_of_ble_eq_true rfl)⟩ hP hD hS [] [0, 1] rfl rfl rfl rfl (by decide) rfl rfl hl.1 (Nat.le_of_ble_eq_true rfl) dX9_freeBy_19 ⟨(Nat.le_of_ble_eq_true rfl), (Nat.le_of_ble_eq_true rfl)⟩ (fun H locs hP hD hS => ?_)
        have hP : va_P D vwCl [(a_arg0, .inl (y.1, n_arg0, .inl c_arg0)), (a_arg1, .inl (y.2.2.1, n_arg1, .inl c_arg1))] H := hP
        have hD : va_D A [(a_arg0, .inl (y.1, n_arg0, .inl c_arg0)), (a_arg1, .inl (y.2.2.1, n_arg1, .inl c_arg1))] := hD
        refine lv_if_eq (tgt := 39) hx hb dX9_freeBy_22 (by decide) (fun c22 => ?_) (fun c22 => ?_)
        · replace hf := zt c22 hf
          exact J39 x5 x4 hf _ _ _ (lv_sub hl [0, 1, 2, 3, 5] rfl) hP hD hS
        · replace hf := ze c22 hf
          refine lv_aload_n hx hb dX9_freeBy_25 rfl (lv_at hl 0 rfl) ?_
          refine lv_aload_n hx hb dX9_freeBy_26 rfl (lv_at hl 1 rfl) ?_
          refine lv_iload hx hb dX9_freeBy_27 (lv_at hl 5 rfl) ?_
          obtain ⟨o29, ho29, hf⟩ := zb hf
          refine zcS1 (wr := []) (rest := [.int x4]) X (zc_X9_howBy l D y a_arg0 a_arg1 n_arg0 n_arg1 c_arg0 c_arg1 x5 o29 ho29) kf_RX9_200 ⟨(Nat.le_of_ble_eq_true rfl), (Nat.le_of_ble_eq_true rfl)⟩ hP hD hS [0, 1] [] rfl rfl rfl rfl (by decide) rfl rfl hl.1 (Nat.le_of_ble_eq_true rfl) dX9_freeBy_29 ⟨(Nat.le_of_ble_eq_true rfl), (Nat.le_of_ble_eq_true rfl)⟩ (fun H locs hP hD hS => ?_)
          have hP : va_P D vwCl [(a_arg0, .inl (y.1, n_arg0, .inl c_arg0)), (a_arg1, .inl (y.2.2.1, n_arg1, .inl c_arg1))] H := hP
          have hD : va_D A [(a_arg0, .inl (y.1, n_arg0, .inl c_arg0)), (a_arg1, .inl (y.2.2.1, n_arg1, .inl c_arg1))] := hD
          refine lv_if_ne (tgt := 39) hx hb dX9_freeBy_32 (by decide) (fun c32 => ?_) (fun c32 => ?_)
          · replace hf := ze c32 hf
            exact J39 x5 x4 hf _ _ _ (lv_sub hl [0, 1, 2, 3, 5] rfl) hP hD hS
          · replace hf := zt c32 hf
            refine lv_iconst (v := 1) hx hb dX9_freeBy_35 (by decide) ?_
            refine lv_goto (tgt := 40) hx hb dX9_freeBy_36 (by decide) ?_
            exact J40 x5 x4 (1 : Int32) hf _ _ _ (lv_sub hl [0, 1, 2, 3, 5] rfl) hP hD hS
  unfold zf_X9_freeBy at hf
  refine lv_iconst (v := 0) hx hb dX9_freeBy_0 (by decide) ?_
  refine lv_istore (lv' := [(4, .int (0 : Int32)), (0, .ref a_arg0), (1, .ref a_arg1), (2, .int x2), (3, .int x3)]) hx hb dX9_freeBy_1 hl (by decide) rfl (fun ls hl => ?_)
  refine lv_iconst (v := 0) hx hb dX9_freeBy_3 (by decide) ?_
  refine lv_istore (lv' := [(5, .int (0 : Int32)), (4, .int (0 : Int32)), (0, .ref a_arg0), (1, .ref a_arg1), (2, .int x2), (3, .int x3)]) hx hb dX9_freeBy_4 hl (by decide) rfl (fun ls hl => ?_)
  obtain ⟨o6, ho6, hf⟩ := zb hf
  refine L6 zfu x2 x3 (0 : Int32) (0 : Int32) o6 ho6 _ _ _ (lv_sub hl [2, 3, 4, 5, 1, 0] rfl) hP hD hS (fun H locs ls hl hP hD hS => ?_)
  refine lv_iload hx hb dX9_freeBy_49 (lv_at hl 0 rfl) ?_
  obtain rfl := Option.some.inj hf
  exact zreti X hQ hP hD hS ⟨rfl, rfl⟩ rfl dX9_freeBy_51 (Nat.le_of_ble_eq_true rfl) (Nat.le_of_ble_eq_true rfl)

theorem kf_RX9_180 : zCB RX9 180 yX9_freeBy cX9_freeBy 6 (some .int) 4 ∧ Cond.static yX9_freeBy ∈ wAll := ⟨⟨q_1529, q_9, q_1527, by decide +kernel⟩, q_1528⟩
abbrev rm_X9_free : Room := { frames := 4, cells := 0, slots := 0, locals := 87 }
def zf_X9_free (f_columns : Int32) (f_rows : Int32) (c_told : Nat → Int32) (c_stone : Nat → Int32) : Option (Int32) :=
  (zf_X9_freeBy c_told c_stone 50 25 f_columns f_rows).bind fun o16 =>
  some o16
set_option maxHeartbeats 4000000 in
set_option maxRecDepth 100000 in
theorem zc_X9_free (l : Launch) (D : va_G) (y : zY) (a_this a_tape a_newTold a_newHas a_newStone a_told a_stone a_pastTold a_pastStone a_pastColumns a_pastRows a_many a_number a_ways a_placeOf a_label a_old a_isOpen a_freeOnes a_joins a_given a_decided a_wet a_order a_kept a_written : Nat) (f_thrown : Int32) (f_taped : Int32) (f_size : Int32) (f_at : Int32) (f_fault : Int32) (f_newColumns : Int32) (f_newRows : Int32) (f_columns : Int32) (f_rows : Int32) (f_acts : Int32) (f_isLaid : Int32) (f_seed : Int32) (f_frees : Int32) (f_isKept : Int32) (f_keptHalf : Int32) (f_keptFree : Int32) (f_writtenMany : Int32) (c_told : Nat → Int32) (c_stone : Nat → Int32) (out : Int32) (hf : zf_X9_free f_columns f_rows c_told c_stone = some out) : zC l D y yX9_free cX9_free 1 (some .int) rm_X9_free [.ref a_this] [(a_this, .inr (9, .int f_thrown :: .ref a_tape :: .int f_taped :: .int f_size :: .int f_at :: .int f_fault :: .int f_newColumns :: .int f_newRows :: .ref a_newTold :: .ref a_newHas :: .ref a_newStone :: .int f_columns :: .int f_rows :: .ref a_told :: .ref a_stone :: .int f_acts :: .ref a_pastTold :: .ref a_pastStone :: .ref a_pastColumns :: .ref a_pastRows :: .int f_isLaid :: .ref a_many :: .ref a_number :: .ref a_ways :: .ref a_placeOf :: .ref a_label :: .ref a_old :: .ref a_isOpen :: .ref a_freeOnes :: .ref a_joins :: .ref a_given :: .ref a_decided :: .ref a_wet :: .int f_seed :: .int f_frees :: .ref a_order :: .int f_isKept :: .int f_keptHalf :: .int f_keptFree :: .ref a_kept :: .ref a_written :: .int f_writtenMany :: [])), (a_told, .inl (y.1, 50, .inl c_told)), (a_stone, .inl (y.2.2.1, 25, .inl c_stone))] (zE (some (.int out)) [(a_this, .inr (9, .int f_thrown :: .ref a_tape :: .int f_taped :: .int f_size :: .int f_at :: .int f_fault :: .int f_newColumns :: .int f_newRows :: .ref a_newTold :: .ref a_newHas :: .ref a_newStone :: .int f_columns :: .int f_rows :: .ref a_told :: .ref a_stone :: .int f_acts :: .ref a_pastTold :: .ref a_pastStone :: .ref a_pastColumns :: .ref a_pastRows :: .int f_isLaid :: .ref a_many :: .ref a_number :: .ref a_ways :: .ref a_placeOf :: .ref a_label :: .ref a_old :: .ref a_isOpen :: .ref a_freeOnes :: .ref a_joins :: .ref a_given :: .ref a_decided :: .ref a_wet :: .int f_seed :: .int f_frees :: .ref a_order :: .int f_isKept :: .int f_keptHalf :: .int f_keptFree :: .ref a_kept :: .ref a_written :: .int f_writtenMany :: [])), (a_told, .inl (y.1, 50, .inl c_told)), (a_stone, .inl (y.2.2.1, 25, .inl c_stone))]) := by
  refine zmk (by decide) (Nat.le_of_ble_eq_true rfl) ?_
  intro p e s m args below meth c A Q ls X hQ hnm hP hD hS hl
  have X : zX p s m args meth c D y A RX9 cX9_free 1 (some .int) := X
  obtain ⟨hx, hb, hr, hml, hown, hts, hK, hA, hlocks⟩ := id X
  have hl : lv_has ls 1 [(0, .ref a_this)] := hl
  unfold zf_X9_free at hf
  refine lv_aload_n hx hb dX9_free_0 rfl (lv_at hl 0 rfl) ?_
  refine zget X hP 0 rfl rfl inF9 13 (by decide) q_1345 rfl dX9_free_1 ?_
  refine lv_aload_n hx hb dX9_free_4 rfl (lv_at hl 0 rfl) ?_
  refine zget X hP 0 rfl rfl inF9 14 (by decide) q_1346 rfl dX9_free_5 ?_
  refine lv_aload_n hx hb dX9_free_8 rfl (lv_at hl 0 rfl) ?_
  refine zget X hP 0 rfl rfl inF9 11 (by decide) q_1343 rfl dX9_free_9 ?_
  refine lv_aload_n hx hb dX9_free_12 rfl (lv_at hl 0 rfl) ?_
  refine zget X hP 0 rfl rfl inF9 12 (by decide) q_1344 rfl dX9_free_13 ?_
  obtain ⟨o16, ho16, hf⟩ := zb hf
  refine zcS1 (wr := [(a_this, .inr (9, .int f_thrown :: .ref a_tape :: .int f_taped :: .int f_size :: .int f_at :: .int f_fault :: .int f_newColumns :: .int f_newRows :: .ref a_newTold :: .ref a_newHas :: .ref a_newStone :: .int f_columns :: .int f_rows :: .ref a_told :: .ref a_stone :: .int f_acts :: .ref a_pastTold :: .ref a_pastStone :: .ref a_pastColumns :: .ref a_pastRows :: .int f_isLaid :: .ref a_many :: .ref a_number :: .ref a_ways :: .ref a_placeOf :: .ref a_label :: .ref a_old :: .ref a_isOpen :: .ref a_freeOnes :: .ref a_joins :: .ref a_given :: .ref a_decided :: .ref a_wet :: .int f_seed :: .int f_frees :: .ref a_order :: .int f_isKept :: .int f_keptHalf :: .int f_keptFree :: .ref a_kept :: .ref a_written :: .int f_writtenMany :: []))]) (rest := []) X (zc_X9_freeBy l D y a_told a_stone 50 25 c_told c_stone f_columns f_rows o16 ho16) kf_RX9_180 ⟨(Nat.le_of_ble_eq_true rfl), (Nat.le_of_ble_eq_true rfl)⟩ hP hD hS [1, 2] [0] rfl rfl rfl rfl (by decide) rfl rfl hl.1 (Nat.le_of_ble_eq_true rfl) dX9_free_16 ⟨(Nat.le_of_ble_eq_true rfl), (Nat.le_of_ble_eq_true rfl)⟩ (fun H locs hP hD hS => ?_)
  have hP : va_P D vwCl [(a_this, .inr (9, .int f_thrown :: .ref a_tape :: .int f_taped :: .int f_size :: .int f_at :: .int f_fault :: .int f_newColumns :: .int f_newRows :: .ref a_newTold :: .ref a_newHas :: .ref a_newStone :: .int f_columns :: .int f_rows :: .ref a_told :: .ref a_stone :: .int f_acts :: .ref a_pastTold :: .ref a_pastStone :: .ref a_pastColumns :: .ref a_pastRows :: .int f_isLaid :: .ref a_many :: .ref a_number :: .ref a_ways :: .ref a_placeOf :: .ref a_label :: .ref a_old :: .ref a_isOpen :: .ref a_freeOnes :: .ref a_joins :: .ref a_given :: .ref a_decided :: .ref a_wet :: .int f_seed :: .int f_frees :: .ref a_order :: .int f_isKept :: .int f_keptHalf :: .int f_keptFree :: .ref a_kept :: .ref a_written :: .int f_writtenMany :: [])), (a_told, .inl (y.1, 50, .inl c_told)), (a_stone, .inl (y.2.2.1, 25, .inl c_stone))] H := hP
  have hD : va_D A [(a_this, .inr (9, .int f_thrown :: .ref a_tape :: .int f_taped :: .int f_size :: .int f_at :: .int f_fault :: .int f_newColumns :: .int f_newRows :: .ref a_newTold :: .ref a_newHas :: .ref a_newStone :: .int f_columns :: .int f_rows :: .ref a_told :: .ref a_stone :: .int f_acts :: .ref a_pastTold :: .ref a_pastStone :: .ref a_pastColumns :: .ref a_pastRows :: .int f_isLaid :: .ref a_many :: .ref a_number :: .ref a_ways :: .ref a_placeOf :: .ref a_label :: .ref a_old :: .ref a_isOpen :: .ref a_freeOnes :: .ref a_joins :: .ref a_given :: .ref a_decided :: .ref a_wet :: .int f_seed :: .int f_frees :: .ref a_order :: .int f_isKept :: .int f_keptHalf :: .int f_keptFree :: .ref a_kept :: .ref a_written :: .int f_writtenMany :: [])), (a_told, .inl (y.1, 50, .inl c_told)), (a_stone, .inl (y.2.2.1, 25, .inl c_stone))] := hD
  obtain rfl := Option.some.inj hf
  exact zreti X hQ hP hD hS ⟨rfl, rfl⟩ rfl dX9_free_19 (Nat.le_of_ble_eq_true rfl) (Nat.le_of_ble_eq_true rfl)


abbrev rm_X9_fault : Room := { frames := 0, cells := 0, slots := 0, locals := 0 }
def zf_X9_fault (f_fault : Int32) : Option (Int32 × Int32) :=
  some (f_fault, (0 : Int32))
set_option maxHeartbeats 4000000 in
set_option maxRecDepth 100000 in
theorem zc_X9_fault (l : Launch) (D : va_G) (y : zY) (a_this a_tape a_newTold a_newHas a_newStone a_told a_stone a_pastTold a_pastStone a_pastColumns a_pastRows a_many a_number a_ways a_placeOf a_label a_old a_isOpen a_freeOnes a_joins a_given a_decided a_wet a_order a_kept a_written : Nat) (f_thrown : Int32) (f_taped : Int32) (f_size : Int32) (f_at : Int32) (f_fault : Int32) (f_newColumns : Int32) (f_newRows : Int32) (f_columns : Int32) (f_rows : Int32) (f_acts : Int32) (f_isLaid : Int32) (f_seed : Int32) (f_frees : Int32) (f_isKept : Int32) (f_keptHalf : Int32) (f_keptFree : Int32) (f_writtenMany : Int32) (out : Int32 × Int32) (hf : zf_X9_fault f_fault = some out) : zC l D y yX9_fault cX9_fault 1 (some .int) rm_X9_fault [.ref a_this] [(a_this, .inr (9, .int f_thrown :: .ref a_tape :: .int f_taped :: .int f_size :: .int f_at :: .int f_fault :: .int f_newColumns :: .int f_newRows :: .ref a_newTold :: .ref a_newHas :: .ref a_newStone :: .int f_columns :: .int f_rows :: .ref a_told :: .ref a_stone :: .int f_acts :: .ref a_pastTold :: .ref a_pastStone :: .ref a_pastColumns :: .ref a_pastRows :: .int f_isLaid :: .ref a_many :: .ref a_number :: .ref a_ways :: .ref a_placeOf :: .ref a_label :: .ref a_old :: .ref a_isOpen :: .ref a_freeOnes :: .ref a_joins :: .ref a_given :: .ref a_decided :: .ref a_wet :: .int f_seed :: .int f_frees :: .ref a_order :: .int f_isKept :: .int f_keptHalf :: .int f_keptFree :: .ref a_kept :: .ref a_written :: .int f_writtenMany :: []))] (zE (some (.int out.1)) [(a_this, .inr (9, .int out.2 :: .ref a_tape :: .int f_taped :: .int f_size :: .int f_at :: .int f_fault :: .int f_newColumns :: .int f_newRows :: .ref a_newTold :: .ref a_newHas :: .ref a_newStone :: .int f_columns :: .int f_rows :: .ref a_told :: .ref a_stone :: .int f_acts :: .ref a_pastTold :: .ref a_pastStone :: .ref a_pastColumns :: .ref a_pastRows :: .int f_isLaid :: .ref a_many :: .ref a_number :: .ref a_ways :: .ref a_placeOf :: .ref a_label :: .ref a_old :: .ref a_isOpen :: .ref a_freeOnes :: .ref a_joins :: .ref a_given :: .ref a_decided :: .ref a_wet :: .int f_seed :: .int f_frees :: .ref a_order :: .int f_isKept :: .int f_keptHalf :: .int f_keptFree :: .ref a_kept :: .ref a_written :: .int f_writtenMany :: []))]) := by
  refine zmk (by decide) (Nat.le_of_ble_eq_true rfl) ?_
  intro p e s m args below meth c A Q ls X hQ hnm hP hD hS hl
  have X : zX p s m args meth c D y A RX9 cX9_fault 1 (some .int) := X
  obtain ⟨hx, hb, hr, hml, hown, hts, hK, hA, hlocks⟩ := id X
  have hl : lv_has ls 1 [(0, .ref a_this)] := hl
  unfold zf_X9_fault at hf
  refine lv_aload_n hx hb dX9_fault_0 rfl (lv_at hl 0 rfl) ?_
  refine lv_iconst (v := 0) hx hb dX9_fault_1 (by decide) ?_
  refine zput (ty := .int) X hP hD hS 0 rfl rfl inF9 tyX9_ok nmX9 0 (by decide) q_1332 rfl rfl rfl rfl (Nat.le_of_ble_eq_true rfl) dX9_fault_2 (fun H locs hP hD hS => ?_)
  have hP : va_P D vwCl [(a_this, .inr (9, .int (0 : Int32) :: .ref a_tape :: .int f_taped :: .int f_size :: .int f_at :: .int f_fault :: .int f_newColumns :: .int f_newRows :: .ref a_newTold :: .ref a_newHas :: .ref a_newStone :: .int f_columns :: .int f_rows :: .ref a_told :: .ref a_stone :: .int f_acts :: .ref a_pastTold :: .ref a_pastStone :: .ref a_pastColumns :: .ref a_pastRows :: .int f_isLaid :: .ref a_many :: .ref a_number :: .ref a_ways :: .ref a_placeOf :: .ref a_label :: .ref a_old :: .ref a_isOpen :: .ref a_freeOnes :: .ref a_joins :: .ref a_given :: .ref a_decided :: .ref a_wet :: .int f_seed :: .int f_frees :: .ref a_order :: .int f_isKept :: .int f_keptHalf :: .int f_keptFree :: .ref a_kept :: .ref a_written :: .int f_writtenMany :: []))] H := hP
  have hD : va_D A [(a_this, .inr (9, .int (0 : Int32) :: .ref a_tape :: .int f_taped :: .int f_size :: .int f_at :: .int f_fault :: .int f_newColumns :: .int f_newRows :: .ref a_newTold :: .ref a_newHas :: .ref a_newStone :: .int f_columns :: .int f_rows :: .ref a_told :: .ref a_stone :: .int f_acts :: .ref a_pastTold :: .ref a_pastStone :: .ref a_pastColumns :: .ref a_pastRows :: .int f_isLaid :: .ref a_many :: .ref a_number :: .ref a_ways :: .ref a_placeOf :: .ref a_label :: .ref a_old :: .ref a_isOpen :: .ref a_freeOnes :: .ref a_joins :: .ref a_given :: .ref a_decided :: .ref a_wet :: .int f_seed :: .int f_frees :: .ref a_order :: .int f_isKept :: .int f_keptHalf :: .int f_keptFree :: .ref a_kept :: .ref a_written :: .int f_writtenMany :: []))] := hD
  refine lv_aload_n hx hb dX9_fault_5 rfl (lv_at hl 0 rfl) ?_
  refine zget X hP 0 rfl rfl inF9 5 (by decide) q_1337 rfl dX9_fault_6 ?_
  obtain rfl := Option.some.inj hf
  exact zreti X hQ hP hD hS ⟨rfl, rfl⟩ rfl dX9_fault_9 (Nat.le_of_ble_eq_true rfl) (Nat.le_of_ble_eq_true rfl)


abbrev rm_X9_how : Room := { frames := 3, cells := 0, slots := 0, locals := 62 }
def zf_X9_how (c_told : Nat → Int32) (c_stone : Nat → Int32) (x1 : Int32) : Option (Int32) :=
  (zf_X9_howBy c_told c_stone 50 25 x1).bind fun o9 =>
  some o9
set_option maxHeartbeats 4000000 in
set_option maxRecDepth 100000 in
theorem zc_X9_how (l : Launch) (D : va_G) (y : zY) (a_this a_tape a_newTold a_newHas a_newStone a_told a_stone a_pastTold a_pastStone a_pastColumns a_pastRows a_many a_number a_ways a_placeOf a_label a_old a_isOpen a_freeOnes a_joins a_given a_decided a_wet a_order a_kept a_written : Nat) (f_thrown : Int32) (f_taped : Int32) (f_size : Int32) (f_at : Int32) (f_fault : Int32) (f_newColumns : Int32) (f_newRows : Int32) (f_columns : Int32) (f_rows : Int32) (f_acts : Int32) (f_isLaid : Int32) (f_seed : Int32) (f_frees : Int32) (f_isKept : Int32) (f_keptHalf : Int32) (f_keptFree : Int32) (f_writtenMany : Int32) (c_told : Nat → Int32) (c_stone : Nat → Int32) (x1 : Int32) (out : Int32) (hf : zf_X9_how c_told c_stone x1 = some out) : zC l D y yX9_how cX9_how 2 (some .int) rm_X9_how [.ref a_this, .int x1] [(a_this, .inr (9, .int f_thrown :: .ref a_tape :: .int f_taped :: .int f_size :: .int f_at :: .int f_fault :: .int f_newColumns :: .int f_newRows :: .ref a_newTold :: .ref a_newHas :: .ref a_newStone :: .int f_columns :: .int f_rows :: .ref a_told :: .ref a_stone :: .int f_acts :: .ref a_pastTold :: .ref a_pastStone :: .ref a_pastColumns :: .ref a_pastRows :: .int f_isLaid :: .ref a_many :: .ref a_number :: .ref a_ways :: .ref a_placeOf :: .ref a_label :: .ref a_old :: .ref a_isOpen :: .ref a_freeOnes :: .ref a_joins :: .ref a_given :: .ref a_decided :: .ref a_wet :: .int f_seed :: .int f_frees :: .ref a_order :: .int f_isKept :: .int f_keptHalf :: .int f_keptFree :: .ref a_kept :: .ref a_written :: .int f_writtenMany :: [])), (a_told, .inl (y.1, 50, .inl c_told)), (a_stone, .inl (y.2.2.1, 25, .inl c_stone))] (zE (some (.int out)) [(a_this, .inr (9, .int f_thrown :: .ref a_tape :: .int f_taped :: .int f_size :: .int f_at :: .int f_fault :: .int f_newColumns :: .int f_newRows :: .ref a_newTold :: .ref a_newHas :: .ref a_newStone :: .int f_columns :: .int f_rows :: .ref a_told :: .ref a_stone :: .int f_acts :: .ref a_pastTold :: .ref a_pastStone :: .ref a_pastColumns :: .ref a_pastRows :: .int f_isLaid :: .ref a_many :: .ref a_number :: .ref a_ways :: .ref a_placeOf :: .ref a_label :: .ref a_old :: .ref a_isOpen :: .ref a_freeOnes :: .ref a_joins :: .ref a_given :: .ref a_decided :: .ref a_wet :: .int f_seed :: .int f_frees :: .ref a_order :: .int f_isKept :: .int f_keptHalf :: .int f_keptFree :: .ref a_kept :: .ref a_written :: .int f_writtenMany :: [])), (a_told, .inl (y.1, 50, .inl c_told)), (a_stone, .inl (y.2.2.1, 25, .inl c_stone))]) := by
  refine zmk (by decide) (Nat.le_of_ble_eq_true rfl) ?_
  intro p e s m args below meth c A Q ls X hQ hnm hP hD hS hl
  have X : zX p s m args meth c D y A RX9 cX9_how 2 (some .int) := X
  obtain ⟨hx, hb, hr, hml, hown, hts, hK, hA, hlocks⟩ := id X
  have hl : lv_has ls 2 [(0, .ref a_this), (1, .int x1)] := hl
  unfold zf_X9_how at hf
  refine lv_aload_n hx hb dX9_how_0 rfl (lv_at hl 0 rfl) ?_
  refine zget X hP 0 rfl rfl inF9 13 (by decide) q_1345 rfl dX9_how_1 ?_
  refine lv_aload_n hx hb dX9_how_4 rfl (lv_at hl 0 rfl) ?_
  refine zget X hP 0 rfl rfl inF9 14 (by decide) q_1346 rfl dX9_how_5 ?_
  refine lv_iload_n hx hb dX9_how_8 rfl (lv_at hl 1 rfl) ?_
  obtain ⟨o9, ho9, hf⟩ := zb hf
  refine zcS1 (wr := [(a_this, .inr (9, .int f_thrown :: .ref a_tape :: .int f_taped :: .int f_size :: .int f_at :: .int f_fault :: .int f_newColumns :: .int f_newRows :: .ref a_newTold :: .ref a_newHas :: .ref a_newStone :: .int f_columns :: .int f_rows :: .ref a_told :: .ref a_stone :: .int f_acts :: .ref a_pastTold :: .ref a_pastStone :: .ref a_pastColumns :: .ref a_pastRows :: .int f_isLaid :: .ref a_many :: .ref a_number :: .ref a_ways :: .ref a_placeOf :: .ref a_label :: .ref a_old :: .ref a_isOpen :: .ref a_freeOnes :: .ref a_joins :: .ref a_given :: .ref a_decided :: .ref a_wet :: .int f_seed :: .int f_frees :: .ref a_order :: .int f_isKept :: .int f_keptHalf :: .int f_keptFree :: .ref a_kept :: .ref a_written :: .int f_writtenMany :: []))]) (rest := []) X (zc_X9_howBy l D y a_told a_stone 50 25 c_told c_stone x1 o9 ho9) kf_RX9_200 ⟨(Nat.le_of_ble_eq_true rfl), (Nat.le_of_ble_eq_true rfl)⟩ hP hD hS [1, 2] [0] rfl rfl rfl rfl (by decide) rfl rfl hl.1 (Nat.le_of_ble_eq_true rfl) dX9_how_9 ⟨(Nat.le_of_ble_eq_true rfl), (Nat.le_of_ble_eq_true rfl)⟩ (fun H locs hP hD hS => ?_)
  have hP : va_P D vwCl [(a_this, .inr (9, .int f_thrown :: .ref a_tape :: .int f_taped :: .int f_size :: .int f_at :: .int f_fault :: .int f_newColumns :: .int f_newRows :: .ref a_newTold :: .ref a_newHas :: .ref a_newStone :: .int f_columns :: .int f_rows :: .ref a_told :: .ref a_stone :: .int f_acts :: .ref a_pastTold :: .ref a_pastStone :: .ref a_pastColumns :: .ref a_pastRows :: .int f_isLaid :: .ref a_many :: .ref a_number :: .ref a_ways :: .ref a_placeOf :: .ref a_label :: .ref a_old :: .ref a_isOpen :: .ref a_freeOnes :: .ref a_joins :: .ref a_given :: .ref a_decided :: .ref a_wet :: .int f_seed :: .int f_frees :: .ref a_order :: .int f_isKept :: .int f_keptHalf :: .int f_keptFree :: .ref a_kept :: .ref a_written :: .int f_writtenMany :: [])), (a_told, .inl (y.1, 50, .inl c_told)), (a_stone, .inl (y.2.2.1, 25, .inl c_stone))] H := hP
  have hD : va_D A [(a_this, .inr (9, .int f_thrown :: .ref a_tape :: .int f_taped :: .int f_size :: .int f_at :: .int f_fault :: .int f_newColumns :: .int f_newRows :: .ref a_newTold :: .ref a_newHas :: .ref a_newStone :: .int f_columns :: .int f_rows :: .ref a_told :: .ref a_stone :: .int f_acts :: .ref a_pastTold :: .ref a_pastStone :: .ref a_pastColumns :: .ref a_pastRows :: .int f_isLaid :: .ref a_many :: .ref a_number :: .ref a_ways :: .ref a_placeOf :: .ref a_label :: .ref a_old :: .ref a_isOpen :: .ref a_freeOnes :: .ref a_joins :: .ref a_given :: .ref a_decided :: .ref a_wet :: .int f_seed :: .int f_frees :: .ref a_order :: .int f_isKept :: .int f_keptHalf :: .int f_keptFree :: .ref a_kept :: .ref a_written :: .int f_writtenMany :: [])), (a_told, .inl (y.1, 50, .inl c_told)), (a_stone, .inl (y.2.2.1, 25, .inl c_stone))] := hD
  obtain rfl := Option.some.inj hf
  exact zreti X hQ hP hD hS ⟨rfl, rfl⟩ rfl dX9_how_12 (Nat.le_of_ble_eq_true rfl) (Nat.le_of_ble_eq_true rfl)


abbrev rm_X9_isPipe : Room := { frames := 1, cells := 0, slots := 0, locals := 25 }
def zf_X9_isPipe (f_columns : Int32) (f_rows : Int32) (x1 : Int32) : Option (Int32) :=
  (zf_X9_isThere x1 f_columns f_rows).bind fun o9 =>
  if zbit o9 = true then some o9 else none
set_option maxHeartbeats 4000000 in
set_option maxRecDepth 100000 in
theorem zc_X9_isPipe (l : Launch) (D : va_G) (y : zY) (a_this a_tape a_newTold a_newHas a_newStone a_told a_stone a_pastTold a_pastStone a_pastColumns a_pastRows a_many a_number a_ways a_placeOf a_label a_old a_isOpen a_freeOnes a_joins a_given a_decided a_wet a_order a_kept a_written : Nat) (f_thrown : Int32) (f_taped : Int32) (f_size : Int32) (f_at : Int32) (f_fault : Int32) (f_newColumns : Int32) (f_newRows : Int32) (f_columns : Int32) (f_rows : Int32) (f_acts : Int32) (f_isLaid : Int32) (f_seed : Int32) (f_frees : Int32) (f_isKept : Int32) (f_keptHalf : Int32) (f_keptFree : Int32) (f_writtenMany : Int32) (x1 : Int32) (out : Int32) (hf : zf_X9_isPipe f_columns f_rows x1 = some out) : zC l D y yX9_isPipe cX9_isPipe 2 (some .boolean) rm_X9_isPipe [.ref a_this, .int x1] [(a_this, .inr (9, .int f_thrown :: .ref a_tape :: .int f_taped :: .int f_size :: .int f_at :: .int f_fault :: .int f_newColumns :: .int f_newRows :: .ref a_newTold :: .ref a_newHas :: .ref a_newStone :: .int f_columns :: .int f_rows :: .ref a_told :: .ref a_stone :: .int f_acts :: .ref a_pastTold :: .ref a_pastStone :: .ref a_pastColumns :: .ref a_pastRows :: .int f_isLaid :: .ref a_many :: .ref a_number :: .ref a_ways :: .ref a_placeOf :: .ref a_label :: .ref a_old :: .ref a_isOpen :: .ref a_freeOnes :: .ref a_joins :: .ref a_given :: .ref a_decided :: .ref a_wet :: .int f_seed :: .int f_frees :: .ref a_order :: .int f_isKept :: .int f_keptHalf :: .int f_keptFree :: .ref a_kept :: .ref a_written :: .int f_writtenMany :: []))] (zE (some (.int out)) [(a_this, .inr (9, .int f_thrown :: .ref a_tape :: .int f_taped :: .int f_size :: .int f_at :: .int f_fault :: .int f_newColumns :: .int f_newRows :: .ref a_newTold :: .ref a_newHas :: .ref a_newStone :: .int f_columns :: .int f_rows :: .ref a_told :: .ref a_stone :: .int f_acts :: .ref a_pastTold :: .ref a_pastStone :: .ref a_pastColumns :: .ref a_pastRows :: .int f_isLaid :: .ref a_many :: .ref a_number :: .ref a_ways :: .ref a_placeOf :: .ref a_label :: .ref a_old :: .ref a_isOpen :: .ref a_freeOnes :: .ref a_joins :: .ref a_given :: .ref a_decided :: .ref a_wet :: .int f_seed :: .int f_frees :: .ref a_order :: .int f_isKept :: .int f_keptHalf :: .int f_keptFree :: .ref a_kept :: .ref a_written :: .int f_writtenMany :: []))]) := by
  refine zmk (by decide) (Nat.le_of_ble_eq_true rfl) ?_
  intro p e s m args below meth c A Q ls X hQ hnm hP hD hS hl
  have X : zX p s m args meth c D y A RX9 cX9_isPipe 2 (some .boolean) := X
  obtain ⟨hx, hb, hr, hml, hown, hts, hK, hA, hlocks⟩ := id X
  have hl : lv_has ls 2 [(0, .ref a_this), (1, .int x1)] := hl
  unfold zf_X9_isPipe at hf
  refine lv_iload_n hx hb dX9_isPipe_0 rfl (lv_at hl 1 rfl) ?_
  refine lv_aload_n hx hb dX9_isPipe_1 rfl (lv_at hl 0 rfl) ?_
  refine zget X hP 0 rfl rfl inF9 11 (by decide) q_1343 rfl dX9_isPipe_2 ?_
  refine lv_aload_n hx hb dX9_isPipe_5 rfl (lv_at hl 0 rfl) ?_
  refine zget X hP 0 rfl rfl inF9 12 (by decide) q_1344 rfl dX9_isPipe_6 ?_
  obtain ⟨o9, ho9, hf⟩ := zb hf
  refine zcS1 (wr := [(a_this, .inr (9, .int f_thrown :: .ref a_tape :: .int f_taped :: .int f_size :: .int f_at :: .int f_fault :: .int f_newColumns :: .int f_newRows :: .ref a_newTold :: .ref a_newHas :: .ref a_newStone :: .int f_columns :: .int f_rows :: .ref a_told :: .ref a_stone :: .int f_acts :: .ref a_pastTold :: .ref a_pastStone :: .ref a_pastColumns :: .ref a_pastRows :: .int f_isLaid :: .ref a_many :: .ref a_number :: .ref a_ways :: .ref a_placeOf :: .ref a_label :: .ref a_old :: .ref a_isOpen :: .ref a_freeOnes :: .ref a_joins :: .ref a_given :: .ref a_decided :: .ref a_wet :: .int f_seed :: .int f_frees :: .ref a_order :: .int f_isKept :: .int f_keptHalf :: .int f_keptFree :: .ref a_kept :: .ref a_written :: .int f_writtenMany :: []))]) (rest := []) X (zc_X9_isThere l D y x1 f_columns f_rows o9 ho9) kf_RX9_197 ⟨(Nat.le_of_ble_eq_true rfl), (Nat.le_of_ble_eq_true rfl)⟩ hP hD hS [] [0] rfl rfl rfl rfl (by decide) rfl rfl hl.1 (Nat.le_of_ble_eq_true rfl) dX9_isPipe_9 ⟨(Nat.le_of_ble_eq_true rfl), (Nat.le_of_ble_eq_true rfl)⟩ (fun H locs hP hD hS => ?_)
  have hP : va_P D vwCl [(a_this, .inr (9, .int f_thrown :: .ref a_tape :: .int f_taped :: .int f_size :: .int f_at :: .int f_fault :: .int f_newColumns :: .int f_newRows :: .ref a_newTold :: .ref a_newHas :: .ref a_newStone :: .int f_columns :: .int f_rows :: .ref a_told :: .ref a_stone :: .int f_acts :: .ref a_pastTold :: .ref a_pastStone :: .ref a_pastColumns :: .ref a_pastRows :: .int f_isLaid :: .ref a_many :: .ref a_number :: .ref a_ways :: .ref a_placeOf :: .ref a_label :: .ref a_old :: .ref a_isOpen :: .ref a_freeOnes :: .ref a_joins :: .ref a_given :: .ref a_decided :: .ref a_wet :: .int f_seed :: .int f_frees :: .ref a_order :: .int f_isKept :: .int f_keptHalf :: .int f_keptFree :: .ref a_kept :: .ref a_written :: .int f_writtenMany :: []))] H := hP
  have hD : va_D A [(a_this, .inr (9, .int f_thrown :: .ref a_tape :: .int f_taped :: .int f_size :: .int f_at :: .int f_fault :: .int f_newColumns :: .int f_newRows :: .ref a_newTold :: .ref a_newHas :: .ref a_newStone :: .int f_columns :: .int f_rows :: .ref a_told :: .ref a_stone :: .int f_acts :: .ref a_pastTold :: .ref a_pastStone :: .ref a_pastColumns :: .ref a_pastRows :: .int f_isLaid :: .ref a_many :: .ref a_number :: .ref a_ways :: .ref a_placeOf :: .ref a_label :: .ref a_old :: .ref a_isOpen :: .ref a_freeOnes :: .ref a_joins :: .ref a_given :: .ref a_decided :: .ref a_wet :: .int f_seed :: .int f_frees :: .ref a_order :: .int f_isKept :: .int f_keptHalf :: .int f_keptFree :: .ref a_kept :: .ref a_written :: .int f_writtenMany :: []))] := hD
  obtain ⟨nb12, hf⟩ := zbt hf
  obtain rfl := Option.some.inj hf
  exact zreti X hQ hP hD hS ⟨rfl, rfl⟩ nb12.1 dX9_isPipe_12 (Nat.le_of_ble_eq_true rfl) (Nat.le_of_ble_eq_true rfl)


abbrev rm_X9_isCell : Room := { frames := 1, cells := 0, slots := 0, locals := 22 }
def zf_X9_isCell (f_columns : Int32) (f_rows : Int32) (x1 : Int32) (x2 : Int32) : Option (Int32) :=
  (zf_X9_isIn x1 (0 : Int32) (f_columns - (1 : Int32))).bind fun o8 =>
  if o8 = 0 then (some (0 : Int32)) else ((zf_X9_isIn x2 (0 : Int32) (f_rows - (1 : Int32))).bind fun o22 =>
  if o22 = 0 then (some (0 : Int32)) else (some (1 : Int32)))
set_option maxHeartbeats 4000000 in
set_option maxRecDepth 100000 in
theorem zc_X9_isCell (l : Launch) (D : va_G) (y : zY) (a_this a_tape a_newTold a_newHas a_newStone a_told a_stone a_pastTold a_pastStone a_pastColumns a_pastRows a_many a_number a_ways a_placeOf a_label a_old a_isOpen a_freeOnes a_joins a_given a_decided a_wet a_order a_kept a_written : Nat) (f_thrown : Int32) (f_taped : Int32) (f_size : Int32) (f_at : Int32) (f_fault : Int32) (f_newColumns : Int32) (f_newRows : Int32) (f_columns : Int32) (f_rows : Int32) (f_acts : Int32) (f_isLaid : Int32) (f_seed : Int32) (f_frees : Int32) (f_isKept : Int32) (f_keptHalf : Int32) (f_keptFree : Int32) (f_writtenMany : Int32) (x1 : Int32) (x2 : Int32) (out : Int32) (hf : zf_X9_isCell f_columns f_rows x1 x2 = some out) : zC l D y yX9_isCell cX9_isCell 3 (some .boolean) rm_X9_isCell [.ref a_this, .int x1, .int x2] [(a_this, .inr (9, .int f_thrown :: .ref a_tape :: .int f_taped :: .int f_size :: .int f_at :: .int f_fault :: .int f_newColumns :: .int f_newRows :: .ref a_newTold :: .ref a_newHas :: .ref a_newStone :: .int f_columns :: .int f_rows :: .ref a_told :: .ref a_stone :: .int f_acts :: .ref a_pastTold :: .ref a_pastStone :: .ref a_pastColumns :: .ref a_pastRows :: .int f_isLaid :: .ref a_many :: .ref a_number :: .ref a_ways :: .ref a_placeOf :: .ref a_label :: .ref a_old :: .ref a_isOpen :: .ref a_freeOnes :: .ref a_joins :: .ref a_given :: .ref a_decided :: .ref a_wet :: .int f_seed :: .int f_frees :: .ref a_order :: .int f_isKept :: .int f_keptHalf :: .int f_keptFree :: .ref a_kept :: .ref a_written :: .int f_writtenMany :: []))] (zE (some (.int out)) [(a_this, .inr (9, .int f_thrown :: .ref a_tape :: .int f_taped :: .int f_size :: .int f_at :: .int f_fault :: .int f_newColumns :: .int f_newRows :: .ref a_newTold :: .ref a_newHas :: .ref a_newStone :: .int f_columns :: .int f_rows :: .ref a_told :: .ref a_stone :: .int f_acts :: .ref a_pastTold :: .ref a_pastStone :: .ref a_pastColumns :: .ref a_pastRows :: .int f_isLaid :: .ref a_many :: .ref a_number :: .ref a_ways :: .ref a_placeOf :: .ref a_label :: .ref a_old :: .ref a_isOpen :: .ref a_freeOnes :: .ref a_joins :: .ref a_given :: .ref a_decided :: .ref a_wet :: .int f_seed :: .int f_frees :: .ref a_order :: .int f_isKept :: .int f_keptHalf :: .int f_keptFree :: .ref a_kept :: .ref a_written :: .int f_writtenMany :: []))]) := by
  refine zmk (by decide) (Nat.le_of_ble_eq_true rfl) ?_
  intro p e s m args below meth c A Q ls X hQ hnm hP hD hS hl
  have X : zX p s m args meth c D y A RX9 cX9_isCell 3 (some .boolean) := X
  obtain ⟨hx, hb, hr, hml, hown, hts, hK, hA, hlocks⟩ := id X
  have hl : lv_has ls 3 [(0, .ref a_this), (1, .int x1), (2, .int x2)] := hl
  unfold zf_X9_isCell at hf
  refine lv_iload_n hx hb dX9_isCell_0 rfl (lv_at hl 1 rfl) ?_
  refine lv_iconst (v := 0) hx hb dX9_isCell_1 (by decide) ?_
  refine lv_aload_n hx hb dX9_isCell_2 rfl (lv_at hl 0 rfl) ?_
  refine zget X hP 0 rfl rfl inF9 11 (by decide) q_1343 rfl dX9_isCell_3 ?_
  refine lv_iconst (v := 1) hx hb dX9_isCell_6 (by decide) ?_
  refine lv_isub hx hb dX9_isCell_7 ?_
  obtain ⟨o8, ho8, hf⟩ := zb hf
  refine zcS1 (wr := [(a_this, .inr (9, .int f_thrown :: .ref a_tape :: .int f_taped :: .int f_size :: .int f_at :: .int f_fault :: .int f_newColumns :: .int f_newRows :: .ref a_newTold :: .ref a_newHas :: .ref a_newStone :: .int f_columns :: .int f_rows :: .ref a_told :: .ref a_stone :: .int f_acts :: .ref a_pastTold :: .ref a_pastStone :: .ref a_pastColumns :: .ref a_pastRows :: .int f_isLaid :: .ref a_many :: .ref a_number :: .ref a_ways :: .ref a_placeOf :: .ref a_label :: .ref a_old :: .ref a_isOpen :: .ref a_freeOnes :: .ref a_joins :: .ref a_given :: .ref a_decided :: .ref a_wet :: .int f_seed :: .int f_frees :: .ref a_order :: .int f_isKept :: .int f_keptHalf :: .int f_keptFree :: .ref a_kept :: .ref a_written :: .int f_writtenMany :: []))]) (rest := []) X (zc_X9_isIn l D y x1 (0 : Int32) (f_columns - (1 : Int32)) o8 ho8) kf_RX9_142 ⟨(Nat.le_of_ble_eq_true rfl), (Nat.le_of_ble_eq_true rfl)⟩ hP hD hS [] [0] rfl rfl rfl rfl (by decide) rfl rfl hl.1 (Nat.le_of_ble_eq_true rfl) dX9_isCell_8 ⟨(Nat.le_of_ble_eq_true rfl), (Nat.le_of_ble_eq_true rfl)⟩ (fun H locs hP hD hS => ?_)
  have hP : va_P D vwCl [(a_this, .inr (9, .int f_thrown :: .ref a_tape :: .int f_taped :: .int f_size :: .int f_at :: .int f_fault :: .int f_newColumns :: .int f_newRows :: .ref a_newTold :: .ref a_newHas :: .ref a_newStone :: .int f_columns :: .int f_rows :: .ref a_told :: .ref a_stone :: .int f_acts :: .ref a_pastTold :: .ref a_pastStone :: .ref a_pastColumns :: .ref a_pastRows :: .int f_isLaid :: .ref a_many :: .ref a_number :: .ref a_ways :: .ref a_placeOf :: .ref a_label :: .ref a_old :: .ref a_isOpen :: .ref a_freeOnes :: .ref a_joins :: .ref a_given :: .ref a_decided :: .ref a_wet :: .int f_seed :: .int f_frees :: .ref a_order :: .int f_isKept :: .int f_keptHalf :: .int f_keptFree :: .ref a_kept :: .ref a_written :: .int f_writtenMany :: []))] H := hP
  have hD : va_D A [(a_this, .inr (9, .int f_thrown :: .ref a_tape :: .int f_taped :: .int f_size :: .int f_at :: .int f_fault :: .int f_newColumns :: .int f_newRows :: .ref a_newTold :: .ref a_newHas :: .ref a_newStone :: .int f_columns :: .int f_rows :: .ref a_told :: .ref a_stone :: .int f_acts :: .ref a_pastTold :: .ref a_pastStone :: .ref a_pastColumns :: .ref a_pastRows :: .int f_isLaid :: .ref a_many :: .ref a_number :: .ref a_ways :: .ref a_placeOf :: .ref a_label :: .ref a_old :: .ref a_isOpen :: .ref a_freeOnes :: .ref a_joins :: .ref a_given :: .ref a_decided :: .ref a_wet :: .int f_seed :: .int f_frees :: .ref a_order :: .int f_isKept :: .int f_keptHalf :: .int f_keptFree :: .ref a_kept :: .ref a_written :: .int f_writtenMany :: []))] := hD
  refine lv_if_eq (tgt := 32) hx hb dX9_isCell_11 (by decide) (fun c11 => ?_) (fun c11 => ?_)
  · replace hf := zt c11 hf
    refine lv_iconst (v := 0) hx hb dX9_isCell_32 (by decide) ?_
    obtain rfl := Option.some.inj hf
    exact zreti X hQ hP hD hS ⟨rfl, rfl⟩ rfl dX9_isCell_33 (Nat.le_of_ble_eq_true rfl) (Nat.le_of_ble_eq_true rfl)
  · replace hf := ze c11 hf
    refine lv_iload_n hx hb dX9_isCell_14 rfl (lv_at hl 2 rfl) ?_
    refine lv_iconst (v := 0) hx hb dX9_isCell_15 (by decide) ?_
    refine lv_aload_n hx hb dX9_isCell_16 rfl (lv_at hl 0 rfl) ?_
    refine zget X hP 0 rfl rfl inF9 12 (by decide) q_1344 rfl dX9_isCell_17 ?_
    refine lv_iconst (v := 1) hx hb dX9_isCell_20 (by decide) ?_
    refine lv_isub hx hb dX9_isCell_21 ?_
    obtain ⟨o22, ho22, hf⟩ := zb hf
    refine zcS1 (wr := [(a_this, .inr (9, .int f_thrown :: .ref a_tape :: .int f_taped :: .int f_size :: .int f_at :: .int f_fault :: .int f_newColumns :: .int f_newRows :: .ref a_newTold :: .ref a_newHas :: .ref a_newStone :: .int f_columns :: .int f_rows :: .ref a_told :: .ref a_stone :: .int f_acts :: .ref a_pastTold :: .ref a_pastStone :: .ref a_pastColumns :: .ref a_pastRows :: .int f_isLaid :: .ref a_many :: .ref a_number :: .ref a_ways :: .ref a_placeOf :: .ref a_label :: .ref a_old :: .ref a_isOpen :: .ref a_freeOnes :: .ref a_joins :: .ref a_given :: .ref a_decided :: .ref a_wet :: .int f_seed :: .int f_frees :: .ref a_order :: .int f_isKept :: .int f_keptHalf :: .int f_keptFree :: .ref a_kept :: .ref a_written :: .int f_writtenMany :: []))]) (rest := []) X (zc_X9_isIn l D y x2 (0 : Int32) (f_rows - (1 : Int32)) o22 ho22) kf_RX9_142 ⟨(Nat.le_of_ble_eq_true rfl), (Nat.le_of_ble_eq_true rfl)⟩ hP hD hS [] [0] rfl rfl rfl rfl (by decide) rfl rfl hl.1 (Nat.le_of_ble_eq_true rfl) dX9_isCell_22 ⟨(Nat.le_of_ble_eq_true rfl), (Nat.le_of_ble_eq_true rfl)⟩ (fun H locs hP hD hS => ?_)
    have hP : va_P D vwCl [(a_this, .inr (9, .int f_thrown :: .ref a_tape :: .int f_taped :: .int f_size :: .int f_at :: .int f_fault :: .int f_newColumns :: .int f_newRows :: .ref a_newTold :: .ref a_newHas :: .ref a_newStone :: .int f_columns :: .int f_rows :: .ref a_told :: .ref a_stone :: .int f_acts :: .ref a_pastTold :: .ref a_pastStone :: .ref a_pastColumns :: .ref a_pastRows :: .int f_isLaid :: .ref a_many :: .ref a_number :: .ref a_ways :: .ref a_placeOf :: .ref a_label :: .ref a_old :: .ref a_isOpen :: .ref a_freeOnes :: .ref a_joins :: .ref a_given :: .ref a_decided :: .ref a_wet :: .int f_seed :: .int f_frees :: .ref a_order :: .int f_isKept :: .int f_keptHalf :: .int f_keptFree :: .ref a_kept :: .ref a_written :: .int f_writtenMany :: []))] H := hP
    have hD : va_D A [(a_this, .inr (9, .int f_thrown :: .ref a_tape :: .int f_taped :: .int f_size :: .int f_at :: .int f_fault :: .int f_newColumns :: .int f_newRows :: .ref a_newTold :: .ref a_newHas :: .ref a_newStone :: .int f_columns :: .int f_rows :: .ref a_told :: .ref a_stone :: .int f_acts :: .ref a_pastTold :: .ref a_pastStone :: .ref a_pastColumns :: .ref a_pastRows :: .int f_isLaid :: .ref a_many :: .ref a_number :: .ref a_ways :: .ref a_placeOf :: .ref a_label :: .ref a_old :: .ref a_isOpen :: .ref a_freeOnes :: .ref a_joins :: .ref a_given :: .ref a_decided :: .ref a_wet :: .int f_seed :: .int f_frees :: .ref a_order :: .int f_isKept :: .int f_keptHalf :: .int f_keptFree :: .ref a_kept :: .ref a_written :: .int f_writtenMany :: []))] := hD
    refine lv_if_eq (tgt := 32) hx hb dX9_isCell_25 (by decide) (fun c25 => ?_) (fun c25 => ?_)
    · replace hf := zt c25 hf
      refine lv_iconst (v := 0) hx hb dX9_isCell_32 (by decide) ?_
      obtain rfl := Option.some.inj hf
      exact zreti X hQ hP hD hS ⟨rfl, rfl⟩ rfl dX9_isCell_33 (Nat.le_of_ble_eq_true rfl) (Nat.le_of_ble_eq_true rfl)
    · replace hf := ze c25 hf
      refine lv_iconst (v := 1) hx hb dX9_isCell_28 (by decide) ?_
      refine lv_goto (tgt := 33) hx hb dX9_isCell_29 (by decide) ?_
      obtain rfl := Option.some.inj hf
      exact zreti X hQ hP hD hS ⟨rfl, rfl⟩ rfl dX9_isCell_33 (Nat.le_of_ble_eq_true rfl) (Nat.le_of_ble_eq_true rfl)

theorem kf_RX9_208 : zCB RX9 208 yX9_isPipe cX9_isPipe 2 (some .boolean) 1 ∧ Cond.instanceMethod yX9_isPipe ∈ wAll ∧ Cond.selects yX9_isPipe.cls yX9_isPipe yX9_isPipe ∈ wAll := ⟨⟨q_1565, q_9, q_1562, by decide +kernel⟩, q_1564, qp_69⟩
theorem kf_RX9_204 : zCB RX9 204 yX9_isCell cX9_isCell 3 (some .boolean) 2 ∧ Cond.instanceMethod yX9_isCell ∈ wAll ∧ Cond.selects yX9_isCell.cls yX9_isCell yX9_isCell ∈ wAll := ⟨⟨q_1561, q_9, q_1558, by decide +kernel⟩, q_1560, qp_68⟩
abbrev rm_X9_pipeAt : Room := { frames := 2, cells := 0, slots := 0, locals := 46 }
def zf_X9_pipeAt_28 (f_columns : Int32) (f_rows : Int32) (s0 : Int32) (s1 : Int32) : Option (Int32) :=
  (zf_X9_isPipe f_columns f_rows (s0 + s1)).bind fun o34 =>
  if o34 = 0 then (some (-1 : Int32)) else (some (s0 + s1))
def zf_X9_pipeAt (f_columns : Int32) (f_rows : Int32) (x1 : Int32) (x2 : Int32) (x3 : Int32) : Option (Int32) :=
  (zf_X9_isCell f_columns f_rows x1 x2).bind fun o3 =>
  if o3 = 0 then (some (-1 : Int32)) else (if x3 = 0 then (zf_X9_pipeAt_28 f_columns f_rows (((10 : Int32) * x2) + ((2 : Int32) * x1)) (0 : Int32)) else (zf_X9_pipeAt_28 f_columns f_rows (((10 : Int32) * x2) + ((2 : Int32) * x1)) (1 : Int32)))
set_option maxHeartbeats 4000000 in
set_option maxRecDepth 100000 in
theorem zc_X9_pipeAt (l : Launch) (D : va_G) (y : zY) (a_this a_tape a_newTold a_newHas a_newStone a_told a_stone a_pastTold a_pastStone a_pastColumns a_pastRows a_many a_number a_ways a_placeOf a_label a_old a_isOpen a_freeOnes a_joins a_given a_decided a_wet a_order a_kept a_written : Nat) (f_thrown : Int32) (f_taped : Int32) (f_size : Int32) (f_at : Int32) (f_fault : Int32) (f_newColumns : Int32) (f_newRows : Int32) (f_columns : Int32) (f_rows : Int32) (f_acts : Int32) (f_isLaid : Int32) (f_seed : Int32) (f_frees : Int32) (f_isKept : Int32) (f_keptHalf : Int32) (f_keptFree : Int32) (f_writtenMany : Int32) (x1 : Int32) (x2 : Int32) (x3 : Int32) (out : Int32) (hf : zf_X9_pipeAt f_columns f_rows x1 x2 x3 = some out) : zC l D y yX9_pipeAt cX9_pipeAt 5 (some .int) rm_X9_pipeAt [.ref a_this, .int x1, .int x2, .int x3] [(a_this, .inr (9, .int f_thrown :: .ref a_tape :: .int f_taped :: .int f_size :: .int f_at :: .int f_fault :: .int f_newColumns :: .int f_newRows :: .ref a_newTold :: .ref a_newHas :: .ref a_newStone :: .int f_columns :: .int f_rows :: .ref a_told :: .ref a_stone :: .int f_acts :: .ref a_pastTold :: .ref a_pastStone :: .ref a_pastColumns :: .ref a_pastRows :: .int f_isLaid :: .ref a_many :: .ref a_number :: .ref a_ways :: .ref a_placeOf :: .ref a_label :: .ref a_old :: .ref a_isOpen :: .ref a_freeOnes :: .ref a_joins :: .ref a_given :: .ref a_decided :: .ref a_wet :: .int f_seed :: .int f_frees :: .ref a_order :: .int f_isKept :: .int f_keptHalf :: .int f_keptFree :: .ref a_kept :: .ref a_written :: .int f_writtenMany :: []))] (zE (some (.int out)) [(a_this, .inr (9, .int f_thrown :: .ref a_tape :: .int f_taped :: .int f_size :: .int f_at :: .int f_fault :: .int f_newColumns :: .int f_newRows :: .ref a_newTold :: .ref a_newHas :: .ref a_newStone :: .int f_columns :: .int f_rows :: .ref a_told :: .ref a_stone :: .int f_acts :: .ref a_pastTold :: .ref a_pastStone :: .ref a_pastColumns :: .ref a_pastRows :: .int f_isLaid :: .ref a_many :: .ref a_number :: .ref a_ways :: .ref a_placeOf :: .ref a_label :: .ref a_old :: .ref a_isOpen :: .ref a_freeOnes :: .ref a_joins :: .ref a_given :: .ref a_decided :: .ref a_wet :: .int f_seed :: .int f_frees :: .ref a_order :: .int f_isKept :: .int f_keptHalf :: .int f_keptFree :: .ref a_kept :: .ref a_written :: .int f_writtenMany :: []))]) := by
  refine zmk (by decide) (Nat.le_of_ble_eq_true rfl) ?_
  intro p e s m args below meth c A Q ls X hQ hnm hP hD hS hl
  have X : zX p s m args meth c D y A RX9 cX9_pipeAt 5 (some .int) := X
  obtain ⟨hx, hb, hr, hml, hown, hts, hK, hA, hlocks⟩ := id X
  have hl : lv_has ls 5 [(0, .ref a_this), (1, .int x1), (2, .int x2), (3, .int x3)] := hl
  have J28 : ∀ (s0 : Int32) (s1 : Int32), zf_X9_pipeAt_28 f_columns f_rows s0 s1 = some out → ∀ (H : Heap) (locs : List Loc) (ls : Array Slot), lv_has ls 5 [(0, .ref a_this)] → va_P D vwCl [(a_this, .inr (9, .int f_thrown :: .ref a_tape :: .int f_taped :: .int f_size :: .int f_at :: .int f_fault :: .int f_newColumns :: .int f_newRows :: .ref a_newTold :: .ref a_newHas :: .ref a_newStone :: .int f_columns :: .int f_rows :: .ref a_told :: .ref a_stone :: .int f_acts :: .ref a_pastTold :: .ref a_pastStone :: .ref a_pastColumns :: .ref a_pastRows :: .int f_isLaid :: .ref a_many :: .ref a_number :: .ref a_ways :: .ref a_placeOf :: .ref a_label :: .ref a_old :: .ref a_isOpen :: .ref a_freeOnes :: .ref a_joins :: .ref a_given :: .ref a_decided :: .ref a_wet :: .int f_seed :: .int f_frees :: .ref a_order :: .int f_isKept :: .int f_keptHalf :: .int f_keptFree :: .ref a_kept :: .ref a_written :: .int f_writtenMany :: []))] H → va_D A [(a_this, .inr (9, .int f_thrown :: .ref a_tape :: .int f_taped :: .int f_size :: .int f_at :: .int f_fault :: .int f_newColumns :: .int f_newRows :: .ref a_newTold :: .ref a_newHas :: .ref a_newStone :: .int f_columns :: .int f_rows :: .ref a_told :: .ref a_stone :: .int f_acts :: .ref a_pastTold :: .ref a_pastStone :: .ref a_pastColumns :: .ref a_pastRows :: .int f_isLaid :: .ref a_many :: .ref a_number :: .ref a_ways :: .ref a_placeOf :: .ref a_label :: .ref a_old :: .ref a_isOpen :: .ref a_freeOnes :: .ref a_joins :: .ref a_given :: .ref a_decided :: .ref a_wet :: .int f_seed :: .int f_frees :: .ref a_order :: .int f_isKept :: .int f_keptHalf :: .int f_keptFree :: .ref a_kept :: .ref a_written :: .int f_writtenMany :: []))] → va_S A s.heap H locs → W p l e rm_X9_pipeAt s m args below meth c H locs 0 0 Q (F0 m 28 ls [.int s1, .int s0]) := by
    intro s0 s1 hf H locs ls hl hP hD hS
    unfold zf_X9_pipeAt_28 at hf
    refine lv_iadd hx hb dX9_pipeAt_28 ?_
    refine lv_istore (lv' := [(4, .int (s0 + s1)), (0, .ref a_this)]) hx hb dX9_pipeAt_29 hl (by decide) rfl (fun ls hl => ?_)
    refine lv_aload_n hx hb dX9_pipeAt_31 rfl (lv_at hl 1 rfl) ?_
    refine lv_iload hx hb dX9_pipeAt_32 (lv_at hl 0 rfl) ?_
    obtain ⟨o34, ho34, hf⟩ := zb hf
    refine zcV1 (wr := []) (rest := []) X (zc_X9_isPipe l D y a_this a_tape a_newTold a_newHas a_newStone a_told a_stone a_pastTold a_pastStone a_pastColumns a_pastRows a_many a_number a_ways a_placeOf a_label a_old a_isOpen a_freeOnes a_joins a_given a_decided a_wet a_order a_kept a_written f_thrown f_taped f_size f_at f_fault f_newColumns f_newRows f_columns f_rows f_acts f_isLaid f_seed f_frees f_isKept f_keptHalf f_keptFree f_writtenMany (s0 + s1) o34 ho34) kf_RX9_208 ⟨(Nat.le_of_ble_eq_true rfl), (Nat.le_of_ble_eq_true rfl)⟩ hP hD hS [0] [] rfl rfl rfl rfl (by decide) 0 rfl rfl rfl rfl hl.1 (Nat.le_of_ble_eq_true rfl) dX9_pipeAt_34 ⟨(Nat.le_of_ble_eq_true rfl), (Nat.le_of_ble_eq_true rfl)⟩ (fun H locs hP hD hS => ?_)
    have hP : va_P D vwCl [(a_this, .inr (9, .int f_thrown :: .ref a_tape :: .int f_taped :: .int f_size :: .int f_at :: .int f_fault :: .int f_newColumns :: .int f_newRows :: .ref a_newTold :: .ref a_newHas :: .ref a_newStone :: .int f_columns :: .int f_rows :: .ref a_told :: .ref a_stone :: .int f_acts :: .ref a_pastTold :: .ref a_pastStone :: .ref a_pastColumns :: .ref a_pastRows :: .int f_isLaid :: .ref a_many :: .ref a_number :: .ref a_ways :: .ref a_placeOf :: .ref a_label :: .ref a_old :: .ref a_isOpen :: .ref a_freeOnes :: .ref a_joins :: .ref a_given :: .ref a_decided :: .ref a_wet :: .int f_seed :: .int f_frees :: .ref a_order :: .int f_isKept :: .int f_keptHalf :: .int f_keptFree :: .ref a_kept :: .ref a_written :: .int f_writtenMany :: []))] H := hP
    have hD : va_D A [(a_this, .inr (9, .int f_thrown :: .ref a_tape :: .int f_taped :: .int f_size :: .int f_at :: .int f_fault :: .int f_newColumns :: .int f_newRows :: .ref a_newTold :: .ref a_newHas :: .ref a_newStone :: .int f_columns :: .int f_rows :: .ref a_told :: .ref a_stone :: .int f_acts :: .ref a_pastTold :: .ref a_pastStone :: .ref a_pastColumns :: .ref a_pastRows :: .int f_isLaid :: .ref a_many :: .ref a_number :: .ref a_ways :: .ref a_placeOf :: .ref a_label :: .ref a_old :: .ref a_isOpen :: .ref a_freeOnes :: .ref a_joins :: .ref a_given :: .ref a_decided :: .ref a_wet :: .int f_seed :: .int f_frees :: .ref a_order :: .int f_isKept :: .int f_keptHalf :: .int f_keptFree :: .ref a_kept :: .ref a_written :: .int f_writtenMany :: []))] := hD
    refine lv_if_eq (tgt := 45) hx hb dX9_pipeAt_37 (by decide) (fun c37 => ?_) (fun c37 => ?_)
    · replace hf := zt c37 hf
      refine lv_iconst (v := -1) hx hb dX9_pipeAt_45 (by decide) ?_
      obtain rfl := Option.some.inj hf
      exact zreti X hQ hP hD hS ⟨rfl, rfl⟩ rfl dX9_pipeAt_46 (Nat.le_of_ble_eq_true rfl) (Nat.le_of_ble_eq_true rfl)
    · replace hf := ze c37 hf
      refine lv_iload hx hb dX9_pipeAt_40 (lv_at hl 0 rfl) ?_
      refine lv_goto (tgt := 46) hx hb dX9_pipeAt_42 (by decide) ?_
      obtain rfl := Option.some.inj hf
      exact zreti X hQ hP hD hS ⟨rfl, rfl⟩ rfl dX9_pipeAt_46 (Nat.le_of_ble_eq_true rfl) (Nat.le_of_ble_eq_true rfl)
  unfold zf_X9_pipeAt at hf
  refine lv_aload_n hx hb dX9_pipeAt_0 rfl (lv_at hl 0 rfl) ?_
  refine lv_iload_n hx hb dX9_pipeAt_1 rfl (lv_at hl 1 rfl) ?_
  refine lv_iload_n hx hb dX9_pipeAt_2 rfl (lv_at hl 2 rfl) ?_
  obtain ⟨o3, ho3, hf⟩ := zb hf
  refine zcV1 (wr := []) (rest := []) X (zc_X9_isCell l D y a_this a_tape a_newTold a_newHas a_newStone a_told a_stone a_pastTold a_pastStone a_pastColumns a_pastRows a_many a_number a_ways a_placeOf a_label a_old a_isOpen a_freeOnes a_joins a_given a_decided a_wet a_order a_kept a_written f_thrown f_taped f_size f_at f_fault f_newColumns f_newRows f_columns f_rows f_acts f_isLaid f_seed f_frees f_isKept f_keptHalf f_keptFree f_writtenMany x1 x2 o3 ho3) kf_RX9_204 ⟨(Nat.le_of_ble_eq_true rfl), (Nat.le_of_ble_eq_true rfl)⟩ hP hD hS [0] [] rfl rfl rfl rfl (by decide) 0 rfl rfl rfl rfl hl.1 (Nat.le_of_ble_eq_true rfl) dX9_pipeAt_3 ⟨(Nat.le_of_ble_eq_true rfl), (Nat.le_of_ble_eq_true rfl)⟩ (fun H locs hP hD hS => ?_)
  have hP : va_P D vwCl [(a_this, .inr (9, .int f_thrown :: .ref a_tape :: .int f_taped :: .int f_size :: .int f_at :: .int f_fault :: .int f_newColumns :: .int f_newRows :: .ref a_newTold :: .ref a_newHas :: .ref a_newStone :: .int f_columns :: .int f_rows :: .ref a_told :: .ref a_stone :: .int f_acts :: .ref a_pastTold :: .ref a_pastStone :: .ref a_pastColumns :: .ref a_pastRows :: .int f_isLaid :: .ref a_many :: .ref a_number :: .ref a_ways :: .ref a_placeOf :: .ref a_label :: .ref a_old :: .ref a_isOpen :: .ref a_freeOnes :: .ref a_joins :: .ref a_given :: .ref a_decided :: .ref a_wet :: .int f_seed :: .int f_frees :: .ref a_order :: .int f_isKept :: .int f_keptHalf :: .int f_keptFree :: .ref a_kept :: .ref a_written :: .int f_writtenMany :: []))] H := hP
  have hD : va_D A [(a_this, .inr (9, .int f_thrown :: .ref a_tape :: .int f_taped :: .int f_size :: .int f_at :: .int f_fault :: .int f_newColumns :: .int f_newRows :: .ref a_newTold :: .ref a_newHas :: .ref a_newStone :: .int f_columns :: .int f_rows :: .ref a_told :: .ref a_stone :: .int f_acts :: .ref a_pastTold :: .ref a_pastStone :: .ref a_pastColumns :: .ref a_pastRows :: .int f_isLaid :: .ref a_many :: .ref a_number :: .ref a_ways :: .ref a_placeOf :: .ref a_label :: .ref a_old :: .ref a_isOpen :: .ref a_freeOnes :: .ref a_joins :: .ref a_given :: .ref a_decided :: .ref a_wet :: .int f_seed :: .int f_frees :: .ref a_order :: .int f_isKept :: .int f_keptHalf :: .int f_keptFree :: .ref a_kept :: .ref a_written :: .int f_writtenMany :: []))] := hD
  refine lv_if_ne (tgt := 11) hx hb dX9_pipeAt_6 (by decide) (fun c6 => ?_) (fun c6 => ?_)
  · replace hf := ze c6 hf
    refine lv_bipush (v := 10) hx hb dX9_pipeAt_11 (by decide) ?_
    refine lv_iload_n hx hb dX9_pipeAt_13 rfl (lv_at hl 2 rfl) ?_
    refine lv_imul hx hb dX9_pipeAt_14 ?_
    refine lv_iconst (v := 2) hx hb dX9_pipeAt_15 (by decide) ?_
    refine lv_iload_n hx hb dX9_pipeAt_16 rfl (lv_at hl 1 rfl) ?_
    refine lv_imul hx hb dX9_pipeAt_17 ?_
    refine lv_iadd hx hb dX9_pipeAt_18 ?_
    refine lv_iload_n hx hb dX9_pipeAt_19 rfl (lv_at hl 3 rfl) ?_
    refine lv_if_eq (tgt := 27) hx hb dX9_pipeAt_20 (by decide) (fun c20 => ?_) (fun c20 => ?_)
    · replace hf := zt c20 hf
      refine lv_iconst (v := 0) hx hb dX9_pipeAt_27 (by decide) ?_
      exact J28 (((10 : Int32) * x2) + ((2 : Int32) * x1)) (0 : Int32) hf _ _ _ (lv_sub hl [0] rfl) hP hD hS
    · replace hf := ze c20 hf
      refine lv_iconst (v := 1) hx hb dX9_pipeAt_23 (by decide) ?_
      refine lv_goto (tgt := 28) hx hb dX9_pipeAt_24 (by decide) ?_
      exact J28 (((10 : Int32) * x2) + ((2 : Int32) * x1)) (1 : Int32) hf _ _ _ (lv_sub hl [0] rfl) hP hD hS
  · replace hf := zt c6 hf
    refine lv_iconst (v := -1) hx hb dX9_pipeAt_9 (by decide) ?_
    obtain rfl := Option.some.inj hf
    exact zreti X hQ hP hD hS ⟨rfl, rfl⟩ rfl dX9_pipeAt_10 (Nat.le_of_ble_eq_true rfl) (Nat.le_of_ble_eq_true rfl)

theorem kf_RX9_215 : zCB RX9 215 yX9_how cX9_how 2 (some .int) 1 ∧ Cond.instanceMethod yX9_how ∈ wAll ∧ Cond.selects yX9_how.cls yX9_how yX9_how ∈ wAll := ⟨⟨q_1569, q_9, q_1566, by decide +kernel⟩, q_1568, qp_70⟩
theorem kf_RX9_211 : zCB RX9 211 yX9_pipeAt cX9_pipeAt 5 (some .int) 3 ∧ Cond.instanceMethod yX9_pipeAt ∈ wAll ∧ Cond.selects yX9_pipeAt.cls yX9_pipeAt yX9_pipeAt ∈ wAll := ⟨⟨q_1557, q_9, q_1554, by decide +kernel⟩, q_1556, qp_67⟩
abbrev rm_X9_pipe : Room := { frames := 4, cells := 0, slots := 0, locals := 83 }
def zf_X9_pipe_21 (c_told : Nat → Int32) (c_stone : Nat → Int32) (x4 : Int32) (s1 : Int32) : Option (Int32 × Int32) :=
  if s1 ≤ 0 then ((zf_X9_how c_told c_stone x4).bind fun o38 =>
  some (o38, s1)) else (some ((0 : Int32), s1))
def zf_X9_pipe (f_columns : Int32) (f_rows : Int32) (c_told : Nat → Int32) (c_stone : Nat → Int32) (x1 : Int32) (x2 : Int32) (x3 : Int32) : Option (Int32 × Int32) :=
  (zf_X9_pipeAt f_columns f_rows x1 x2 x3).bind fun o4 =>
  if o4 = (-1 : Int32) then (zf_X9_pipe_21 c_told c_stone o4 (1 : Int32)) else (zf_X9_pipe_21 c_told c_stone o4 (0 : Int32))
set_option maxHeartbeats 4000000 in
set_option maxRecDepth 100000 in
theorem zc_X9_pipe (l : Launch) (D : va_G) (y : zY) (a_this a_tape a_newTold a_newHas a_newStone a_told a_stone a_pastTold a_pastStone a_pastColumns a_pastRows a_many a_number a_ways a_placeOf a_label a_old a_isOpen a_freeOnes a_joins a_given a_decided a_wet a_order a_kept a_written : Nat) (f_thrown : Int32) (f_taped : Int32) (f_size : Int32) (f_at : Int32) (f_fault : Int32) (f_newColumns : Int32) (f_newRows : Int32) (f_columns : Int32) (f_rows : Int32) (f_acts : Int32) (f_isLaid : Int32) (f_seed : Int32) (f_frees : Int32) (f_isKept : Int32) (f_keptHalf : Int32) (f_keptFree : Int32) (f_writtenMany : Int32) (c_told : Nat → Int32) (c_stone : Nat → Int32) (x1 : Int32) (x2 : Int32) (x3 : Int32) (out : Int32 × Int32) (hf : zf_X9_pipe f_columns f_rows c_told c_stone x1 x2 x3 = some out) : zC l D y yX9_pipe cX9_pipe 5 (some .int) rm_X9_pipe [.ref a_this, .int x1, .int x2, .int x3] [(a_this, .inr (9, .int f_thrown :: .ref a_tape :: .int f_taped :: .int f_size :: .int f_at :: .int f_fault :: .int f_newColumns :: .int f_newRows :: .ref a_newTold :: .ref a_newHas :: .ref a_newStone :: .int f_columns :: .int f_rows :: .ref a_told :: .ref a_stone :: .int f_acts :: .ref a_pastTold :: .ref a_pastStone :: .ref a_pastColumns :: .ref a_pastRows :: .int f_isLaid :: .ref a_many :: .ref a_number :: .ref a_ways :: .ref a_placeOf :: .ref a_label :: .ref a_old :: .ref a_isOpen :: .ref a_freeOnes :: .ref a_joins :: .ref a_given :: .ref a_decided :: .ref a_wet :: .int f_seed :: .int f_frees :: .ref a_order :: .int f_isKept :: .int f_keptHalf :: .int f_keptFree :: .ref a_kept :: .ref a_written :: .int f_writtenMany :: [])), (a_told, .inl (y.1, 50, .inl c_told)), (a_stone, .inl (y.2.2.1, 25, .inl c_stone))] (zE (some (.int out.1)) [(a_this, .inr (9, .int out.2 :: .ref a_tape :: .int f_taped :: .int f_size :: .int f_at :: .int f_fault :: .int f_newColumns :: .int f_newRows :: .ref a_newTold :: .ref a_newHas :: .ref a_newStone :: .int f_columns :: .int f_rows :: .ref a_told :: .ref a_stone :: .int f_acts :: .ref a_pastTold :: .ref a_pastStone :: .ref a_pastColumns :: .ref a_pastRows :: .int f_isLaid :: .ref a_many :: .ref a_number :: .ref a_ways :: .ref a_placeOf :: .ref a_label :: .ref a_old :: .ref a_isOpen :: .ref a_freeOnes :: .ref a_joins :: .ref a_given :: .ref a_decided :: .ref a_wet :: .int f_seed :: .int f_frees :: .ref a_order :: .int f_isKept :: .int f_keptHalf :: .int f_keptFree :: .ref a_kept :: .ref a_written :: .int f_writtenMany :: [])), (a_told, .inl (y.1, 50, .inl c_told)), (a_stone, .inl (y.2.2.1, 25, .inl c_stone))]) := by
  refine zmk (by decide) (Nat.le_of_ble_eq_true rfl) ?_
  intro p e s m args below meth c A Q ls X hQ hnm hP hD hS hl
  have X : zX p s m args meth c D y A RX9 cX9_pipe 5 (some .int) := X
  obtain ⟨hx, hb, hr, hml, hown, hts, hK, hA, hlocks⟩ := id X
  have hl : lv_has ls 5 [(0, .ref a_this), (1, .int x1), (2, .int x2), (3, .int x3)] := hl
  have J21 : ∀ (x4 : Int32) (s1 : Int32) (f_thrown : Int32), zf_X9_pipe_21 c_told c_stone x4 s1 = some out → ∀ (H : Heap) (locs : List Loc) (ls : Array Slot), lv_has ls 5 [(0, .ref a_this), (4, .int x4)] → va_P D vwCl [(a_this, .inr (9, .int f_thrown :: .ref a_tape :: .int f_taped :: .int f_size :: .int f_at :: .int f_fault :: .int f_newColumns :: .int f_newRows :: .ref a_newTold :: .ref a_newHas :: .ref a_newStone :: .int f_columns :: .int f_rows :: .ref a_told :: .ref a_stone :: .int f_acts :: .ref a_pastTold :: .ref a_pastStone :: .ref a_pastColumns :: .ref a_pastRows :: .int f_isLaid :: .ref a_many :: .ref a_number :: .ref a_ways :: .ref a_placeOf :: .ref a_label :: .ref a_old :: .ref a_isOpen :: .ref a_freeOnes :: .ref a_joins :: .ref a_given :: .ref a_decided :: .ref a_wet :: .int f_seed :: .int f_frees :: .ref a_order :: .int f_isKept :: .int f_keptHalf :: .int f_keptFree :: .ref a_kept :: .ref a_written :: .int f_writtenMany :: [])), (a_told, .inl (y.1, 50, .inl c_told)), (a_stone, .inl (y.2.2.1, 25, .inl c_stone))] H → va_D A [(a_this, .inr (9, .int f_thrown :: .ref a_tape :: .int f_taped :: .int f_size :: .int f_at :: .int f_fault :: .int f_newColumns :: .int f_newRows :: .ref a_newTold :: .ref a_newHas :: .ref a_newStone :: .int f_columns :: .int f_rows :: .ref a_told :: .ref a_stone :: .int f_acts :: .ref a_pastTold :: .ref a_pastStone :: .ref a_pastColumns :: .ref a_pastRows :: .int f_isLaid :: .ref a_many :: .ref a_number :: .ref a_ways :: .ref a_placeOf :: .ref a_label :: .ref a_old :: .ref a_isOpen :: .ref a_freeOnes :: .ref a_joins :: .ref a_given :: .ref a_decided :: .ref a_wet :: .int f_seed :: .int f_frees :: .ref a_order :: .int f_isKept :: .int f_keptHalf :: .int f_keptFree :: .ref a_kept :: .ref a_written :: .int f_writtenMany :: [])), (a_told, .inl (y.1, 50, .inl c_told)), (a_stone, .inl (y.2.2.1, 25, .inl c_stone))] → va_S A s.heap H locs → W p l e rm_X9_pipe s m args below meth c H locs 0 0 Q (F0 m 21 ls [.int s1, .ref a_this]) := by
    intro x4 s1 f_thrown hf H locs ls hl hP hD hS
    unfold zf_X9_pipe_21 at hf
    refine zput (ty := .int) X hP hD hS 0 rfl rfl inF9 tyX9_ok nmX9 0 (by decide) q_1332 rfl rfl rfl rfl (Nat.le_of_ble_eq_true rfl) dX9_pipe_21 (fun H locs hP hD hS => ?_)
    have hP : va_P D vwCl [(a_this, .inr (9, .int s1 :: .ref a_tape :: .int f_taped :: .int f_size :: .int f_at :: .int f_fault :: .int f_newColumns :: .int f_newRows :: .ref a_newTold :: .ref a_newHas :: .ref a_newStone :: .int f_columns :: .int f_rows :: .ref a_told :: .ref a_stone :: .int f_acts :: .ref a_pastTold :: .ref a_pastStone :: .ref a_pastColumns :: .ref a_pastRows :: .int f_isLaid :: .ref a_many :: .ref a_number :: .ref a_ways :: .ref a_placeOf :: .ref a_label :: .ref a_old :: .ref a_isOpen :: .ref a_freeOnes :: .ref a_joins :: .ref a_given :: .ref a_decided :: .ref a_wet :: .int f_seed :: .int f_frees :: .ref a_order :: .int f_isKept :: .int f_keptHalf :: .int f_keptFree :: .ref a_kept :: .ref a_written :: .int f_writtenMany :: [])), (a_told, .inl (y.1, 50, .inl c_told)), (a_stone, .inl (y.2.2.1, 25, .inl c_stone))] H := hP
    have hD : va_D A [(a_this, .inr (9, .int s1 :: .ref a_tape :: .int f_taped :: .int f_size :: .int f_at :: .int f_fault :: .int f_newColumns :: .int f_newRows :: .ref a_newTold :: .ref a_newHas :: .ref a_newStone :: .int f_columns :: .int f_rows :: .ref a_told :: .ref a_stone :: .int f_acts :: .ref a_pastTold :: .ref a_pastStone :: .ref a_pastColumns :: .ref a_pastRows :: .int f_isLaid :: .ref a_many :: .ref a_number :: .ref a_ways :: .ref a_placeOf :: .ref a_label :: .ref a_old :: .ref a_isOpen :: .ref a_freeOnes :: .ref a_joins :: .ref a_given :: .ref a_decided :: .ref a_wet :: .int f_seed :: .int f_frees :: .ref a_order :: .int f_isKept :: .int f_keptHalf :: .int f_keptFree :: .ref a_kept :: .ref a_written :: .int f_writtenMany :: [])), (a_told, .inl (y.1, 50, .inl c_told)), (a_stone, .inl (y.2.2.1, 25, .inl c_stone))] := hD
    refine lv_aload_n hx hb dX9_pipe_24 rfl (lv_at hl 0 rfl) ?_
    refine zget X hP 0 rfl rfl inF9 0 (by decide) q_1332 rfl dX9_pipe_25 ?_
    refine lv_if_le (tgt := 35) hx hb dX9_pipe_28 (by decide) (fun c28 => ?_) (fun c28 => ?_)
    · replace hf := zt c28 hf
      refine lv_aload_n hx hb dX9_pipe_35 rfl (lv_at hl 0 rfl) ?_
      refine lv_iload hx hb dX9_pipe_36 (lv_at hl 1 rfl) ?_
      obtain ⟨o38, ho38, hf⟩ := zb hf
      refine zcV1 (wr := []) (rest := []) X (zc_X9_how l D y a_this a_tape a_newTold a_newHas a_newStone a_told a_stone a_pastTold a_pastStone a_pastColumns a_pastRows a_many a_number a_ways a_placeOf a_label a_old a_isOpen a_freeOnes a_joins a_given a_decided a_wet a_order a_kept a_written s1 f_taped f_size f_at f_fault f_newColumns f_newRows f_columns f_rows f_acts f_isLaid f_seed f_frees f_isKept f_keptHalf f_keptFree f_writtenMany c_told c_stone x4 o38 ho38) kf_RX9_215 ⟨(Nat.le_of_ble_eq_true rfl), (Nat.le_of_ble_eq_true rfl)⟩ hP hD hS [0, 1, 2] [] rfl rfl rfl rfl (by decide) 0 rfl rfl rfl rfl hl.1 (Nat.le_of_ble_eq_true rfl) dX9_pipe_38 ⟨(Nat.le_of_ble_eq_true rfl), (Nat.le_of_ble_eq_true rfl)⟩ (fun H locs hP hD hS => ?_)
      have hP : va_P D vwCl [(a_this, .inr (9, .int s1 :: .ref a_tape :: .int f_taped :: .int f_size :: .int f_at :: .int f_fault :: .int f_newColumns :: .int f_newRows :: .ref a_newTold :: .ref a_newHas :: .ref a_newStone :: .int f_columns :: .int f_rows :: .ref a_told :: .ref a_stone :: .int f_acts :: .ref a_pastTold :: .ref a_pastStone :: .ref a_pastColumns :: .ref a_pastRows :: .int f_isLaid :: .ref a_many :: .ref a_number :: .ref a_ways :: .ref a_placeOf :: .ref a_label :: .ref a_old :: .ref a_isOpen :: .ref a_freeOnes :: .ref a_joins :: .ref a_given :: .ref a_decided :: .ref a_wet :: .int f_seed :: .int f_frees :: .ref a_order :: .int f_isKept :: .int f_keptHalf :: .int f_keptFree :: .ref a_kept :: .ref a_written :: .int f_writtenMany :: [])), (a_told, .inl (y.1, 50, .inl c_told)), (a_stone, .inl (y.2.2.1, 25, .inl c_stone))] H := hP
      have hD : va_D A [(a_this, .inr (9, .int s1 :: .ref a_tape :: .int f_taped :: .int f_size :: .int f_at :: .int f_fault :: .int f_newColumns :: .int f_newRows :: .ref a_newTold :: .ref a_newHas :: .ref a_newStone :: .int f_columns :: .int f_rows :: .ref a_told :: .ref a_stone :: .int f_acts :: .ref a_pastTold :: .ref a_pastStone :: .ref a_pastColumns :: .ref a_pastRows :: .int f_isLaid :: .ref a_many :: .ref a_number :: .ref a_ways :: .ref a_placeOf :: .ref a_label :: .ref a_old :: .ref a_isOpen :: .ref a_freeOnes :: .ref a_joins :: .ref a_given :: .ref a_decided :: .ref a_wet :: .int f_seed :: .int f_frees :: .ref a_order :: .int f_isKept :: .int f_keptHalf :: .int f_keptFree :: .ref a_kept :: .ref a_written :: .int f_writtenMany :: [])), (a_told, .inl (y.1, 50, .inl c_told)), (a_stone, .inl (y.2.2.1, 25, .inl c_stone))] := hD
      obtain rfl := Option.some.inj hf
      exact zreti X hQ hP hD hS ⟨rfl, rfl⟩ rfl dX9_pipe_41 (Nat.le_of_ble_eq_true rfl) (Nat.le_of_ble_eq_true rfl)
    · replace hf := ze c28 hf
      refine lv_iconst (v := 0) hx hb dX9_pipe_31 (by decide) ?_
      refine lv_goto (tgt := 41) hx hb dX9_pipe_32 (by decide) ?_
      obtain rfl := Option.some.inj hf
      exact zreti X hQ hP hD hS ⟨rfl, rfl⟩ rfl dX9_pipe_41 (Nat.le_of_ble_eq_true rfl) (Nat.le_of_ble_eq_true rfl)
  unfold zf_X9_pipe at hf
  refine lv_aload_n hx hb dX9_pipe_0 rfl (lv_at hl 0 rfl) ?_
  refine lv_iload_n hx hb dX9_pipe_1 rfl (lv_at hl 1 rfl) ?_
  refine lv_iload_n hx hb dX9_pipe_2 rfl (lv_at hl 2 rfl) ?_
  refine lv_iload_n hx hb dX9_pipe_3 rfl (lv_at hl 3 rfl) ?_
  obtain ⟨o4, ho4, hf⟩ := zb hf
  refine zcV1 (wr := [(a_told, .inl (y.1, 50, .inl c_told)), (a_stone, .inl (y.2.2.1, 25, .inl c_stone))]) (rest := []) X (zc_X9_pipeAt l D y a_this a_tape a_newTold a_newHas a_newStone a_told a_stone a_pastTold a_pastStone a_pastColumns a_pastRows a_many a_number a_ways a_placeOf a_label a_old a_isOpen a_freeOnes a_joins a_given a_decided a_wet a_order a_kept a_written f_thrown f_taped f_size f_at f_fault f_newColumns f_newRows f_columns f_rows f_acts f_isLaid f_seed f_frees f_isKept f_keptHalf f_keptFree f_writtenMany x1 x2 x3 o4 ho4) kf_RX9_211 ⟨(Nat.le_of_ble_eq_true rfl), (Nat.le_of_ble_eq_true rfl)⟩ hP hD hS [0] [1, 2] rfl rfl rfl rfl (by decide) 0 rfl rfl rfl rfl hl.1 (Nat.le_of_ble_eq_true rfl) dX9_pipe_4 ⟨(Nat.le_of_ble_eq_true rfl), (Nat.le_of_ble_eq_true rfl)⟩ (fun H locs hP hD hS => ?_)
  have hP : va_P D vwCl [(a_told, .inl (y.1, 50, .inl c_told)), (a_stone, .inl (y.2.2.1, 25, .inl c_stone)), (a_this, .inr (9, .int f_thrown :: .ref a_tape :: .int f_taped :: .int f_size :: .int f_at :: .int f_fault :: .int f_newColumns :: .int f_newRows :: .ref a_newTold :: .ref a_newHas :: .ref a_newStone :: .int f_columns :: .int f_rows :: .ref a_told :: .ref a_stone :: .int f_acts :: .ref a_pastTold :: .ref a_pastStone :: .ref a_pastColumns :: .ref a_pastRows :: .int f_isLaid :: .ref a_many :: .ref a_number :: .ref a_ways :: .ref a_placeOf :: .ref a_label :: .ref a_old :: .ref a_isOpen :: .ref a_freeOnes :: .ref a_joins :: .ref a_given :: .ref a_decided :: .ref a_wet :: .int f_seed :: .int f_frees :: .ref a_order :: .int f_isKept :: .int f_keptHalf :: .int f_keptFree :: .ref a_kept :: .ref a_written :: .int f_writtenMany :: []))] H := hP
  have hD : va_D A [(a_told, .inl (y.1, 50, .inl c_told)), (a_stone, .inl (y.2.2.1, 25, .inl c_stone)), (a_this, .inr (9, .int f_thrown :: .ref a_tape :: .int f_taped :: .int f_size :: .int f_at :: .int f_fault :: .int f_newColumns :: .int f_newRows :: .ref a_newTold :: .ref a_newHas :: .ref a_newStone :: .int f_columns :: .int f_rows :: .ref a_told :: .ref a_stone :: .int f_acts :: .ref a_pastTold :: .ref a_pastStone :: .ref a_pastColumns :: .ref a_pastRows :: .int f_isLaid :: .ref a_many :: .ref a_number :: .ref a_ways :: .ref a_placeOf :: .ref a_label :: .ref a_old :: .ref a_isOpen :: .ref a_freeOnes :: .ref a_joins :: .ref a_given :: .ref a_decided :: .ref a_wet :: .int f_seed :: .int f_frees :: .ref a_order :: .int f_isKept :: .int f_keptHalf :: .int f_keptFree :: .ref a_kept :: .ref a_written :: .int f_writtenMany :: []))] := hD
  refine lv_istore (lv' := [(4, .int o4), (0, .ref a_this), (1, .int x1), (2, .int x2), (3, .int x3)]) hx hb dX9_pipe_7 hl (by decide) rfl (fun ls hl => ?_)
  refine lv_aload_n hx hb dX9_pipe_9 rfl (lv_at hl 1 rfl) ?_
  refine lv_iload hx hb dX9_pipe_10 (lv_at hl 0 rfl) ?_
  refine lv_iconst (v := -1) hx hb dX9_pipe_12 (by decide) ?_
  refine lv_icmp_ne (tgt := 20) hx hb dX9_pipe_13 (by decide) (fun c13 => ?_) (fun c13 => ?_)
  · replace hf := ze c13 hf
    refine lv_iconst (v := 0) hx hb dX9_pipe_20 (by decide) ?_
    exact J21 o4 (0 : Int32) f_thrown hf _ _ _ (lv_sub hl [1, 0] rfl) (zPsub (is := [2, 0, 1]) hP rfl) (hD.sub [2, 0, 1] (by decide) rfl) hS
  · replace hf := zt c13 hf
    refine lv_iconst (v := 1) hx hb dX9_pipe_16 (by decide) ?_
    refine lv_goto (tgt := 21) hx hb dX9_pipe_17 (by decide) ?_
    exact J21 o4 (1 : Int32) f_thrown hf _ _ _ (lv_sub hl [1, 0] rfl) (zPsub (is := [2, 0, 1]) hP rfl) (hD.sub [2, 0, 1] (by decide) rfl) hS


abbrev rm_X9_stone : Room := { frames := 2, cells := 0, slots := 0, locals := 44 }
def zf_X9_stone_15 (c_stone : Nat → Int32) (x1 : Int32) (x2 : Int32) (s1 : Int32) : Option (Int32 × Int32) :=
  if s1 = 0 then (if zgd (((5 : Int32) * x2) + x1) 25 = true then (if (c_stone (((5 : Int32) * x2) + x1).toNatClampNeg) = 0 then (some ((0 : Int32), s1)) else (some ((1 : Int32), s1))) else none) else (some ((0 : Int32), s1))
def zf_X9_stone (f_columns : Int32) (f_rows : Int32) (c_stone : Nat → Int32) (x1 : Int32) (x2 : Int32) : Option (Int32 × Int32) :=
  (zf_X9_isCell f_columns f_rows x1 x2).bind fun o4 =>
  if o4 = 0 then (zf_X9_stone_15 c_stone x1 x2 (1 : Int32)) else (zf_X9_stone_15 c_stone x1 x2 (0 : Int32))
set_option maxHeartbeats 4000000 in
set_option maxRecDepth 100000 in
theorem zc_X9_stone (l : Launch) (D : va_G) (y : zY) (a_this a_tape a_newTold a_newHas a_newStone a_told a_stone a_pastTold a_pastStone a_pastColumns a_pastRows a_many a_number a_ways a_placeOf a_label a_old a_isOpen a_freeOnes a_joins a_given a_decided a_wet a_order a_kept a_written : Nat) (f_thrown : Int32) (f_taped : Int32) (f_size : Int32) (f_at : Int32) (f_fault : Int32) (f_newColumns : Int32) (f_newRows : Int32) (f_columns : Int32) (f_rows : Int32) (f_acts : Int32) (f_isLaid : Int32) (f_seed : Int32) (f_frees : Int32) (f_isKept : Int32) (f_keptHalf : Int32) (f_keptFree : Int32) (f_writtenMany : Int32) (c_stone : Nat → Int32) (x1 : Int32) (x2 : Int32) (out : Int32 × Int32) (hf : zf_X9_stone f_columns f_rows c_stone x1 x2 = some out) : zC l D y yX9_stone cX9_stone 3 (some .boolean) rm_X9_stone [.ref a_this, .int x1, .int x2] [(a_this, .inr (9, .int f_thrown :: .ref a_tape :: .int f_taped :: .int f_size :: .int f_at :: .int f_fault :: .int f_newColumns :: .int f_newRows :: .ref a_newTold :: .ref a_newHas :: .ref a_newStone :: .int f_columns :: .int f_rows :: .ref a_told :: .ref a_stone :: .int f_acts :: .ref a_pastTold :: .ref a_pastStone :: .ref a_pastColumns :: .ref a_pastRows :: .int f_isLaid :: .ref a_many :: .ref a_number :: .ref a_ways :: .ref a_placeOf :: .ref a_label :: .ref a_old :: .ref a_isOpen :: .ref a_freeOnes :: .ref a_joins :: .ref a_given :: .ref a_decided :: .ref a_wet :: .int f_seed :: .int f_frees :: .ref a_order :: .int f_isKept :: .int f_keptHalf :: .int f_keptFree :: .ref a_kept :: .ref a_written :: .int f_writtenMany :: [])), (a_stone, .inl (y.2.2.1, 25, .inl c_stone))] (zE (some (.int out.1)) [(a_this, .inr (9, .int out.2 :: .ref a_tape :: .int f_taped :: .int f_size :: .int f_at :: .int f_fault :: .int f_newColumns :: .int f_newRows :: .ref a_newTold :: .ref a_newHas :: .ref a_newStone :: .int f_columns :: .int f_rows :: .ref a_told :: .ref a_stone :: .int f_acts :: .ref a_pastTold :: .ref a_pastStone :: .ref a_pastColumns :: .ref a_pastRows :: .int f_isLaid :: .ref a_many :: .ref a_number :: .ref a_ways :: .ref a_placeOf :: .ref a_label :: .ref a_old :: .ref a_isOpen :: .ref a_freeOnes :: .ref a_joins :: .ref a_given :: .ref a_decided :: .ref a_wet :: .int f_seed :: .int f_frees :: .ref a_order :: .int f_isKept :: .int f_keptHalf :: .int f_keptFree :: .ref a_kept :: .ref a_written :: .int f_writtenMany :: [])), (a_stone, .inl (y.2.2.1, 25, .inl c_stone))]) := by
  refine zmk (by decide) (Nat.le_of_ble_eq_true rfl) ?_
  intro p e s m args below meth c A Q ls X hQ hnm hP hD hS hl
  have X : zX p s m args meth c D y A RX9 cX9_stone 3 (some .boolean) := X
  obtain ⟨hx, hb, hr, hml, hown, hts, hK, hA, hlocks⟩ := id X
  have hl : lv_has ls 3 [(0, .ref a_this), (1, .int x1), (2, .int x2)] := hl
  have J15 : ∀ (s1 : Int32) (f_thrown : Int32), zf_X9_stone_15 c_stone x1 x2 s1 = some out → ∀ (H : Heap) (locs : List Loc) (ls : Array Slot), lv_has ls 3 [(0, .ref a_this), (1, .int x1), (2, .int x2)] → va_P D vwCl [(a_this, .inr (9, .int f_thrown :: .ref a_tape :: .int f_taped :: .int f_size :: .int f_at :: .int f_fault :: .int f_newColumns :: .int f_newRows :: .ref a_newTold :: .ref a_newHas :: .ref a_newStone :: .int f_columns :: .int f_rows :: .ref a_told :: .ref a_stone :: .int f_acts :: .ref a_pastTold :: .ref a_pastStone :: .ref a_pastColumns :: .ref a_pastRows :: .int f_isLaid :: .ref a_many :: .ref a_number :: .ref a_ways :: .ref a_placeOf :: .ref a_label :: .ref a_old :: .ref a_isOpen :: .ref a_freeOnes :: .ref a_joins :: .ref a_given :: .ref a_decided :: .ref a_wet :: .int f_seed :: .int f_frees :: .ref a_order :: .int f_isKept :: .int f_keptHalf :: .int f_keptFree :: .ref a_kept :: .ref a_written :: .int f_writtenMany :: [])), (a_stone, .inl (y.2.2.1, 25, .inl c_stone))] H → va_D A [(a_this, .inr (9, .int f_thrown :: .ref a_tape :: .int f_taped :: .int f_size :: .int f_at :: .int f_fault :: .int f_newColumns :: .int f_newRows :: .ref a_newTold :: .ref a_newHas :: .ref a_newStone :: .int f_columns :: .int f_rows :: .ref a_told :: .ref a_stone :: .int f_acts :: .ref a_pastTold :: .ref a_pastStone :: .ref a_pastColumns :: .ref a_pastRows :: .int f_isLaid :: .ref a_many :: .ref a_number :: .ref a_ways :: .ref a_placeOf :: .ref a_label :: .ref a_old :: .ref a_isOpen :: .ref a_freeOnes :: .ref a_joins :: .ref a_given :: .ref a_decided :: .ref a_wet :: .int f_seed :: .int f_frees :: .ref a_order :: .int f_isKept :: .int f_keptHalf :: .int f_keptFree :: .ref a_kept :: .ref a_written :: .int f_writtenMany :: [])), (a_stone, .inl (y.2.2.1, 25, .inl c_stone))] → va_S A s.heap H locs → W p l e rm_X9_stone s m args below meth c H locs 0 0 Q (F0 m 15 ls [.int s1, .ref a_this]) := by
    intro s1 f_thrown hf H locs ls hl hP hD hS
    unfold zf_X9_stone_15 at hf
    refine zput (ty := .int) X hP hD hS 0 rfl rfl inF9 tyX9_ok nmX9 0 (by decide) q_1332 rfl rfl rfl rfl (Nat.le_of_ble_eq_true rfl) dX9_stone_15 (fun H locs hP hD hS => ?_)
    have hP : va_P D vwCl [(a_this, .inr (9, .int s1 :: .ref a_tape :: .int f_taped :: .int f_size :: .int f_at :: .int f_fault :: .int f_newColumns :: .int f_newRows :: .ref a_newTold :: .ref a_newHas :: .ref a_newStone :: .int f_columns :: .int f_rows :: .ref a_told :: .ref a_stone :: .int f_acts :: .ref a_pastTold :: .ref a_pastStone :: .ref a_pastColumns :: .ref a_pastRows :: .int f_isLaid :: .ref a_many :: .ref a_number :: .ref a_ways :: .ref a_placeOf :: .ref a_label :: .ref a_old :: .ref a_isOpen :: .ref a_freeOnes :: .ref a_joins :: .ref a_given :: .ref a_decided :: .ref a_wet :: .int f_seed :: .int f_frees :: .ref a_order :: .int f_isKept :: .int f_keptHalf :: .int f_keptFree :: .ref a_kept :: .ref a_written :: .int f_writtenMany :: [])), (a_stone, .inl (y.2.2.1, 25, .inl c_stone))] H := hP
    have hD : va_D A [(a_this, .inr (9, .int s1 :: .ref a_tape :: .int f_taped :: .int f_size :: .int f_at :: .int f_fault :: .int f_newColumns :: .int f_newRows :: .ref a_newTold :: .ref a_newHas :: .ref a_newStone :: .int f_columns :: .int f_rows :: .ref a_told :: .ref a_stone :: .int f_acts :: .ref a_pastTold :: .ref a_pastStone :: .ref a_pastColumns :: .ref a_pastRows :: .int f_isLaid :: .ref a_many :: .ref a_number :: .ref a_ways :: .ref a_placeOf :: .ref a_label :: .ref a_old :: .ref a_isOpen :: .ref a_freeOnes :: .ref a_joins :: .ref a_given :: .ref a_decided :: .ref a_wet :: .int f_seed :: .int f_frees :: .ref a_order :: .int f_isKept :: .int f_keptHalf :: .int f_keptFree :: .ref a_kept :: .ref a_written :: .int f_writtenMany :: [])), (a_stone, .inl (y.2.2.1, 25, .inl c_stone))] := hD
    refine lv_aload_n hx hb dX9_stone_18 rfl (lv_at hl 0 rfl) ?_
    refine zget X hP 0 rfl rfl inF9 0 (by decide) q_1332 rfl dX9_stone_19 ?_
    refine lv_if_ne (tgt := 42) hx hb dX9_stone_22 (by decide) (fun c22 => ?_) (fun c22 => ?_)
    · replace hf := ze c22 hf
      refine lv_iconst (v := 0) hx hb dX9_stone_42 (by decide) ?_
      obtain rfl := Option.some.inj hf
      exact zreti X hQ hP hD hS ⟨rfl, rfl⟩ rfl dX9_stone_43 (Nat.le_of_ble_eq_true rfl) (Nat.le_of_ble_eq_true rfl)
    · replace hf := zt c22 hf
      refine lv_aload_n hx hb dX9_stone_25 rfl (lv_at hl 0 rfl) ?_
      refine zget X hP 0 rfl rfl inF9 14 (by decide) q_1346 rfl dX9_stone_26 ?_
      refine lv_iconst (v := 5) hx hb dX9_stone_29 (by decide) ?_
      refine lv_iload_n hx hb dX9_stone_30 rfl (lv_at hl 2 rfl) ?_
      refine lv_imul hx hb dX9_stone_31 ?_
      refine lv_iload_n hx hb dX9_stone_32 rfl (lv_at hl 1 rfl) ?_
      refine lv_iadd hx hb dX9_stone_33 ?_
      obtain ⟨g34, hf⟩ := zg hf
      refine va_zald hx hb hK hP 1 2 rfl rfl g34 dX9_stone_34 ?_
      refine lv_if_eq (tgt := 42) hx hb dX9_stone_35 (by decide) (fun c35 => ?_) (fun c35 => ?_)
      · replace hf := zt c35 hf
        refine lv_iconst (v := 0) hx hb dX9_stone_42 (by decide) ?_
        obtain rfl := Option.some.inj hf
        exact zreti X hQ hP hD hS ⟨rfl, rfl⟩ rfl dX9_stone_43 (Nat.le_of_ble_eq_true rfl) (Nat.le_of_ble_eq_true rfl)
      · replace hf := ze c35 hf
        refine lv_iconst (v := 1) hx hb dX9_stone_38 (by decide) ?_
        refine lv_goto (tgt := 43) hx hb dX9_stone_39 (by decide) ?_
        obtain rfl := Option.some.inj hf
        exact zreti X hQ hP hD hS ⟨rfl, rfl⟩ rfl dX9_stone_43 (Nat.le_of_ble_eq_true rfl) (Nat.le_of_ble_eq_true rfl)
  unfold zf_X9_stone at hf
  refine lv_aload_n hx hb dX9_stone_0 rfl (lv_at hl 0 rfl) ?_
  refine lv_aload_n hx hb dX9_stone_1 rfl (lv_at hl 0 rfl) ?_
  refine lv_iload_n hx hb dX9_stone_2 rfl (lv_at hl 1 rfl) ?_
  refine lv_iload_n hx hb dX9_stone_3 rfl (lv_at hl 2 rfl) ?_
  obtain ⟨o4, ho4, hf⟩ := zb hf
  refine zcV1 (wr := [(a_stone, .inl (y.2.2.1, 25, .inl c_stone))]) (rest := [.ref a_this]) X (zc_X9_isCell l D y a_this a_tape a_newTold a_newHas a_newStone a_told a_stone a_pastTold a_pastStone a_pastColumns a_pastRows a_many a_number a_ways a_placeOf a_label a_old a_isOpen a_freeOnes a_joins a_given a_decided a_wet a_order a_kept a_written f_thrown f_taped f_size f_at f_fault f_newColumns f_newRows f_columns f_rows f_acts f_isLaid f_seed f_frees f_isKept f_keptHalf f_keptFree f_writtenMany x1 x2 o4 ho4) kf_RX9_204 ⟨(Nat.le_of_ble_eq_true rfl), (Nat.le_of_ble_eq_true rfl)⟩ hP hD hS [0] [1] rfl rfl rfl rfl (by decide) 0 rfl rfl rfl rfl hl.1 (Nat.le_of_ble_eq_true rfl) dX9_stone_4 ⟨(Nat.le_of_ble_eq_true rfl), (Nat.le_of_ble_eq_true rfl)⟩ (fun H locs hP hD hS => ?_)
  have hP : va_P D vwCl [(a_stone, .inl (y.2.2.1, 25, .inl c_stone)), (a_this, .inr (9, .int f_thrown :: .ref a_tape :: .int f_taped :: .int f_size :: .int f_at :: .int f_fault :: .int f_newColumns :: .int f_newRows :: .ref a_newTold :: .ref a_newHas :: .ref a_newStone :: .int f_columns :: .int f_rows :: .ref a_told :: .ref a_stone :: .int f_acts :: .ref a_pastTold :: .ref a_pastStone :: .ref a_pastColumns :: .ref a_pastRows :: .int f_isLaid :: .ref a_many :: .ref a_number :: .ref a_ways :: .ref a_placeOf :: .ref a_label :: .ref a_old :: .ref a_isOpen :: .ref a_freeOnes :: .ref a_joins :: .ref a_given :: .ref a_decided :: .ref a_wet :: .int f_seed :: .int f_frees :: .ref a_order :: .int f_isKept :: .int f_keptHalf :: .int f_keptFree :: .ref a_kept :: .ref a_written :: .int f_writtenMany :: []))] H := hP
  have hD : va_D A [(a_stone, .inl (y.2.2.1, 25, .inl c_stone)), (a_this, .inr (9, .int f_thrown :: .ref a_tape :: .int f_taped :: .int f_size :: .int f_at :: .int f_fault :: .int f_newColumns :: .int f_newRows :: .ref a_newTold :: .ref a_newHas :: .ref a_newStone :: .int f_columns :: .int f_rows :: .ref a_told :: .ref a_stone :: .int f_acts :: .ref a_pastTold :: .ref a_pastStone :: .ref a_pastColumns :: .ref a_pastRows :: .int f_isLaid :: .ref a_many :: .ref a_number :: .ref a_ways :: .ref a_placeOf :: .ref a_label :: .ref a_old :: .ref a_isOpen :: .ref a_freeOnes :: .ref a_joins :: .ref a_given :: .ref a_decided :: .ref a_wet :: .int f_seed :: .int f_frees :: .ref a_order :: .int f_isKept :: .int f_keptHalf :: .int f_keptFree :: .ref a_kept :: .ref a_written :: .int f_writtenMany :: []))] := hD
  refine lv_if_eq (tgt := 14) hx hb dX9_stone_7 (by decide) (fun c7 => ?_) (fun c7 => ?_)
  · replace hf := zt c7 hf
    refine lv_iconst (v := 1) hx hb dX9_stone_14 (by decide) ?_
    exact J15 (1 : Int32) f_thrown hf _ _ _ hl (zPsub (is := [1, 0]) hP rfl) (hD.sub [1, 0] (by decide) rfl) hS
  · replace hf := ze c7 hf
    refine lv_iconst (v := 0) hx hb dX9_stone_10 (by decide) ?_
    refine lv_goto (tgt := 15) hx hb dX9_stone_11 (by decide) ?_
    exact J15 (0 : Int32) f_thrown hf _ _ _ hl (zPsub (is := [1, 0]) hP rfl) (hD.sub [1, 0] (by decide) rfl) hS


abbrev rm_X9_remembers : Room := { frames := 0, cells := 0, slots := 0, locals := 0 }
def zf_X9_remembers_l11 (x1 : Int32) (c_pastTold : Nat → Int32) : Option ((Int32 × (Nat → Int32)) ⊕ ((Nat → Int32))) :=
  if (750 : Int32) ≤ x1 then (some (.inr c_pastTold)) else (if zgd (x1 + (50 : Int32)) 800 = true then (if zgd x1 800 = true then (some (.inl (x1 + (1 : Int32), upd c_pastTold x1.toNatClampNeg (c_pastTold (x1 + (50 : Int32)).toNatClampNeg)))) else none) else none)
def zf_X9_remembers_l41 (x1 : Int32) (c_pastStone : Nat → Int32) : Option ((Int32 × (Nat → Int32)) ⊕ ((Nat → Int32))) :=
  if (375 : Int32) ≤ x1 then (some (.inr c_pastStone)) else (if zgd (x1 + (25 : Int32)) 400 = true then (if zgd x1 400 = true then (some (.inl (x1 + (1 : Int32), upd c_pastStone x1.toNatClampNeg (vp_nar .boolean (c_pastStone (x1 + (25 : Int32)).toNatClampNeg))))) else none) else none)
def zf_X9_remembers_l71 (x1 : Int32) (c_pastColumns : Nat → Int32) (c_pastRows : Nat → Int32) : Option ((Int32 × (Nat → Int32) × (Nat → Int32)) ⊕ (((Nat → Int32) × (Nat → Int32)))) :=
  if (15 : Int32) ≤ x1 then (some (.inr (c_pastColumns, c_pastRows))) else (if zgd (x1 + (1 : Int32)) 16 = true then (if zgd x1 16 = true then (if zgd (x1 + (1 : Int32)) 16 = true then (if zgd x1 16 = true then (some (.inl (x1 + (1 : Int32), upd c_pastColumns x1.toNatClampNeg (c_pastColumns (x1 + (1 : Int32)).toNatClampNeg), upd c_pastRows x1.toNatClampNeg (c_pastRows (x1 + (1 : Int32)).toNatClampNeg)))) else none) else none) else none) else none)
def zf_X9_remembers_l123 (f_acts : Int32) (c_told : Nat → Int32) (x1 : Int32) (c_pastTold : Nat → Int32) : Option ((Int32 × (Nat → Int32)) ⊕ ((Nat → Int32))) :=
  if (50 : Int32) ≤ x1 then (some (.inr c_pastTold)) else (if zgd x1 50 = true then (if zgd (((50 : Int32) * f_acts) + x1) 800 = true then (some (.inl (x1 + (1 : Int32), upd c_pastTold (((50 : Int32) * f_acts) + x1).toNatClampNeg (c_told x1.toNatClampNeg)))) else none) else none)
def zf_X9_remembers_l157 (f_acts : Int32) (c_stone : Nat → Int32) (x1 : Int32) (c_pastStone : Nat → Int32) : Option ((Int32 × (Nat → Int32)) ⊕ ((Nat → Int32))) :=
  if (25 : Int32) ≤ x1 then (some (.inr c_pastStone)) else (if zgd x1 25 = true then (if zgd (((25 : Int32) * f_acts) + x1) 400 = true then (some (.inl (x1 + (1 : Int32), upd c_pastStone (((25 : Int32) * f_acts) + x1).toNatClampNeg (vp_nar .boolean (c_stone x1.toNatClampNeg))))) else none) else none)
def zf_X9_remembers_121 (f_columns : Int32) (f_rows : Int32) (f_acts : Int32) (c_told : Nat → Int32) (c_stone : Nat → Int32) (c_pastTold : Nat → Int32) (c_pastStone : Nat → Int32) (c_pastColumns : Nat → Int32) (c_pastRows : Nat → Int32) : Option (Int32 × Int32 × (Nat → Int32) × (Nat → Int32) × (Nat → Int32) × (Nat → Int32)) :=
  (zit (fun d => zf_X9_remembers_l123 f_acts c_told d.1 d.2) zfu ((0 : Int32), c_pastTold)).bind fun o123 =>
  (zit (fun d => zf_X9_remembers_l157 f_acts c_stone d.1 d.2) zfu ((0 : Int32), c_pastStone)).bind fun o157 =>
  if zgd f_acts 16 = true then (if zgd f_acts 16 = true then (some (f_acts + (1 : Int32), (0 : Int32), o123, o157, upd c_pastColumns f_acts.toNatClampNeg f_columns, upd c_pastRows f_acts.toNatClampNeg f_rows)) else none) else none
def zf_X9_remembers (f_columns : Int32) (f_rows : Int32) (f_acts : Int32) (c_told : Nat → Int32) (c_stone : Nat → Int32) (c_pastTold : Nat → Int32) (c_pastStone : Nat → Int32) (c_pastColumns : Nat → Int32) (c_pastRows : Nat → Int32) : Option (Int32 × Int32 × (Nat → Int32) × (Nat → Int32) × (Nat → Int32) × (Nat → Int32)) :=
  if f_acts = (16 : Int32) then ((zit (fun d => zf_X9_remembers_l11 d.1 d.2) zfu ((0 : Int32), c_pastTold)).bind fun o11 =>
  (zit (fun d => zf_X9_remembers_l41 d.1 d.2) zfu ((0 : Int32), c_pastStone)).bind fun o41 =>
  (zit (fun d => zf_X9_remembers_l71 d.1 d.2.1 d.2.2) zfu ((0 : Int32), c_pastColumns, c_pastRows)).bind fun o71 =>
  zf_X9_remembers_121 f_columns f_rows (f_acts - (1 : Int32)) c_told c_stone o11 o41 o71.1 o71.2) else (zf_X9_remembers_121 f_columns f_rows f_acts c_told c_stone c_pastTold c_pastStone c_pastColumns c_pastRows)
set_option maxHeartbeats 4000000 in
set_option maxRecDepth 100000 in
theorem zc_X9_remembers (l : Launch) (D : va_G) (y : zY) (a_this a_tape a_newTold a_newHas a_newStone a_told a_stone a_pastTold a_pastStone a_pastColumns a_pastRows a_many a_number a_ways a_placeOf a_label a_old a_isOpen a_freeOnes a_joins a_given a_decided a_wet a_order a_kept a_written : Nat) (f_thrown : Int32) (f_taped : Int32) (f_size : Int32) (f_at : Int32) (f_fault : Int32) (f_newColumns : Int32) (f_newRows : Int32) (f_columns : Int32) (f_rows : Int32) (f_acts : Int32) (f_isLaid : Int32) (f_seed : Int32) (f_frees : Int32) (f_isKept : Int32) (f_keptHalf : Int32) (f_keptFree : Int32) (f_writtenMany : Int32) (c_told : Nat → Int32) (c_stone : Nat → Int32) (c_pastTold : Nat → Int32) (c_pastStone : Nat → Int32) (c_pastColumns : Nat → Int32) (c_pastRows : Nat → Int32) (out : Int32 × Int32 × (Nat → Int32) × (Nat → Int32) × (Nat → Int32) × (Nat → Int32)) (hf : zf_X9_remembers f_columns f_rows f_acts c_told c_stone c_pastTold c_pastStone c_pastColumns c_pastRows = some out) : zC l D y yX9_remembers cX9_remembers 2 (none : Option Jvm.ClassFile.FieldType) rm_X9_remembers [.ref a_this] [(a_this, .inr (9, .int f_thrown :: .ref a_tape :: .int f_taped :: .int f_size :: .int f_at :: .int f_fault :: .int f_newColumns :: .int f_newRows :: .ref a_newTold :: .ref a_newHas :: .ref a_newStone :: .int f_columns :: .int f_rows :: .ref a_told :: .ref a_stone :: .int f_acts :: .ref a_pastTold :: .ref a_pastStone :: .ref a_pastColumns :: .ref a_pastRows :: .int f_isLaid :: .ref a_many :: .ref a_number :: .ref a_ways :: .ref a_placeOf :: .ref a_label :: .ref a_old :: .ref a_isOpen :: .ref a_freeOnes :: .ref a_joins :: .ref a_given :: .ref a_decided :: .ref a_wet :: .int f_seed :: .int f_frees :: .ref a_order :: .int f_isKept :: .int f_keptHalf :: .int f_keptFree :: .ref a_kept :: .ref a_written :: .int f_writtenMany :: [])), (a_told, .inl (y.1, 50, .inl c_told)), (a_stone, .inl (y.2.2.1, 25, .inl c_stone)), (a_pastTold, .inl (y.1, 800, .inl c_pastTold)), (a_pastStone, .inl (y.2.2.1, 400, .inl c_pastStone)), (a_pastColumns, .inl (y.1, 16, .inl c_pastColumns)), (a_pastRows, .inl (y.1, 16, .inl c_pastRows))] (zE none [(a_this, .inr (9, .int f_thrown :: .ref a_tape :: .int f_taped :: .int f_size :: .int f_at :: .int f_fault :: .int f_newColumns :: .int f_newRows :: .ref a_newTold :: .ref a_newHas :: .ref a_newStone :: .int f_columns :: .int f_rows :: .ref a_told :: .ref a_stone :: .int out.1 :: .ref a_pastTold :: .ref a_pastStone :: .ref a_pastColumns :: .ref a_pastRows :: .int out.2.1 :: .ref a_many :: .ref a_number :: .ref a_ways :: .ref a_placeOf :: .ref a_label :: .ref a_old :: .ref a_isOpen :: .ref a_freeOnes :: .ref a_joins :: .ref a_given :: .ref a_decided :: .ref a_wet :: .int f_seed :: .int f_frees :: .ref a_order :: .int f_isKept :: .int f_keptHalf :: .int f_keptFree :: .ref a_kept :: .ref a_written :: .int f_writtenMany :: [])), (a_told, .inl (y.1, 50, .inl c_told)), (a_stone, .inl (y.2.2.1, 25, .inl c_stone)), (a_pastTold, .inl (y.1, 800, .inl out.2.2.1)), (a_pastStone, .inl (y.2.2.1, 400, .inl out.2.2.2.1)), (a_pastColumns, .inl (y.1, 16, .inl out.2.2.2.2.1)), (a_pastRows, .inl (y.1, 16, .inl out.2.2.2.2.2))]) := by
  refine zmk (by decide) (Nat.le_of_ble_eq_true rfl) ?_
  intro p e s m args below meth c A Q ls X hQ hnm hP hD hS hl
  have X : zX p s m args meth c D y A RX9 cX9_remembers 2 (none : Option Jvm.ClassFile.FieldType) := X
  obtain ⟨hx, hb, hr, hml, hown, hts, hK, hA, hlocks⟩ := id X
  have hl : lv_has ls 2 [(0, .ref a_this)] := hl
  have L11 : ∀ (n : Nat) (x1 : Int32) (f_acts : Int32) (f_isLaid : Int32) (c_pastTold : Nat → Int32) (c_pastStone : Nat → Int32) (c_pastColumns : Nat → Int32) (c_pastRows : Nat → Int32) (x : (Nat → Int32)), zit (fun d => zf_X9_remembers_l11 d.1 d.2) n (x1, c_pastTold) = some x → ∀ (H : Heap) (locs : List Loc) (ls : Array Slot), lv_has ls 2 [(0, .ref a_this), (1, .int x1)] → va_P D vwCl [(a_this, .inr (9, .int f_thrown :: .ref a_tape :: .int f_taped :: .int f_size :: .int f_at :: .int f_fault :: .int f_newColumns :: .int f_newRows :: .ref a_newTold :: .ref a_newHas :: .ref a_newStone :: .int f_columns :: .int f_rows :: .ref a_told :: .ref a_stone :: .int f_acts :: .ref a_pastTold :: .ref a_pastStone :: .ref a_pastColumns :: .ref a_pastRows :: .int f_isLaid :: .ref a_many :: .ref a_number :: .ref a_ways :: .ref a_placeOf :: .ref a_label :: .ref a_old :: .ref a_isOpen :: .ref a_freeOnes :: .ref a_joins :: .ref a_given :: .ref a_decided :: .ref a_wet :: .int f_seed :: .int f_frees :: .ref a_order :: .int f_isKept :: .int f_keptHalf :: .int f_keptFree :: .ref a_kept :: .ref a_written :: .int f_writtenMany :: [])), (a_told, .inl (y.1, 50, .inl c_told)), (a_stone, .inl (y.2.2.1, 25, .inl c_stone)), (a_pastTold, .inl (y.1, 800, .inl c_pastTold)), (a_pastStone, .inl (y.2.2.1, 400, .inl c_pastStone)), (a_pastColumns, .inl (y.1, 16, .inl c_pastColumns)), (a_pastRows, .inl (y.1, 16, .inl c_pastRows))] H → va_D A [(a_this, .inr (9, .int f_thrown :: .ref a_tape :: .int f_taped :: .int f_size :: .int f_at :: .int f_fault :: .int f_newColumns :: .int f_newRows :: .ref a_newTold :: .ref a_newHas :: .ref a_newStone :: .int f_columns :: .int f_rows :: .ref a_told :: .ref a_stone :: .int f_acts :: .ref a_pastTold :: .ref a_pastStone :: .ref a_pastColumns :: .ref a_pastRows :: .int f_isLaid :: .ref a_many :: .ref a_number :: .ref a_ways :: .ref a_placeOf :: .ref a_label :: .ref a_old :: .ref a_isOpen :: .ref a_freeOnes :: .ref a_joins :: .ref a_given :: .ref a_decided :: .ref a_wet :: .int f_seed :: .int f_frees :: .ref a_order :: .int f_isKept :: .int f_keptHalf :: .int f_keptFree :: .ref a_kept :: .ref a_written :: .int f_writtenMany :: [])), (a_told, .inl (y.1, 50, .inl c_told)), (a_stone, .inl (y.2.2.1, 25, .inl c_stone)), (a_pastTold, .inl (y.1, 800, .inl c_pastTold)), (a_pastStone, .inl (y.2.2.1, 400, .inl c_pastStone)), (a_pastColumns, .inl (y.1, 16, .inl c_pastColumns)), (a_pastRows, .inl (y.1, 16, .inl c_pastRows))] → va_S A s.heap H locs → (∀ (H : Heap) (locs : List Loc) (ls : Array Slot), lv_has ls 2 [(0, .ref a_this)] → va_P D vwCl [(a_this, .inr (9, .int f_thrown :: .ref a_tape :: .int f_taped :: .int f_size :: .int f_at :: .int f_fault :: .int f_newColumns :: .int f_newRows :: .ref a_newTold :: .ref a_newHas :: .ref a_newStone :: .int f_columns :: .int f_rows :: .ref a_told :: .ref a_stone :: .int f_acts :: .ref a_pastTold :: .ref a_pastStone :: .ref a_pastColumns :: .ref a_pastRows :: .int f_isLaid :: .ref a_many :: .ref a_number :: .ref a_ways :: .ref a_placeOf :: .ref a_label :: .ref a_old :: .ref a_isOpen :: .ref a_freeOnes :: .ref a_joins :: .ref a_given :: .ref a_decided :: .ref a_wet :: .int f_seed :: .int f_frees :: .ref a_order :: .int f_isKept :: .int f_keptHalf :: .int f_keptFree :: .ref a_kept :: .ref a_written :: .int f_writtenMany :: [])), (a_told, .inl (y.1, 50, .inl c_told)), (a_stone, .inl (y.2.2.1, 25, .inl c_stone)), (a_pastTold, .inl (y.1, 800, .inl x)), (a_pastStone, .inl (y.2.2.1, 400, .inl c_pastStone)), (a_pastColumns, .inl (y.1, 16, .inl c_pastColumns)), (a_pastRows, .inl (y.1, 16, .inl c_pastRows))] H → va_D A [(a_this, .inr (9, .int f_thrown :: .ref a_tape :: .int f_taped :: .int f_size :: .int f_at :: .int f_fault :: .int f_newColumns :: .int f_newRows :: .ref a_newTold :: .ref a_newHas :: .ref a_newStone :: .int f_columns :: .int f_rows :: .ref a_told :: .ref a_stone :: .int f_acts :: .ref a_pastTold :: .ref a_pastStone :: .ref a_pastColumns :: .ref a_pastRows :: .int f_isLaid :: .ref a_many :: .ref a_number :: .ref a_ways :: .ref a_placeOf :: .ref a_label :: .ref a_old :: .ref a_isOpen :: .ref a_freeOnes :: .ref a_joins :: .ref a_given :: .ref a_decided :: .ref a_wet :: .int f_seed :: .int f_frees :: .ref a_order :: .int f_isKept :: .int f_keptHalf :: .int f_keptFree :: .ref a_kept :: .ref a_written :: .int f_writtenMany :: [])), (a_told, .inl (y.1, 50, .inl c_told)), (a_stone, .inl (y.2.2.1, 25, .inl c_stone)), (a_pastTold, .inl (y.1, 800, .inl x)), (a_pastStone, .inl (y.2.2.1, 400, .inl c_pastStone)), (a_pastColumns, .inl (y.1, 16, .inl c_pastColumns)), (a_pastRows, .inl (y.1, 16, .inl c_pastRows))] → va_S A s.heap H locs → W p l e rm_X9_remembers s m args below meth c H locs 0 0 Q (F0 m 39 ls [])) → W p l e rm_X9_remembers s m args below meth c H locs 0 0 Q (F0 m 11 ls []) := by
    intro n
    induction n with
    | zero => intro x1 f_acts f_isLaid c_pastTold c_pastStone c_pastColumns c_pastRows x h; exact (zi0 h).elim
    | succ n ih =>
      intro x1 f_acts f_isLaid c_pastTold c_pastStone c_pastColumns c_pastRows x h H locs ls hl hP hD hS K39
      obtain ⟨r, hf, h⟩ := zis h
      have hf : zf_X9_remembers_l11 x1 c_pastTold = some r := hf
      unfold zf_X9_remembers_l11 at hf
      refine lv_iload_n hx hb dX9_remembers_11 rfl (lv_at hl 1 rfl) ?_
      refine lv_sipush (v := 750) hx hb dX9_remembers_12 (by decide) ?_
      refine lv_icmp_ge (tgt := 39) hx hb dX9_remembers_15 (by decide) (fun c15 => ?_) (fun c15 => ?_)
      · replace hf := zt c15 hf
        obtain rfl := Option.some.inj hf
        obtain rfl := Option.some.inj h
        exact K39 _ _ _ (lv_sub hl [0] rfl) hP hD hS
      · replace hf := ze c15 hf
        refine lv_aload_n hx hb dX9_remembers_18 rfl (lv_at hl 0 rfl) ?_
        refine zget X hP 0 rfl rfl inF9 16 (by decide) q_1348 rfl dX9_remembers_19 ?_
        refine lv_iload_n hx hb dX9_remembers_22 rfl (lv_at hl 1 rfl) ?_
        refine lv_aload_n hx hb dX9_remembers_23 rfl (lv_at hl 0 rfl) ?_
        refine zget X hP 0 rfl rfl inF9 16 (by decide) q_1348 rfl dX9_remembers_24 ?_
        refine lv_iload_n hx hb dX9_remembers_27 rfl (lv_at hl 1 rfl) ?_
        refine lv_bipush (v := 50) hx hb dX9_remembers_28 (by decide) ?_
        refine lv_iadd hx hb dX9_remembers_30 ?_
        obtain ⟨g31, hf⟩ := zg hf
        refine va_iald hx hb hK hP 3 0 rfl rfl g31 dX9_remembers_31 ?_
        obtain ⟨g32, hf⟩ := zg hf
        refine va_iast hx hb hK hP hD hS 3 0 rfl rfl g32 dX9_remembers_32 (fun H locs hP hD hS => ?_)
        have hP : va_P D vwCl [(a_this, .inr (9, .int f_thrown :: .ref a_tape :: .int f_taped :: .int f_size :: .int f_at :: .int f_fault :: .int f_newColumns :: .int f_newRows :: .ref a_newTold :: .ref a_newHas :: .ref a_newStone :: .int f_columns :: .int f_rows :: .ref a_told :: .ref a_stone :: .int f_acts :: .ref a_pastTold :: .ref a_pastStone :: .ref a_pastColumns :: .ref a_pastRows :: .int f_isLaid :: .ref a_many :: .ref a_number :: .ref a_ways :: .ref a_placeOf :: .ref a_label :: .ref a_old :: .ref a_isOpen :: .ref a_freeOnes :: .ref a_joins :: .ref a_given :: .ref a_decided :: .ref a_wet :: .int f_seed :: .int f_frees :: .ref a_order :: .int f_isKept :: .int f_keptHalf :: .int f_keptFree :: .ref a_kept :: .ref a_written :: .int f_writtenMany :: [])), (a_told, .inl (y.1, 50, .inl c_told)), (a_stone, .inl (y.2.2.1, 25, .inl c_stone)), (a_pastTold, .inl (y.1, 800, .inl (upd c_pastTold x1.toNatClampNeg (c_pastTold (x1 + (50 : Int32)).toNatClampNeg)))), (a_pastStone, .inl (y.2.2.1, 400, .inl c_pastStone)), (a_pastColumns, .inl (y.1, 16, .inl c_pastColumns)), (a_pastRows, .inl (y.1, 16, .inl c_pastRows))] H := hP
        have hD : va_D A [(a_this, .inr (9, .int f_thrown :: .ref a_tape :: .int f_taped :: .int f_size :: .int f_at :: .int f_fault :: .int f_newColumns :: .int f_newRows :: .ref a_newTold :: .ref a_newHas :: .ref a_newStone :: .int f_columns :: .int f_rows :: .ref a_told :: .ref a_stone :: .int f_acts :: .ref a_pastTold :: .ref a_pastStone :: .ref a_pastColumns :: .ref a_pastRows :: .int f_isLaid :: .ref a_many :: .ref a_number :: .ref a_ways :: .ref a_placeOf :: .ref a_label :: .ref a_old :: .ref a_isOpen :: .ref a_freeOnes :: .ref a_joins :: .ref a_given :: .ref a_decided :: .ref a_wet :: .int f_seed :: .int f_frees :: .ref a_order :: .int f_isKept :: .int f_keptHalf :: .int f_keptFree :: .ref a_kept :: .ref a_written :: .int f_writtenMany :: [])), (a_told, .inl (y.1, 50, .inl c_told)), (a_stone, .inl (y.2.2.1, 25, .inl c_stone)), (a_pastTold, .inl (y.1, 800, .inl (upd c_pastTold x1.toNatClampNeg (c_pastTold (x1 + (50 : Int32)).toNatClampNeg)))), (a_pastStone, .inl (y.2.2.1, 400, .inl c_pastStone)), (a_pastColumns, .inl (y.1, 16, .inl c_pastColumns)), (a_pastRows, .inl (y.1, 16, .inl c_pastRows))] := hD
        refine lv_iinc (v := x1 + (1 : Int32)) (lv' := [(1, .int (x1 + (1 : Int32))), (0, .ref a_this)]) hx hb dX9_remembers_33 hl (k := 1) rfl rfl (by decide) rfl (fun ls hl => ?_)
        refine lv_goto (tgt := 11) hx hb dX9_remembers_36 (by decide) ?_
        obtain rfl := Option.some.inj hf
        exact ih (x1 + (1 : Int32)) f_acts f_isLaid (upd c_pastTold x1.toNatClampNeg (c_pastTold (x1 + (50 : Int32)).toNatClampNeg)) c_pastStone c_pastColumns c_pastRows x h _ _ _ (lv_sub hl [1, 0] rfl) hP hD hS K39
  have L41 : ∀ (n : Nat) (x1 : Int32) (f_acts : Int32) (f_isLaid : Int32) (c_pastTold : Nat → Int32) (c_pastStone : Nat → Int32) (c_pastColumns : Nat → Int32) (c_pastRows : Nat → Int32) (x : (Nat → Int32)), zit (fun d => zf_X9_remembers_l41 d.1 d.2) n (x1, c_pastStone) = some x → ∀ (H : Heap) (locs : List Loc) (ls : Array Slot), lv_has ls 2 [(0, .ref a_this), (1, .int x1)] → va_P D vwCl [(a_this, .inr (9, .int f_thrown :: .ref a_tape :: .int f_taped :: .int f_size :: .int f_at :: .int f_fault :: .int f_newColumns :: .int f_newRows :: .ref a_newTold :: .ref a_newHas :: .ref a_newStone :: .int f_columns :: .int f_rows :: .ref a_told :: .ref a_stone :: .int f_acts :: .ref a_pastTold :: .ref a_pastStone :: .ref a_pastColumns :: .ref a_pastRows :: .int f_isLaid :: .ref a_many :: .ref a_number :: .ref a_ways :: .ref a_placeOf :: .ref a_label :: .ref a_old :: .ref a_isOpen :: .ref a_freeOnes :: .ref a_joins :: .ref a_given :: .ref a_decided :: .ref a_wet :: .int f_seed :: .int f_frees :: .ref a_order :: .int f_isKept :: .int f_keptHalf :: .int f_keptFree :: .ref a_kept :: .ref a_written :: .int f_writtenMany :: [])), (a_told, .inl (y.1, 50, .inl c_told)), (a_stone, .inl (y.2.2.1, 25, .inl c_stone)), (a_pastTold, .inl (y.1, 800, .inl c_pastTold)), (a_pastStone, .inl (y.2.2.1, 400, .inl c_pastStone)), (a_pastColumns, .inl (y.1, 16, .inl c_pastColumns)), (a_pastRows, .inl (y.1, 16, .inl c_pastRows))] H → va_D A [(a_this, .inr (9, .int f_thrown :: .ref a_tape :: .int f_taped :: .int f_size :: .int f_at :: .int f_fault :: .int f_newColumns :: .int f_newRows :: .ref a_newTold :: .ref a_newHas :: .ref a_newStone :: .int f_columns :: .int f_rows :: .ref a_told :: .ref a_stone :: .int f_acts :: .ref a_pastTold :: .ref a_pastStone :: .ref a_pastColumns :: .ref a_pastRows :: .int f_isLaid :: .ref a_many :: .ref a_number :: .ref a_ways :: .ref a_placeOf :: .ref a_label :: .ref a_old :: .ref a_isOpen :: .ref a_freeOnes :: .ref a_joins :: .ref a_given :: .ref a_decided :: .ref a_wet :: .int f_seed :: .int f_frees :: .ref a_order :: .int f_isKept :: .int f_keptHalf :: .int f_keptFree :: .ref a_kept :: .ref a_written :: .int f_writtenMany :: [])), (a_told, .inl (y.1, 50, .inl c_told)), (a_stone, .inl (y.2.2.1, 25, .inl c_stone)), (a_pastTold, .inl (y.1, 800, .inl c_pastTold)), (a_pastStone, .inl (y.2.2.1, 400, .inl c_pastStone)), (a_pastColumns, .inl (y.1, 16, .inl c_pastColumns)), (a_pastRows, .inl (y.1, 16, .inl c_pastRows))] → va_S A s.heap H locs → (∀ (H : Heap) (locs : List Loc) (ls : Array Slot), lv_has ls 2 [(0, .ref a_this)] → va_P D vwCl [(a_this, .inr (9, .int f_thrown :: .ref a_tape :: .int f_taped :: .int f_size :: .int f_at :: .int f_fault :: .int f_newColumns :: .int f_newRows :: .ref a_newTold :: .ref a_newHas :: .ref a_newStone :: .int f_columns :: .int f_rows :: .ref a_told :: .ref a_stone :: .int f_acts :: .ref a_pastTold :: .ref a_pastStone :: .ref a_pastColumns :: .ref a_pastRows :: .int f_isLaid :: .ref a_many :: .ref a_number :: .ref a_ways :: .ref a_placeOf :: .ref a_label :: .ref a_old :: .ref a_isOpen :: .ref a_freeOnes :: .ref a_joins :: .ref a_given :: .ref a_decided :: .ref a_wet :: .int f_seed :: .int f_frees :: .ref a_order :: .int f_isKept :: .int f_keptHalf :: .int f_keptFree :: .ref a_kept :: .ref a_written :: .int f_writtenMany :: [])), (a_told, .inl (y.1, 50, .inl c_told)), (a_stone, .inl (y.2.2.1, 25, .inl c_stone)), (a_pastTold, .inl (y.1, 800, .inl c_pastTold)), (a_pastStone, .inl (y.2.2.1, 400, .inl x)), (a_pastColumns, .inl (y.1, 16, .inl c_pastColumns)), (a_pastRows, .inl (y.1, 16, .inl c_pastRows))] H → va_D A [(a_this, .inr (9, .int f_thrown :: .ref a_tape :: .int f_taped :: .int f_size :: .int f_at :: .int f_fault :: .int f_newColumns :: .int f_newRows :: .ref a_newTold :: .ref a_newHas :: .ref a_newStone :: .int f_columns :: .int f_rows :: .ref a_told :: .ref a_stone :: .int f_acts :: .ref a_pastTold :: .ref a_pastStone :: .ref a_pastColumns :: .ref a_pastRows :: .int f_isLaid :: .ref a_many :: .ref a_number :: .ref a_ways :: .ref a_placeOf :: .ref a_label :: .ref a_old :: .ref a_isOpen :: .ref a_freeOnes :: .ref a_joins :: .ref a_given :: .ref a_decided :: .ref a_wet :: .int f_seed :: .int f_frees :: .ref a_order :: .int f_isKept :: .int f_keptHalf :: .int f_keptFree :: .ref a_kept :: .ref a_written :: .int f_writtenMany :: [])), (a_told, .inl (y.1, 50, .inl c_told)), (a_stone, .inl (y.2.2.1, 25, .inl c_stone)), (a_pastTold, .inl (y.1, 800, .inl c_pastTold)), (a_pastStone, .inl (y.2.2.1, 400, .inl x)), (a_pastColumns, .inl (y.1, 16, .inl c_pastColumns)), (a_pastRows, .inl (y.1, 16, .inl c_pastRows))] → va_S A s.heap H locs → W p l e rm_X9_remembers s m args below meth c H locs 0 0 Q (F0 m 69 ls [])) → W p l e rm_X9_remembers s m args below meth c H locs 0 0 Q (F0 m 41 ls []) := by
    intro n
    induction n with
    | zero => intro x1 f_acts f_isLaid c_pastTold c_pastStone c_pastColumns c_pastRows x h; exact (zi0 h).elim
    | succ n ih =>
      intro x1 f_acts f_isLaid c_pastTold c_pastStone c_pastColumns c_pastRows x h H locs ls hl hP hD hS K69
      obtain ⟨r, hf, h⟩ := zis h
      have hf : zf_X9_remembers_l41 x1 c_pastStone = some r := hf
      unfold zf_X9_remembers_l41 at hf
      refine lv_iload_n hx hb dX9_remembers_41 rfl (lv_at hl 1 rfl) ?_
      refine lv_sipush (v := 375) hx hb dX9_remembers_42 (by decide) ?_
      refine lv_icmp_ge (tgt := 69) hx hb dX9_remembers_45 (by decide) (fun c45 => ?_) (fun c45 => ?_)
      · replace hf := zt c45 hf
        obtain rfl := Option.some.inj hf
        obtain rfl := Option.some.inj h
        exact K69 _ _ _ (lv_sub hl [0] rfl) hP hD hS
      · replace hf := ze c45 hf
        refine lv_aload_n hx hb dX9_remembers_48 rfl (lv_at hl 0 rfl) ?_
        refine zget X hP 0 rfl rfl inF9 17 (by decide) q_1349 rfl dX9_remembers_49 ?_
        refine lv_iload_n hx hb dX9_remembers_52 rfl (lv_at hl 1 rfl) ?_
        refine lv_aload_n hx hb dX9_remembers_53 rfl (lv_at hl 0 rfl) ?_
        refine zget X hP 0 rfl rfl inF9 17 (by decide) q_1349 rfl dX9_remembers_54 ?_
        refine lv_iload_n hx hb dX9_remembers_57 rfl (lv_at hl 1 rfl) ?_
        refine lv_bipush (v := 25) hx hb dX9_remembers_58 (by decide) ?_
        refine lv_iadd hx hb dX9_remembers_60 ?_
        obtain ⟨g61, hf⟩ := zg hf
        refine va_zald hx hb hK hP 4 2 rfl rfl g61 dX9_remembers_61 ?_
        obtain ⟨g62, hf⟩ := zg hf
        refine va_zast hx hb hK hP hD hS 4 2 rfl rfl g62 dX9_remembers_62 (fun H locs hP hD hS => ?_)
        have hP : va_P D vwCl [(a_this, .inr (9, .int f_thrown :: .ref a_tape :: .int f_taped :: .int f_size :: .int f_at :: .int f_fault :: .int f_newColumns :: .int f_newRows :: .ref a_newTold :: .ref a_newHas :: .ref a_newStone :: .int f_columns :: .int f_rows :: .ref a_told :: .ref a_stone :: .int f_acts :: .ref a_pastTold :: .ref a_pastStone :: .ref a_pastColumns :: .ref a_pastRows :: .int f_isLaid :: .ref a_many :: .ref a_number :: .ref a_ways :: .ref a_placeOf :: .ref a_label :: .ref a_old :: .ref a_isOpen :: .ref a_freeOnes :: .ref a_joins :: .ref a_given :: .ref a_decided :: .ref a_wet :: .int f_seed :: .int f_frees :: .ref a_order :: .int f_isKept :: .int f_keptHalf :: .int f_keptFree :: .ref a_kept :: .ref a_written :: .int f_writtenMany :: [])), (a_told, .inl (y.1, 50, .inl c_told)), (a_stone, .inl (y.2.2.1, 25, .inl c_stone)), (a_pastTold, .inl (y.1, 800, .inl c_pastTold)), (a_pastStone, .inl (y.2.2.1, 400, .inl (upd c_pastStone x1.toNatClampNeg (vp_nar .boolean (c_pastStone (x1 + (25 : Int32)).toNatClampNeg))))), (a_pastColumns, .inl (y.1, 16, .inl c_pastColumns)), (a_pastRows, .inl (y.1, 16, .inl c_pastRows))] H := hP
        have hD : va_D A [(a_this, .inr (9, .int f_thrown :: .ref a_tape :: .int f_taped :: .int f_size :: .int f_at :: .int f_fault :: .int f_newColumns :: .int f_newRows :: .ref a_newTold :: .ref a_newHas :: .ref a_newStone :: .int f_columns :: .int f_rows :: .ref a_told :: .ref a_stone :: .int f_acts :: .ref a_pastTold :: .ref a_pastStone :: .ref a_pastColumns :: .ref a_pastRows :: .int f_isLaid :: .ref a_many :: .ref a_number :: .ref a_ways :: .ref a_placeOf :: .ref a_label :: .ref a_old :: .ref a_isOpen :: .ref a_freeOnes :: .ref a_joins :: .ref a_given :: .ref a_decided :: .ref a_wet :: .int f_seed :: .int f_frees :: .ref a_order :: .int f_isKept :: .int f_keptHalf :: .int f_keptFree :: .ref a_kept :: .ref a_written :: .int f_writtenMany :: [])), (a_told, .inl (y.1, 50, .inl c_told)), (a_stone, .inl (y.2.2.1, 25, .inl c_stone)), (a_pastTold, .inl (y.1, 800, .inl c_pastTold)), (a_pastStone, .inl (y.2.2.1, 400, .inl (upd c_pastStone x1.toNatClampNeg (vp_nar .boolean (c_pastStone (x1 + (25 : Int32)).toNatClampNeg))))), (a_pastColumns, .inl (y.1, 16, .inl c_pastColumns)), (a_pastRows, .inl (y.1, 16, .inl c_pastRows))] := hD
        refine lv_iinc (v := x1 + (1 : Int32)) (lv' := [(1, .int (x1 + (1 : Int32))), (0, .ref a_this)]) hx hb dX9_remembers_63 hl (k := 1) rfl rfl (by decide) rfl (fun ls hl => ?_)
        refine lv_goto (tgt := 41) hx hb dX9_remembers_66 (by decide) ?_
        obtain rfl := Option.some.inj hf
        exact ih (x1 + (1 : Int32)) f_acts f_isLaid c_pastTold (upd c_pastStone x1.toNatClampNeg (vp_nar .boolean (c_pastStone (x1 + (25 : Int32)).toNatClampNeg))) c_pastColumns c_pastRows x h _ _ _ (lv_sub hl [1, 0] rfl) hP hD hS K69
  have L71 : ∀ (n : Nat) (x1 : Int32) (f_acts : Int32) (f_isLaid : Int32) (c_pastTold : Nat → Int32) (c_pastStone : Nat → Int32) (c_pastColumns : Nat → Int32) (c_pastRows : Nat → Int32) (x : ((Nat → Int32) × (Nat → Int32))), zit (fun d => zf_X9_remembers_l71 d.1 d.2.1 d.2.2) n (x1, c_pastColumns, c_pastRows) = some x → ∀ (H : Heap) (locs : List Loc) (ls : Array Slot), lv_has ls 2 [(0, .ref a_this), (1, .int x1)] → va_P D vwCl [(a_this, .inr (9, .int f_thrown :: .ref a_tape :: .int f_taped :: .int f_size :: .int f_at :: .int f_fault :: .int f_newColumns :: .int f_newRows :: .ref a_newTold :: .ref a_newHas :: .ref a_newStone :: .int f_columns :: .int f_rows :: .ref a_told :: .ref a_stone :: .int f_acts :: .ref a_pastTold :: .ref a_pastStone :: .ref a_pastColumns :: .ref a_pastRows :: .int f_isLaid :: .ref a_many :: .ref a_number :: .ref a_ways :: .ref a_placeOf :: .ref a_label :: .ref a_old :: .ref a_isOpen :: .ref a_freeOnes :: .ref a_joins :: .ref a_given :: .ref a_decided :: .ref a_wet :: .int f_seed :: .int f_frees :: .ref a_order :: .int f_isKept :: .int f_keptHalf :: .int f_keptFree :: .ref a_kept :: .ref a_written :: .int f_writtenMany :: [])), (a_told, .inl (y.1, 50, .inl c_told)), (a_stone, .inl (y.2.2.1, 25, .inl c_stone)), (a_pastTold, .inl (y.1, 800, .inl c_pastTold)), (a_pastStone, .inl (y.2.2.1, 400, .inl c_pastStone)), (a_pastColumns, .inl (y.1, 16, .inl c_pastColumns)), (a_pastRows, .inl (y.1, 16, .inl c_pastRows))] H → va_D A [(a_this, .inr (9, .int f_thrown :: .ref a_tape :: .int f_taped :: .int f_size :: .int f_at :: .int f_fault :: .int f_newColumns :: .int f_newRows :: .ref a_newTold :: .ref a_newHas :: .ref a_newStone :: .int f_columns :: .int f_rows :: .ref a_told :: .ref a_stone :: .int f_acts :: .ref a_pastTold :: .ref a_pastStone :: .ref a_pastColumns :: .ref a_pastRows :: .int f_isLaid :: .ref a_many :: .ref a_number :: .ref a_ways :: .ref a_placeOf :: .ref a_label :: .ref a_old :: .ref a_isOpen :: .ref a_freeOnes :: .ref a_joins :: .ref a_given :: .ref a_decided :: .ref a_wet :: .int f_seed :: .int f_frees :: .ref a_order :: .int f_isKept :: .int f_keptHalf :: .int f_keptFree :: .ref a_kept :: .ref a_written :: .int f_writtenMany :: [])), (a_told, .inl (y.1, 50, .inl c_told)), (a_stone, .inl (y.2.2.1, 25, .inl c_stone)), (a_pastTold, .inl (y.1, 800, .inl c_pastTold)), (a_pastStone, .inl (y.2.2.1, 400, .inl c_pastStone)), (a_pastColumns, .inl (y.1, 16, .inl c_pastColumns)), (a_pastRows, .inl (y.1, 16, .inl c_pastRows))] → va_S A s.heap H locs → (∀ (H : Heap) (locs : List Loc) (ls : Array Slot), lv_has ls 2 [(0, .ref a_this)] → va_P D vwCl [(a_this, .inr (9, .int f_thrown :: .ref a_tape :: .int f_taped :: .int f_size :: .int f_at :: .int f_fault :: .int f_newColumns :: .int f_newRows :: .ref a_newTold :: .ref a_newHas :: .ref a_newStone :: .int f_columns :: .int f_rows :: .ref a_told :: .ref a_stone :: .int f_acts :: .ref a_pastTold :: .ref a_pastStone :: .ref a_pastColumns :: .ref a_pastRows :: .int f_isLaid :: .ref a_many :: .ref a_number :: .ref a_ways :: .ref a_placeOf :: .ref a_label :: .ref a_old :: .ref a_isOpen :: .ref a_freeOnes :: .ref a_joins :: .ref a_given :: .ref a_decided :: .ref a_wet :: .int f_seed :: .int f_frees :: .ref a_order :: .int f_isKept :: .int f_keptHalf :: .int f_keptFree :: .ref a_kept :: .ref a_written :: .int f_writtenMany :: [])), (a_told, .inl (y.1, 50, .inl c_told)), (a_stone, .inl (y.2.2.1, 25, .inl c_stone)), (a_pastTold, .inl (y.1, 800, .inl c_pastTold)), (a_pastStone, .inl (y.2.2.1, 400, .inl c_pastStone)), (a_pastColumns, .inl (y.1, 16, .inl x.1)), (a_pastRows, .inl (y.1, 16, .inl x.2))] H → va_D A [(a_this, .inr (9, .int f_thrown :: .ref a_tape :: .int f_taped :: .int f_size :: .int f_at :: .int f_fault :: .int f_newColumns :: .int f_newRows :: .ref a_newTold :: .ref a_newHas :: .ref a_newStone :: .int f_columns :: .int f_rows :: .ref a_told :: .ref a_stone :: .int f_acts :: .ref a_pastTold :: .ref a_pastStone :: .ref a_pastColumns :: .ref a_pastRows :: .int f_isLaid :: .ref a_many :: .ref a_number :: .ref a_ways :: .ref a_placeOf :: .ref a_label :: .ref a_old :: .ref a_isOpen :: .ref a_freeOnes :: .ref a_joins :: .ref a_given :: .ref a_decided :: .ref a_wet :: .int f_seed :: .int f_frees :: .ref a_order :: .int f_isKept :: .int f_keptHalf :: .int f_keptFree :: .ref a_kept :: .ref a_written :: .int f_writtenMany :: [])), (a_told, .inl (y.1, 50, .inl c_told)), (a_stone, .inl (y.2.2.1, 25, .inl c_stone)), (a_pastTold, .inl (y.1, 800, .inl c_pastTold)), (a_pastStone, .inl (y.2.2.1, 400, .inl c_pastStone)), (a_pastColumns, .inl (y.1, 16, .inl x.1)), (a_pastRows, .inl (y.1, 16, .inl x.2))] → va_S A s.heap H locs → W p l e rm_X9_remembers s m args below meth c H locs 0 0 Q (F0 m 111 ls [])) → W p l e rm_X9_remembers s m args below meth c H locs 0 0 Q (F0 m 71 ls []) := by
    intro n
    induction n with
    | zero => intro x1 f_acts f_isLaid c_pastTold c_pastStone c_pastColumns c_pastRows x h; exact (zi0 h).elim
    | succ n ih =>
      intro x1 f_acts f_isLaid c_pastTold c_pastStone c_pastColumns c_pastRows x h H locs ls hl hP hD hS K111
      obtain ⟨r, hf, h⟩ := zis h
      have hf : zf_X9_remembers_l71 x1 c_pastColumns c_pastRows = some r := hf
      unfold zf_X9_remembers_l71 at hf
      refine lv_iload_n hx hb dX9_remembers_71 rfl (lv_at hl 1 rfl) ?_
      refine lv_bipush (v := 15) hx hb dX9_remembers_72 (by decide) ?_
      refine lv_icmp_ge (tgt := 111) hx hb dX9_remembers_74 (by decide) (fun c74 => ?_) (fun c74 => ?_)
      · replace hf := zt c74 hf
        obtain rfl := Option.some.inj hf
        obtain rfl := Option.some.inj h
        exact K111 _ _ _ (lv_sub hl [0] rfl) hP hD hS
      · replace hf := ze c74 hf
        refine lv_aload_n hx hb dX9_remembers_77 rfl (lv_at hl 0 rfl) ?_
        refine zget X hP 0 rfl rfl inF9 18 (by decide) q_1350 rfl dX9_remembers_78 ?_
        refine lv_iload_n hx hb dX9_remembers_81 rfl (lv_at hl 1 rfl) ?_
        refine lv_aload_n hx hb dX9_remembers_82 rfl (lv_at hl 0 rfl) ?_
        refine zget X hP 0 rfl rfl inF9 18 (by decide) q_1350 rfl dX9_remembers_83 ?_
        refine lv_iload_n hx hb dX9_remembers_86 rfl (lv_at hl 1 rfl) ?_
        refine lv_iconst (v := 1) hx hb dX9_remembers_87 (by decide) ?_
        refine lv_iadd hx hb dX9_remembers_88 ?_
        obtain ⟨g89, hf⟩ := zg hf
        refine va_iald hx hb hK hP 5 0 rfl rfl g89 dX9_remembers_89 ?_
        obtain ⟨g90, hf⟩ := zg hf
        refine va_iast hx hb hK hP hD hS 5 0 rfl rfl g90 dX9_remembers_90 (fun H locs hP hD hS => ?_)
        have hP : va_P D vwCl [(a_this, .inr (9, .int f_thrown :: .ref a_tape :: .int f_taped :: .int f_size :: .int f_at :: .int f_fault :: .int f_newColumns :: .int f_newRows :: .ref a_newTold :: .ref a_newHas :: .ref a_newStone :: .int f_columns :: .int f_rows :: .ref a_told :: .ref a_stone :: .int f_acts :: .ref a_pastTold :: .ref a_pastStone :: .ref a_pastColumns :: .ref a_pastRows :: .int f_isLaid :: .ref a_many :: .ref a_number :: .ref a_ways :: .ref a_placeOf :: .ref a_label :: .ref a_old :: .ref a_isOpen :: .ref a_freeOnes :: .ref a_joins :: .ref a_given :: .ref a_decided :: .ref a_wet :: .int f_seed :: .int f_frees :: .ref a_order :: .int f_isKept :: .int f_keptHalf :: .int f_keptFree :: .ref a_kept :: .ref a_written :: .int f_writtenMany :: [])), (a_told, .inl (y.1, 50, .inl c_told)), (a_stone, .inl (y.2.2.1, 25, .inl c_stone)), (a_pastTold, .inl (y.1, 800, .inl c_pastTold)), (a_pastStone, .inl (y.2.2.1, 400, .inl c_pastStone)), (a_pastColumns, .inl (y.1, 16, .inl (upd c_pastColumns x1.toNatClampNeg (c_pastColumns (x1 + (1 : Int32)).toNatClampNeg)))), (a_pastRows, .inl (y.1, 16, .inl c_pastRows))] H := hP
        have hD : va_D A [(a_this, .inr (9, .int f_thrown :: .ref a_tape :: .int f_taped :: .int f_size :: .int f_at :: .int f_fault :: .int f_newColumns :: .int f_newRows :: .ref a_newTold :: .ref a_newHas :: .ref a_newStone :: .int f_columns :: .int f_rows :: .ref a_told :: .ref a_stone :: .int f_acts :: .ref a_pastTold :: .ref a_pastStone :: .ref a_pastColumns :: .ref a_pastRows :: .int f_isLaid :: .ref a_many :: .ref a_number :: .ref a_ways :: .ref a_placeOf :: .ref a_label :: .ref a_old :: .ref a_isOpen :: .ref a_freeOnes :: .ref a_joins :: .ref a_given :: .ref a_decided :: .ref a_wet :: .int f_seed :: .int f_frees :: .ref a_order :: .int f_isKept :: .int f_keptHalf :: .int f_keptFree :: .ref a_kept :: .ref a_written :: .int f_writtenMany :: [])), (a_told, .inl (y.1, 50, .inl c_told)), (a_stone, .inl (y.2.2.1, 25, .inl c_stone)), (a_pastTold, .inl (y.1, 800, .inl c_pastTold)), (a_pastStone, .inl (y.2.2.1, 400, .inl c_pastStone)), (a_pastColumns, .inl (y.1, 16, .inl (upd c_pastColumns x1.toNatClampNeg (c_pastColumns (x1 + (1 : Int32)).toNatClampNeg)))), (a_pastRows, .inl (y.1, 16, .inl c_pastRows))] := hD
        refine lv_aload_n hx hb dX9_remembers_91 rfl (lv_at hl 0 rfl) ?_
        refine zget X hP 0 rfl rfl inF9 19 (by decide) q_1351 rfl dX9_remembers_92 ?_
        refine lv_iload_n hx hb dX9_remembers_95 rfl (lv_at hl 1 rfl) ?_
        refine lv_aload_n hx hb dX9_remembers_96 rfl (lv_at hl 0 rfl) ?_
        refine zget X hP 0 rfl rfl inF9 19 (by decide) q_1351 rfl dX9_remembers_97 ?_
        refine lv_iload_n hx hb dX9_remembers_100 rfl (lv_at hl 1 rfl) ?_
        refine lv_iconst (v := 1) hx hb dX9_remembers_101 (by decide) ?_
        refine lv_iadd hx hb dX9_remembers_102 ?_
        obtain ⟨g103, hf⟩ := zg hf
        refine va_iald hx hb hK hP 6 0 rfl rfl g103 dX9_remembers_103 ?_
        obtain ⟨g104, hf⟩ := zg hf
        refine va_iast hx hb hK hP hD hS 6 0 rfl rfl g104 dX9_remembers_104 (fun H locs hP hD hS => ?_)
        have hP : va_P D vwCl [(a_this, .inr (9, .int f_thrown :: .ref a_tape :: .int f_taped :: .int f_size :: .int f_at :: .int f_fault :: .int f_newColumns :: .int f_newRows :: .ref a_newTold :: .ref a_newHas :: .ref a_newStone :: .int f_columns :: .int f_rows :: .ref a_told :: .ref a_stone :: .int f_acts :: .ref a_pastTold :: .ref a_pastStone :: .ref a_pastColumns :: .ref a_pastRows :: .int f_isLaid :: .ref a_many :: .ref a_number :: .ref a_ways :: .ref a_placeOf :: .ref a_label :: .ref a_old :: .ref a_isOpen :: .ref a_freeOnes :: .ref a_joins :: .ref a_given :: .ref a_decided :: .ref a_wet :: .int f_seed :: .int f_frees :: .ref a_order :: .int f_isKept :: .int f_keptHalf :: .int f_keptFree :: .ref a_kept :: .ref a_written :: .int f_writtenMany :: [])), (a_told, .inl (y.1, 50, .inl c_told)), (a_stone, .inl (y.2.2.1, 25, .inl c_stone)), (a_pastTold, .inl (y.1, 800, .inl c_pastTold)), (a_pastStone, .inl (y.2.2.1, 400, .inl c_pastStone)), (a_pastColumns, .inl (y.1, 16, .inl (upd c_pastColumns x1.toNatClampNeg (c_pastColumns (x1 + (1 : Int32)).toNatClampNeg)))), (a_pastRows, .inl (y.1, 16, .inl (upd c_pastRows x1.toNatClampNeg (c_pastRows (x1 + (1 : Int32)).toNatClampNeg))))] H := hP
        have hD : va_D A [(a_this, .inr (9, .int f_thrown :: .ref a_tape :: .int f_taped :: .int f_size :: .int f_at :: .int f_fault :: .int f_newColumns :: .int f_newRows :: .ref a_newTold :: .ref a_newHas :: .ref a_newStone :: .int f_columns :: .int f_rows :: .ref a_told :: .ref a_stone :: .int f_acts :: .ref a_pastTold :: .ref a_pastStone :: .ref a_pastColumns :: .ref a_pastRows :: .int f_isLaid :: .ref a_many :: .ref a_number :: .ref a_ways :: .ref a_placeOf :: .ref a_label :: .ref a_old :: .ref a_isOpen :: .ref a_freeOnes :: .ref a_joins :: .ref a_given :: .ref a_decided :: .ref a_wet :: .int f_seed :: .int f_frees :: .ref a_order :: .int f_isKept :: .int f_keptHalf :: .int f_keptFree :: .ref a_kept :: .ref a_written :: .int f_writtenMany :: [])), (a_told, .inl (y.1, 50, .inl c_told)), (a_stone, .inl (y.2.2.1, 25, .inl c_stone)), (a_pastTold, .inl (y.1, 800, .inl c_pastTold)), (a_pastStone, .inl (y.2.2.1, 400, .inl c_pastStone)), (a_pastColumns, .inl (y.1, 16, .inl (upd c_pastColumns x1.toNatClampNeg (c_pastColumns (x1 + (1 : Int32)).toNatClampNeg)))), (a_pastRows, .inl (y.1, 16, .inl (upd c_pastRows x1.toNatClampNeg (c_pastRows (x1 + (1 : Int32)).toNatClampNeg))))] := hD
        refine lv_iinc (v := x1 + (1 : Int32)) (lv' := [(1, .int (x1 + (1 : Int32))), (0, .ref a_this)]) hx hb dX9_remembers_105 hl (k := 1) rfl rfl (by decide) rfl (fun ls hl => ?_)
        refine lv_goto (tgt := 71) hx hb dX9_remembers_108 (by decide) ?_
        obtain rfl := Option.some.inj hf
        exact ih (x1 + (1 : Int32)) f_acts f_isLaid c_pastTold c_pastStone (upd c_pastColumns x1.toNatClampNeg (c_pastColumns (x1 + (1 : Int32)).toNatClampNeg)) (upd c_pastRows x1.toNatClampNeg (c_pastRows (x1 + (1 : Int32)).toNatClampNeg)) x h _ _ _ (lv_sub hl [1, 0] rfl) hP hD hS K111
  have L123 : ∀ (n : Nat) (x1 : Int32) (f_acts : Int32) (f_isLaid : Int32) (c_pastTold : Nat → Int32) (c_pastStone : Nat → Int32) (c_pastColumns : Nat → Int32) (c_pastRows : Nat → Int32) (x : (Nat → Int32)), zit (fun d => zf_X9_remembers_l123 f_acts c_told d.1 d.2) n (x1, c_pastTold) = some x → ∀ (H : Heap) (locs : List Loc) (ls : Array Slot), lv_has ls 2 [(0, .ref a_this), (1, .int x1)] → va_P D vwCl [(a_this, .inr (9, .int f_thrown :: .ref a_tape :: .int f_taped :: .int f_size :: .int f_at :: .int f_fault :: .int f_newColumns :: .int f_newRows :: .ref a_newTold :: .ref a_newHas :: .ref a_newStone :: .int f_columns :: .int f_rows :: .ref a_told :: .ref a_stone :: .int f_acts :: .ref a_pastTold :: .ref a_pastStone :: .ref a_pastColumns :: .ref a_pastRows :: .int f_isLaid :: .ref a_many :: .ref a_number :: .ref a_ways :: .ref a_placeOf :: .ref a_label :: .ref a_old :: .ref a_isOpen :: .ref a_freeOnes :: .ref a_joins :: .ref a_given :: .ref a_decided :: .ref a_wet :: .int f_seed :: .int f_frees :: .ref a_order :: .int f_isKept :: .int f_keptHalf :: .int f_keptFree :: .ref a_kept :: .ref a_written :: .int f_writtenMany :: [])), (a_told, .inl (y.1, 50, .inl c_told)), (a_stone, .inl (y.2.2.1, 25, .inl c_stone)), (a_pastTold, .inl (y.1, 800, .inl c_pastTold)), (a_pastStone, .inl (y.2.2.1, 400, .inl c_pastStone)), (a_pastColumns, .inl (y.1, 16, .inl c_pastColumns)), (a_pastRows, .inl (y.1, 16, .inl c_pastRows))] H → va_D A [(a_this, .inr (9, .int f_thrown :: .ref a_tape :: .int f_taped :: .int f_size :: .int f_at :: .int f_fault :: .int f_newColumns :: .int f_newRows :: .ref a_newTold :: .ref a_newHas :: .ref a_newStone :: .int f_columns :: .int f_rows :: .ref a_told :: .ref a_stone :: .int f_acts :: .ref a_pastTold :: .ref a_pastStone :: .ref a_pastColumns :: .ref a_pastRows :: .int f_isLaid :: .ref a_many :: .ref a_number :: .ref a_ways :: .ref a_placeOf :: .ref a_label :: .ref a_old :: .ref a_isOpen :: .ref a_freeOnes :: .ref a_joins :: .ref a_given :: .ref a_decided :: .ref a_wet :: .int f_seed :: .int f_frees :: .ref a_order :: .int f_isKept :: .int f_keptHalf :: .int f_keptFree :: .ref a_kept :: .ref a_written :: .int f_writtenMany :: [])), (a_told, .inl (y.1, 50, .inl c_told)), (a_stone, .inl (y.2.2.1, 25, .inl c_stone)), (a_pastTold, .inl (y.1, 800, .inl c_pastTold)), (a_pastStone, .inl (y.2.2.1, 400, .inl c_pastStone)), (a_pastColumns, .inl (y.1, 16, .inl c_pastColumns)), (a_pastRows, .inl (y.1, 16, .inl c_pastRows))] → va_S A s.heap H locs → (∀ (H : Heap) (locs : List Loc) (ls : Array Slot), lv_has ls 2 [(0, .ref a_this)] → va_P D vwCl [(a_this, .inr (9, .int f_thrown :: .ref a_tape :: .int f_taped :: .int f_size :: .int f_at :: .int f_fault :: .int f_newColumns :: .int f_newRows :: .ref a_newTold :: .ref a_newHas :: .ref a_newStone :: .int f_columns :: .int f_rows :: .ref a_told :: .ref a_stone :: .int f_acts :: .ref a_pastTold :: .ref a_pastStone :: .ref a_pastColumns :: .ref a_pastRows :: .int f_isLaid :: .ref a_many :: .ref a_number :: .ref a_ways :: .ref a_placeOf :: .ref a_label :: .ref a_old :: .ref a_isOpen :: .ref a_freeOnes :: .ref a_joins :: .ref a_given :: .ref a_decided :: .ref a_wet :: .int f_seed :: .int f_frees :: .ref a_order :: .int f_isKept :: .int f_keptHalf :: .int f_keptFree :: .ref a_kept :: .ref a_written :: .int f_writtenMany :: [])), (a_told, .inl (y.1, 50, .inl c_told)), (a_stone, .inl (y.2.2.1, 25, .inl c_stone)), (a_pastTold, .inl (y.1, 800, .inl x)), (a_pastStone, .inl (y.2.2.1, 400, .inl c_pastStone)), (a_pastColumns, .inl (y.1, 16, .inl c_pastColumns)), (a_pastRows, .inl (y.1, 16, .inl c_pastRows))] H → va_D A [(a_this, .inr (9, .int f_thrown :: .ref a_tape :: .int f_taped :: .int f_size :: .int f_at :: .int f_fault :: .int f_newColumns :: .int f_newRows :: .ref a_newTold :: .ref a_newHas :: .ref a_newStone :: .int f_columns :: .int f_rows :: .ref a_told :: .ref a_stone :: .int f_acts :: .ref a_pastTold :: .ref a_pastStone :: .ref a_pastColumns :: .ref a_pastRows :: .int f_isLaid :: .ref a_many :: .ref a_number :: .ref a_ways :: .ref a_placeOf :: .ref a_label :: .ref a_old :: .ref a_isOpen :: .ref a_freeOnes :: .ref a_joins :: .ref a_given :: .ref a_decided :: .ref a_wet :: .int f_seed :: .int f_frees :: .ref a_order :: .int f_isKept :: .int f_keptHalf :: .int f_keptFree :: .ref a_kept :: .ref a_written :: .int f_writtenMany :: [])), (a_told, .inl (y.1, 50, .inl c_told)), (a_stone, .inl (y.2.2.1, 25, .inl c_stone)), (a_pastTold, .inl (y.1, 800, .inl x)), (a_pastStone, .inl (y.2.2.1, 400, .inl c_pastStone)), (a_pastColumns, .inl (y.1, 16, .inl c_pastColumns)), (a_pastRows, .inl (y.1, 16, .inl c_pastRows))] → va_S A s.heap H locs → W p l e rm_X9_remembers s m args below meth c H locs 0 0 Q (F0 m 155 ls [])) → W p l e rm_X9_remembers s m args below meth c H locs 0 0 Q (F0 m 123 ls []) := by
    intro n
    induction n with
    | zero => intro x1 f_acts f_isLaid c_pastTold c_pastStone c_pastColumns c_pastRows x h; exact (zi0 h).elim
    | succ n ih =>
      intro x1 f_acts f_isLaid c_pastTold c_pastStone c_pastColumns c_pastRows x h H locs ls hl hP hD hS K155
      obtain ⟨r, hf, h⟩ := zis h
      have hf : zf_X9_remembers_l123 f_acts c_told x1 c_pastTold = some r := hf
      unfold zf_X9_remembers_l123 at hf
      refine lv_iload_n hx hb dX9_remembers_123 rfl (lv_at hl 1 rfl) ?_
      refine lv_bipush (v := 50) hx hb dX9_remembers_124 (by decide) ?_
      refine lv_icmp_ge (tgt := 155) hx hb dX9_remembers_126 (by decide) (fun c126 => ?_) (fun c126 => ?_)
      · replace hf := zt c126 hf
        obtain rfl := Option.some.inj hf
        obtain rfl := Option.some.inj h
        exact K155 _ _ _ (lv_sub hl [0] rfl) hP hD hS
      · replace hf := ze c126 hf
        refine lv_aload_n hx hb dX9_remembers_129 rfl (lv_at hl 0 rfl) ?_
        refine zget X hP 0 rfl rfl inF9 16 (by decide) q_1348 rfl dX9_remembers_130 ?_
        refine lv_bipush (v := 50) hx hb dX9_remembers_133 (by decide) ?_
        refine lv_aload_n hx hb dX9_remembers_135 rfl (lv_at hl 0 rfl) ?_
        refine zget X hP 0 rfl rfl inF9 15 (by decide) q_1347 rfl dX9_remembers_136 ?_
        refine lv_imul hx hb dX9_remembers_139 ?_
        refine lv_iload_n hx hb dX9_remembers_140 rfl (lv_at hl 1 rfl) ?_
        refine lv_iadd hx hb dX9_remembers_141 ?_
        refine lv_aload_n hx hb dX9_remembers_142 rfl (lv_at hl 0 rfl) ?_
        refine zget X hP 0 rfl rfl inF9 13 (by decide) q_1345 rfl dX9_remembers_143 ?_
        refine lv_iload_n hx hb dX9_remembers_146 rfl (lv_at hl 1 rfl) ?_
        obtain ⟨g147, hf⟩ := zg hf
        refine va_iald hx hb hK hP 1 0 rfl rfl g147 dX9_remembers_147 ?_
        obtain ⟨g148, hf⟩ := zg hf
        refine va_iast hx hb hK hP hD hS 3 0 rfl rfl g148 dX9_remembers_148 (fun H locs hP hD hS => ?_)
        have hP : va_P D vwCl [(a_this, .inr (9, .int f_thrown :: .ref a_tape :: .int f_taped :: .int f_size :: .int f_at :: .int f_fault :: .int f_newColumns :: .int f_newRows :: .ref a_newTold :: .ref a_newHas :: .ref a_newStone :: .int f_columns :: .int f_rows :: .ref a_told :: .ref a_stone :: .int f_acts :: .ref a_pastTold :: .ref a_pastStone :: .ref a_pastColumns :: .ref a_pastRows :: .int f_isLaid :: .ref a_many :: .ref a_number :: .ref a_ways :: .ref a_placeOf :: .ref a_label :: .ref a_old :: .ref a_isOpen :: .ref a_freeOnes :: .ref a_joins :: .ref a_given :: .ref a_decided :: .ref a_wet :: .int f_seed :: .int f_frees :: .ref a_order :: .int f_isKept :: .int f_keptHalf :: .int f_keptFree :: .ref a_kept :: .ref a_written :: .int f_writtenMany :: [])), (a_told, .inl (y.1, 50, .inl c_told)), (a_stone, .inl (y.2.2.1, 25, .inl c_stone)), (a_pastTold, .inl (y.1, 800, .inl (upd c_pastTold (((50 : Int32) * f_acts) + x1).toNatClampNeg (c_told x1.toNatClampNeg)))), (a_pastStone, .inl (y.2.2.1, 400, .inl c_pastStone)), (a_pastColumns, .inl (y.1, 16, .inl c_pastColumns)), (a_pastRows, .inl (y.1, 16, .inl c_pastRows))] H := hP
        have hD : va_D A [(a_this, .inr (9, .int f_thrown :: .ref a_tape :: .int f_taped :: .int f_size :: .int f_at :: .int f_fault :: .int f_newColumns :: .int f_newRows :: .ref a_newTold :: .ref a_newHas :: .ref a_newStone :: .int f_columns :: .int f_rows :: .ref a_told :: .ref a_stone :: .int f_acts :: .ref a_pastTold :: .ref a_pastStone :: .ref a_pastColumns :: .ref a_pastRows :: .int f_isLaid :: .ref a_many :: .ref a_number :: .ref a_ways :: .ref a_placeOf :: .ref a_label :: .ref a_old :: .ref a_isOpen :: .ref a_freeOnes :: .ref a_joins :: .ref a_given :: .ref a_decided :: .ref a_wet :: .int f_seed :: .int f_frees :: .ref a_order :: .int f_isKept :: .int f_keptHalf :: .int f_keptFree :: .ref a_kept :: .ref a_written :: .int f_writtenMany :: [])), (a_told, .inl (y.1, 50, .inl c_told)), (a_stone, .inl (y.2.2.1, 25, .inl c_stone)), (a_pastTold, .inl (y.1, 800, .inl (upd c_pastTold (((50 : Int32) * f_acts) + x1).toNatClampNeg (c_told x1.toNatClampNeg)))), (a_pastStone, .inl (y.2.2.1, 400, .inl c_pastStone)), (a_pastColumns, .inl (y.1, 16, .inl c_pastColumns)), (a_pastRows, .inl (y.1, 16, .inl c_pastRows))] := hD
        refine lv_iinc (v := x1 + (1 : Int32)) (lv' := [(1, .int (x1 + (1 : Int32))), (0, .ref a_this)]) hx hb dX9_remembers_149 hl (k := 1) rfl rfl (by decide) rfl (fun ls hl => ?_)
        refine lv_goto (tgt := 123) hx hb dX9_remembers_152 (by decide) ?_
        obtain rfl := Option.some.inj hf
        exact ih (x1 + (1 : Int32)) f_acts f_isLaid (upd c_pastTold (((50 : Int32) * f_acts) + x1).toNatClampNeg (c_told x1.toNatClampNeg)) c_pastStone c_pastColumns c_pastRows x h _ _ _ (lv_sub hl [1, 0] rfl) hP hD hS K155
  have L157 : ∀ (n : Nat) (x1 : Int32) (f_acts : Int32) (f_isLaid : Int32) (c_pastTold : Nat → Int32) (c_pastStone : Nat → Int32) (c_pastColumns : Nat → Int32) (c_pastRows : Nat → Int32) (x : (Nat → Int32)), zit (fun d => zf_X9_remembers_l157 f_acts c_stone d.1 d.2) n (x1, c_pastStone) = some x → ∀ (H : Heap) (locs : List Loc) (ls : Array Slot), lv_has ls 2 [(0, .ref a_this), (1, .int x1)] → va_P D vwCl [(a_this, .inr (9, .int f_thrown :: .ref a_tape :: .int f_taped :: .int f_size :: .int f_at :: .int f_fault :: .int f_newColumns :: .int f_newRows :: .ref a_newTold :: .ref a_newHas :: .ref a_newStone :: .int f_columns :: .int f_rows :: .ref a_told :: .ref a_stone :: .int f_acts :: .ref a_pastTold :: .ref a_pastStone :: .ref a_pastColumns :: .ref a_pastRows :: .int f_isLaid :: .ref a_many :: .ref a_number :: .ref a_ways :: .ref a_placeOf :: .ref a_label :: .ref a_old :: .ref a_isOpen :: .ref a_freeOnes :: .ref a_joins :: .ref a_given :: .ref a_decided :: .ref a_wet :: .int f_seed :: .int f_frees :: .ref a_order :: .int f_isKept :: .int f_keptHalf :: .int f_keptFree :: .ref a_kept :: .ref a_written :: .int f_writtenMany :: [])), (a_told, .inl (y.1, 50, .inl c_told)), (a_stone, .inl (y.2.2.1, 25, .inl c_stone)), (a_pastTold, .inl (y.1, 800, .inl c_pastTold)), (a_pastStone, .inl (y.2.2.1, 400, .inl c_pastStone)), (a_pastColumns, .inl (y.1, 16, .inl c_pastColumns)), (a_pastRows, .inl (y.1, 16, .inl c_pastRows))] H → va_D A [(a_this, .inr (9, .int f_thrown :: .ref a_tape :: .int f_taped :: .int f_size :: .int f_at :: .int f_fault :: .int f_newColumns :: .int f_newRows :: .ref a_newTold :: .ref a_newHas :: .ref a_newStone :: .int f_columns :: .int f_rows :: .ref a_told :: .ref a_stone :: .int f_acts :: .ref a_pastTold :: .ref a_pastStone :: .ref a_pastColumns :: .ref a_pastRows :: .int f_isLaid :: .ref a_many :: .ref a_number :: .ref a_ways :: .ref a_placeOf :: .ref a_label :: .ref a_old :: .ref a_isOpen :: .ref a_freeOnes :: .ref a_joins :: .ref a_given :: .ref a_decided :: .ref a_wet :: .int f_seed :: .int f_frees :: .ref a_order :: .int f_isKept :: .int f_keptHalf :: .int f_keptFree :: .ref a_kept :: .ref a_written :: .int f_writtenMany :: [])), (a_told, .inl (y.1, 50, .inl c_told)), (a_stone, .inl (y.2.2.1, 25, .inl c_stone)), (a_pastTold, .inl (y.1, 800, .inl c_pastTold)), (a_pastStone, .inl (y.2.2.1, 400, .inl c_pastStone)), (a_pastColumns, .inl (y.1, 16, .inl c_pastColumns)), (a_pastRows, .inl (y.1, 16, .inl c_pastRows))] → va_S A s.heap H locs → (∀ (H : Heap) (locs : List Loc) (ls : Array Slot), lv_has ls 2 [(0, .ref a_this)] → va_P D vwCl [(a_this, .inr (9, .int f_thrown :: .ref a_tape :: .int f_taped :: .int f_size :: .int f_at :: .int f_fault :: .int f_newColumns :: .int f_newRows :: .ref a_newTold :: .ref a_newHas :: .ref a_newStone :: .int f_columns :: .int f_rows :: .ref a_told :: .ref a_stone :: .int f_acts :: .ref a_pastTold :: .ref a_pastStone :: .ref a_pastColumns :: .ref a_pastRows :: .int f_isLaid :: .ref a_many :: .ref a_number :: .ref a_ways :: .ref a_placeOf :: .ref a_label :: .ref a_old :: .ref a_isOpen :: .ref a_freeOnes :: .ref a_joins :: .ref a_given :: .ref a_decided :: .ref a_wet :: .int f_seed :: .int f_frees :: .ref a_order :: .int f_isKept :: .int f_keptHalf :: .int f_keptFree :: .ref a_kept :: .ref a_written :: .int f_writtenMany :: [])), (a_told, .inl (y.1, 50, .inl c_told)), (a_stone, .inl (y.2.2.1, 25, .inl c_stone)), (a_pastTold, .inl (y.1, 800, .inl c_pastTold)), (a_pastStone, .inl (y.2.2.1, 400, .inl x)), (a_pastColumns, .inl (y.1, 16, .inl c_pastColumns)), (a_pastRows, .inl (y.1, 16, .inl c_pastRows))] H → va_D A [(a_this, .inr (9, .int f_thrown :: .ref a_tape :: .int f_taped :: .int f_size :: .int f_at :: .int f_fault :: .int f_newColumns :: .int f_newRows :: .ref a_newTold :: .ref a_newHas :: .ref a_newStone :: .int f_columns :: .int f_rows :: .ref a_told :: .ref a_stone :: .int f_acts :: .ref a_pastTold :: .ref a_pastStone :: .ref a_pastColumns :: .ref a_pastRows :: .int f_isLaid :: .ref a_many :: .ref a_number :: .ref a_ways :: .ref a_placeOf :: .ref a_label :: .ref a_old :: .ref a_isOpen :: .ref a_freeOnes :: .ref a_joins :: .ref a_given :: .ref a_decided :: .ref a_wet :: .int f_seed :: .int f_frees :: .ref a_order :: .int f_isKept :: .int f_keptHalf :: .int f_keptFree :: .ref a_kept :: .ref a_written :: .int f_writtenMany :: [])), (a_told, .inl (y.1, 50, .inl c_told)), (a_stone, .inl (y.2.2.1, 25, .inl c_stone)), (a_pastTold, .inl (y.1, 800, .inl c_pastTold)), (a_pastStone, .inl (y.2.2.1, 400, .inl x)), (a_pastColumns, .inl (y.1, 16, .inl c_pastColumns)), (a_pastRows, .inl (y.1, 16, .inl c_pastRows))] → va_S A s.heap H locs → W p l e rm_X9_remembers s m args below meth c H locs 0 0 Q (F0 m 189 ls [])) → W p l e rm_X9_remembers s m args below meth c H locs 0 0 Q (F0 m 157 ls []) := by
    intro n
    induction n with
    | zero => intro x1 f_acts f_isLaid c_pastTold c_pastStone c_pastColumns c_pastRows x h; exact (zi0 h).elim
    | succ n ih =>
      intro x1 f_acts f_isLaid c_pastTold c_pastStone c_pastColumns c_pastRows x h H locs ls hl hP hD hS K189
      obtain ⟨r, hf, h⟩ := zis h
      have hf : zf_X9_remembers_l157 f_acts c_stone x1 c_pastStone = some r := hf
      unfold zf_X9_remembers_l157 at hf
      refine lv_iload_n hx hb dX9_remembers_157 rfl (lv_at hl 1 rfl) ?_
      refine lv_bipush (v := 25) hx hb dX9_remembers_158 (by decide) ?_
      refine lv_icmp_ge (tgt := 189) hx hb dX9_remembers_160 (by decide) (fun c160 => ?_) (fun c160 => ?_)
      · replace hf := zt c160 hf
        obtain rfl := Option.some.inj hf
        obtain rfl := Option.some.inj h
        exact K189 _ _ _ (lv_sub hl [0] rfl) hP hD hS
      · replace hf := ze c160 hf
        refine lv_aload_n hx hb dX9_remembers_163 rfl (lv_at hl 0 rfl) ?_
        refine zget X hP 0 rfl rfl inF9 17 (by decide) q_1349 rfl dX9_remembers_164 ?_
        refine lv_bipush (v := 25) hx hb dX9_remembers_167 (by decide) ?_
        refine lv_aload_n hx hb dX9_remembers_169 rfl (lv_at hl 0 rfl) ?_
        refine zget X hP 0 rfl rfl inF9 15 (by decide) q_1347 rfl dX9_remembers_170 ?_
        refine lv_imul hx hb dX9_remembers_173 ?_
        refine lv_iload_n hx hb dX9_remembers_174 rfl (lv_at hl 1 rfl) ?_
        refine lv_iadd hx hb dX9_remembers_175 ?_
        refine lv_aload_n hx hb dX9_remembers_176 rfl (lv_at hl 0 rfl) ?_
        refine zget X hP 0 rfl rfl inF9 14 (by decide) q_1346 rfl dX9_remembers_177 ?_
        refine lv_iload_n hx hb dX9_remembers_180 rfl (lv_at hl 1 rfl) ?_
        obtain ⟨g181, hf⟩ := zg hf
        refine va_zald hx hb hK hP 2 2 rfl rfl g181 dX9_remembers_181 ?_
        obtain ⟨g182, hf⟩ := zg hf
        refine va_zast hx hb hK hP hD hS 4 2 rfl rfl g182 dX9_remembers_182 (fun H locs hP hD hS => ?_)
        have hP : va_P D vwCl [(a_this, .inr (9, .int f_thrown :: .ref a_tape :: .int f_taped :: .int f_size :: .int f_at :: .int f_fault :: .int f_newColumns :: .int f_newRows :: .ref a_newTold :: .ref a_newHas :: .ref a_newStone :: .int f_columns :: .int f_rows :: .ref a_told :: .ref a_stone :: .int f_acts :: .ref a_pastTold :: .ref a_pastStone :: .ref a_pastColumns :: .ref a_pastRows :: .int f_isLaid :: .ref a_many :: .ref a_number :: .ref a_ways :: .ref a_placeOf :: .ref a_label :: .ref a_old :: .ref a_isOpen :: .ref a_freeOnes :: .ref a_joins :: .ref a_given :: .ref a_decided :: .ref a_wet :: .int f_seed :: .int f_frees :: .ref a_order :: .int f_isKept :: .int f_keptHalf :: .int f_keptFree :: .ref a_kept :: .ref a_written :: .int f_writtenMany :: [])), (a_told, .inl (y.1, 50, .inl c_told)), (a_stone, .inl (y.2.2.1, 25, .inl c_stone)), (a_pastTold, .inl (y.1, 800, .inl c_pastTold)), (a_pastStone, .inl (y.2.2.1, 400, .inl (upd c_pastStone (((25 : Int32) * f_acts) + x1).toNatClampNeg (vp_nar .boolean (c_stone x1.toNatClampNeg))))), (a_pastColumns, .inl (y.1, 16, .inl c_pastColumns)), (a_pastRows, .inl (y.1, 16, .inl c_pastRows))] H := hP
        have hD : va_D A [(a_this, .inr (9, .int f_thrown :: .ref a_tape :: .int f_taped :: .int f_size :: .int f_at :: .int f_fault :: .int f_newColumns :: .int f_newRows :: .ref a_newTold :: .ref a_newHas :: .ref a_newStone :: .int f_columns :: .int f_rows :: .ref a_told :: .ref a_stone :: .int f_acts :: .ref a_pastTold :: .ref a_pastStone :: .ref a_pastColumns :: .ref a_pastRows :: .int f_isLaid :: .ref a_many :: .ref a_number :: .ref a_ways :: .ref a_placeOf :: .ref a_label :: .ref a_old :: .ref a_isOpen :: .ref a_freeOnes :: .ref a_joins :: .ref a_given :: .ref a_decided :: .ref a_wet :: .int f_seed :: .int f_frees :: .ref a_order :: .int f_isKept :: .int f_keptHalf :: .int f_keptFree :: .ref a_kept :: .ref a_written :: .int f_writtenMany :: [])), (a_told, .inl (y.1, 50, .inl c_told)), (a_stone, .inl (y.2.2.1, 25, .inl c_stone)), (a_pastTold, .inl (y.1, 800, .inl c_pastTold)), (a_pastStone, .inl (y.2.2.1, 400, .inl (upd c_pastStone (((25 : Int32) * f_acts) + x1).toNatClampNeg (vp_nar .boolean (c_stone x1.toNatClampNeg))))), (a_pastColumns, .inl (y.1, 16, .inl c_pastColumns)), (a_pastRows, .inl (y.1, 16, .inl c_pastRows))] := hD
        refine lv_iinc (v := x1 + (1 : Int32)) (lv' := [(1, .int (x1 + (1 : Int32))), (0, .ref a_this)]) hx hb dX9_remembers_183 hl (k := 1) rfl rfl (by decide) rfl (fun ls hl => ?_)
        refine lv_goto (tgt := 157) hx hb dX9_remembers_186 (by decide) ?_
        obtain rfl := Option.some.inj hf
        exact ih (x1 + (1 : Int32)) f_acts f_isLaid c_pastTold (upd c_pastStone (((25 : Int32) * f_acts) + x1).toNatClampNeg (vp_nar .boolean (c_stone x1.toNatClampNeg))) c_pastColumns c_pastRows x h _ _ _ (lv_sub hl [1, 0] rfl) hP hD hS K189
  have J121 : ∀ (f_acts : Int32) (f_isLaid : Int32) (c_pastTold : Nat → Int32) (c_pastStone : Nat → Int32) (c_pastColumns : Nat → Int32) (c_pastRows : Nat → Int32), zf_X9_remembers_121 f_columns f_rows f_acts c_told c_stone c_pastTold c_pastStone c_pastColumns c_pastRows = some out → ∀ (H : Heap) (locs : List Loc) (ls : Array Slot), lv_has ls 2 [(0, .ref a_this)] → va_P D vwCl [(a_this, .inr (9, .int f_thrown :: .ref a_tape :: .int f_taped :: .int f_size :: .int f_at :: .int f_fault :: .int f_newColumns :: .int f_newRows :: .ref a_newTold :: .ref a_newHas :: .ref a_newStone :: .int f_columns :: .int f_rows :: .ref a_told :: .ref a_stone :: .int f_acts :: .ref a_pastTold :: .ref a_pastStone :: .ref a_pastColumns :: .ref a_pastRows :: .int f_isLaid :: .ref a_many :: .ref a_number :: .ref a_ways :: .ref a_placeOf :: .ref a_label :: .ref a_old :: .ref a_isOpen :: .ref a_freeOnes :: .ref a_joins :: .ref a_given :: .ref a_decided :: .ref a_wet :: .int f_seed :: .int f_frees :: .ref a_order :: .int f_isKept :: .int f_keptHalf :: .int f_keptFree :: .ref a_kept :: .ref a_written :: .int f_writtenMany :: [])), (a_told, .inl (y.1, 50, .inl c_told)), (a_stone, .inl (y.2.2.1, 25, .inl c_stone)), (a_pastTold, .inl (y.1, 800, .inl c_pastTold)), (a_pastStone, .inl (y.2.2.1, 400, .inl c_pastStone)), (a_pastColumns, .inl (y.1, 16, .inl c_pastColumns)), (a_pastRows, .inl (y.1, 16, .inl c_pastRows))] H → va_D A [(a_this, .inr (9, .int f_thrown :: .ref a_tape :: .int f_taped :: .int f_size :: .int f_at :: .int f_fault :: .int f_newColumns :: .int f_newRows :: .ref a_newTold :: .ref a_newHas :: .ref a_newStone :: .int f_columns :: .int f_rows :: .ref a_told :: .ref a_stone :: .int f_acts :: .ref a_pastTold :: .ref a_pastStone :: .ref a_pastColumns :: .ref a_pastRows :: .int f_isLaid :: .ref a_many :: .ref a_number :: .ref a_ways :: .ref a_placeOf :: .ref a_label :: .ref a_old :: .ref a_isOpen :: .ref a_freeOnes :: .ref a_joins :: .ref a_given :: .ref a_decided :: .ref a_wet :: .int f_seed :: .int f_frees :: .ref a_order :: .int f_isKept :: .int f_keptHalf :: .int f_keptFree :: .ref a_kept :: .ref a_written :: .int f_writtenMany :: [])), (a_told, .inl (y.1, 50, .inl c_told)), (a_stone, .inl (y.2.2.1, 25, .inl c_stone)), (a_pastTold, .inl (y.1, 800, .inl c_pastTold)), (a_pastStone, .inl (y.2.2.1, 400, .inl c_pastStone)), (a_pastColumns, .inl (y.1, 16, .inl c_pastColumns)), (a_pastRows, .inl (y.1, 16, .inl c_pastRows))] → va_S A s.heap H locs → W p l e rm_X9_remembers s m args below meth c H locs 0 0 Q (F0 m 121 ls []) := by
    intro f_acts f_isLaid c_pastTold c_pastStone c_pastColumns c_pastRows hf H locs ls hl hP hD hS
    unfold zf_X9_remembers_121 at hf
    refine lv_iconst (v := 0) hx hb dX9_remembers_121 (by decide) ?_
    refine lv_istore_n (lv' := [(1, .int (0 : Int32)), (0, .ref a_this)]) hx hb dX9_remembers_122 rfl hl (by decide) rfl (fun ls hl => ?_)
    obtain ⟨o123, ho123, hf⟩ := zb hf
    refine L123 zfu (0 : Int32) f_acts f_isLaid c_pastTold c_pastStone c_pastColumns c_pastRows o123 ho123 _ _ _ (lv_sub hl [1, 0] rfl) hP hD hS (fun H locs ls hl hP hD hS => ?_)
    refine lv_iconst (v := 0) hx hb dX9_remembers_155 (by decide) ?_
    refine lv_istore_n (lv' := [(1, .int (0 : Int32)), (0, .ref a_this)]) hx hb dX9_remembers_156 rfl hl (by decide) rfl (fun ls hl => ?_)
    obtain ⟨o157, ho157, hf⟩ := zb hf
    refine L157 zfu (0 : Int32) f_acts f_isLaid o123 c_pastStone c_pastColumns c_pastRows o157 ho157 _ _ _ (lv_sub hl [1, 0] rfl) hP hD hS (fun H locs ls hl hP hD hS => ?_)
    refine lv_aload_n hx hb dX9_remembers_189 rfl (lv_at hl 0 rfl) ?_
    refine zget X hP 0 rfl rfl inF9 18 (by decide) q_1350 rfl dX9_remembers_190 ?_
    refine lv_aload_n hx hb dX9_remembers_193 rfl (lv_at hl 0 rfl) ?_
    refine zget X hP 0 rfl rfl inF9 15 (by decide) q_1347 rfl dX9_remembers_194 ?_
    refine lv_aload_n hx hb dX9_remembers_197 rfl (lv_at hl 0 rfl) ?_
    refine zget X hP 0 rfl rfl inF9 11 (by decide) q_1343 rfl dX9_remembers_198 ?_
    obtain ⟨g201, hf⟩ := zg hf
    refine va_iast hx hb hK hP hD hS 5 0 rfl rfl g201 dX9_remembers_201 (fun H locs hP hD hS => ?_)
    have hP : va_P D vwCl [(a_this, .inr (9, .int f_thrown :: .ref a_tape :: .int f_taped :: .int f_size :: .int f_at :: .int f_fault :: .int f_newColumns :: .int f_newRows :: .ref a_newTold :: .ref a_newHas :: .ref a_newStone :: .int f_columns :: .int f_rows :: .ref a_told :: .ref a_stone :: .int f_acts :: .ref a_pastTold :: .ref a_pastStone :: .ref a_pastColumns :: .ref a_pastRows :: .int f_isLaid :: .ref a_many :: .ref a_number :: .ref a_ways :: .ref a_placeOf :: .ref a_label :: .ref a_old :: .ref a_isOpen :: .ref a_freeOnes :: .ref a_joins :: .ref a_given :: .ref a_decided :: .ref a_wet :: .int f_seed :: .int f_frees :: .ref a_order :: .int f_isKept :: .int f_keptHalf :: .int f_keptFree :: .ref a_kept :: .ref a_written :: .int f_writtenMany :: [])), (a_told, .inl (y.1, 50, .inl c_told)), (a_stone, .inl (y.2.2.1, 25, .inl c_stone)), (a_pastTold, .inl (y.1, 800, .inl o123)), (a_pastStone, .inl (y.2.2.1, 400, .inl o157)), (a_pastColumns, .inl (y.1, 16, .inl (upd c_pastColumns f_acts.toNatClampNeg f_columns))), (a_pastRows, .inl (y.1, 16, .inl c_pastRows))] H := hP
    have hD : va_D A [(a_this, .inr (9, .int f_thrown :: .ref a_tape :: .int f_taped :: .int f_size :: .int f_at :: .int f_fault :: .int f_newColumns :: .int f_newRows :: .ref a_newTold :: .ref a_newHas :: .ref a_newStone :: .int f_columns :: .int f_rows :: .ref a_told :: .ref a_stone :: .int f_acts :: .ref a_pastTold :: .ref a_pastStone :: .ref a_pastColumns :: .ref a_pastRows :: .int f_isLaid :: .ref a_many :: .ref a_number :: .ref a_ways :: .ref a_placeOf :: .ref a_label :: .ref a_old :: .ref a_isOpen :: .ref a_freeOnes :: .ref a_joins :: .ref a_given :: .ref a_decided :: .ref a_wet :: .int f_seed :: .int f_frees :: .ref a_order :: .int f_isKept :: .int f_keptHalf :: .int f_keptFree :: .ref a_kept :: .ref a_written :: .int f_writtenMany :: [])), (a_told, .inl (y.1, 50, .inl c_told)), (a_stone, .inl (y.2.2.1, 25, .inl c_stone)), (a_pastTold, .inl (y.1, 800, .inl o123)), (a_pastStone, .inl (y.2.2.1, 400, .inl o157)), (a_pastColumns, .inl (y.1, 16, .inl (upd c_pastColumns f_acts.toNatClampNeg f_columns))), (a_pastRows, .inl (y.1, 16, .inl c_pastRows))] := hD
    refine lv_aload_n hx hb dX9_remembers_202 rfl (lv_at hl 0 rfl) ?_
    refine zget X hP 0 rfl rfl inF9 19 (by decide) q_1351 rfl dX9_remembers_203 ?_
    refine lv_aload_n hx hb dX9_remembers_206 rfl (lv_at hl 0 rfl) ?_
    refine zget X hP 0 rfl rfl inF9 15 (by decide) q_1347 rfl dX9_remembers_207 ?_
    refine lv_aload_n hx hb dX9_remembers_210 rfl (lv_at hl 0 rfl) ?_
    refine zget X hP 0 rfl rfl inF9 12 (by decide) q_1344 rfl dX9_remembers_211 ?_
    obtain ⟨g214, hf⟩ := zg hf
    refine va_iast hx hb hK hP hD hS 6 0 rfl rfl g214 dX9_remembers_214 (fun H locs hP hD hS => ?_)
    have hP : va_P D vwCl [(a_this, .inr (9, .int f_thrown :: .ref a_tape :: .int f_taped :: .int f_size :: .int f_at :: .int f_fault :: .int f_newColumns :: .int f_newRows :: .ref a_newTold :: .ref a_newHas :: .ref a_newStone :: .int f_columns :: .int f_rows :: .ref a_told :: .ref a_stone :: .int f_acts :: .ref a_pastTold :: .ref a_pastStone :: .ref a_pastColumns :: .ref a_pastRows :: .int f_isLaid :: .ref a_many :: .ref a_number :: .ref a_ways :: .ref a_placeOf :: .ref a_label :: .ref a_old :: .ref a_isOpen :: .ref a_freeOnes :: .ref a_joins :: .ref a_given :: .ref a_decided :: .ref a_wet :: .int f_seed :: .int f_frees :: .ref a_order :: .int f_isKept :: .int f_keptHalf :: .int f_keptFree :: .ref a_kept :: .ref a_written :: .int f_writtenMany :: [])), (a_told, .inl (y.1, 50, .inl c_told)), (a_stone, .inl (y.2.2.1, 25, .inl c_stone)), (a_pastTold, .inl (y.1, 800, .inl o123)), (a_pastStone, .inl (y.2.2.1, 400, .inl o157)), (a_pastColumns, .inl (y.1, 16, .inl (upd c_pastColumns f_acts.toNatClampNeg f_columns))), (a_pastRows, .inl (y.1, 16, .inl (upd c_pastRows f_acts.toNatClampNeg f_rows)))] H := hP
    have hD : va_D A [(a_this, .inr (9, .int f_thrown :: .ref a_tape :: .int f_taped :: .int f_size :: .int f_at :: .int f_fault :: .int f_newColumns :: .int f_newRows :: .ref a_newTold :: .ref a_newHas :: .ref a_newStone :: .int f_columns :: .int f_rows :: .ref a_told :: .ref a_stone :: .int f_acts :: .ref a_pastTold :: .ref a_pastStone :: .ref a_pastColumns :: .ref a_pastRows :: .int f_isLaid :: .ref a_many :: .ref a_number :: .ref a_ways :: .ref a_placeOf :: .ref a_label :: .ref a_old :: .ref a_isOpen :: .ref a_freeOnes :: .ref a_joins :: .ref a_given :: .ref a_decided :: .ref a_wet :: .int f_seed :: .int f_frees :: .ref a_order :: .int f_isKept :: .int f_keptHalf :: .int f_keptFree :: .ref a_kept :: .ref a_written :: .int f_writtenMany :: [])), (a_told, .inl (y.1, 50, .inl c_told)), (a_stone, .inl (y.2.2.1, 25, .inl c_stone)), (a_pastTold, .inl (y.1, 800, .inl o123)), (a_pastStone, .inl (y.2.2.1, 400, .inl o157)), (a_pastColumns, .inl (y.1, 16, .inl (upd c_pastColumns f_acts.toNatClampNeg f_columns))), (a_pastRows, .inl (y.1, 16, .inl (upd c_pastRows f_acts.toNatClampNeg f_rows)))] := hD
    refine lv_aload_n hx hb dX9_remembers_215 rfl (lv_at hl 0 rfl) ?_
    refine lv_dup hx hb dX9_remembers_216 rfl ?_
    refine zget X hP 0 rfl rfl inF9 15 (by decide) q_1347 rfl dX9_remembers_217 ?_
    refine lv_iconst (v := 1) hx hb dX9_remembers_220 (by decide) ?_
    refine lv_iadd hx hb dX9_remembers_221 ?_
    refine zput (ty := .int) X hP hD hS 0 rfl rfl inF9 tyX9_ok nmX9 15 (by decide) q_1347 rfl rfl rfl rfl (Nat.le_of_ble_eq_true rfl) dX9_remembers_222 (fun H locs hP hD hS => ?_)
    have hP : va_P D vwCl [(a_this, .inr (9, .int f_thrown :: .ref a_tape :: .int f_taped :: .int f_size :: .int f_at :: .int f_fault :: .int f_newColumns :: .int f_newRows :: .ref a_newTold :: .ref a_newHas :: .ref a_newStone :: .int f_columns :: .int f_rows :: .ref a_told :: .ref a_stone :: .int (f_acts + (1 : Int32)) :: .ref a_pastTold :: .ref a_pastStone :: .ref a_pastColumns :: .ref a_pastRows :: .int f_isLaid :: .ref a_many :: .ref a_number :: .ref a_ways :: .ref a_placeOf :: .ref a_label :: .ref a_old :: .ref a_isOpen :: .ref a_freeOnes :: .ref a_joins :: .ref a_given :: .ref a_decided :: .ref a_wet :: .int f_seed :: .int f_frees :: .ref a_order :: .int f_isKept :: .int f_keptHalf :: .int f_keptFree :: .ref a_kept :: .ref a_written :: .int f_writtenMany :: [])), (a_told, .inl (y.1, 50, .inl c_told)), (a_stone, .inl (y.2.2.1, 25, .inl c_stone)), (a_pastTold, .inl (y.1, 800, .inl o123)), (a_pastStone, .inl (y.2.2.1, 400, .inl o157)), (a_pastColumns, .inl (y.1, 16, .inl (upd c_pastColumns f_acts.toNatClampNeg f_columns))), (a_pastRows, .inl (y.1, 16, .inl (upd c_pastRows f_acts.toNatClampNeg f_rows)))] H := hP
    have hD : va_D A [(a_this, .inr (9, .int f_thrown :: .ref a_tape :: .int f_taped :: .int f_size :: .int f_at :: .int f_fault :: .int f_newColumns :: .int f_newRows :: .ref a_newTold :: .ref a_newHas :: .ref a_newStone :: .int f_columns :: .int f_rows :: .ref a_told :: .ref a_stone :: .int (f_acts + (1 : Int32)) :: .ref a_pastTold :: .ref a_pastStone :: .ref a_pastColumns :: .ref a_pastRows :: .int f_isLaid :: .ref a_many :: .ref a_number :: .ref a_ways :: .ref a_placeOf :: .ref a_label :: .ref a_old :: .ref a_isOpen :: .ref a_freeOnes :: .ref a_joins :: .ref a_given :: .ref a_decided :: .ref a_wet :: .int f_seed :: .int f_frees :: .ref a_order :: .int f_isKept :: .int f_keptHalf :: .int f_keptFree :: .ref a_kept :: .ref a_written :: .int f_writtenMany :: [])), (a_told, .inl (y.1, 50, .inl c_told)), (a_stone, .inl (y.2.2.1, 25, .inl c_stone)), (a_pastTold, .inl (y.1, 800, .inl o123)), (a_pastStone, .inl (y.2.2.1, 400, .inl o157)), (a_pastColumns, .inl (y.1, 16, .inl (upd c_pastColumns f_acts.toNatClampNeg f_columns))), (a_pastRows, .inl (y.1, 16, .inl (upd c_pastRows f_acts.toNatClampNeg f_rows)))] := hD
    refine lv_aload_n hx hb dX9_remembers_225 rfl (lv_at hl 0 rfl) ?_
    refine lv_iconst (v := 0) hx hb dX9_remembers_226 (by decide) ?_
    refine zput (ty := .boolean) X hP hD hS 0 rfl rfl inF9 tyX9_ok nmX9 20 (by decide) q_1352 rfl rfl rfl rfl (Nat.le_of_ble_eq_true rfl) dX9_remembers_227 (fun H locs hP hD hS => ?_)
    have hP : va_P D vwCl [(a_this, .inr (9, .int f_thrown :: .ref a_tape :: .int f_taped :: .int f_size :: .int f_at :: .int f_fault :: .int f_newColumns :: .int f_newRows :: .ref a_newTold :: .ref a_newHas :: .ref a_newStone :: .int f_columns :: .int f_rows :: .ref a_told :: .ref a_stone :: .int (f_acts + (1 : Int32)) :: .ref a_pastTold :: .ref a_pastStone :: .ref a_pastColumns :: .ref a_pastRows :: .int (0 : Int32) :: .ref a_many :: .ref a_number :: .ref a_ways :: .ref a_placeOf :: .ref a_label :: .ref a_old :: .ref a_isOpen :: .ref a_freeOnes :: .ref a_joins :: .ref a_given :: .ref a_decided :: .ref a_wet :: .int f_seed :: .int f_frees :: .ref a_order :: .int f_isKept :: .int f_keptHalf :: .int f_keptFree :: .ref a_kept :: .ref a_written :: .int f_writtenMany :: [])), (a_told, .inl (y.1, 50, .inl c_told)), (a_stone, .inl (y.2.2.1, 25, .inl c_stone)), (a_pastTold, .inl (y.1, 800, .inl o123)), (a_pastStone, .inl (y.2.2.1, 400, .inl o157)), (a_pastColumns, .inl (y.1, 16, .inl (upd c_pastColumns f_acts.toNatClampNeg f_columns))), (a_pastRows, .inl (y.1, 16, .inl (upd c_pastRows f_acts.toNatClampNeg f_rows)))] H := hP
    have hD : va_D A [(a_this, .inr (9, .int f_thrown :: .ref a_tape :: .int f_taped :: .int f_size :: .int f_at :: .int f_fault :: .int f_newColumns :: .int f_newRows :: .ref a_newTold :: .ref a_newHas :: .ref a_newStone :: .int f_columns :: .int f_rows :: .ref a_told :: .ref a_stone :: .int (f_acts + (1 : Int32)) :: .ref a_pastTold :: .ref a_pastStone :: .ref a_pastColumns :: .ref a_pastRows :: .int (0 : Int32) :: .ref a_many :: .ref a_number :: .ref a_ways :: .ref a_placeOf :: .ref a_label :: .ref a_old :: .ref a_isOpen :: .ref a_freeOnes :: .ref a_joins :: .ref a_given :: .ref a_decided :: .ref a_wet :: .int f_seed :: .int f_frees :: .ref a_order :: .int f_isKept :: .int f_keptHalf :: .int f_keptFree :: .ref a_kept :: .ref a_written :: .int f_writtenMany :: [])), (a_told, .inl (y.1, 50, .inl c_told)), (a_stone, .inl (y.2.2.1, 25, .inl c_stone)), (a_pastTold, .inl (y.1, 800, .inl o123)), (a_pastStone, .inl (y.2.2.1, 400, .inl o157)), (a_pastColumns, .inl (y.1, 16, .inl (upd c_pastColumns f_acts.toNatClampNeg f_columns))), (a_pastRows, .inl (y.1, 16, .inl (upd c_pastRows f_acts.toNatClampNeg f_rows)))] := hD
    obtain rfl := Option.some.inj hf
    exact zretv X hQ hP hD hS ⟨rfl, rfl⟩ dX9_remembers_230 (Nat.le_of_ble_eq_true rfl) (Nat.le_of_ble_eq_true rfl)
  unfold zf_X9_remembers at hf
  refine lv_aload_n hx hb dX9_remembers_0 rfl (lv_at hl 0 rfl) ?_
  refine zget X hP 0 rfl rfl inF9 15 (by decide) q_1347 rfl dX9_remembers_1 ?_
  refine lv_bipush (v := 16) hx hb dX9_remembers_4 (by decide) ?_
  refine lv_icmp_ne (tgt := 121) hx hb dX9_remembers_6 (by decide) (fun c6 => ?_) (fun c6 => ?_)
  · replace hf := ze c6 hf
    exact J121 f_acts f_isLaid c_pastTold c_pastStone c_pastColumns c_pastRows hf _ _ _ hl hP hD hS
  · replace hf := zt c6 hf
    refine lv_iconst (v := 0) hx hb dX9_remembers_9 (by decide) ?_
    refine lv_istore_n (lv' := [(1, .int (0 : Int32)), (0, .ref a_this)]) hx hb dX9_remembers_10 rfl hl (by decide) rfl (fun ls hl => ?_)
    obtain ⟨o11, ho11, hf⟩ := zb hf
    refine L11 zfu (0 : Int32) f_acts f_isLaid c_pastTold c_pastStone c_pastColumns c_pastRows o11 ho11 _ _ _ (lv_sub hl [1, 0] rfl) hP hD hS (fun H locs ls hl hP hD hS => ?_)
    refine lv_iconst (v := 0) hx hb dX9_remembers_39 (by decide) ?_
    refine lv_istore_n (lv' := [(1, .int (0 : Int32)), (0, .ref a_this)]) hx hb dX9_remembers_40 rfl hl (by decide) rfl (fun ls hl => ?_)
    obtain ⟨o41, ho41, hf⟩ := zb hf
    refine L41 zfu (0 : Int32) f_acts f_isLaid o11 c_pastStone c_pastColumns c_pastRows o41 ho41 _ _ _ (lv_sub hl [1, 0] rfl) hP hD hS (fun H locs ls hl hP hD hS => ?_)
    refine lv_iconst (v := 0) hx hb dX9_remembers_69 (by decide) ?_
    refine lv_istore_n (lv' := [(1, .int (0 : Int32)), (0, .ref a_this)]) hx hb dX9_remembers_70 rfl hl (by decide) rfl (fun ls hl => ?_)
    obtain ⟨o71, ho71, hf⟩ := zb hf
    refine L71 zfu (0 : Int32) f_acts f_isLaid o11 o41 c_pastColumns c_pastRows o71 ho71 _ _ _ (lv_sub hl [1, 0] rfl) hP hD hS (fun H locs ls hl hP hD hS => ?_)
    refine lv_aload_n hx hb dX9_remembers_111 rfl (lv_at hl 0 rfl) ?_
    refine lv_dup hx hb dX9_remembers_112 rfl ?_
    refine zget X hP 0 rfl rfl inF9 15 (by decide) q_1347 rfl dX9_remembers_113 ?_
    refine lv_iconst (v := 1) hx hb dX9_remembers_116 (by decide) ?_
    refine lv_isub hx hb dX9_remembers_117 ?_
    refine zput (ty := .int) X hP hD hS 0 rfl rfl inF9 tyX9_ok nmX9 15 (by decide) q_1347 rfl rfl rfl rfl (Nat.le_of_ble_eq_true rfl) dX9_remembers_118 (fun H locs hP hD hS => ?_)
    have hP : va_P D vwCl [(a_this, .inr (9, .int f_thrown :: .ref a_tape :: .int f_taped :: .int f_size :: .int f_at :: .int f_fault :: .int f_newColumns :: .int f_newRows :: .ref a_newTold :: .ref a_newHas :: .ref a_newStone :: .int f_columns :: .int f_rows :: .ref a_told :: .ref a_stone :: .int (f_acts - (1 : Int32)) :: .ref a_pastTold :: .ref a_pastStone :: .ref a_pastColumns :: .ref a_pastRows :: .int f_isLaid :: .ref a_many :: .ref a_number :: .ref a_ways :: .ref a_placeOf :: .ref a_label :: .ref a_old :: .ref a_isOpen :: .ref a_freeOnes :: .ref a_joins :: .ref a_given :: .ref a_decided :: .ref a_wet :: .int f_seed :: .int f_frees :: .ref a_order :: .int f_isKept :: .int f_keptHalf :: .int f_keptFree :: .ref a_kept :: .ref a_written :: .int f_writtenMany :: [])), (a_told, .inl (y.1, 50, .inl c_told)), (a_stone, .inl (y.2.2.1, 25, .inl c_stone)), (a_pastTold, .inl (y.1, 800, .inl o11)), (a_pastStone, .inl (y.2.2.1, 400, .inl o41)), (a_pastColumns, .inl (y.1, 16, .inl o71.1)), (a_pastRows, .inl (y.1, 16, .inl o71.2))] H := hP
    have hD : va_D A [(a_this, .inr (9, .int f_thrown :: .ref a_tape :: .int f_taped :: .int f_size :: .int f_at :: .int f_fault :: .int f_newColumns :: .int f_newRows :: .ref a_newTold :: .ref a_newHas :: .ref a_newStone :: .int f_columns :: .int f_rows :: .ref a_told :: .ref a_stone :: .int (f_acts - (1 : Int32)) :: .ref a_pastTold :: .ref a_pastStone :: .ref a_pastColumns :: .ref a_pastRows :: .int f_isLaid :: .ref a_many :: .ref a_number :: .ref a_ways :: .ref a_placeOf :: .ref a_label :: .ref a_old :: .ref a_isOpen :: .ref a_freeOnes :: .ref a_joins :: .ref a_given :: .ref a_decided :: .ref a_wet :: .int f_seed :: .int f_frees :: .ref a_order :: .int f_isKept :: .int f_keptHalf :: .int f_keptFree :: .ref a_kept :: .ref a_written :: .int f_writtenMany :: [])), (a_told, .inl (y.1, 50, .inl c_told)), (a_stone, .inl (y.2.2.1, 25, .inl c_stone)), (a_pastTold, .inl (y.1, 800, .inl o11)), (a_pastStone, .inl (y.2.2.1, 400, .inl o41)), (a_pastColumns, .inl (y.1, 16, .inl o71.1)), (a_pastRows, .inl (y.1, 16, .inl o71.2))] := hD
    exact J121 (f_acts - (1 : Int32)) f_isLaid o11 o41 o71.1 o71.2 hf _ _ _ hl hP hD hS

