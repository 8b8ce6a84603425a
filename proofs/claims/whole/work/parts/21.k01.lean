theorem kf_RX2_43 : zCB RX2 43 yX2_hasPipe cX2_hasPipe 7 (some .boolean) 5 ∧ Cond.static yX2_hasPipe ∈ wAll := ⟨⟨q_233, q_8, q_231, by decide +kernel⟩, q_232⟩
theorem kf_RX2_47 : zCB RX2 47 yX2_numberOf cX2_numberOf 3 (some .int) 3 ∧ Cond.static yX2_numberOf ∈ wAll := ⟨⟨q_236, q_8, q_234, by decide +kernel⟩, q_235⟩
abbrev rm_X2_pipesOf : Room := { frames := 1, cells := 0, slots := 0, locals := 26 }
def zf_X2_pipesOf_72 (x2 : Int64) (x5 : Int32) : Option ((Int64 × Int32) ⊕ ((Int64))) :=
  some (.inl (x2, x5 + (1 : Int32)))
def zf_X2_pipesOf_46 (x0 : Int32) (x1 : Int32) (x2 : Int64) (x4 : Int32) (x5 : Int32) : Option ((Int64 × Int32) ⊕ ((Int64))) :=
  (zf_X2_hasPipe x5 x4 (1 : Int32) x0 x1).bind fun o53 =>
  if o53 = 0 then (zf_X2_pipesOf_72 x2 x5) else ((zf_X2_numberOf x5 x4 (1 : Int32)).bind fun o66 =>
  zf_X2_pipesOf_72 (x2 ||| (zlshl (1 : Int64) o66)) x5)
def zf_X2_pipesOf_l14 (x0 : Int32) (x1 : Int32) (x4 : Int32) (x2 : Int64) (x5 : Int32) : Option ((Int64 × Int32) ⊕ ((Int64))) :=
  if x0 ≤ x5 then (some (.inr x2)) else ((zf_X2_hasPipe x5 x4 (0 : Int32) x0 x1).bind fun o27 =>
  if o27 = 0 then (zf_X2_pipesOf_46 x0 x1 x2 x4 x5) else ((zf_X2_numberOf x5 x4 (0 : Int32)).bind fun o40 =>
  zf_X2_pipesOf_46 x0 x1 (x2 ||| (zlshl (1 : Int64) o40)) x4 x5))
def zf_X2_pipesOf_l5 (x0 : Int32) (x1 : Int32) (x2 : Int64) (x4 : Int32) : Option ((Int64 × Int32) ⊕ ((Int64))) :=
  if x1 ≤ x4 then (some (.inr x2)) else ((zit (fun d => zf_X2_pipesOf_l14 x0 x1 x4 d.1 d.2) zfu (x2, (0 : Int32))).bind fun o14 =>
  some (.inl (o14, x4 + (1 : Int32))))
def zf_X2_pipesOf (x0 : Int32) (x1 : Int32) : Option (Int64) :=
  (zit (fun d => zf_X2_pipesOf_l5 x0 x1 d.1 d.2) zfu ((0 : Int64), (0 : Int32))).bind fun o5 =>
  some o5
set_option maxHeartbeats 4000000 in
set_option maxRecDepth 100000 in
theorem zc_X2_pipesOf (l : Launch) (D : va_G) (y : zY) (x0 : Int32) (x1 : Int32) (out : Int64) (hf : zf_X2_pipesOf x0 x1 = some out) : zC l D y yX2_pipesOf cX2_pipesOf 6 (some .long) rm_X2_pipesOf [.int x0, .int x1] [] (zE (some (.long out)) []) := by
  refine zmk (by decide) (Nat.le_of_ble_eq_true rfl) ?_
  intro p e s m args below meth c A Q ls X hQ hnm hP hD hS hl
  have X : zX p s m args meth c D y A RX2 cX2_pipesOf 6 (some .long) := X
  obtain ⟨hx, hb, hr, hml, hown, hts, hK, hA, hlocks⟩ := id X
  have hl : lv_has ls 6 [(0, .int x0), (1, .int x1)] := hl
  have L14 : ∀ (n : Nat) (x0 : Int32) (x1 : Int32) (x2 : Int64) (x4 : Int32) (x5 : Int32) (x : (Int64)), zit (fun d => zf_X2_pipesOf_l14 x0 x1 x4 d.1 d.2) n (x2, x5) = some x → ∀ (H : Heap) (locs : List Loc) (ls : Array Slot), lv_has ls 6 [(0, .int x0), (1, .int x1), (2, .long x2), (4, .int x4), (5, .int x5)] → va_P D vwCl [] H → va_D A [] → va_S A s.heap H locs → (∀ (H : Heap) (locs : List Loc) (ls : Array Slot), lv_has ls 6 [(0, .int x0), (1, .int x1), (2, .long x), (4, .int x4)] → va_P D vwCl [] H → va_D A [] → va_S A s.heap H locs → W p l e rm_X2_pipesOf s m args below meth c H locs 0 0 Q (F0 m 78 ls [])) → W p l e rm_X2_pipesOf s m args below meth c H locs 0 0 Q (F0 m 14 ls []) := by
    intro n
    induction n with
    | zero => intro x0 x1 x2 x4 x5 x h; exact (zi0 h).elim
    | succ n ih =>
      intro x0 x1 x2 x4 x5 x h H locs ls hl hP hD hS K78
      obtain ⟨r, hf, h⟩ := zis h
      have hf : zf_X2_pipesOf_l14 x0 x1 x4 x2 x5 = some r := hf
      have J72 : ∀ (x2 : Int64) (x5 : Int32), zf_X2_pipesOf_72 x2 x5 = some r → ∀ (H : Heap) (locs : List Loc) (ls : Array Slot), lv_has ls 6 [(0, .int x0), (1, .int x1), (2, .long x2), (4, .int x4), (5, .int x5)] → va_P D vwCl [] H → va_D A [] → va_S A s.heap H locs → W p l e rm_X2_pipesOf s m args below meth c H locs 0 0 Q (F0 m 72 ls []) := by
        intro x2 x5 hf H locs ls hl hP hD hS
        unfold zf_X2_pipesOf_72 at hf
        refine lv_iinc (v := x5 + (1 : Int32)) (lv' := [(5, .int (x5 + (1 : Int32))), (0, .int x0), (1, .int x1), (2, .long x2), (4, .int x4)]) hx hb dX2_pipesOf_72 hl (k := 4) rfl rfl (by decide) rfl (fun ls hl => ?_)
        refine lv_goto (tgt := 14) hx hb dX2_pipesOf_75 (by decide) ?_
        obtain rfl := Option.some.inj hf
        exact ih x0 x1 x2 x4 (x5 + (1 : Int32)) x h _ _ _ (lv_sub hl [1, 2, 3, 4, 0] rfl) hP hD hS K78
      have J46 : ∀ (x2 : Int64) (x5 : Int32), zf_X2_pipesOf_46 x0 x1 x2 x4 x5 = some r → ∀ (H : Heap) (locs : List Loc) (ls : Array Slot), lv_has ls 6 [(0, .int x0), (1, .int x1), (2, .long x2), (4, .int x4), (5, .int x5)] → va_P D vwCl [] H → va_D A [] → va_S A s.heap H locs → W p l e rm_X2_pipesOf s m args below meth c H locs 0 0 Q (F0 m 46 ls []) := by
        intro x2 x5 hf H locs ls hl hP hD hS
        unfold zf_X2_pipesOf_46 at hf
        refine lv_iload hx hb dX2_pipesOf_46 (lv_at hl 4 rfl) ?_
        refine lv_iload hx hb dX2_pipesOf_48 (lv_at hl 3 rfl) ?_
        refine lv_iconst (v := 1) hx hb dX2_pipesOf_50 (by decide) ?_
        refine lv_iload_n hx hb dX2_pipesOf_51 rfl (lv_at hl 0 rfl) ?_
        refine lv_iload_n hx hb dX2_pipesOf_52 rfl (lv_at hl 1 rfl) ?_
        obtain ⟨o53, ho53, hf⟩ := zb hf
        refine zcS1 (wr := []) (rest := []) X (zc_X2_hasPipe l D y x5 x4 (1 : Int32) x0 x1 o53 ho53) kf_RX2_43 ⟨(Nat.le_of_ble_eq_true rfl), (Nat.le_of_ble_eq_true rfl)⟩ hP hD hS [] [] rfl rfl rfl rfl (by decide) rfl rfl hl.1 (Nat.le_of_ble_eq_true rfl) dX2_pipesOf_53 ⟨(Nat.le_of_ble_eq_true rfl), (Nat.le_of_ble_eq_true rfl)⟩ (fun H locs hP hD hS => ?_)
        have hP : va_P D vwCl [] H := hP
        have hD : va_D A [] := hD
        refine lv_if_eq (tgt := 72) hx hb dX2_pipesOf_56 (by decide) (fun c56 => ?_) (fun c56 => ?_)
        · replace hf := zt c56 hf
          exact J72 x2 x5 hf _ _ _ hl hP hD hS
        · replace hf := ze c56 hf
          refine lv_lload_n hx hb dX2_pipesOf_59 rfl (lv_at hl 2 rfl) ?_
          refine lv_lconst (v := 1) hx hb dX2_pipesOf_60 (by decide) ?_
          refine lv_iload hx hb dX2_pipesOf_61 (lv_at hl 4 rfl) ?_
          refine lv_iload hx hb dX2_pipesOf_63 (lv_at hl 3 rfl) ?_
          refine lv_iconst (v := 1) hx hb dX2_pipesOf_65 (by decide) ?_
          obtain ⟨o66, ho66, hf⟩ := zb hf
          refine zcS1 (wr := []) (rest := [.long (1 : Int64), .long x2]) X (zc_X2_numberOf l D y x5 x4 (1 : Int32) o66 ho66) kf_RX2_47 ⟨(Nat.le_of_ble_eq_true rfl), (Nat.le_of_ble_eq_true rfl)⟩ hP hD hS [] [] rfl rfl rfl rfl (by decide) rfl rfl hl.1 (Nat.le_of_ble_eq_true rfl) dX2_pipesOf_66 ⟨(Nat.le_of_ble_eq_true rfl), (Nat.le_of_ble_eq_true rfl)⟩ (fun H locs hP hD hS => ?_)
          have hP : va_P D vwCl [] H := hP
          have hD : va_D A [] := hD
          refine lv_lshl (v := zlshl (1 : Int64) o66) hx hb dX2_pipesOf_69 rfl ?_
          refine lv_lor hx hb dX2_pipesOf_70 ?_
          refine lv_lstore_n (lv' := [(2, .long (x2 ||| (zlshl (1 : Int64) o66))), (0, .int x0), (1, .int x1), (4, .int x4), (5, .int x5)]) hx hb dX2_pipesOf_71 rfl hl (by decide) rfl (fun ls hl => ?_)
          exact J72 (x2 ||| (zlshl (1 : Int64) o66)) x5 hf _ _ _ (lv_sub hl [1, 2, 0, 3, 4] rfl) hP hD hS
      unfold zf_X2_pipesOf_l14 at hf
      refine lv_iload hx hb dX2_pipesOf_14 (lv_at hl 4 rfl) ?_
      refine lv_iload_n hx hb dX2_pipesOf_16 rfl (lv_at hl 0 rfl) ?_
      refine lv_icmp_ge (tgt := 78) hx hb dX2_pipesOf_17 (by decide) (fun c17 => ?_) (fun c17 => ?_)
      · replace hf := zt c17 hf
        obtain rfl := Option.some.inj hf
        obtain rfl := Option.some.inj h
        exact K78 _ _ _ (lv_sub hl [0, 1, 2, 3] rfl) hP hD hS
      · replace hf := ze c17 hf
        refine lv_iload hx hb dX2_pipesOf_20 (lv_at hl 4 rfl) ?_
        refine lv_iload hx hb dX2_pipesOf_22 (lv_at hl 3 rfl) ?_
        refine lv_iconst (v := 0) hx hb dX2_pipesOf_24 (by decide) ?_
        refine lv_iload_n hx hb dX2_pipesOf_25 rfl (lv_at hl 0 rfl) ?_
        refine lv_iload_n hx hb dX2_pipesOf_26 rfl (lv_at hl 1 rfl) ?_
        obtain ⟨o27, ho27, hf⟩ := zb hf
        refine zcS1 (wr := []) (rest := []) X (zc_X2_hasPipe l D y x5 x4 (0 : Int32) x0 x1 o27 ho27) kf_RX2_43 ⟨(Nat.le_of_ble_eq_true rfl), (Nat.le_of_ble_eq_true rfl)⟩ hP hD hS [] [] rfl rfl rfl rfl (by decide) rfl rfl hl.1 (Nat.le_of_ble_eq_true rfl) dX2_pipesOf_27 ⟨(Nat.le_of_ble_eq_true rfl), (Nat.le_of_ble_eq_true rfl)⟩ (fun H locs hP hD hS => ?_)
        have hP : va_P D vwCl [] H := hP
        have hD : va_D A [] := hD
        refine lv_if_eq (tgt := 46) hx hb dX2_pipesOf_30 (by decide) (fun c30 => ?_) (fun c30 => ?_)
        · replace hf := zt c30 hf
          exact J46 x2 x5 hf _ _ _ hl hP hD hS
        · replace hf := ze c30 hf
          refine lv_lload_n hx hb dX2_pipesOf_33 rfl (lv_at hl 2 rfl) ?_
          refine lv_lconst (v := 1) hx hb dX2_pipesOf_34 (by decide) ?_
          refine lv_iload hx hb dX2_pipesOf_35 (lv_at hl 4 rfl) ?_
          refine lv_iload hx hb dX2_pipesOf_37 (lv_at hl 3 rfl) ?_
          refine lv_iconst (v := 0) hx hb dX2_pipesOf_39 (by decide) ?_
          obtain ⟨o40, ho40, hf⟩ := zb hf
          refine zcS1 (wr := []) (rest := [.long (1 : Int64), .long x2]) X (zc_X2_numberOf l D y x5 x4 (0 : Int32) o40 ho40) kf_RX2_47 ⟨(Nat.le_of_ble_eq_true rfl), (Nat.le_of_ble_eq_true rfl)⟩ hP hD hS [] [] rfl rfl rfl rfl (by decide) rfl rfl hl.1 (Nat.le_of_ble_eq_true rfl) dX2_pipesOf_40 ⟨(Nat.le_of_ble_eq_true rfl), (Nat.le_of_ble_eq_true rfl)⟩ (fun H locs hP hD hS => ?_)
          have hP : va_P D vwCl [] H := hP
          have hD : va_D A [] := hD
          refine lv_lshl (v := zlshl (1 : Int64) o40) hx hb dX2_pipesOf_43 rfl ?_
          refine lv_lor hx hb dX2_pipesOf_44 ?_
          refine lv_lstore_n (lv' := [(2, .long (x2 ||| (zlshl (1 : Int64) o40))), (0, .int x0), (1, .int x1), (4, .int x4), (5, .int x5)]) hx hb dX2_pipesOf_45 rfl hl (by decide) rfl (fun ls hl => ?_)
          exact J46 (x2 ||| (zlshl (1 : Int64) o40)) x5 hf _ _ _ (lv_sub hl [1, 2, 0, 3, 4] rfl) hP hD hS
  have L5 : ∀ (n : Nat) (x0 : Int32) (x1 : Int32) (x2 : Int64) (x4 : Int32) (x : (Int64)), zit (fun d => zf_X2_pipesOf_l5 x0 x1 d.1 d.2) n (x2, x4) = some x → ∀ (H : Heap) (locs : List Loc) (ls : Array Slot), lv_has ls 6 [(0, .int x0), (1, .int x1), (2, .long x2), (4, .int x4)] → va_P D vwCl [] H → va_D A [] → va_S A s.heap H locs → (∀ (H : Heap) (locs : List Loc) (ls : Array Slot), lv_has ls 6 [(2, .long x)] → va_P D vwCl [] H → va_D A [] → va_S A s.heap H locs → W p l e rm_X2_pipesOf s m args below meth c H locs 0 0 Q (F0 m 84 ls [])) → W p l e rm_X2_pipesOf s m args below meth c H locs 0 0 Q (F0 m 5 ls []) := by
    intro n
    induction n with
    | zero => intro x0 x1 x2 x4 x h; exact (zi0 h).elim
    | succ n ih =>
      intro x0 x1 x2 x4 x h H locs ls hl hP hD hS K84
      obtain ⟨r, hf, h⟩ := zis h
      have hf : zf_X2_pipesOf_l5 x0 x1 x2 x4 = some r := hf
      unfold zf_X2_pipesOf_l5 at hf
      refine lv_iload hx hb dX2_pipesOf_5 (lv_at hl 3 rfl) ?_
      refine lv_iload_n hx hb dX2_pipesOf_7 rfl (lv_at hl 1 rfl) ?_
      refine lv_icmp_ge (tgt := 84) hx hb dX2_pipesOf_8 (by decide) (fun c8 => ?_) (fun c8 => ?_)
      · replace hf := zt c8 hf
        obtain rfl := Option.some.inj hf
        obtain rfl := Option.some.inj h
        exact K84 _ _ _ (lv_sub hl [2] rfl) hP hD hS
      · replace hf := ze c8 hf
        refine lv_iconst (v := 0) hx hb dX2_pipesOf_11 (by decide) ?_
        refine lv_istore (lv' := [(5, .int (0 : Int32)), (0, .int x0), (1, .int x1), (2, .long x2), (4, .int x4)]) hx hb dX2_pipesOf_12 hl (by decide) rfl (fun ls hl => ?_)
        obtain ⟨o14, ho14, hf⟩ := zb hf
        refine L14 zfu x0 x1 x2 x4 (0 : Int32) o14 ho14 _ _ _ (lv_sub hl [1, 2, 3, 4, 0] rfl) hP hD hS (fun H locs ls hl hP hD hS => ?_)
        refine lv_iinc (v := x4 + (1 : Int32)) (lv' := [(4, .int (x4 + (1 : Int32))), (0, .int x0), (1, .int x1), (2, .long o14)]) hx hb dX2_pipesOf_78 hl (k := 3) rfl rfl (by decide) rfl (fun ls hl => ?_)
        refine lv_goto (tgt := 5) hx hb dX2_pipesOf_81 (by decide) ?_
        obtain rfl := Option.some.inj hf
        exact ih x0 x1 o14 (x4 + (1 : Int32)) x h _ _ _ (lv_sub hl [1, 2, 3, 0] rfl) hP hD hS K84
  unfold zf_X2_pipesOf at hf
  refine lv_lconst (v := 0) hx hb dX2_pipesOf_0 (by decide) ?_
  refine lv_lstore_n (lv' := [(2, .long (0 : Int64)), (0, .int x0), (1, .int x1)]) hx hb dX2_pipesOf_1 rfl hl (by decide) rfl (fun ls hl => ?_)
  refine lv_iconst (v := 0) hx hb dX2_pipesOf_2 (by decide) ?_
  refine lv_istore (lv' := [(4, .int (0 : Int32)), (2, .long (0 : Int64)), (0, .int x0), (1, .int x1)]) hx hb dX2_pipesOf_3 hl (by decide) rfl (fun ls hl => ?_)
  obtain ⟨o5, ho5, hf⟩ := zb hf
  refine L5 zfu x0 x1 (0 : Int64) (0 : Int32) o5 ho5 _ _ _ (lv_sub hl [2, 3, 1, 0] rfl) hP hD hS (fun H locs ls hl hP hD hS => ?_)
  refine lv_lload_n hx hb dX2_pipesOf_84 rfl (lv_at hl 0 rfl) ?_
  obtain rfl := Option.some.inj hf
  exact zretl X hQ hP hD hS ⟨rfl, rfl⟩ dX2_pipesOf_85 (Nat.le_of_ble_eq_true rfl) (Nat.le_of_ble_eq_true rfl)


abbrev rm_X2_hasCell : Room := { frames := 0, cells := 0, slots := 0, locals := 0 }
def zf_X2_hasCell (f_columns : Int32) (f_rows : Int32) (x1 : Int32) (x2 : Int32) : Option (Int32) :=
  if x1 < 0 then (some (0 : Int32)) else (if f_columns ≤ x1 then (some (0 : Int32)) else (if x2 < 0 then (some (0 : Int32)) else (if f_rows ≤ x2 then (some (0 : Int32)) else (some (1 : Int32)))))
set_option maxHeartbeats 4000000 in
set_option maxRecDepth 100000 in
theorem zc_X2_hasCell (l : Launch) (D : va_G) (y : zY) (a_this : Nat) (f_columns : Int32) (f_rows : Int32) (f_toldOpen : Int64) (f_toldShut : Int64) (f_stones : Int64) (f_open : Int64) (f_shut : Int64) (f_free : Int64) (x1 : Int32) (x2 : Int32) (out : Int32) (hf : zf_X2_hasCell f_columns f_rows x1 x2 = some out) : zC l D y yX2_hasCell cX2_hasCell 3 (some .boolean) rm_X2_hasCell [.ref a_this, .int x1, .int x2] [(a_this, .inr (2, [.int f_columns, .int f_rows, .long f_toldOpen, .long f_toldShut, .long f_stones, .long f_open, .long f_shut, .long f_free]))] (zE (some (.int out)) [(a_this, .inr (2, [.int f_columns, .int f_rows, .long f_toldOpen, .long f_toldShut, .long f_stones, .long f_open, .long f_shut, .long f_free]))]) := by
  refine zmk (by decide) (Nat.le_of_ble_eq_true rfl) ?_
  intro p e s m args below meth c A Q ls X hQ hnm hP hD hS hl
  have X : zX p s m args meth c D y A RX2 cX2_hasCell 3 (some .boolean) := X
  obtain ⟨hx, hb, hr, hml, hown, hts, hK, hA, hlocks⟩ := id X
  have hl : lv_has ls 3 [(0, .ref a_this), (1, .int x1), (2, .int x2)] := hl
  unfold zf_X2_hasCell at hf
  refine lv_iload_n hx hb dX2_hasCell_0 rfl (lv_at hl 1 rfl) ?_
  refine lv_if_lt (tgt := 28) hx hb dX2_hasCell_1 (by decide) (fun c1 => ?_) (fun c1 => ?_)
  · replace hf := zt c1 hf
    refine lv_iconst (v := 0) hx hb dX2_hasCell_28 (by decide) ?_
    obtain rfl := Option.some.inj hf
    exact zreti X hQ hP hD hS ⟨rfl, rfl⟩ rfl dX2_hasCell_29 (Nat.le_of_ble_eq_true rfl) (Nat.le_of_ble_eq_true rfl)
  · replace hf := ze c1 hf
    refine lv_iload_n hx hb dX2_hasCell_4 rfl (lv_at hl 1 rfl) ?_
    refine lv_aload_n hx hb dX2_hasCell_5 rfl (lv_at hl 0 rfl) ?_
    refine zget X hP 0 rfl rfl inF2 0 (by decide) q_238 rfl dX2_hasCell_6 ?_
    refine lv_icmp_ge (tgt := 28) hx hb dX2_hasCell_9 (by decide) (fun c9 => ?_) (fun c9 => ?_)
    · replace hf := zt c9 hf
      refine lv_iconst (v := 0) hx hb dX2_hasCell_28 (by decide) ?_
      obtain rfl := Option.some.inj hf
      exact zreti X hQ hP hD hS ⟨rfl, rfl⟩ rfl dX2_hasCell_29 (Nat.le_of_ble_eq_true rfl) (Nat.le_of_ble_eq_true rfl)
    · replace hf := ze c9 hf
      refine lv_iload_n hx hb dX2_hasCell_12 rfl (lv_at hl 2 rfl) ?_
      refine lv_if_lt (tgt := 28) hx hb dX2_hasCell_13 (by decide) (fun c13 => ?_) (fun c13 => ?_)
      · replace hf := zt c13 hf
        refine lv_iconst (v := 0) hx hb dX2_hasCell_28 (by decide) ?_
        obtain rfl := Option.some.inj hf
        exact zreti X hQ hP hD hS ⟨rfl, rfl⟩ rfl dX2_hasCell_29 (Nat.le_of_ble_eq_true rfl) (Nat.le_of_ble_eq_true rfl)
      · replace hf := ze c13 hf
        refine lv_iload_n hx hb dX2_hasCell_16 rfl (lv_at hl 2 rfl) ?_
        refine lv_aload_n hx hb dX2_hasCell_17 rfl (lv_at hl 0 rfl) ?_
        refine zget X hP 0 rfl rfl inF2 1 (by decide) q_240 rfl dX2_hasCell_18 ?_
        refine lv_icmp_ge (tgt := 28) hx hb dX2_hasCell_21 (by decide) (fun c21 => ?_) (fun c21 => ?_)
        · replace hf := zt c21 hf
          refine lv_iconst (v := 0) hx hb dX2_hasCell_28 (by decide) ?_
          obtain rfl := Option.some.inj hf
          exact zreti X hQ hP hD hS ⟨rfl, rfl⟩ rfl dX2_hasCell_29 (Nat.le_of_ble_eq_true rfl) (Nat.le_of_ble_eq_true rfl)
        · replace hf := ze c21 hf
          refine lv_iconst (v := 1) hx hb dX2_hasCell_24 (by decide) ?_
          refine lv_goto (tgt := 29) hx hb dX2_hasCell_25 (by decide) ?_
          obtain rfl := Option.some.inj hf
          exact zreti X hQ hP hD hS ⟨rfl, rfl⟩ rfl dX2_hasCell_29 (Nat.le_of_ble_eq_true rfl) (Nat.le_of_ble_eq_true rfl)


abbrev rm_X2_isFree : Room := { frames := 0, cells := 0, slots := 0, locals := 0 }
def zf_X2_isFree (f_free : Int64) (x1 : Int32) : Option (Int32) :=
  if (lg_cmp ((zlushr f_free x1) &&& (1 : Int64)) (0 : Int64)) = 0 then (some (0 : Int32)) else (some (1 : Int32))
set_option maxHeartbeats 4000000 in
set_option maxRecDepth 100000 in
theorem zc_X2_isFree (l : Launch) (D : va_G) (y : zY) (a_this : Nat) (f_columns : Int32) (f_rows : Int32) (f_toldOpen : Int64) (f_toldShut : Int64) (f_stones : Int64) (f_open : Int64) (f_shut : Int64) (f_free : Int64) (x1 : Int32) (out : Int32) (hf : zf_X2_isFree f_free x1 = some out) : zC l D y yX2_isFree cX2_isFree 2 (some .boolean) rm_X2_isFree [.ref a_this, .int x1] [(a_this, .inr (2, [.int f_columns, .int f_rows, .long f_toldOpen, .long f_toldShut, .long f_stones, .long f_open, .long f_shut, .long f_free]))] (zE (some (.int out)) [(a_this, .inr (2, [.int f_columns, .int f_rows, .long f_toldOpen, .long f_toldShut, .long f_stones, .long f_open, .long f_shut, .long f_free]))]) := by
  refine zmk (by decide) (Nat.le_of_ble_eq_true rfl) ?_
  intro p e s m args below meth c A Q ls X hQ hnm hP hD hS hl
  have X : zX p s m args meth c D y A RX2 cX2_isFree 2 (some .boolean) := X
  obtain ⟨hx, hb, hr, hml, hown, hts, hK, hA, hlocks⟩ := id X
  have hl : lv_has ls 2 [(0, .ref a_this), (1, .int x1)] := hl
  unfold zf_X2_isFree at hf
  refine lv_aload_n hx hb dX2_isFree_0 rfl (lv_at hl 0 rfl) ?_
  refine zget X hP 0 rfl rfl inF2 7 (by decide) q_251 rfl dX2_isFree_1 ?_
  refine lv_iload_n hx hb dX2_isFree_4 rfl (lv_at hl 1 rfl) ?_
  refine lv_lushr (v := zlushr f_free x1) hx hb dX2_isFree_5 rfl ?_
  refine lv_lconst (v := 1) hx hb dX2_isFree_6 (by decide) ?_
  refine lv_land hx hb dX2_isFree_7 ?_
  refine lv_lconst (v := 0) hx hb dX2_isFree_8 (by decide) ?_
  refine W.lcmp hx hb dX2_isFree_9 ?_
  refine lv_if_eq (tgt := 17) hx hb dX2_isFree_10 (by decide) (fun c10 => ?_) (fun c10 => ?_)
  · replace hf := zt c10 hf
    refine lv_iconst (v := 0) hx hb dX2_isFree_17 (by decide) ?_
    obtain rfl := Option.some.inj hf
    exact zreti X hQ hP hD hS ⟨rfl, rfl⟩ rfl dX2_isFree_18 (Nat.le_of_ble_eq_true rfl) (Nat.le_of_ble_eq_true rfl)
  · replace hf := ze c10 hf
    refine lv_iconst (v := 1) hx hb dX2_isFree_13 (by decide) ?_
    refine lv_goto (tgt := 18) hx hb dX2_isFree_14 (by decide) ?_
    obtain rfl := Option.some.inj hf
    exact zreti X hQ hP hD hS ⟨rfl, rfl⟩ rfl dX2_isFree_18 (Nat.le_of_ble_eq_true rfl) (Nat.le_of_ble_eq_true rfl)

theorem kf_RX2_51 : zCB RX2 51 yJ13_bitCount_95d88 cJ13_bitCount_95d88 2 (some .int) 1 ∧ Cond.static yJ13_bitCount_95d88 ∈ wAll := ⟨⟨q_506, q_15, q_504, by decide +kernel⟩, q_505⟩
abbrev rm_X2_freeCount : Room := { frames := 1, cells := 0, slots := 0, locals := 21 }
def zf_X2_freeCount (f_free : Int64) : Option (Int32) :=
  (zf_J13_bitCount_95d88 f_free).bind fun o4 =>
  some o4
set_option maxHeartbeats 4000000 in
set_option maxRecDepth 100000 in
theorem zc_X2_freeCount (l : Launch) (D : va_G) (y : zY) (a_this : Nat) (f_columns : Int32) (f_rows : Int32) (f_toldOpen : Int64) (f_toldShut : Int64) (f_stones : Int64) (f_open : Int64) (f_shut : Int64) (f_free : Int64) (out : Int32) (hf : zf_X2_freeCount f_free = some out) : zC l D y yX2_freeCount cX2_freeCount 1 (some .int) rm_X2_freeCount [.ref a_this] [(a_this, .inr (2, [.int f_columns, .int f_rows, .long f_toldOpen, .long f_toldShut, .long f_stones, .long f_open, .long f_shut, .long f_free]))] (zE (some (.int out)) [(a_this, .inr (2, [.int f_columns, .int f_rows, .long f_toldOpen, .long f_toldShut, .long f_stones, .long f_open, .long f_shut, .long f_free]))]) := by
  refine zmk (by decide) (Nat.le_of_ble_eq_true rfl) ?_
  intro p e s m args below meth c A Q ls X hQ hnm hP hD hS hl
  have X : zX p s m args meth c D y A RX2 cX2_freeCount 1 (some .int) := X
  obtain ⟨hx, hb, hr, hml, hown, hts, hK, hA, hlocks⟩ := id X
  have hl : lv_has ls 1 [(0, .ref a_this)] := hl
  unfold zf_X2_freeCount at hf
  refine lv_aload_n hx hb dX2_freeCount_0 rfl (lv_at hl 0 rfl) ?_
  refine zget X hP 0 rfl rfl inF2 7 (by decide) q_251 rfl dX2_freeCount_1 ?_
  obtain ⟨o4, ho4, hf⟩ := zb hf
  refine zcS1 (wr := [(a_this, .inr (2, [.int f_columns, .int f_rows, .long f_toldOpen, .long f_toldShut, .long f_stones, .long f_open, .long f_shut, .long f_free]))]) (rest := []) X (zc_J13_bitCount_95d88 l D y f_free o4 ho4) kf_RX2_51 ⟨(Nat.le_of_ble_eq_true rfl), (Nat.le_of_ble_eq_true rfl)⟩ hP hD hS [] [0] rfl rfl rfl rfl (by decide) rfl rfl hl.1 (Nat.le_of_ble_eq_true rfl) dX2_freeCount_4 ⟨(Nat.le_of_ble_eq_true rfl), (Nat.le_of_ble_eq_true rfl)⟩ (fun H locs hP hD hS => ?_)
  have hP : va_P D vwCl [(a_this, .inr (2, [.int f_columns, .int f_rows, .long f_toldOpen, .long f_toldShut, .long f_stones, .long f_open, .long f_shut, .long f_free]))] H := hP
  have hD : va_D A [(a_this, .inr (2, [.int f_columns, .int f_rows, .long f_toldOpen, .long f_toldShut, .long f_stones, .long f_open, .long f_shut, .long f_free]))] := hD
  obtain rfl := Option.some.inj hf
  exact zreti X hQ hP hD hS ⟨rfl, rfl⟩ rfl dX2_freeCount_7 (Nat.le_of_ble_eq_true rfl) (Nat.le_of_ble_eq_true rfl)


abbrev rm_X2_stonesIn : Room := { frames := 1, cells := 0, slots := 0, locals := 21 }
def zf_X2_stonesIn (f_stones : Int64) (x1 : Int32) : Option (Int32) :=
  (zf_J13_bitCount_95d88 (f_stones &&& (zlshl (341 : Int64) ((10 : Int32) * x1)))).bind fun o13 =>
  some o13
set_option maxHeartbeats 4000000 in
set_option maxRecDepth 100000 in
theorem zc_X2_stonesIn (l : Launch) (D : va_G) (y : zY) (a_this : Nat) (f_columns : Int32) (f_rows : Int32) (f_toldOpen : Int64) (f_toldShut : Int64) (f_stones : Int64) (f_open : Int64) (f_shut : Int64) (f_free : Int64) (x1 : Int32) (out : Int32) (hf : zf_X2_stonesIn f_stones x1 = some out) : zC l D y yX2_stonesIn cX2_stonesIn 2 (some .int) rm_X2_stonesIn [.ref a_this, .int x1] [(a_this, .inr (2, [.int f_columns, .int f_rows, .long f_toldOpen, .long f_toldShut, .long f_stones, .long f_open, .long f_shut, .long f_free]))] (zE (some (.int out)) [(a_this, .inr (2, [.int f_columns, .int f_rows, .long f_toldOpen, .long f_toldShut, .long f_stones, .long f_open, .long f_shut, .long f_free]))]) := by
  refine zmk (by decide) (Nat.le_of_ble_eq_true rfl) ?_
  intro p e s m args below meth c A Q ls X hQ hnm hP hD hS hl
  have X : zX p s m args meth c D y A RX2 cX2_stonesIn 2 (some .int) := X
  obtain ⟨hx, hb, hr, hml, hown, hts, hK, hA, hlocks⟩ := id X
  have hl : lv_has ls 2 [(0, .ref a_this), (1, .int x1)] := hl
  unfold zf_X2_stonesIn at hf
  refine lv_aload_n hx hb dX2_stonesIn_0 rfl (lv_at hl 0 rfl) ?_
  refine zget X hP 0 rfl rfl inF2 4 (by decide) q_245 rfl dX2_stonesIn_1 ?_
  refine lv_ldc2 (v := 341) hx hb hown (hts _ q_558) dX2_stonesIn_4 ?_
  refine lv_bipush (v := 10) hx hb dX2_stonesIn_7 (by decide) ?_
  refine lv_iload_n hx hb dX2_stonesIn_9 rfl (lv_at hl 1 rfl) ?_
  refine lv_imul hx hb dX2_stonesIn_10 ?_
  refine lv_lshl (v := zlshl (341 : Int64) ((10 : Int32) * x1)) hx hb dX2_stonesIn_11 rfl ?_
  refine lv_land hx hb dX2_stonesIn_12 ?_
  obtain ⟨o13, ho13, hf⟩ := zb hf
  refine zcS1 (wr := [(a_this, .inr (2, [.int f_columns, .int f_rows, .long f_toldOpen, .long f_toldShut, .long f_stones, .long f_open, .long f_shut, .long f_free]))]) (rest := []) X (zc_J13_bitCount_95d88 l D y (f_stones &&& (zlshl (341 : Int64) ((10 : Int32) * x1))) o13 ho13) kf_RX2_51 ⟨(Nat.le_of_ble_eq_true rfl), (Nat.le_of_ble_eq_true rfl)⟩ hP hD hS [] [0] rfl rfl rfl rfl (by decide) rfl rfl hl.1 (Nat.le_of_ble_eq_true rfl) dX2_stonesIn_13 ⟨(Nat.le_of_ble_eq_true rfl), (Nat.le_of_ble_eq_true rfl)⟩ (fun H locs hP hD hS => ?_)
  have hP : va_P D vwCl [(a_this, .inr (2, [.int f_columns, .int f_rows, .long f_toldOpen, .long f_toldShut, .long f_stones, .long f_open, .long f_shut, .long f_free]))] H := hP
  have hD : va_D A [(a_this, .inr (2, [.int f_columns, .int f_rows, .long f_toldOpen, .long f_toldShut, .long f_stones, .long f_open, .long f_shut, .long f_free]))] := hD
  obtain rfl := Option.some.inj hf
  exact zreti X hQ hP hD hS ⟨rfl, rfl⟩ rfl dX2_stonesIn_16 (Nat.le_of_ble_eq_true rfl) (Nat.le_of_ble_eq_true rfl)


abbrev rm_X2_statusBy : Room := { frames := 0, cells := 0, slots := 0, locals := 0 }
def zf_X2_statusBy (x0 : Int64) (x2 : Int64) (x4 : Int32) : Option (Int32) :=
  if (lg_cmp ((zlushr x2 x4) &&& (1 : Int64)) (0 : Int64)) = 0 then (if (lg_cmp ((zlushr x0 x4) &&& (1 : Int64)) (0 : Int64)) = 0 then (some (0 : Int32)) else (some (1 : Int32))) else (some (2 : Int32))
set_option maxHeartbeats 4000000 in
set_option maxRecDepth 100000 in
theorem zc_X2_statusBy (l : Launch) (D : va_G) (y : zY) (x0 : Int64) (x2 : Int64) (x4 : Int32) (out : Int32) (hf : zf_X2_statusBy x0 x2 x4 = some out) : zC l D y yX2_statusBy cX2_statusBy 5 (some .int) rm_X2_statusBy [.long x0, .long x2, .int x4] [] (zE (some (.int out)) []) := by
  refine zmk (by decide) (Nat.le_of_ble_eq_true rfl) ?_
  intro p e s m args below meth c A Q ls X hQ hnm hP hD hS hl
  have X : zX p s m args meth c D y A RX2 cX2_statusBy 5 (some .int) := X
  obtain ⟨hx, hb, hr, hml, hown, hts, hK, hA, hlocks⟩ := id X
  have hl : lv_has ls 5 [(0, .long x0), (2, .long x2), (4, .int x4)] := hl
  unfold zf_X2_statusBy at hf
  refine lv_lload_n hx hb dX2_statusBy_0 rfl (lv_at hl 1 rfl) ?_
  refine lv_iload hx hb dX2_statusBy_1 (lv_at hl 2 rfl) ?_
  refine lv_lushr (v := zlushr x2 x4) hx hb dX2_statusBy_3 rfl ?_
  refine lv_lconst (v := 1) hx hb dX2_statusBy_4 (by decide) ?_
  refine lv_land hx hb dX2_statusBy_5 ?_
  refine lv_lconst (v := 0) hx hb dX2_statusBy_6 (by decide) ?_
  refine W.lcmp hx hb dX2_statusBy_7 ?_
  refine lv_if_eq (tgt := 13) hx hb dX2_statusBy_8 (by decide) (fun c8 => ?_) (fun c8 => ?_)
  · replace hf := zt c8 hf
    refine lv_lload_n hx hb dX2_statusBy_13 rfl (lv_at hl 0 rfl) ?_
    refine lv_iload hx hb dX2_statusBy_14 (lv_at hl 2 rfl) ?_
    refine lv_lushr (v := zlushr x0 x4) hx hb dX2_statusBy_16 rfl ?_
    refine lv_lconst (v := 1) hx hb dX2_statusBy_17 (by decide) ?_
    refine lv_land hx hb dX2_statusBy_18 ?_
    refine lv_lconst (v := 0) hx hb dX2_statusBy_19 (by decide) ?_
    refine W.lcmp hx hb dX2_statusBy_20 ?_
    refine lv_if_eq (tgt := 28) hx hb dX2_statusBy_21 (by decide) (fun c21 => ?_) (fun c21 => ?_)
    · replace hf := zt c21 hf
      refine lv_iconst (v := 0) hx hb dX2_statusBy_28 (by decide) ?_
      obtain rfl := Option.some.inj hf
      exact zreti X hQ hP hD hS ⟨rfl, rfl⟩ rfl dX2_statusBy_29 (Nat.le_of_ble_eq_true rfl) (Nat.le_of_ble_eq_true rfl)
    · replace hf := ze c21 hf
      refine lv_iconst (v := 1) hx hb dX2_statusBy_24 (by decide) ?_
      refine lv_goto (tgt := 29) hx hb dX2_statusBy_25 (by decide) ?_
      obtain rfl := Option.some.inj hf
      exact zreti X hQ hP hD hS ⟨rfl, rfl⟩ rfl dX2_statusBy_29 (Nat.le_of_ble_eq_true rfl) (Nat.le_of_ble_eq_true rfl)
  · replace hf := ze c8 hf
    refine lv_iconst (v := 2) hx hb dX2_statusBy_11 (by decide) ?_
    obtain rfl := Option.some.inj hf
    exact zreti X hQ hP hD hS ⟨rfl, rfl⟩ rfl dX2_statusBy_12 (Nat.le_of_ble_eq_true rfl) (Nat.le_of_ble_eq_true rfl)

theorem kf_RX2_59 : zCB RX2 59 yX2_statusBy cX2_statusBy 5 (some .int) 3 ∧ Cond.static yX2_statusBy ∈ wAll := ⟨⟨q_459, q_8, q_457, by decide +kernel⟩, q_458⟩
abbrev rm_X2_statusOf : Room := { frames := 1, cells := 0, slots := 0, locals := 24 }
def zf_X2_statusOf (f_open : Int64) (f_shut : Int64) (x1 : Int32) : Option (Int32) :=
  (zf_X2_statusBy f_open f_shut x1).bind fun o9 =>
  some o9
set_option maxHeartbeats 4000000 in
set_option maxRecDepth 100000 in
theorem zc_X2_statusOf (l : Launch) (D : va_G) (y : zY) (a_this : Nat) (f_columns : Int32) (f_rows : Int32) (f_toldOpen : Int64) (f_toldShut : Int64) (f_stones : Int64) (f_open : Int64) (f_shut : Int64) (f_free : Int64) (x1 : Int32) (out : Int32) (hf : zf_X2_statusOf f_open f_shut x1 = some out) : zC l D y yX2_statusOf cX2_statusOf 2 (some .int) rm_X2_statusOf [.ref a_this, .int x1] [(a_this, .inr (2, [.int f_columns, .int f_rows, .long f_toldOpen, .long f_toldShut, .long f_stones, .long f_open, .long f_shut, .long f_free]))] (zE (some (.int out)) [(a_this, .inr (2, [.int f_columns, .int f_rows, .long f_toldOpen, .long f_toldShut, .long f_stones, .long f_open, .long f_shut, .long f_free]))]) := by
  refine zmk (by decide) (Nat.le_of_ble_eq_true rfl) ?_
  intro p e s m args below meth c A Q ls X hQ hnm hP hD hS hl
  have X : zX p s m args meth c D y A RX2 cX2_statusOf 2 (some .int) := X
  obtain ⟨hx, hb, hr, hml, hown, hts, hK, hA, hlocks⟩ := id X
  have hl : lv_has ls 2 [(0, .ref a_this), (1, .int x1)] := hl
  unfold zf_X2_statusOf at hf
  refine lv_aload_n hx hb dX2_statusOf_0 rfl (lv_at hl 0 rfl) ?_
  refine zget X hP 0 rfl rfl inF2 5 (by decide) q_247 rfl dX2_statusOf_1 ?_
  refine lv_aload_n hx hb dX2_statusOf_4 rfl (lv_at hl 0 rfl) ?_
  refine zget X hP 0 rfl rfl inF2 6 (by decide) q_249 rfl dX2_statusOf_5 ?_
  refine lv_iload_n hx hb dX2_statusOf_8 rfl (lv_at hl 1 rfl) ?_
  obtain ⟨o9, ho9, hf⟩ := zb hf
  refine zcS1 (wr := [(a_this, .inr (2, [.int f_columns, .int f_rows, .long f_toldOpen, .long f_toldShut, .long f_stones, .long f_open, .long f_shut, .long f_free]))]) (rest := []) X (zc_X2_statusBy l D y f_open f_shut x1 o9 ho9) kf_RX2_59 ⟨(Nat.le_of_ble_eq_true rfl), (Nat.le_of_ble_eq_true rfl)⟩ hP hD hS [] [0] rfl rfl rfl rfl (by decide) rfl rfl hl.1 (Nat.le_of_ble_eq_true rfl) dX2_statusOf_9 ⟨(Nat.le_of_ble_eq_true rfl), (Nat.le_of_ble_eq_true rfl)⟩ (fun H locs hP hD hS => ?_)
  have hP : va_P D vwCl [(a_this, .inr (2, [.int f_columns, .int f_rows, .long f_toldOpen, .long f_toldShut, .long f_stones, .long f_open, .long f_shut, .long f_free]))] H := hP
  have hD : va_D A [(a_this, .inr (2, [.int f_columns, .int f_rows, .long f_toldOpen, .long f_toldShut, .long f_stones, .long f_open, .long f_shut, .long f_free]))] := hD
  obtain rfl := Option.some.inj hf
  exact zreti X hQ hP hD hS ⟨rfl, rfl⟩ rfl dX2_statusOf_12 (Nat.le_of_ble_eq_true rfl) (Nat.le_of_ble_eq_true rfl)


abbrev rm_X2_toldOf : Room := { frames := 1, cells := 0, slots := 0, locals := 24 }
def zf_X2_toldOf (f_toldOpen : Int64) (f_toldShut : Int64) (x1 : Int32) : Option (Int32) :=
  (zf_X2_statusBy f_toldOpen f_toldShut x1).bind fun o9 =>
  some o9
set_option maxHeartbeats 4000000 in
set_option maxRecDepth 100000 in
theorem zc_X2_toldOf (l : Launch) (D : va_G) (y : zY) (a_this : Nat) (f_columns : Int32) (f_rows : Int32) (f_toldOpen : Int64) (f_toldShut : Int64) (f_stones : Int64) (f_open : Int64) (f_shut : Int64) (f_free : Int64) (x1 : Int32) (out : Int32) (hf : zf_X2_toldOf f_toldOpen f_toldShut x1 = some out) : zC l D y yX2_toldOf cX2_toldOf 2 (some .int) rm_X2_toldOf [.ref a_this, .int x1] [(a_this, .inr (2, [.int f_columns, .int f_rows, .long f_toldOpen, .long f_toldShut, .long f_stones, .long f_open, .long f_shut, .long f_free]))] (zE (some (.int out)) [(a_this, .inr (2, [.int f_columns, .int f_rows, .long f_toldOpen, .long f_toldShut, .long f_stones, .long f_open, .long f_shut, .long f_free]))]) := by
  refine zmk (by decide) (Nat.le_of_ble_eq_true rfl) ?_
  intro p e s m args below meth c A Q ls X hQ hnm hP hD hS hl
  have X : zX p s m args meth c D y A RX2 cX2_toldOf 2 (some .int) := X
  obtain ⟨hx, hb, hr, hml, hown, hts, hK, hA, hlocks⟩ := id X
  have hl : lv_has ls 2 [(0, .ref a_this), (1, .int x1)] := hl
  unfold zf_X2_toldOf at hf
  refine lv_aload_n hx hb dX2_toldOf_0 rfl (lv_at hl 0 rfl) ?_
  refine zget X hP 0 rfl rfl inF2 2 (by decide) q_243 rfl dX2_toldOf_1 ?_
  refine lv_aload_n hx hb dX2_toldOf_4 rfl (lv_at hl 0 rfl) ?_
  refine zget X hP 0 rfl rfl inF2 3 (by decide) q_244 rfl dX2_toldOf_5 ?_
  refine lv_iload_n hx hb dX2_toldOf_8 rfl (lv_at hl 1 rfl) ?_
  obtain ⟨o9, ho9, hf⟩ := zb hf
  refine zcS1 (wr := [(a_this, .inr (2, [.int f_columns, .int f_rows, .long f_toldOpen, .long f_toldShut, .long f_stones, .long f_open, .long f_shut, .long f_free]))]) (rest := []) X (zc_X2_statusBy l D y f_toldOpen f_toldShut x1 o9 ho9) kf_RX2_59 ⟨(Nat.le_of_ble_eq_true rfl), (Nat.le_of_ble_eq_true rfl)⟩ hP hD hS [] [0] rfl rfl rfl rfl (by decide) rfl rfl hl.1 (Nat.le_of_ble_eq_true rfl) dX2_toldOf_9 ⟨(Nat.le_of_ble_eq_true rfl), (Nat.le_of_ble_eq_true rfl)⟩ (fun H locs hP hD hS => ?_)
  have hP : va_P D vwCl [(a_this, .inr (2, [.int f_columns, .int f_rows, .long f_toldOpen, .long f_toldShut, .long f_stones, .long f_open, .long f_shut, .long f_free]))] H := hP
  have hD : va_D A [(a_this, .inr (2, [.int f_columns, .int f_rows, .long f_toldOpen, .long f_toldShut, .long f_stones, .long f_open, .long f_shut, .long f_free]))] := hD
  obtain rfl := Option.some.inj hf
  exact zreti X hQ hP hD hS ⟨rfl, rfl⟩ rfl dX2_toldOf_12 (Nat.le_of_ble_eq_true rfl) (Nat.le_of_ble_eq_true rfl)


abbrev rm_X2_cellTurned : Room := { frames := 1, cells := 0, slots := 0, locals := 22 }
def zf_X2_cellTurned (f_columns : Int32) (f_rows : Int32) (x1 : Int32) (x2 : Int32) (x3 : Int32) : Option (Int32) :=
  if x3 = 0 then ((zf_X2_numberOf ((f_columns - (1 : Int32)) - x1) x2 (0 : Int32)).bind fun o14 =>
  some o14) else (if x3 = (1 : Int32) then ((zf_X2_numberOf x1 ((f_rows - (1 : Int32)) - x2) (0 : Int32)).bind fun o33 =>
  some o33) else ((zf_X2_numberOf x2 x1 (0 : Int32)).bind fun o42 =>
  some o42))
set_option maxHeartbeats 4000000 in
set_option maxRecDepth 100000 in
theorem zc_X2_cellTurned (l : Launch) (D : va_G) (y : zY) (a_this : Nat) (f_columns : Int32) (f_rows : Int32) (f_toldOpen : Int64) (f_toldShut : Int64) (f_stones : Int64) (f_open : Int64) (f_shut : Int64) (f_free : Int64) (x1 : Int32) (x2 : Int32) (x3 : Int32) (out : Int32) (hf : zf_X2_cellTurned f_columns f_rows x1 x2 x3 = some out) : zC l D y yX2_cellTurned cX2_cellTurned 4 (some .int) rm_X2_cellTurned [.ref a_this, .int x1, .int x2, .int x3] [(a_this, .inr (2, [.int f_columns, .int f_rows, .long f_toldOpen, .long f_toldShut, .long f_stones, .long f_open, .long f_shut, .long f_free]))] (zE (some (.int out)) [(a_this, .inr (2, [.int f_columns, .int f_rows, .long f_toldOpen, .long f_toldShut, .long f_stones, .long f_open, .long f_shut, .long f_free]))]) := by
  refine zmk (by decide) (Nat.le_of_ble_eq_true rfl) ?_
  intro p e s m args below meth c A Q ls X hQ hnm hP hD hS hl
  have X : zX p s m args meth c D y A RX2 cX2_cellTurned 4 (some .int) := X
  obtain ⟨hx, hb, hr, hml, hown, hts, hK, hA, hlocks⟩ := id X
  have hl : lv_has ls 4 [(0, .ref a_this), (1, .int x1), (2, .int x2), (3, .int x3)] := hl
  unfold zf_X2_cellTurned at hf
  refine lv_iload_n hx hb dX2_cellTurned_0 rfl (lv_at hl 3 rfl) ?_
  refine lv_if_ne (tgt := 18) hx hb dX2_cellTurned_1 (by decide) (fun c1 => ?_) (fun c1 => ?_)
  · replace hf := ze c1 hf
    refine lv_iload_n hx hb dX2_cellTurned_18 rfl (lv_at hl 3 rfl) ?_
    refine lv_iconst (v := 1) hx hb dX2_cellTurned_19 (by decide) ?_
    refine lv_icmp_ne (tgt := 39) hx hb dX2_cellTurned_20 (by decide) (fun c20 => ?_) (fun c20 => ?_)
    · replace hf := ze c20 hf
      refine lv_iload_n hx hb dX2_cellTurned_39 rfl (lv_at hl 2 rfl) ?_
      refine lv_iload_n hx hb dX2_cellTurned_40 rfl (lv_at hl 1 rfl) ?_
      refine lv_iconst (v := 0) hx hb dX2_cellTurned_41 (by decide) ?_
      obtain ⟨o42, ho42, hf⟩ := zb hf
      refine zcS1 (wr := [(a_this, .inr (2, [.int f_columns, .int f_rows, .long f_toldOpen, .long f_toldShut, .long f_stones, .long f_open, .long f_shut, .long f_free]))]) (rest := []) X (zc_X2_numberOf l D y x2 x1 (0 : Int32) o42 ho42) kf_RX2_47 ⟨(Nat.le_of_ble_eq_true rfl), (Nat.le_of_ble_eq_true rfl)⟩ hP hD hS [] [0] rfl rfl rfl rfl (by decide) rfl rfl hl.1 (Nat.le_of_ble_eq_true rfl) dX2_cellTurned_42 ⟨(Nat.le_of_ble_eq_true rfl), (Nat.le_of_ble_eq_true rfl)⟩ (fun H locs hP hD hS => ?_)
      have hP : va_P D vwCl [(a_this, .inr (2, [.int f_columns, .int f_rows, .long f_toldOpen, .long f_toldShut, .long f_stones, .long f_open, .long f_shut, .long f_free]))] H := hP
      have hD : va_D A [(a_this, .inr (2, [.int f_columns, .int f_rows, .long f_toldOpen, .long f_toldShut, .long f_stones, .long f_open, .long f_shut, .long f_free]))] := hD
      obtain rfl := Option.some.inj hf
      exact zreti X hQ hP hD hS ⟨rfl, rfl⟩ rfl dX2_cellTurned_45 (Nat.le_of_ble_eq_true rfl) (Nat.le_of_ble_eq_true rfl)
    · replace hf := zt c20 hf
      refine lv_iload_n hx hb dX2_cellTurned_23 rfl (lv_at hl 1 rfl) ?_
      refine lv_aload_n hx hb dX2_cellTurned_24 rfl (lv_at hl 0 rfl) ?_
      refine zget X hP 0 rfl rfl inF2 1 (by decide) q_240 rfl dX2_cellTurned_25 ?_
      refine lv_iconst (v := 1) hx hb dX2_cellTurned_28 (by decide) ?_
      refine lv_isub hx hb dX2_cellTurned_29 ?_
      refine lv_iload_n hx hb dX2_cellTurned_30 rfl (lv_at hl 2 rfl) ?_
      refine lv_isub hx hb dX2_cellTurned_31 ?_
      refine lv_iconst (v := 0) hx hb dX2_cellTurned_32 (by decide) ?_
      obtain ⟨o33, ho33, hf⟩ := zb hf
      refine zcS1 (wr := [(a_this, .inr (2, [.int f_columns, .int f_rows, .long f_toldOpen, .long f_toldShut, .long f_stones, .long f_open, .long f_shut, .long f_free]))]) (rest := []) X (zc_X2_numberOf l D y x1 ((f_rows - (1 : Int32)) - x2) (0 : Int32) o33 ho33) kf_RX2_47 ⟨(Nat.le_of_ble_eq_true rfl), (Nat.le_of_ble_eq_true rfl)⟩ hP hD hS [] [0] rfl rfl rfl rfl (by decide) rfl rfl hl.1 (Nat.le_of_ble_eq_true rfl) dX2_cellTurned_33 ⟨(Nat.le_of_ble_eq_true rfl), (Nat.le_of_ble_eq_true rfl)⟩ (fun H locs hP hD hS => ?_)
      have hP : va_P D vwCl [(a_this, .inr (2, [.int f_columns, .int f_rows, .long f_toldOpen, .long f_toldShut, .long f_stones, .long f_open, .long f_shut, .long f_free]))] H := hP
      have hD : va_D A [(a_this, .inr (2, [.int f_columns, .int f_rows, .long f_toldOpen, .long f_toldShut, .long f_stones, .long f_open, .long f_shut, .long f_free]))] := hD
      refine lv_goto (tgt := 45) hx hb dX2_cellTurned_36 (by decide) ?_
      obtain rfl := Option.some.inj hf
      exact zreti X hQ hP hD hS ⟨rfl, rfl⟩ rfl dX2_cellTurned_45 (Nat.le_of_ble_eq_true rfl) (Nat.le_of_ble_eq_true rfl)
  · replace hf := zt c1 hf
    refine lv_aload_n hx hb dX2_cellTurned_4 rfl (lv_at hl 0 rfl) ?_
    refine zget X hP 0 rfl rfl inF2 0 (by decide) q_238 rfl dX2_cellTurned_5 ?_
    refine lv_iconst (v := 1) hx hb dX2_cellTurned_8 (by decide) ?_
    refine lv_isub hx hb dX2_cellTurned_9 ?_
    refine lv_iload_n hx hb dX2_cellTurned_10 rfl (lv_at hl 1 rfl) ?_
    refine lv_isub hx hb dX2_cellTurned_11 ?_
    refine lv_iload_n hx hb dX2_cellTurned_12 rfl (lv_at hl 2 rfl) ?_
    refine lv_iconst (v := 0) hx hb dX2_cellTurned_13 (by decide) ?_
    obtain ⟨o14, ho14, hf⟩ := zb hf
    refine zcS1 (wr := [(a_this, .inr (2, [.int f_columns, .int f_rows, .long f_toldOpen, .long f_toldShut, .long f_stones, .long f_open, .long f_shut, .long f_free]))]) (rest := []) X (zc_X2_numberOf l D y ((f_columns - (1 : Int32)) - x1) x2 (0 : Int32) o14 ho14) kf_RX2_47 ⟨(Nat.le_of_ble_eq_true rfl), (Nat.le_of_ble_eq_true rfl)⟩ hP hD hS [] [0] rfl rfl rfl rfl (by decide) rfl rfl hl.1 (Nat.le_of_ble_eq_true rfl) dX2_cellTurned_14 ⟨(Nat.le_of_ble_eq_true rfl), (Nat.le_of_ble_eq_true rfl)⟩ (fun H locs hP hD hS => ?_)
    have hP : va_P D vwCl [(a_this, .inr (2, [.int f_columns, .int f_rows, .long f_toldOpen, .long f_toldShut, .long f_stones, .long f_open, .long f_shut, .long f_free]))] H := hP
    have hD : va_D A [(a_this, .inr (2, [.int f_columns, .int f_rows, .long f_toldOpen, .long f_toldShut, .long f_stones, .long f_open, .long f_shut, .long f_free]))] := hD
    obtain rfl := Option.some.inj hf
    exact zreti X hQ hP hD hS ⟨rfl, rfl⟩ rfl dX2_cellTurned_17 (Nat.le_of_ble_eq_true rfl) (Nat.le_of_ble_eq_true rfl)


abbrev rm_X2_bitMoved : Room := { frames := 0, cells := 0, slots := 0, locals := 0 }
def zf_X2_bitMoved (x0 : Int64) (x2 : Int32) (x3 : Int32) : Option (Int64) :=
  if (lg_cmp ((zlushr x0 x2) &&& (1 : Int64)) (0 : Int64)) = 0 then (some (0 : Int64)) else (some (zlshl (1 : Int64) x3))
set_option maxHeartbeats 4000000 in
set_option maxRecDepth 100000 in
theorem zc_X2_bitMoved (l : Launch) (D : va_G) (y : zY) (x0 : Int64) (x2 : Int32) (x3 : Int32) (out : Int64) (hf : zf_X2_bitMoved x0 x2 x3 = some out) : zC l D y yX2_bitMoved cX2_bitMoved 4 (some .long) rm_X2_bitMoved [.long x0, .int x2, .int x3] [] (zE (some (.long out)) []) := by
  refine zmk (by decide) (Nat.le_of_ble_eq_true rfl) ?_
  intro p e s m args below meth c A Q ls X hQ hnm hP hD hS hl
  have X : zX p s m args meth c D y A RX2 cX2_bitMoved 4 (some .long) := X
  obtain ⟨hx, hb, hr, hml, hown, hts, hK, hA, hlocks⟩ := id X
  have hl : lv_has ls 4 [(0, .long x0), (2, .int x2), (3, .int x3)] := hl
  unfold zf_X2_bitMoved at hf
  refine lv_lload_n hx hb dX2_bitMoved_0 rfl (lv_at hl 0 rfl) ?_
  refine lv_iload_n hx hb dX2_bitMoved_1 rfl (lv_at hl 1 rfl) ?_
  refine lv_lushr (v := zlushr x0 x2) hx hb dX2_bitMoved_2 rfl ?_
  refine lv_lconst (v := 1) hx hb dX2_bitMoved_3 (by decide) ?_
  refine lv_land hx hb dX2_bitMoved_4 ?_
  refine lv_lconst (v := 0) hx hb dX2_bitMoved_5 (by decide) ?_
  refine W.lcmp hx hb dX2_bitMoved_6 ?_
  refine lv_if_eq (tgt := 16) hx hb dX2_bitMoved_7 (by decide) (fun c7 => ?_) (fun c7 => ?_)
  · replace hf := zt c7 hf
    refine lv_lconst (v := 0) hx hb dX2_bitMoved_16 (by decide) ?_
    obtain rfl := Option.some.inj hf
    exact zretl X hQ hP hD hS ⟨rfl, rfl⟩ dX2_bitMoved_17 (Nat.le_of_ble_eq_true rfl) (Nat.le_of_ble_eq_true rfl)
  · replace hf := ze c7 hf
    refine lv_lconst (v := 1) hx hb dX2_bitMoved_10 (by decide) ?_
    refine lv_iload_n hx hb dX2_bitMoved_11 rfl (lv_at hl 2 rfl) ?_
    refine lv_lshl (v := zlshl (1 : Int64) x3) hx hb dX2_bitMoved_12 rfl ?_
    refine lv_goto (tgt := 17) hx hb dX2_bitMoved_13 (by decide) ?_
    obtain rfl := Option.some.inj hf
    exact zretl X hQ hP hD hS ⟨rfl, rfl⟩ dX2_bitMoved_17 (Nat.le_of_ble_eq_true rfl) (Nat.le_of_ble_eq_true rfl)


abbrev rm_X2_flooded : Room := { frames := 0, cells := 0, slots := 0, locals := 0 }
def zf_X2_flooded_l43 (x3 : Int64) (x5 : Int64) (x7 : Int64) (x9 : Int32) : Option ((Int64 × Int32) ⊕ ((Int64) ⊕ (Int64))) :=
  if (25 : Int32) ≤ x9 then (some (.inr (.inl x7))) else (if (lg_cmp ((x7 ||| ((zlshl (x7 &&& x3) (2 : Int32)) ||| ((zlushr x7 (2 : Int32)) &&& x3))) ||| ((zlshl ((x7 ||| ((zlshl (x7 &&& x3) (2 : Int32)) ||| ((zlushr x7 (2 : Int32)) &&& x3))) &&& x5) (10 : Int32)) ||| ((zlushr (x7 ||| ((zlshl (x7 &&& x3) (2 : Int32)) ||| ((zlushr x7 (2 : Int32)) &&& x3))) (10 : Int32)) &&& x5))) x7) = 0 then (some (.inr (.inr ((x7 ||| ((zlshl (x7 &&& x3) (2 : Int32)) ||| ((zlushr x7 (2 : Int32)) &&& x3))) ||| ((zlshl ((x7 ||| ((zlshl (x7 &&& x3) (2 : Int32)) ||| ((zlushr x7 (2 : Int32)) &&& x3))) &&& x5) (10 : Int32)) ||| ((zlushr (x7 ||| ((zlshl (x7 &&& x3) (2 : Int32)) ||| ((zlushr x7 (2 : Int32)) &&& x3))) (10 : Int32)) &&& x5)))))) else (some (.inl ((x7 ||| ((zlshl (x7 &&& x3) (2 : Int32)) ||| ((zlushr x7 (2 : Int32)) &&& x3))) ||| ((zlshl ((x7 ||| ((zlshl (x7 &&& x3) (2 : Int32)) ||| ((zlushr x7 (2 : Int32)) &&& x3))) &&& x5) (10 : Int32)) ||| ((zlushr (x7 ||| ((zlshl (x7 &&& x3) (2 : Int32)) ||| ((zlushr x7 (2 : Int32)) &&& x3))) (10 : Int32)) &&& x5)), x9 + (1 : Int32)))))
def zf_X2_flooded (f_columns : Int32) (f_stones : Int64) (x1 : Int64) : Option (Int64) :=
  (zit (fun d => zf_X2_flooded_l43 (x1 &&& (6148914691236517205 : Int64)) ((zlushr x1 (1 : Int32)) &&& (6148914691236517205 : Int64)) d.1 d.2) zfu (((341 : Int64) &&& ((zlshl (1 : Int64) ((2 : Int32) * f_columns)) - (1 : Int64))) &&& (f_stones ^^^ (-1 : Int64)), (0 : Int32))).bind fun o43 =>
  Sum.elim (fun e43 => some e43) (fun e43 => some e43) o43
set_option maxHeartbeats 4000000 in
set_option maxRecDepth 100000 in
theorem zc_X2_flooded (l : Launch) (D : va_G) (y : zY) (a_this : Nat) (f_columns : Int32) (f_rows : Int32) (f_toldOpen : Int64) (f_toldShut : Int64) (f_stones : Int64) (f_open : Int64) (f_shut : Int64) (f_free : Int64) (x1 : Int64) (out : Int64) (hf : zf_X2_flooded f_columns f_stones x1 = some out) : zC l D y yX2_flooded cX2_flooded 12 (some .long) rm_X2_flooded [.ref a_this, .long x1] [(a_this, .inr (2, [.int f_columns, .int f_rows, .long f_toldOpen, .long f_toldShut, .long f_stones, .long f_open, .long f_shut, .long f_free]))] (zE (some (.long out)) [(a_this, .inr (2, [.int f_columns, .int f_rows, .long f_toldOpen, .long f_toldShut, .long f_stones, .long f_open, .long f_shut, .long f_free]))]) := by
  refine zmk (by decide) (Nat.le_of_ble_eq_true rfl) ?_
  intro p e s m args below meth c A Q ls X hQ hnm hP hD hS hl
  have X : zX p s m args meth c D y A RX2 cX2_flooded 12 (some .long) := X
  obtain ⟨hx, hb, hr, hml, hown, hts, hK, hA, hlocks⟩ := id X
  have hl : lv_has ls 12 [(0, .ref a_this), (1, .long x1)] := hl
  have L43 : ∀ (n : Nat) (x3 : Int64) (x5 : Int64) (x7 : Int64) (x9 : Int32) (x : (Int64) ⊕ (Int64)), zit (fun d => zf_X2_flooded_l43 x3 x5 d.1 d.2) n (x7, x9) = some x → ∀ (H : Heap) (locs : List Loc) (ls : Array Slot), lv_has ls 12 [(3, .long x3), (5, .long x5), (7, .long x7), (9, .int x9)] → va_P D vwCl [(a_this, .inr (2, [.int f_columns, .int f_rows, .long f_toldOpen, .long f_toldShut, .long f_stones, .long f_open, .long f_shut, .long f_free]))] H → va_D A [(a_this, .inr (2, [.int f_columns, .int f_rows, .long f_toldOpen, .long f_toldShut, .long f_stones, .long f_open, .long f_shut, .long f_free]))] → va_S A s.heap H locs → (∀ (ee : Int64), x = .inl ee → ∀ (H : Heap) (locs : List Loc) (ls : Array Slot), lv_has ls 12 [(7, .long ee)] → va_P D vwCl [(a_this, .inr (2, [.int f_columns, .int f_rows, .long f_toldOpen, .long f_toldShut, .long f_stones, .long f_open, .long f_shut, .long f_free]))] H → va_D A [(a_this, .inr (2, [.int f_columns, .int f_rows, .long f_toldOpen, .long f_toldShut, .long f_stones, .long f_open, .long f_shut, .long f_free]))] → va_S A s.heap H locs → W p l e rm_X2_flooded s m args below meth c H locs 0 0 Q (F0 m 111 ls [])) → (∀ (ee : Int64), x = (.inr ee) → ∀ (H : Heap) (locs : List Loc) (ls : Array Slot), lv_has ls 12 [(7, .long ee)] → va_P D vwCl [(a_this, .inr (2, [.int f_columns, .int f_rows, .long f_toldOpen, .long f_toldShut, .long f_stones, .long f_open, .long f_shut, .long f_free]))] H → va_D A [(a_this, .inr (2, [.int f_columns, .int f_rows, .long f_toldOpen, .long f_toldShut, .long f_stones, .long f_open, .long f_shut, .long f_free]))] → va_S A s.heap H locs → W p l e rm_X2_flooded s m args below meth c H locs 0 0 Q (F0 m 102 ls [])) → W p l e rm_X2_flooded s m args below meth c H locs 0 0 Q (F0 m 43 ls []) := by
    intro n
    induction n with
    | zero => intro x3 x5 x7 x9 x h; exact (zi0 h).elim
    | succ n ih =>
      intro x3 x5 x7 x9 x h H locs ls hl hP hD hS K111 K102
      obtain ⟨r, hf, h⟩ := zis h
      have hf : zf_X2_flooded_l43 x3 x5 x7 x9 = some r := hf
      unfold zf_X2_flooded_l43 at hf
      refine lv_iload hx hb dX2_flooded_43 (lv_at hl 3 rfl) ?_
      refine lv_bipush (v := 25) hx hb dX2_flooded_45 (by decide) ?_
      refine lv_icmp_ge (tgt := 111) hx hb dX2_flooded_47 (by decide) (fun c47 => ?_) (fun c47 => ?_)
      · replace hf := zt c47 hf
        obtain rfl := Option.some.inj hf
        obtain rfl := Option.some.inj h
        exact K111 _ rfl _ _ _ (lv_sub hl [2] rfl) hP hD hS
      · replace hf := ze c47 hf
        refine lv_lload hx hb dX2_flooded_50 (lv_at hl 2 rfl) ?_
        refine lv_lstore (lv' := [(10, .long x7), (3, .long x3), (5, .long x5), (7, .long x7), (9, .int x9)]) hx hb dX2_flooded_52 hl (by decide) rfl (fun ls hl => ?_)
        refine lv_lload hx hb dX2_flooded_54 (lv_at hl 3 rfl) ?_
        refine lv_lload hx hb dX2_flooded_56 (lv_at hl 3 rfl) ?_
        refine lv_lload_n hx hb dX2_flooded_58 rfl (lv_at hl 1 rfl) ?_
        refine lv_land hx hb dX2_flooded_59 ?_
        refine lv_iconst (v := 2) hx hb dX2_flooded_60 (by decide) ?_
        refine lv_lshl (v := zlshl (x7 &&& x3) (2 : Int32)) hx hb dX2_flooded_61 rfl ?_
        refine lv_lload hx hb dX2_flooded_62 (lv_at hl 3 rfl) ?_
        refine lv_iconst (v := 2) hx hb dX2_flooded_64 (by decide) ?_
        refine lv_lushr (v := zlushr x7 (2 : Int32)) hx hb dX2_flooded_65 rfl ?_
        refine lv_lload_n hx hb dX2_flooded_66 rfl (lv_at hl 1 rfl) ?_
        refine lv_land hx hb dX2_flooded_67 ?_
        refine lv_lor hx hb dX2_flooded_68 ?_
        refine lv_lor hx hb dX2_flooded_69 ?_
        refine lv_lstore (lv' := [(7, .long (x7 ||| ((zlshl (x7 &&& x3) (2 : Int32)) ||| ((zlushr x7 (2 : Int32)) &&& x3)))), (10, .long x7), (3, .long x3), (5, .long x5), (9, .int x9)]) hx hb dX2_flooded_70 hl (by decide) rfl (fun ls hl => ?_)
        refine lv_lload hx hb dX2_flooded_72 (lv_at hl 0 rfl) ?_
        refine lv_lload hx hb dX2_flooded_74 (lv_at hl 0 rfl) ?_
        refine lv_lload hx hb dX2_flooded_76 (lv_at hl 3 rfl) ?_
        refine lv_land hx hb dX2_flooded_78 ?_
        refine lv_bipush (v := 10) hx hb dX2_flooded_79 (by decide) ?_
        refine lv_lshl (v := zlshl ((x7 ||| ((zlshl (x7 &&& x3) (2 : Int32)) ||| ((zlushr x7 (2 : Int32)) &&& x3))) &&& x5) (10 : Int32)) hx hb dX2_flooded_81 rfl ?_
        refine lv_lload hx hb dX2_flooded_82 (lv_at hl 0 rfl) ?_
        refine lv_bipush (v := 10) hx hb dX2_flooded_84 (by decide) ?_
        refine lv_lushr (v := zlushr (x7 ||| ((zlshl (x7 &&& x3) (2 : Int32)) ||| ((zlushr x7 (2 : Int32)) &&& x3))) (10 : Int32)) hx hb dX2_flooded_86 rfl ?_
        refine lv_lload hx hb dX2_flooded_87 (lv_at hl 3 rfl) ?_
        refine lv_land hx hb dX2_flooded_89 ?_
        refine lv_lor hx hb dX2_flooded_90 ?_
        refine lv_lor hx hb dX2_flooded_91 ?_
        refine lv_lstore (lv' := [(7, .long ((x7 ||| ((zlshl (x7 &&& x3) (2 : Int32)) ||| ((zlushr x7 (2 : Int32)) &&& x3))) ||| ((zlshl ((x7 ||| ((zlshl (x7 &&& x3) (2 : Int32)) ||| ((zlushr x7 (2 : Int32)) &&& x3))) &&& x5) (10 : Int32)) ||| ((zlushr (x7 ||| ((zlshl (x7 &&& x3) (2 : Int32)) ||| ((zlushr x7 (2 : Int32)) &&& x3))) (10 : Int32)) &&& x5)))), (10, .long x7), (3, .long x3), (5, .long x5), (9, .int x9)]) hx hb dX2_flooded_92 hl (by decide) rfl (fun ls hl => ?_)
        refine lv_lload hx hb dX2_flooded_94 (lv_at hl 0 rfl) ?_
        refine lv_lload hx hb dX2_flooded_96 (lv_at hl 1 rfl) ?_
        refine W.lcmp hx hb dX2_flooded_98 ?_
        refine lv_if_ne (tgt := 105) hx hb dX2_flooded_99 (by decide) (fun c99 => ?_) (fun c99 => ?_)
        · replace hf := ze c99 hf
          refine lv_iinc (v := x9 + (1 : Int32)) (lv' := [(9, .int (x9 + (1 : Int32))), (7, .long ((x7 ||| ((zlshl (x7 &&& x3) (2 : Int32)) ||| ((zlushr x7 (2 : Int32)) &&& x3))) ||| ((zlshl ((x7 ||| ((zlshl (x7 &&& x3) (2 : Int32)) ||| ((zlushr x7 (2 : Int32)) &&& x3))) &&& x5) (10 : Int32)) ||| ((zlushr (x7 ||| ((zlshl (x7 &&& x3) (2 : Int32)) ||| ((zlushr x7 (2 : Int32)) &&& x3))) (10 : Int32)) &&& x5)))), (10, .long x7), (3, .long x3), (5, .long x5)]) hx hb dX2_flooded_105 hl (k := 4) rfl rfl (by decide) rfl (fun ls hl => ?_)
          refine lv_goto (tgt := 43) hx hb dX2_flooded_108 (by decide) ?_
          obtain rfl := Option.some.inj hf
          exact ih x3 x5 ((x7 ||| ((zlshl (x7 &&& x3) (2 : Int32)) ||| ((zlushr x7 (2 : Int32)) &&& x3))) ||| ((zlshl ((x7 ||| ((zlshl (x7 &&& x3) (2 : Int32)) ||| ((zlushr x7 (2 : Int32)) &&& x3))) &&& x5) (10 : Int32)) ||| ((zlushr (x7 ||| ((zlshl (x7 &&& x3) (2 : Int32)) ||| ((zlushr x7 (2 : Int32)) &&& x3))) (10 : Int32)) &&& x5))) (x9 + (1 : Int32)) x h _ _ _ (lv_sub hl [3, 4, 1, 0] rfl) hP hD hS K111 K102
        · replace hf := zt c99 hf
          obtain rfl := Option.some.inj hf
          obtain rfl := Option.some.inj h
          exact K102 _ rfl _ _ _ (lv_sub hl [0] rfl) hP hD hS
  unfold zf_X2_flooded at hf
  refine lv_lload_n hx hb dX2_flooded_0 rfl (lv_at hl 1 rfl) ?_
  refine lv_ldc2 (v := 6148914691236517205) hx hb hown (hts _ q_557) dX2_flooded_1 ?_
  refine lv_land hx hb dX2_flooded_4 ?_
  refine lv_lstore_n (lv' := [(3, .long (x1 &&& (6148914691236517205 : Int64))), (0, .ref a_this), (1, .long x1)]) hx hb dX2_flooded_5 rfl hl (by decide) rfl (fun ls hl => ?_)
  refine lv_lload_n hx hb dX2_flooded_6 rfl (lv_at hl 2 rfl) ?_
  refine lv_iconst (v := 1) hx hb dX2_flooded_7 (by decide) ?_
  refine lv_lushr (v := zlushr x1 (1 : Int32)) hx hb dX2_flooded_8 rfl ?_
  refine lv_ldc2 (v := 6148914691236517205) hx hb hown (hts _ q_557) dX2_flooded_9 ?_
  refine lv_land hx hb dX2_flooded_12 ?_
  refine lv_lstore (lv' := [(5, .long ((zlushr x1 (1 : Int32)) &&& (6148914691236517205 : Int64))), (3, .long (x1 &&& (6148914691236517205 : Int64))), (0, .ref a_this), (1, .long x1)]) hx hb dX2_flooded_13 hl (by decide) rfl (fun ls hl => ?_)
  refine lv_ldc2 (v := 341) hx hb hown (hts _ q_558) dX2_flooded_15 ?_
  refine lv_lconst (v := 1) hx hb dX2_flooded_18 (by decide) ?_
  refine lv_iconst (v := 2) hx hb dX2_flooded_19 (by decide) ?_
  refine lv_aload_n hx hb dX2_flooded_20 rfl (lv_at hl 2 rfl) ?_
  refine zget X hP 0 rfl rfl inF2 0 (by decide) q_238 rfl dX2_flooded_21 ?_
  refine lv_imul hx hb dX2_flooded_24 ?_
  refine lv_lshl (v := zlshl (1 : Int64) ((2 : Int32) * f_columns)) hx hb dX2_flooded_25 rfl ?_
  refine lv_lconst (v := 1) hx hb dX2_flooded_26 (by decide) ?_
  refine lv_lsub hx hb dX2_flooded_27 ?_
  refine lv_land hx hb dX2_flooded_28 ?_
  refine lv_aload_n hx hb dX2_flooded_29 rfl (lv_at hl 2 rfl) ?_
  refine zget X hP 0 rfl rfl inF2 4 (by decide) q_245 rfl dX2_flooded_30 ?_
  refine lv_ldc2 (v := -1) hx hb hown (hts _ q_237) dX2_flooded_33 ?_
  refine lv_lxor hx hb dX2_flooded_36 ?_
  refine lv_land hx hb dX2_flooded_37 ?_
  refine lv_lstore (lv' := [(7, .long (((341 : Int64) &&& ((zlshl (1 : Int64) ((2 : Int32) * f_columns)) - (1 : Int64))) &&& (f_stones ^^^ (-1 : Int64)))), (5, .long ((zlushr x1 (1 : Int32)) &&& (6148914691236517205 : Int64))), (3, .long (x1 &&& (6148914691236517205 : Int64))), (0, .ref a_this), (1, .long x1)]) hx hb dX2_flooded_38 hl (by decide) rfl (fun ls hl => ?_)
  refine lv_iconst (v := 0) hx hb dX2_flooded_40 (by decide) ?_
  refine lv_istore (lv' := [(9, .int (0 : Int32)), (7, .long (((341 : Int64) &&& ((zlshl (1 : Int64) ((2 : Int32) * f_columns)) - (1 : Int64))) &&& (f_stones ^^^ (-1 : Int64)))), (5, .long ((zlushr x1 (1 : Int32)) &&& (6148914691236517205 : Int64))), (3, .long (x1 &&& (6148914691236517205 : Int64))), (0, .ref a_this), (1, .long x1)]) hx hb dX2_flooded_41 hl (by decide) rfl (fun ls hl => ?_)
  obtain ⟨o43, ho43, hf⟩ := zb hf
  refine L43 zfu (x1 &&& (6148914691236517205 : Int64)) ((zlushr x1 (1 : Int32)) &&& (6148914691236517205 : Int64)) (((341 : Int64) &&& ((zlshl (1 : Int64) ((2 : Int32) * f_columns)) - (1 : Int64))) &&& (f_stones ^^^ (-1 : Int64))) (0 : Int32) o43 ho43 _ _ _ (lv_sub hl [3, 2, 1, 0] rfl) hP hD hS (fun e43 he H locs ls hl hP hD hS => ?_) (fun e43 he H locs ls hl hP hD hS => ?_)
  · subst he
    replace hf := zsl hf
    refine lv_lload hx hb dX2_flooded_111 (lv_at hl 0 rfl) ?_
    obtain rfl := Option.some.inj hf
    exact zretl X hQ hP hD hS ⟨rfl, rfl⟩ dX2_flooded_113 (Nat.le_of_ble_eq_true rfl) (Nat.le_of_ble_eq_true rfl)
  · subst he
    replace hf := zsr hf
    refine lv_goto (tgt := 111) hx hb dX2_flooded_102 (by decide) ?_
    refine lv_lload hx hb dX2_flooded_111 (lv_at hl 0 rfl) ?_
    obtain rfl := Option.some.inj hf
    exact zretl X hQ hP hD hS ⟨rfl, rfl⟩ dX2_flooded_113 (Nat.le_of_ble_eq_true rfl) (Nat.le_of_ble_eq_true rfl)

theorem kf_RX2_76 : zCB RX2 76 yX2_flooded cX2_flooded 12 (some .long) 1 ∧ Cond.instanceMethod yX2_flooded ∈ wAll ∧ Cond.selects yX2_flooded.cls yX2_flooded yX2_flooded ∈ wAll := ⟨⟨q_556, q_8, q_553, by decide +kernel⟩, q_554, q_555⟩
abbrev rm_X2_joinsBy : Room := { frames := 1, cells := 0, slots := 0, locals := 31 }
def zf_X2_joinsBy (f_columns : Int32) (f_rows : Int32) (f_stones : Int64) (x1 : Int64) : Option (Int32) :=
  (zf_X2_flooded f_columns f_stones x1).bind fun o2 =>
  if (lg_cmp (o2 &&& (zlshl (341 : Int64) ((10 : Int32) * (f_rows - (1 : Int32))))) (0 : Int64)) = 0 then (some (0 : Int32)) else (some (1 : Int32))
set_option maxHeartbeats 4000000 in
set_option maxRecDepth 100000 in
theorem zc_X2_joinsBy (l : Launch) (D : va_G) (y : zY) (a_this : Nat) (f_columns : Int32) (f_rows : Int32) (f_toldOpen : Int64) (f_toldShut : Int64) (f_stones : Int64) (f_open : Int64) (f_shut : Int64) (f_free : Int64) (x1 : Int64) (out : Int32) (hf : zf_X2_joinsBy f_columns f_rows f_stones x1 = some out) : zC l D y yX2_joinsBy cX2_joinsBy 3 (some .boolean) rm_X2_joinsBy [.ref a_this, .long x1] [(a_this, .inr (2, [.int f_columns, .int f_rows, .long f_toldOpen, .long f_toldShut, .long f_stones, .long f_open, .long f_shut, .long f_free]))] (zE (some (.int out)) [(a_this, .inr (2, [.int f_columns, .int f_rows, .long f_toldOpen, .long f_toldShut, .long f_stones, .long f_open, .long f_shut, .long f_free]))]) := by
  refine zmk (by decide) (Nat.le_of_ble_eq_true rfl) ?_
  intro p e s m args below meth c A Q ls X hQ hnm hP hD hS hl
  have X : zX p s m args meth c D y A RX2 cX2_joinsBy 3 (some .boolean) := X
  obtain ⟨hx, hb, hr, hml, hown, hts, hK, hA, hlocks⟩ := id X
  have hl : lv_has ls 3 [(0, .ref a_this), (1, .long x1)] := hl
  unfold zf_X2_joinsBy at hf
  refine lv_aload_n hx hb dX2_joinsBy_0 rfl (lv_at hl 0 rfl) ?_
  refine lv_lload_n hx hb dX2_joinsBy_1 rfl (lv_at hl 1 rfl) ?_
  obtain ⟨o2, ho2, hf⟩ := zb hf
  refine zcV1 (wr := []) (rest := []) X (zc_X2_flooded l D y a_this f_columns f_rows f_toldOpen f_toldShut f_stones f_open f_shut f_free x1 o2 ho2) kf_RX2_76 ⟨(Nat.le_of_ble_eq_true rfl), (Nat.le_of_ble_eq_true rfl)⟩ hP hD hS [0] [] rfl rfl rfl rfl (by decide) 0 rfl rfl rfl rfl hl.1 (Nat.le_of_ble_eq_true rfl) dX2_joinsBy_2 ⟨(Nat.le_of_ble_eq_true rfl), (Nat.le_of_ble_eq_true rfl)⟩ (fun H locs hP hD hS => ?_)
  have hP : va_P D vwCl [(a_this, .inr (2, [.int f_columns, .int f_rows, .long f_toldOpen, .long f_toldShut, .long f_stones, .long f_open, .long f_shut, .long f_free]))] H := hP
  have hD : va_D A [(a_this, .inr (2, [.int f_columns, .int f_rows, .long f_toldOpen, .long f_toldShut, .long f_stones, .long f_open, .long f_shut, .long f_free]))] := hD
  refine lv_ldc2 (v := 341) hx hb hown (hts _ q_558) dX2_joinsBy_5 ?_
  refine lv_bipush (v := 10) hx hb dX2_joinsBy_8 (by decide) ?_
  refine lv_aload_n hx hb dX2_joinsBy_10 rfl (lv_at hl 0 rfl) ?_
  refine zget X hP 0 rfl rfl inF2 1 (by decide) q_240 rfl dX2_joinsBy_11 ?_
  refine lv_iconst (v := 1) hx hb dX2_joinsBy_14 (by decide) ?_
  refine lv_isub hx hb dX2_joinsBy_15 ?_
  refine lv_imul hx hb dX2_joinsBy_16 ?_
  refine lv_lshl (v := zlshl (341 : Int64) ((10 : Int32) * (f_rows - (1 : Int32)))) hx hb dX2_joinsBy_17 rfl ?_
  refine lv_land hx hb dX2_joinsBy_18 ?_
  refine lv_lconst (v := 0) hx hb dX2_joinsBy_19 (by decide) ?_
  refine W.lcmp hx hb dX2_joinsBy_20 ?_
  refine lv_if_eq (tgt := 28) hx hb dX2_joinsBy_21 (by decide) (fun c21 => ?_) (fun c21 => ?_)
  · replace hf := zt c21 hf
    refine lv_iconst (v := 0) hx hb dX2_joinsBy_28 (by decide) ?_
    obtain rfl := Option.some.inj hf
    exact zreti X hQ hP hD hS ⟨rfl, rfl⟩ rfl dX2_joinsBy_29 (Nat.le_of_ble_eq_true rfl) (Nat.le_of_ble_eq_true rfl)
  · replace hf := ze c21 hf
    refine lv_iconst (v := 1) hx hb dX2_joinsBy_24 (by decide) ?_
    refine lv_goto (tgt := 29) hx hb dX2_joinsBy_25 (by decide) ?_
    obtain rfl := Option.some.inj hf
    exact zreti X hQ hP hD hS ⟨rfl, rfl⟩ rfl dX2_joinsBy_29 (Nat.le_of_ble_eq_true rfl) (Nat.le_of_ble_eq_true rfl)

