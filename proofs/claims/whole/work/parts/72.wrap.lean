theorem kf_RL_7 : zCB RL 7 yX8_read cX8_read 2 (some .int) 0 ∧ Cond.instanceMethod yX8_read ∈ wAll ∧ Cond.selects yX8_read.cls yX8_read yX8_read ∈ wAll := ⟨⟨q_618, q_1, q_615, by decide +kernel⟩, q_616, q_617⟩
abbrev rmw_L_read : Room := { frames := 9, cells := 3, slots := 20, locals := 200 }
set_option maxHeartbeats 4000000 in
theorem zw_L_read (l : Launch) (D : va_G) (y : zY) (b : Nat) (a_bx : Nat) (c_bx : Nat → Int64) (wc : va_W) (fs : List Value) (q0 : Nat) (hb0 : wc[q0]? = some (b, .inr (8, fs))) (P : Option Value → va_W → Prop) (PX : String → va_W → Prop) (hC : zCx l D y yX8_read cX8_read 2 (some .int) rm_X8_read [.ref b] wc P PX) (hr : ∀ v w, P v w → ∃ r : Int32, v = some (.int r)) (hE : ∀ E w, PX E w → E = "java/lang/IllegalArgumentException") : zCw l D y yL_read cL_read 3 (some .int) [(0, 8, 11, 13)] rmw_L_read [.ref b, .ref a_bx] ([(a_bx, .inl (y.2.1, 1, .inr (.inl c_bx)))] ++ wc) (fun v w => (∃ r w1, P (some (.int r)) w1 ∧ v = some (.int 0) ∧ w = ([(a_bx, .inl (y.2.1, 1, .inr (.inl (vp_updL c_bx 0 r.toInt64))))] ++ w1)) ∨ (∃ E w1, PX E w1 ∧ ((E = "java/lang/IllegalArgumentException" ∧ v = some (.int 1))) ∧ w = ([(a_bx, .inl (y.2.1, 1, .inr (.inl c_bx)))] ++ w1))) := by
  refine zmkw (by decide) (Nat.le_of_ble_eq_true rfl) ?_
  intro p e s m args below meth c A Q ls X hQ htab hP hD hS hl
  have X : zX p s m args meth c D y A RL cL_read 3 (some .int) := X
  obtain ⟨hx, hb, hr9, hml, hown, hts, hK, hA, hlocks⟩ := id X
  have hl : lv_has ls 3 [(0, .ref b), (1, .ref a_bx)] := hl
  refine lv_aload_n hx hb dL_read_0 rfl (lv_at hl 1 rfl) ?_
  refine lv_iconst (v := 0) hx hb dL_read_1 (by decide) ?_
  refine lv_aload_n hx hb dL_read_2 rfl (lv_at hl 0 rfl) ?_
  refine zhVs (wr := [(a_bx, .inl (y.2.1, 1, .inr (.inl c_bx)))]) (rest := [.int (0 : Int32), .ref a_bx]) X hC kf_RL_7 ⟨(Nat.le_of_ble_eq_true rfl), (Nat.le_of_ble_eq_true rfl)⟩ hP hD hS q0 rfl hb0 rfl rfl hl.1 (Nat.le_of_ble_eq_true rfl) dL_read_3 ⟨(Nat.le_of_ble_eq_true rfl), (Nat.le_of_ble_eq_true rfl)⟩ (fun E w hp q ce H locs hP hD hS hce hcv hcc => ?_) (fun v w hp H locs hP hD hS => ?_)
  · rcases hE E w hp with rfl
    · refine zcat (hh := [(0, 8, 11, 13)]) (p1 := []) (h := (0, 8, 11, 13)) (p2 := []) (name := "java/lang/IllegalArgumentException") X htab rfl (fun _ h => absurd h List.not_mem_nil) (by decide) (by decide) q_614 (by decide +kernel) hce hcv hcc ?_
      refine lv_astore_n (lv' := [(2, .ref q), (0, .ref b), (1, .ref a_bx)]) hx hb dL_read_11 rfl hl (by decide) rfl (fun ls hl => ?_)
      refine lv_iconst (v := 1) hx hb dL_read_12 (by decide) ?_
      exact zreti X hQ hP hD hS (Or.inr ⟨_, w, hp, ⟨rfl, rfl⟩, rfl⟩) rfl dL_read_13 (Nat.le_of_ble_eq_true rfl) (Nat.le_of_ble_eq_true rfl)
  obtain ⟨r, rfl⟩ := hr v w hp
  show W p l e rmw_L_read s m args below meth c H locs _ _ Q (F0 m 6 ls [.int r, .int (0 : Int32), .ref a_bx])
  refine lv_i2l (v := r.toInt64) hx hb dL_read_6 rfl ?_
  refine va_last hx hb hK hP hD hS 0 1 rfl rfl (by unfold vp_in; decide) dL_read_7 (fun H locs hP hD hS => ?_)
  have hP : va_P D vwCl ([(a_bx, .inl (y.2.1, 1, .inr (.inl (vp_updL c_bx 0 r.toInt64))))] ++ w) H := hP
  have hD : va_D A ([(a_bx, .inl (y.2.1, 1, .inr (.inl (vp_updL c_bx 0 r.toInt64))))] ++ w) := hD
  refine lv_goto (tgt := 14) hx hb dL_read_8 (by decide) ?_
  refine lv_iconst (v := 0) hx hb dL_read_14 (by decide) ?_
  exact zreti X hQ hP hD hS (Or.inl ⟨r, w, hp, rfl, rfl⟩) rfl dL_read_15 (Nat.le_of_ble_eq_true rfl) (Nat.le_of_ble_eq_true rfl)

theorem kf_RL_15 : zCB RL 15 yX8_pipe cX8_pipe 4 (some .int) 3 ∧ Cond.instanceMethod yX8_pipe ∈ wAll ∧ Cond.selects yX8_pipe.cls yX8_pipe yX8_pipe ∈ wAll := ⟨⟨q_837, q_1, q_834, by decide +kernel⟩, q_835, q_836⟩
abbrev rmw_L_pipe : Room := { frames := 8, cells := 1, slots := 6, locals := 136 }
set_option maxHeartbeats 4000000 in
theorem zw_L_pipe (l : Launch) (D : va_G) (y : zY) (b : Nat) (a_bx : Nat) (c_bx : Nat → Int64) (x1 : Int32) (x2 : Int32) (x3 : Int32) (wc : va_W) (fs : List Value) (q0 : Nat) (hb0 : wc[q0]? = some (b, .inr (8, fs))) (P : Option Value → va_W → Prop) (PX : String → va_W → Prop) (hC : zCx l D y yX8_pipe cX8_pipe 4 (some .int) rm_X8_pipe [.ref b, .int x1, .int x2, .int x3] wc P PX) (hr : ∀ v w, P v w → ∃ r : Int32, v = some (.int r)) (hE : ∀ E w, PX E w → E = "java/lang/IndexOutOfBoundsException") : zCw l D y yL_pipe cL_pipe 6 (some .int) [(0, 12, 15, 19)] rmw_L_pipe [.ref b, .int x1, .int x2, .int x3, .ref a_bx] ([(a_bx, .inl (y.2.1, 1, .inr (.inl c_bx)))] ++ wc) (fun v w => (∃ r w1, P (some (.int r)) w1 ∧ v = some (.int 0) ∧ w = ([(a_bx, .inl (y.2.1, 1, .inr (.inl (vp_updL c_bx 0 r.toInt64))))] ++ w1)) ∨ (∃ E w1, PX E w1 ∧ ((E = "java/lang/IndexOutOfBoundsException" ∧ v = some (.int 1))) ∧ w = ([(a_bx, .inl (y.2.1, 1, .inr (.inl c_bx)))] ++ w1))) := by
  refine zmkw (by decide) (Nat.le_of_ble_eq_true rfl) ?_
  intro p e s m args below meth c A Q ls X hQ htab hP hD hS hl
  have X : zX p s m args meth c D y A RL cL_pipe 6 (some .int) := X
  obtain ⟨hx, hb, hr9, hml, hown, hts, hK, hA, hlocks⟩ := id X
  have hl : lv_has ls 6 [(0, .ref b), (1, .int x1), (2, .int x2), (3, .int x3), (4, .ref a_bx)] := hl
  refine lv_aload hx hb dL_pipe_0 (lv_at hl 4 rfl) ?_
  refine lv_iconst (v := 0) hx hb dL_pipe_2 (by decide) ?_
  refine lv_aload_n hx hb dL_pipe_3 rfl (lv_at hl 0 rfl) ?_
  refine lv_iload_n hx hb dL_pipe_4 rfl (lv_at hl 1 rfl) ?_
  refine lv_iload_n hx hb dL_pipe_5 rfl (lv_at hl 2 rfl) ?_
  refine lv_iload_n hx hb dL_pipe_6 rfl (lv_at hl 3 rfl) ?_
  refine zhVs (wr := [(a_bx, .inl (y.2.1, 1, .inr (.inl c_bx)))]) (rest := [.int (0 : Int32), .ref a_bx]) X hC kf_RL_15 ⟨(Nat.le_of_ble_eq_true rfl), (Nat.le_of_ble_eq_true rfl)⟩ hP hD hS q0 rfl hb0 rfl rfl hl.1 (Nat.le_of_ble_eq_true rfl) dL_pipe_7 ⟨(Nat.le_of_ble_eq_true rfl), (Nat.le_of_ble_eq_true rfl)⟩ (fun E w hp q ce H locs hP hD hS hce hcv hcc => ?_) (fun v w hp H locs hP hD hS => ?_)
  · rcases hE E w hp with rfl
    · refine zcat (hh := [(0, 12, 15, 19)]) (p1 := []) (h := (0, 12, 15, 19)) (p2 := []) (name := "java/lang/IndexOutOfBoundsException") X htab rfl (fun _ h => absurd h List.not_mem_nil) (by decide) (by decide) q_833 (by decide +kernel) hce hcv hcc ?_
      refine lv_astore (lv' := [(5, .ref q), (0, .ref b), (1, .int x1), (2, .int x2), (3, .int x3), (4, .ref a_bx)]) hx hb dL_pipe_15 hl (by decide) rfl (fun ls hl => ?_)
      refine lv_iconst (v := 1) hx hb dL_pipe_17 (by decide) ?_
      exact zreti X hQ hP hD hS (Or.inr ⟨_, w, hp, ⟨rfl, rfl⟩, rfl⟩) rfl dL_pipe_18 (Nat.le_of_ble_eq_true rfl) (Nat.le_of_ble_eq_true rfl)
  obtain ⟨r, rfl⟩ := hr v w hp
  show W p l e rmw_L_pipe s m args below meth c H locs _ _ Q (F0 m 10 ls [.int r, .int (0 : Int32), .ref a_bx])
  refine lv_i2l (v := r.toInt64) hx hb dL_pipe_10 rfl ?_
  refine va_last hx hb hK hP hD hS 0 1 rfl rfl (by unfold vp_in; decide) dL_pipe_11 (fun H locs hP hD hS => ?_)
  have hP : va_P D vwCl ([(a_bx, .inl (y.2.1, 1, .inr (.inl (vp_updL c_bx 0 r.toInt64))))] ++ w) H := hP
  have hD : va_D A ([(a_bx, .inl (y.2.1, 1, .inr (.inl (vp_updL c_bx 0 r.toInt64))))] ++ w) := hD
  refine lv_goto (tgt := 19) hx hb dL_pipe_12 (by decide) ?_
  refine lv_iconst (v := 0) hx hb dL_pipe_19 (by decide) ?_
  exact zreti X hQ hP hD hS (Or.inl ⟨r, w, hp, rfl, rfl⟩) rfl dL_pipe_20 (Nat.le_of_ble_eq_true rfl) (Nat.le_of_ble_eq_true rfl)

theorem kf_RL_21 : zCB RL 21 yX8_stone cX8_stone 3 (some .boolean) 2 ∧ Cond.instanceMethod yX8_stone ∈ wAll ∧ Cond.selects yX8_stone.cls yX8_stone yX8_stone ∈ wAll := ⟨⟨q_865, q_1, q_862, by decide +kernel⟩, q_863, q_864⟩
abbrev rmw_L_stone : Room := { frames := 8, cells := 1, slots := 6, locals := 134 }
set_option maxHeartbeats 4000000 in
theorem zw_L_stone (l : Launch) (D : va_G) (y : zY) (b : Nat) (a_bx : Nat) (c_bx : Nat → Int64) (x1 : Int32) (x2 : Int32) (wc : va_W) (fs : List Value) (q0 : Nat) (hb0 : wc[q0]? = some (b, .inr (8, fs))) (P : Option Value → va_W → Prop) (PX : String → va_W → Prop) (hC : zCx l D y yX8_stone cX8_stone 3 (some .boolean) rm_X8_stone [.ref b, .int x1, .int x2] wc P PX) (hr : ∀ v w, P v w → ∃ r : Int32, v = some (.int r)) (hE : ∀ E w, PX E w → E = "java/lang/IndexOutOfBoundsException") : zCw l D y yL_stone cL_stone 5 (some .int) [(0, 17, 20, 19)] rmw_L_stone [.ref b, .int x1, .int x2, .ref a_bx] ([(a_bx, .inl (y.2.1, 1, .inr (.inl c_bx)))] ++ wc) (fun v w => (∃ r w1, P (some (.int r)) w1 ∧ v = some (.int 0) ∧ w = ([(a_bx, .inl (y.2.1, 1, .inr (.inl (vp_updL c_bx 0 (if r = 0 then (0 : Int64) else (1 : Int64))))))] ++ w1)) ∨ (∃ E w1, PX E w1 ∧ ((E = "java/lang/IndexOutOfBoundsException" ∧ v = some (.int 1))) ∧ w = ([(a_bx, .inl (y.2.1, 1, .inr (.inl c_bx)))] ++ w1))) := by
  refine zmkw (by decide) (Nat.le_of_ble_eq_true rfl) ?_
  intro p e s m args below meth c A Q ls X hQ htab hP hD hS hl
  have X : zX p s m args meth c D y A RL cL_stone 5 (some .int) := X
  obtain ⟨hx, hb, hr9, hml, hown, hts, hK, hA, hlocks⟩ := id X
  have hl : lv_has ls 5 [(0, .ref b), (1, .int x1), (2, .int x2), (3, .ref a_bx)] := hl
  refine lv_aload_n hx hb dL_stone_0 rfl (lv_at hl 3 rfl) ?_
  refine lv_iconst (v := 0) hx hb dL_stone_1 (by decide) ?_
  refine lv_aload_n hx hb dL_stone_2 rfl (lv_at hl 0 rfl) ?_
  refine lv_iload_n hx hb dL_stone_3 rfl (lv_at hl 1 rfl) ?_
  refine lv_iload_n hx hb dL_stone_4 rfl (lv_at hl 2 rfl) ?_
  refine zhVs (wr := [(a_bx, .inl (y.2.1, 1, .inr (.inl c_bx)))]) (rest := [.int (0 : Int32), .ref a_bx]) X hC kf_RL_21 ⟨(Nat.le_of_ble_eq_true rfl), (Nat.le_of_ble_eq_true rfl)⟩ hP hD hS q0 rfl hb0 rfl rfl hl.1 (Nat.le_of_ble_eq_true rfl) dL_stone_5 ⟨(Nat.le_of_ble_eq_true rfl), (Nat.le_of_ble_eq_true rfl)⟩ (fun E w hp q ce H locs hP hD hS hce hcv hcc => ?_) (fun v w hp H locs hP hD hS => ?_)
  · rcases hE E w hp with rfl
    · refine zcat (hh := [(0, 17, 20, 19)]) (p1 := []) (h := (0, 17, 20, 19)) (p2 := []) (name := "java/lang/IndexOutOfBoundsException") X htab rfl (fun _ h => absurd h List.not_mem_nil) (by decide) (by decide) q_833 (by decide +kernel) hce hcv hcc ?_
      refine lv_astore (lv' := [(4, .ref q), (0, .ref b), (1, .int x1), (2, .int x2), (3, .ref a_bx)]) hx hb dL_stone_20 hl (by decide) rfl (fun ls hl => ?_)
      refine lv_iconst (v := 1) hx hb dL_stone_22 (by decide) ?_
      exact zreti X hQ hP hD hS (Or.inr ⟨_, w, hp, ⟨rfl, rfl⟩, rfl⟩) rfl dL_stone_23 (Nat.le_of_ble_eq_true rfl) (Nat.le_of_ble_eq_true rfl)
  obtain ⟨r, rfl⟩ := hr v w hp
  show W p l e rmw_L_stone s m args below meth c H locs _ _ Q (F0 m 8 ls [.int r, .int (0 : Int32), .ref a_bx])
  refine lv_if_eq (tgt := 15) hx hb dL_stone_8 (by decide) (fun cz => ?_) (fun cz => ?_)
  · refine lv_lconst (v := 0) hx hb dL_stone_15 (by decide) ?_
    refine va_last hx hb hK hP hD hS 0 1 rfl rfl (by unfold vp_in; decide) dL_stone_16 (fun H locs hP hD hS => ?_)
    have hP : va_P D vwCl ([(a_bx, .inl (y.2.1, 1, .inr (.inl (vp_updL c_bx 0 (0 : Int64)))))] ++ w) H := hP
    have hD : va_D A ([(a_bx, .inl (y.2.1, 1, .inr (.inl (vp_updL c_bx 0 (0 : Int64)))))] ++ w) := hD
    refine lv_goto (tgt := 24) hx hb dL_stone_17 (by decide) ?_
    refine lv_iconst (v := 0) hx hb dL_stone_24 (by decide) ?_
    exact zreti X hQ hP hD hS (Or.inl ⟨r, w, hp, rfl, by rw [if_pos cz]⟩) rfl dL_stone_25 (Nat.le_of_ble_eq_true rfl) (Nat.le_of_ble_eq_true rfl)
  · refine lv_lconst (v := 1) hx hb dL_stone_11 (by decide) ?_
    refine lv_goto (tgt := 16) hx hb dL_stone_12 (by decide) ?_
    refine va_last hx hb hK hP hD hS 0 1 rfl rfl (by unfold vp_in; decide) dL_stone_16 (fun H locs hP hD hS => ?_)
    have hP : va_P D vwCl ([(a_bx, .inl (y.2.1, 1, .inr (.inl (vp_updL c_bx 0 (1 : Int64)))))] ++ w) H := hP
    have hD : va_D A ([(a_bx, .inl (y.2.1, 1, .inr (.inl (vp_updL c_bx 0 (1 : Int64)))))] ++ w) := hD
    refine lv_goto (tgt := 24) hx hb dL_stone_17 (by decide) ?_
    refine lv_iconst (v := 0) hx hb dL_stone_24 (by decide) ?_
    exact zreti X hQ hP hD hS (Or.inl ⟨r, w, hp, rfl, by rw [if_neg cz]⟩) rfl dL_stone_25 (Nat.le_of_ble_eq_true rfl) (Nat.le_of_ble_eq_true rfl)

theorem kf_RL_25 : zCB RL 25 yX8_tell cX8_tell 7 (some .int) 4 ∧ Cond.instanceMethod yX8_tell ∈ wAll ∧ Cond.selects yX8_tell.cls yX8_tell yX8_tell ∈ wAll := ⟨⟨q_882, q_1, q_879, by decide +kernel⟩, q_880, q_881⟩
abbrev rmw_L_tell : Room := { frames := 8, cells := 4, slots := 26, locals := 139 }
set_option maxHeartbeats 4000000 in
theorem zw_L_tell (l : Launch) (D : va_G) (y : zY) (b : Nat) (a_bx : Nat) (c_bx : Nat → Int64) (x1 : Int32) (x2 : Int32) (x3 : Int32) (x4 : Int32) (wc : va_W) (fs : List Value) (q0 : Nat) (hb0 : wc[q0]? = some (b, .inr (8, fs))) (P : Option Value → va_W → Prop) (PX : String → va_W → Prop) (hC : zCx l D y yX8_tell cX8_tell 7 (some .int) rm_X8_tell [.ref b, .int x1, .int x2, .int x3, .int x4] wc P PX) (hr : ∀ v w, P v w → ∃ r : Int32, v = some (.int r)) (hE : ∀ E w, PX E w → E = "java/lang/IndexOutOfBoundsException" ∨ E = "java/lang/IllegalArgumentException" ∨ E = "java/lang/IllegalStateException") : zCw l D y yL_tell cL_tell 7 (some .int) [(0, 14, 17, 19), (0, 14, 21, 13), (0, 14, 25, 29)] rmw_L_tell [.ref b, .int x1, .int x2, .int x3, .int x4, .ref a_bx] ([(a_bx, .inl (y.2.1, 1, .inr (.inl c_bx)))] ++ wc) (fun v w => (∃ r w1, P (some (.int r)) w1 ∧ v = some (.int 0) ∧ w = ([(a_bx, .inl (y.2.1, 1, .inr (.inl (vp_updL c_bx 0 r.toInt64))))] ++ w1)) ∨ (∃ E w1, PX E w1 ∧ ((E = "java/lang/IndexOutOfBoundsException" ∧ v = some (.int 1)) ∨ (E = "java/lang/IllegalArgumentException" ∧ v = some (.int 2)) ∨ (E = "java/lang/IllegalStateException" ∧ v = some (.int 3))) ∧ w = ([(a_bx, .inl (y.2.1, 1, .inr (.inl c_bx)))] ++ w1))) := by
  refine zmkw (by decide) (Nat.le_of_ble_eq_true rfl) ?_
  intro p e s m args below meth c A Q ls X hQ htab hP hD hS hl
  have X : zX p s m args meth c D y A RL cL_tell 7 (some .int) := X
  obtain ⟨hx, hb, hr9, hml, hown, hts, hK, hA, hlocks⟩ := id X
  have hl : lv_has ls 7 [(0, .ref b), (1, .int x1), (2, .int x2), (3, .int x3), (4, .int x4), (5, .ref a_bx)] := hl
  refine lv_aload hx hb dL_tell_0 (lv_at hl 5 rfl) ?_
  refine lv_iconst (v := 0) hx hb dL_tell_2 (by decide) ?_
  refine lv_aload_n hx hb dL_tell_3 rfl (lv_at hl 0 rfl) ?_
  refine lv_iload_n hx hb dL_tell_4 rfl (lv_at hl 1 rfl) ?_
  refine lv_iload_n hx hb dL_tell_5 rfl (lv_at hl 2 rfl) ?_
  refine lv_iload_n hx hb dL_tell_6 rfl (lv_at hl 3 rfl) ?_
  refine lv_iload hx hb dL_tell_7 (lv_at hl 4 rfl) ?_
  refine zhVs (wr := [(a_bx, .inl (y.2.1, 1, .inr (.inl c_bx)))]) (rest := [.int (0 : Int32), .ref a_bx]) X hC kf_RL_25 ⟨(Nat.le_of_ble_eq_true rfl), (Nat.le_of_ble_eq_true rfl)⟩ hP hD hS q0 rfl hb0 rfl rfl hl.1 (Nat.le_of_ble_eq_true rfl) dL_tell_9 ⟨(Nat.le_of_ble_eq_true rfl), (Nat.le_of_ble_eq_true rfl)⟩ (fun E w hp q ce H locs hP hD hS hce hcv hcc => ?_) (fun v w hp H locs hP hD hS => ?_)
  · rcases hE E w hp with rfl | rfl | rfl
    · refine zcat (hh := [(0, 14, 17, 19), (0, 14, 21, 13), (0, 14, 25, 29)]) (p1 := []) (h := (0, 14, 17, 19)) (p2 := [(0, 14, 21, 13), (0, 14, 25, 29)]) (name := "java/lang/IndexOutOfBoundsException") X htab rfl (fun _ h => absurd h List.not_mem_nil) (by decide) (by decide) q_833 (by decide +kernel) hce hcv hcc ?_
      refine lv_astore (lv' := [(6, .ref q), (0, .ref b), (1, .int x1), (2, .int x2), (3, .int x3), (4, .int x4), (5, .ref a_bx)]) hx hb dL_tell_17 hl (by decide) rfl (fun ls hl => ?_)
      refine lv_iconst (v := 1) hx hb dL_tell_19 (by decide) ?_
      exact zreti X hQ hP hD hS (Or.inr ⟨_, w, hp, (Or.inl ⟨rfl, rfl⟩), rfl⟩) rfl dL_tell_20 (Nat.le_of_ble_eq_true rfl) (Nat.le_of_ble_eq_true rfl)
    · refine zcat (hh := [(0, 14, 17, 19), (0, 14, 21, 13), (0, 14, 25, 29)]) (p1 := [(0, 14, 17, 19)]) (h := (0, 14, 21, 13)) (p2 := [(0, 14, 25, 29)]) (name := "java/lang/IllegalArgumentException") X htab rfl (List.forall_mem_cons.mpr ⟨⟨by decide, "java/lang/IndexOutOfBoundsException", q_833, by decide +kernel⟩, (fun _ h => absurd h List.not_mem_nil)⟩) (by decide) (by decide) q_614 (by decide +kernel) hce hcv hcc ?_
      refine lv_astore (lv' := [(6, .ref q), (0, .ref b), (1, .int x1), (2, .int x2), (3, .int x3), (4, .int x4), (5, .ref a_bx)]) hx hb dL_tell_21 hl (by decide) rfl (fun ls hl => ?_)
      refine lv_iconst (v := 2) hx hb dL_tell_23 (by decide) ?_
      exact zreti X hQ hP hD hS (Or.inr ⟨_, w, hp, (Or.inr (Or.inl ⟨rfl, rfl⟩)), rfl⟩) rfl dL_tell_24 (Nat.le_of_ble_eq_true rfl) (Nat.le_of_ble_eq_true rfl)
    · refine zcat (hh := [(0, 14, 17, 19), (0, 14, 21, 13), (0, 14, 25, 29)]) (p1 := [(0, 14, 17, 19), (0, 14, 21, 13)]) (h := (0, 14, 25, 29)) (p2 := []) (name := "java/lang/IllegalStateException") X htab rfl (List.forall_mem_cons.mpr ⟨⟨by decide, "java/lang/IndexOutOfBoundsException", q_833, by decide +kernel⟩, (List.forall_mem_cons.mpr ⟨⟨by decide, "java/lang/IllegalArgumentException", q_614, by decide +kernel⟩, (fun _ h => absurd h List.not_mem_nil)⟩)⟩) (by decide) (by decide) q_878 (by decide +kernel) hce hcv hcc ?_
      refine lv_astore (lv' := [(6, .ref q), (0, .ref b), (1, .int x1), (2, .int x2), (3, .int x3), (4, .int x4), (5, .ref a_bx)]) hx hb dL_tell_25 hl (by decide) rfl (fun ls hl => ?_)
      refine lv_iconst (v := 3) hx hb dL_tell_27 (by decide) ?_
      exact zreti X hQ hP hD hS (Or.inr ⟨_, w, hp, (Or.inr (Or.inr ⟨rfl, rfl⟩)), rfl⟩) rfl dL_tell_28 (Nat.le_of_ble_eq_true rfl) (Nat.le_of_ble_eq_true rfl)
  obtain ⟨r, rfl⟩ := hr v w hp
  show W p l e rmw_L_tell s m args below meth c H locs _ _ Q (F0 m 12 ls [.int r, .int (0 : Int32), .ref a_bx])
  refine lv_i2l (v := r.toInt64) hx hb dL_tell_12 rfl ?_
  refine va_last hx hb hK hP hD hS 0 1 rfl rfl (by unfold vp_in; decide) dL_tell_13 (fun H locs hP hD hS => ?_)
  have hP : va_P D vwCl ([(a_bx, .inl (y.2.1, 1, .inr (.inl (vp_updL c_bx 0 r.toInt64))))] ++ w) H := hP
  have hD : va_D A ([(a_bx, .inl (y.2.1, 1, .inr (.inl (vp_updL c_bx 0 r.toInt64))))] ++ w) := hD
  refine lv_goto (tgt := 29) hx hb dL_tell_14 (by decide) ?_
  refine lv_iconst (v := 0) hx hb dL_tell_29 (by decide) ?_
  exact zreti X hQ hP hD hS (Or.inl ⟨r, w, hp, rfl, rfl⟩) rfl dL_tell_30 (Nat.le_of_ble_eq_true rfl) (Nat.le_of_ble_eq_true rfl)

theorem kf_RL_31 : zCB RL 31 yX8_put cX8_put 6 (some .boolean) 3 ∧ Cond.instanceMethod yX8_put ∈ wAll ∧ Cond.selects yX8_put.cls yX8_put yX8_put ∈ wAll := ⟨⟨q_926, q_1, q_923, by decide +kernel⟩, q_924, q_925⟩
abbrev rmw_L_put : Room := { frames := 8, cells := 3, slots := 20, locals := 137 }
set_option maxHeartbeats 4000000 in
theorem zw_L_put (l : Launch) (D : va_G) (y : zY) (b : Nat) (a_bx : Nat) (c_bx : Nat → Int64) (x1 : Int32) (x2 : Int32) (x3 : Int32) (wc : va_W) (fs : List Value) (q0 : Nat) (hb0 : wc[q0]? = some (b, .inr (8, fs))) (P : Option Value → va_W → Prop) (PX : String → va_W → Prop) (hC : zCx l D y yX8_put cX8_put 6 (some .boolean) rm_X8_put [.ref b, .int x1, .int x2, .int x3] wc P PX) (hr : ∀ v w, P v w → ∃ r : Int32, v = some (.int r)) (hE : ∀ E w, PX E w → E = "java/lang/IndexOutOfBoundsException" ∨ E = "java/lang/IllegalStateException") : zCw l D y yL_put cL_put 6 (some .int) [(0, 19, 22, 19), (0, 19, 26, 29)] rmw_L_put [.ref b, .int x1, .int x2, .int x3, .ref a_bx] ([(a_bx, .inl (y.2.1, 1, .inr (.inl c_bx)))] ++ wc) (fun v w => (∃ r w1, P (some (.int r)) w1 ∧ v = some (.int 0) ∧ w = ([(a_bx, .inl (y.2.1, 1, .inr (.inl (vp_updL c_bx 0 (if r = 0 then (0 : Int64) else (1 : Int64))))))] ++ w1)) ∨ (∃ E w1, PX E w1 ∧ ((E = "java/lang/IndexOutOfBoundsException" ∧ v = some (.int 1)) ∨ (E = "java/lang/IllegalStateException" ∧ v = some (.int 2))) ∧ w = ([(a_bx, .inl (y.2.1, 1, .inr (.inl c_bx)))] ++ w1))) := by
  refine zmkw (by decide) (Nat.le_of_ble_eq_true rfl) ?_
  intro p e s m args below meth c A Q ls X hQ htab hP hD hS hl
  have X : zX p s m args meth c D y A RL cL_put 6 (some .int) := X
  obtain ⟨hx, hb, hr9, hml, hown, hts, hK, hA, hlocks⟩ := id X
  have hl : lv_has ls 6 [(0, .ref b), (1, .int x1), (2, .int x2), (3, .int x3), (4, .ref a_bx)] := hl
  refine lv_aload hx hb dL_put_0 (lv_at hl 4 rfl) ?_
  refine lv_iconst (v := 0) hx hb dL_put_2 (by decide) ?_
  refine lv_aload_n hx hb dL_put_3 rfl (lv_at hl 0 rfl) ?_
  refine lv_iload_n hx hb dL_put_4 rfl (lv_at hl 1 rfl) ?_
  refine lv_iload_n hx hb dL_put_5 rfl (lv_at hl 2 rfl) ?_
  refine lv_iload_n hx hb dL_put_6 rfl (lv_at hl 3 rfl) ?_
  refine zhVs (wr := [(a_bx, .inl (y.2.1, 1, .inr (.inl c_bx)))]) (rest := [.int (0 : Int32), .ref a_bx]) X hC kf_RL_31 ⟨(Nat.le_of_ble_eq_true rfl), (Nat.le_of_ble_eq_true rfl)⟩ hP hD hS q0 rfl hb0 rfl rfl hl.1 (Nat.le_of_ble_eq_true rfl) dL_put_7 ⟨(Nat.le_of_ble_eq_true rfl), (Nat.le_of_ble_eq_true rfl)⟩ (fun E w hp q ce H locs hP hD hS hce hcv hcc => ?_) (fun v w hp H locs hP hD hS => ?_)
  · rcases hE E w hp with rfl | rfl
    · refine zcat (hh := [(0, 19, 22, 19), (0, 19, 26, 29)]) (p1 := []) (h := (0, 19, 22, 19)) (p2 := [(0, 19, 26, 29)]) (name := "java/lang/IndexOutOfBoundsException") X htab rfl (fun _ h => absurd h List.not_mem_nil) (by decide) (by decide) q_833 (by decide +kernel) hce hcv hcc ?_
      refine lv_astore (lv' := [(5, .ref q), (0, .ref b), (1, .int x1), (2, .int x2), (3, .int x3), (4, .ref a_bx)]) hx hb dL_put_22 hl (by decide) rfl (fun ls hl => ?_)
      refine lv_iconst (v := 1) hx hb dL_put_24 (by decide) ?_
      exact zreti X hQ hP hD hS (Or.inr ⟨_, w, hp, (Or.inl ⟨rfl, rfl⟩), rfl⟩) rfl dL_put_25 (Nat.le_of_ble_eq_true rfl) (Nat.le_of_ble_eq_true rfl)
    · refine zcat (hh := [(0, 19, 22, 19), (0, 19, 26, 29)]) (p1 := [(0, 19, 22, 19)]) (h := (0, 19, 26, 29)) (p2 := []) (name := "java/lang/IllegalStateException") X htab rfl (List.forall_mem_cons.mpr ⟨⟨by decide, "java/lang/IndexOutOfBoundsException", q_833, by decide +kernel⟩, (fun _ h => absurd h List.not_mem_nil)⟩) (by decide) (by decide) q_878 (by decide +kernel) hce hcv hcc ?_
      refine lv_astore (lv' := [(5, .ref q), (0, .ref b), (1, .int x1), (2, .int x2), (3, .int x3), (4, .ref a_bx)]) hx hb dL_put_26 hl (by decide) rfl (fun ls hl => ?_)
      refine lv_iconst (v := 2) hx hb dL_put_28 (by decide) ?_
      exact zreti X hQ hP hD hS (Or.inr ⟨_, w, hp, (Or.inr ⟨rfl, rfl⟩), rfl⟩) rfl dL_put_29 (Nat.le_of_ble_eq_true rfl) (Nat.le_of_ble_eq_true rfl)
  obtain ⟨r, rfl⟩ := hr v w hp
  show W p l e rmw_L_put s m args below meth c H locs _ _ Q (F0 m 10 ls [.int r, .int (0 : Int32), .ref a_bx])
  refine lv_if_eq (tgt := 17) hx hb dL_put_10 (by decide) (fun cz => ?_) (fun cz => ?_)
  · refine lv_lconst (v := 0) hx hb dL_put_17 (by decide) ?_
    refine va_last hx hb hK hP hD hS 0 1 rfl rfl (by unfold vp_in; decide) dL_put_18 (fun H locs hP hD hS => ?_)
    have hP : va_P D vwCl ([(a_bx, .inl (y.2.1, 1, .inr (.inl (vp_updL c_bx 0 (0 : Int64)))))] ++ w) H := hP
    have hD : va_D A ([(a_bx, .inl (y.2.1, 1, .inr (.inl (vp_updL c_bx 0 (0 : Int64)))))] ++ w) := hD
    refine lv_goto (tgt := 30) hx hb dL_put_19 (by decide) ?_
    refine lv_iconst (v := 0) hx hb dL_put_30 (by decide) ?_
    exact zreti X hQ hP hD hS (Or.inl ⟨r, w, hp, rfl, by rw [if_pos cz]⟩) rfl dL_put_31 (Nat.le_of_ble_eq_true rfl) (Nat.le_of_ble_eq_true rfl)
  · refine lv_lconst (v := 1) hx hb dL_put_13 (by decide) ?_
    refine lv_goto (tgt := 18) hx hb dL_put_14 (by decide) ?_
    refine va_last hx hb hK hP hD hS 0 1 rfl rfl (by unfold vp_in; decide) dL_put_18 (fun H locs hP hD hS => ?_)
    have hP : va_P D vwCl ([(a_bx, .inl (y.2.1, 1, .inr (.inl (vp_updL c_bx 0 (1 : Int64)))))] ++ w) H := hP
    have hD : va_D A ([(a_bx, .inl (y.2.1, 1, .inr (.inl (vp_updL c_bx 0 (1 : Int64)))))] ++ w) := hD
    refine lv_goto (tgt := 30) hx hb dL_put_19 (by decide) ?_
    refine lv_iconst (v := 0) hx hb dL_put_30 (by decide) ?_
    exact zreti X hQ hP hD hS (Or.inl ⟨r, w, hp, rfl, by rw [if_neg cz]⟩) rfl dL_put_31 (Nat.le_of_ble_eq_true rfl) (Nat.le_of_ble_eq_true rfl)

theorem kf_RL_35 : zCB RL 35 yX8_turn cX8_turn 2 (none : Option Jvm.ClassFile.FieldType) 1 ∧ Cond.instanceMethod yX8_turn ∈ wAll ∧ Cond.selects yX8_turn.cls yX8_turn yX8_turn ∈ wAll := ⟨⟨q_937, q_1, q_934, by decide +kernel⟩, q_935, q_936⟩
abbrev rmw_L_turn : Room := { frames := 7, cells := 1, slots := 8, locals := 137 }
set_option maxHeartbeats 4000000 in
theorem zw_L_turn (l : Launch) (D : va_G) (y : zY) (b : Nat) (x1 : Int32) (wc : va_W) (fs : List Value) (q0 : Nat) (hb0 : wc[q0]? = some (b, .inr (8, fs))) (P : Option Value → va_W → Prop) (PX : String → va_W → Prop) (hC : zCx l D y yX8_turn cX8_turn 2 (none : Option Jvm.ClassFile.FieldType) rm_X8_turn [.ref b, .int x1] wc P PX) (hr : ∀ v w, P v w → v = none) (hE : ∀ E w, PX E w → E = "java/lang/IllegalArgumentException") : zCw l D y yL_turn cL_turn 3 (some .int) [(0, 5, 8, 13)] rmw_L_turn [.ref b, .int x1] ([] ++ wc) (fun v w => (∃ w1, P none w1 ∧ v = some (.int 0) ∧ w = ([] ++ w1)) ∨ (∃ E w1, PX E w1 ∧ ((E = "java/lang/IllegalArgumentException" ∧ v = some (.int 1))) ∧ w = ([] ++ w1))) := by
  refine zmkw (by decide) (Nat.le_of_ble_eq_true rfl) ?_
  intro p e s m args below meth c A Q ls X hQ htab hP hD hS hl
  have X : zX p s m args meth c D y A RL cL_turn 3 (some .int) := X
  obtain ⟨hx, hb, hr9, hml, hown, hts, hK, hA, hlocks⟩ := id X
  have hl : lv_has ls 3 [(0, .ref b), (1, .int x1)] := hl
  refine lv_aload_n hx hb dL_turn_0 rfl (lv_at hl 0 rfl) ?_
  refine lv_iload_n hx hb dL_turn_1 rfl (lv_at hl 1 rfl) ?_
  refine zhVs (wr := []) (rest := []) X hC kf_RL_35 ⟨(Nat.le_of_ble_eq_true rfl), (Nat.le_of_ble_eq_true rfl)⟩ hP hD hS q0 rfl hb0 rfl rfl hl.1 (Nat.le_of_ble_eq_true rfl) dL_turn_2 ⟨(Nat.le_of_ble_eq_true rfl), (Nat.le_of_ble_eq_true rfl)⟩ (fun E w hp q ce H locs hP hD hS hce hcv hcc => ?_) (fun v w hp H locs hP hD hS => ?_)
  · rcases hE E w hp with rfl
    · refine zcat (hh := [(0, 5, 8, 13)]) (p1 := []) (h := (0, 5, 8, 13)) (p2 := []) (name := "java/lang/IllegalArgumentException") X htab rfl (fun _ h => absurd h List.not_mem_nil) (by decide) (by decide) q_614 (by decide +kernel) hce hcv hcc ?_
      refine lv_astore_n (lv' := [(2, .ref q), (0, .ref b), (1, .int x1)]) hx hb dL_turn_8 rfl hl (by decide) rfl (fun ls hl => ?_)
      refine lv_iconst (v := 1) hx hb dL_turn_9 (by decide) ?_
      exact zreti X hQ hP hD hS (Or.inr ⟨_, w, hp, ⟨rfl, rfl⟩, rfl⟩) rfl dL_turn_10 (Nat.le_of_ble_eq_true rfl) (Nat.le_of_ble_eq_true rfl)
  obtain rfl := hr v w hp
  show W p l e rmw_L_turn s m args below meth c H locs _ _ Q (F0 m 5 ls [])
  refine lv_goto (tgt := 11) hx hb dL_turn_5 (by decide) ?_
  refine lv_iconst (v := 0) hx hb dL_turn_11 (by decide) ?_
  exact zreti X hQ hP hD hS (Or.inl ⟨w, hp, rfl, rfl⟩) rfl dL_turn_12 (Nat.le_of_ble_eq_true rfl) (Nat.le_of_ble_eq_true rfl)

theorem kf_RL_39 : zCB RL 39 yX8_drain cX8_drain 4 (some .boolean) 3 ∧ Cond.instanceMethod yX8_drain ∈ wAll ∧ Cond.selects yX8_drain.cls yX8_drain yX8_drain ∈ wAll := ⟨⟨q_956, q_1, q_953, by decide +kernel⟩, q_954, q_955⟩
abbrev rmw_L_drain : Room := { frames := 8, cells := 2, slots := 14, locals := 135 }
set_option maxHeartbeats 4000000 in
theorem zw_L_drain (l : Launch) (D : va_G) (y : zY) (b : Nat) (a_bx : Nat) (c_bx : Nat → Int64) (x1 : Int32) (x2 : Int32) (x3 : Int32) (wc : va_W) (fs : List Value) (q0 : Nat) (hb0 : wc[q0]? = some (b, .inr (8, fs))) (P : Option Value → va_W → Prop) (PX : String → va_W → Prop) (hC : zCx l D y yX8_drain cX8_drain 4 (some .boolean) rm_X8_drain [.ref b, .int x1, .int x2, .int x3] wc P PX) (hr : ∀ v w, P v w → ∃ r : Int32, v = some (.int r)) (hE : ∀ E w, PX E w → E = "java/lang/IllegalArgumentException") : zCw l D y yL_drain cL_drain 6 (some .int) [(0, 19, 22, 13)] rmw_L_drain [.ref b, .int x1, .int x2, .int x3, .ref a_bx] ([(a_bx, .inl (y.2.1, 1, .inr (.inl c_bx)))] ++ wc) (fun v w => (∃ r w1, P (some (.int r)) w1 ∧ v = some (.int 0) ∧ w = ([(a_bx, .inl (y.2.1, 1, .inr (.inl (vp_updL c_bx 0 (if r = 0 then (0 : Int64) else (1 : Int64))))))] ++ w1)) ∨ (∃ E w1, PX E w1 ∧ ((E = "java/lang/IllegalArgumentException" ∧ v = some (.int 1))) ∧ w = ([(a_bx, .inl (y.2.1, 1, .inr (.inl c_bx)))] ++ w1))) := by
  refine zmkw (by decide) (Nat.le_of_ble_eq_true rfl) ?_
  intro p e s m args below meth c A Q ls X hQ htab hP hD hS hl
  have X : zX p s m args meth c D y A RL cL_drain 6 (some .int) := X
  obtain ⟨hx, hb, hr9, hml, hown, hts, hK, hA, hlocks⟩ := id X
  have hl : lv_has ls 6 [(0, .ref b), (1, .int x1), (2, .int x2), (3, .int x3), (4, .ref a_bx)] := hl
  refine lv_aload hx hb dL_drain_0 (lv_at hl 4 rfl) ?_
  refine lv_iconst (v := 0) hx hb dL_drain_2 (by decide) ?_
  refine lv_aload_n hx hb dL_drain_3 rfl (lv_at hl 0 rfl) ?_
  refine lv_iload_n hx hb dL_drain_4 rfl (lv_at hl 1 rfl) ?_
  refine lv_iload_n hx hb dL_drain_5 rfl (lv_at hl 2 rfl) ?_
  refine lv_iload_n hx hb dL_drain_6 rfl (lv_at hl 3 rfl) ?_
  refine zhVs (wr := [(a_bx, .inl (y.2.1, 1, .inr (.inl c_bx)))]) (rest := [.int (0 : Int32), .ref a_bx]) X hC kf_RL_39 ⟨(Nat.le_of_ble_eq_true rfl), (Nat.le_of_ble_eq_true rfl)⟩ hP hD hS q0 rfl hb0 rfl rfl hl.1 (Nat.le_of_ble_eq_true rfl) dL_drain_7 ⟨(Nat.le_of_ble_eq_true rfl), (Nat.le_of_ble_eq_true rfl)⟩ (fun E w hp q ce H locs hP hD hS hce hcv hcc => ?_) (fun v w hp H locs hP hD hS => ?_)
  · rcases hE E w hp with rfl
    · refine zcat (hh := [(0, 19, 22, 13)]) (p1 := []) (h := (0, 19, 22, 13)) (p2 := []) (name := "java/lang/IllegalArgumentException") X htab rfl (fun _ h => absurd h List.not_mem_nil) (by decide) (by decide) q_614 (by decide +kernel) hce hcv hcc ?_
      refine lv_astore (lv' := [(5, .ref q), (0, .ref b), (1, .int x1), (2, .int x2), (3, .int x3), (4, .ref a_bx)]) hx hb dL_drain_22 hl (by decide) rfl (fun ls hl => ?_)
      refine lv_iconst (v := 1) hx hb dL_drain_24 (by decide) ?_
      exact zreti X hQ hP hD hS (Or.inr ⟨_, w, hp, ⟨rfl, rfl⟩, rfl⟩) rfl dL_drain_25 (Nat.le_of_ble_eq_true rfl) (Nat.le_of_ble_eq_true rfl)
  obtain ⟨r, rfl⟩ := hr v w hp
  show W p l e rmw_L_drain s m args below meth c H locs _ _ Q (F0 m 10 ls [.int r, .int (0 : Int32), .ref a_bx])
  refine lv_if_eq (tgt := 17) hx hb dL_drain_10 (by decide) (fun cz => ?_) (fun cz => ?_)
  · refine lv_lconst (v := 0) hx hb dL_drain_17 (by decide) ?_
    refine va_last hx hb hK hP hD hS 0 1 rfl rfl (by unfold vp_in; decide) dL_drain_18 (fun H locs hP hD hS => ?_)
    have hP : va_P D vwCl ([(a_bx, .inl (y.2.1, 1, .inr (.inl (vp_updL c_bx 0 (0 : Int64)))))] ++ w) H := hP
    have hD : va_D A ([(a_bx, .inl (y.2.1, 1, .inr (.inl (vp_updL c_bx 0 (0 : Int64)))))] ++ w) := hD
    refine lv_goto (tgt := 26) hx hb dL_drain_19 (by decide) ?_
    refine lv_iconst (v := 0) hx hb dL_drain_26 (by decide) ?_
    exact zreti X hQ hP hD hS (Or.inl ⟨r, w, hp, rfl, by rw [if_pos cz]⟩) rfl dL_drain_27 (Nat.le_of_ble_eq_true rfl) (Nat.le_of_ble_eq_true rfl)
  · refine lv_lconst (v := 1) hx hb dL_drain_13 (by decide) ?_
    refine lv_goto (tgt := 18) hx hb dL_drain_14 (by decide) ?_
    refine va_last hx hb hK hP hD hS 0 1 rfl rfl (by unfold vp_in; decide) dL_drain_18 (fun H locs hP hD hS => ?_)
    have hP : va_P D vwCl ([(a_bx, .inl (y.2.1, 1, .inr (.inl (vp_updL c_bx 0 (1 : Int64)))))] ++ w) H := hP
    have hD : va_D A ([(a_bx, .inl (y.2.1, 1, .inr (.inl (vp_updL c_bx 0 (1 : Int64)))))] ++ w) := hD
    refine lv_goto (tgt := 26) hx hb dL_drain_19 (by decide) ?_
    refine lv_iconst (v := 0) hx hb dL_drain_26 (by decide) ?_
    exact zreti X hQ hP hD hS (Or.inl ⟨r, w, hp, rfl, by rw [if_neg cz]⟩) rfl dL_drain_27 (Nat.le_of_ble_eq_true rfl) (Nat.le_of_ble_eq_true rfl)

theorem kf_RL_43 : zCB RL 43 yX8_states cX8_states 2 (some .int) 1 ∧ Cond.instanceMethod yX8_states ∈ wAll ∧ Cond.selects yX8_states.cls yX8_states yX8_states ∈ wAll := ⟨⟨q_975, q_1, q_972, by decide +kernel⟩, q_973, q_974⟩
abbrev rmw_L_states : Room := { frames := 8, cells := 1, slots := 6, locals := 154 }
set_option maxHeartbeats 4000000 in
theorem zw_L_states (l : Launch) (D : va_G) (y : zY) (b : Nat) (a_bx : Nat) (c_bx : Nat → Int64) (x1 : Int32) (wc : va_W) (fs : List Value) (q0 : Nat) (hb0 : wc[q0]? = some (b, .inr (8, fs))) (P : Option Value → va_W → Prop) (PX : String → va_W → Prop) (hC : zCx l D y yX8_states cX8_states 2 (some .int) rm_X8_states [.ref b, .int x1] wc P PX) (hr : ∀ v w, P v w → ∃ r : Int32, v = some (.int r)) (hE : ∀ E w, PX E w → E = "java/lang/IndexOutOfBoundsException") : zCw l D y yL_states cL_states 4 (some .int) [(0, 9, 12, 19)] rmw_L_states [.ref b, .int x1, .ref a_bx] ([(a_bx, .inl (y.2.1, 1, .inr (.inl c_bx)))] ++ wc) (fun v w => (∃ r w1, P (some (.int r)) w1 ∧ v = some (.int 0) ∧ w = ([(a_bx, .inl (y.2.1, 1, .inr (.inl (vp_updL c_bx 0 r.toInt64))))] ++ w1)) ∨ (∃ E w1, PX E w1 ∧ ((E = "java/lang/IndexOutOfBoundsException" ∧ v = some (.int 1))) ∧ w = ([(a_bx, .inl (y.2.1, 1, .inr (.inl c_bx)))] ++ w1))) := by
  refine zmkw (by decide) (Nat.le_of_ble_eq_true rfl) ?_
  intro p e s m args below meth c A Q ls X hQ htab hP hD hS hl
  have X : zX p s m args meth c D y A RL cL_states 4 (some .int) := X
  obtain ⟨hx, hb, hr9, hml, hown, hts, hK, hA, hlocks⟩ := id X
  have hl : lv_has ls 4 [(0, .ref b), (1, .int x1), (2, .ref a_bx)] := hl
  refine lv_aload_n hx hb dL_states_0 rfl (lv_at hl 2 rfl) ?_
  refine lv_iconst (v := 0) hx hb dL_states_1 (by decide) ?_
  refine lv_aload_n hx hb dL_states_2 rfl (lv_at hl 0 rfl) ?_
  refine lv_iload_n hx hb dL_states_3 rfl (lv_at hl 1 rfl) ?_
  refine zhVs (wr := [(a_bx, .inl (y.2.1, 1, .inr (.inl c_bx)))]) (rest := [.int (0 : Int32), .ref a_bx]) X hC kf_RL_43 ⟨(Nat.le_of_ble_eq_true rfl), (Nat.le_of_ble_eq_true rfl)⟩ hP hD hS q0 rfl hb0 rfl rfl hl.1 (Nat.le_of_ble_eq_true rfl) dL_states_4 ⟨(Nat.le_of_ble_eq_true rfl), (Nat.le_of_ble_eq_true rfl)⟩ (fun E w hp q ce H locs hP hD hS hce hcv hcc => ?_) (fun v w hp H locs hP hD hS => ?_)
  · rcases hE E w hp with rfl
    · refine zcat (hh := [(0, 9, 12, 19)]) (p1 := []) (h := (0, 9, 12, 19)) (p2 := []) (name := "java/lang/IndexOutOfBoundsException") X htab rfl (fun _ h => absurd h List.not_mem_nil) (by decide) (by decide) q_833 (by decide +kernel) hce hcv hcc ?_
      refine lv_astore_n (lv' := [(3, .ref q), (0, .ref b), (1, .int x1), (2, .ref a_bx)]) hx hb dL_states_12 rfl hl (by decide) rfl (fun ls hl => ?_)
      refine lv_iconst (v := 1) hx hb dL_states_13 (by decide) ?_
      exact zreti X hQ hP hD hS (Or.inr ⟨_, w, hp, ⟨rfl, rfl⟩, rfl⟩) rfl dL_states_14 (Nat.le_of_ble_eq_true rfl) (Nat.le_of_ble_eq_true rfl)
  obtain ⟨r, rfl⟩ := hr v w hp
  show W p l e rmw_L_states s m args below meth c H locs _ _ Q (F0 m 7 ls [.int r, .int (0 : Int32), .ref a_bx])
  refine lv_i2l (v := r.toInt64) hx hb dL_states_7 rfl ?_
  refine va_last hx hb hK hP hD hS 0 1 rfl rfl (by unfold vp_in; decide) dL_states_8 (fun H locs hP hD hS => ?_)
  have hP : va_P D vwCl ([(a_bx, .inl (y.2.1, 1, .inr (.inl (vp_updL c_bx 0 r.toInt64))))] ++ w) H := hP
  have hD : va_D A ([(a_bx, .inl (y.2.1, 1, .inr (.inl (vp_updL c_bx 0 r.toInt64))))] ++ w) := hD
  refine lv_goto (tgt := 15) hx hb dL_states_9 (by decide) ?_
  refine lv_iconst (v := 0) hx hb dL_states_15 (by decide) ?_
  exact zreti X hQ hP hD hS (Or.inl ⟨r, w, hp, rfl, rfl⟩) rfl dL_states_16 (Nat.le_of_ble_eq_true rfl) (Nat.le_of_ble_eq_true rfl)

theorem kf_RL_47 : zCB RL 47 yX8_state cX8_state 4 (some .int) 3 ∧ Cond.instanceMethod yX8_state ∈ wAll ∧ Cond.selects yX8_state.cls yX8_state yX8_state ∈ wAll := ⟨⟨q_996, q_1, q_993, by decide +kernel⟩, q_994, q_995⟩
abbrev rmw_L_state : Room := { frames := 8, cells := 2, slots := 12, locals := 179 }
set_option maxHeartbeats 4000000 in
theorem zw_L_state (l : Launch) (D : va_G) (y : zY) (b : Nat) (a_bx : Nat) (c_bx : Nat → Int64) (x1 : Int32) (x2 : Int32) (x3 : Int32) (wc : va_W) (fs : List Value) (q0 : Nat) (hb0 : wc[q0]? = some (b, .inr (8, fs))) (P : Option Value → va_W → Prop) (PX : String → va_W → Prop) (hC : zCx l D y yX8_state cX8_state 4 (some .int) rm_X8_state [.ref b, .int x1, .int x2, .int x3] wc P PX) (hr : ∀ v w, P v w → ∃ r : Int32, v = some (.int r)) (hE : ∀ E w, PX E w → E = "java/lang/IndexOutOfBoundsException" ∨ E = "java/util/NoSuchElementException") : zCw l D y yL_state cL_state 6 (some .int) [(0, 12, 15, 19), (0, 12, 19, 51)] rmw_L_state [.ref b, .int x1, .int x2, .int x3, .ref a_bx] ([(a_bx, .inl (y.2.1, 1, .inr (.inl c_bx)))] ++ wc) (fun v w => (∃ r w1, P (some (.int r)) w1 ∧ v = some (.int 0) ∧ w = ([(a_bx, .inl (y.2.1, 1, .inr (.inl (vp_updL c_bx 0 r.toInt64))))] ++ w1)) ∨ (∃ E w1, PX E w1 ∧ ((E = "java/lang/IndexOutOfBoundsException" ∧ v = some (.int 1)) ∨ (E = "java/util/NoSuchElementException" ∧ v = some (.int 2))) ∧ w = ([(a_bx, .inl (y.2.1, 1, .inr (.inl c_bx)))] ++ w1))) := by
  refine zmkw (by decide) (Nat.le_of_ble_eq_true rfl) ?_
  intro p e s m args below meth c A Q ls X hQ htab hP hD hS hl
  have X : zX p s m args meth c D y A RL cL_state 6 (some .int) := X
  obtain ⟨hx, hb, hr9, hml, hown, hts, hK, hA, hlocks⟩ := id X
  have hl : lv_has ls 6 [(0, .ref b), (1, .int x1), (2, .int x2), (3, .int x3), (4, .ref a_bx)] := hl
  refine lv_aload hx hb dL_state_0 (lv_at hl 4 rfl) ?_
  refine lv_iconst (v := 0) hx hb dL_state_2 (by decide) ?_
  refine lv_aload_n hx hb dL_state_3 rfl (lv_at hl 0 rfl) ?_
  refine lv_iload_n hx hb dL_state_4 rfl (lv_at hl 1 rfl) ?_
  refine lv_iload_n hx hb dL_state_5 rfl (lv_at hl 2 rfl) ?_
  refine lv_iload_n hx hb dL_state_6 rfl (lv_at hl 3 rfl) ?_
  refine zhVs (wr := [(a_bx, .inl (y.2.1, 1, .inr (.inl c_bx)))]) (rest := [.int (0 : Int32), .ref a_bx]) X hC kf_RL_47 ⟨(Nat.le_of_ble_eq_true rfl), (Nat.le_of_ble_eq_true rfl)⟩ hP hD hS q0 rfl hb0 rfl rfl hl.1 (Nat.le_of_ble_eq_true rfl) dL_state_7 ⟨(Nat.le_of_ble_eq_true rfl), (Nat.le_of_ble_eq_true rfl)⟩ (fun E w hp q ce H locs hP hD hS hce hcv hcc => ?_) (fun v w hp H locs hP hD hS => ?_)
  · rcases hE E w hp with rfl | rfl
    · refine zcat (hh := [(0, 12, 15, 19), (0, 12, 19, 51)]) (p1 := []) (h := (0, 12, 15, 19)) (p2 := [(0, 12, 19, 51)]) (name := "java/lang/IndexOutOfBoundsException") X htab rfl (fun _ h => absurd h List.not_mem_nil) (by decide) (by decide) q_833 (by decide +kernel) hce hcv hcc ?_
      refine lv_astore (lv' := [(5, .ref q), (0, .ref b), (1, .int x1), (2, .int x2), (3, .int x3), (4, .ref a_bx)]) hx hb dL_state_15 hl (by decide) rfl (fun ls hl => ?_)
      refine lv_iconst (v := 1) hx hb dL_state_17 (by decide) ?_
      exact zreti X hQ hP hD hS (Or.inr ⟨_, w, hp, (Or.inl ⟨rfl, rfl⟩), rfl⟩) rfl dL_state_18 (Nat.le_of_ble_eq_true rfl) (Nat.le_of_ble_eq_true rfl)
    · refine zcat (hh := [(0, 12, 15, 19), (0, 12, 19, 51)]) (p1 := [(0, 12, 15, 19)]) (h := (0, 12, 19, 51)) (p2 := []) (name := "java/util/NoSuchElementException") X htab rfl (List.forall_mem_cons.mpr ⟨⟨by decide, "java/lang/IndexOutOfBoundsException", q_833, by decide +kernel⟩, (fun _ h => absurd h List.not_mem_nil)⟩) (by decide) (by decide) q_992 (by decide +kernel) hce hcv hcc ?_
      refine lv_astore (lv' := [(5, .ref q), (0, .ref b), (1, .int x1), (2, .int x2), (3, .int x3), (4, .ref a_bx)]) hx hb dL_state_19 hl (by decide) rfl (fun ls hl => ?_)
      refine lv_iconst (v := 2) hx hb dL_state_21 (by decide) ?_
      exact zreti X hQ hP hD hS (Or.inr ⟨_, w, hp, (Or.inr ⟨rfl, rfl⟩), rfl⟩) rfl dL_state_22 (Nat.le_of_ble_eq_true rfl) (Nat.le_of_ble_eq_true rfl)
  obtain ⟨r, rfl⟩ := hr v w hp
  show W p l e rmw_L_state s m args below meth c H locs _ _ Q (F0 m 10 ls [.int r, .int (0 : Int32), .ref a_bx])
  refine lv_i2l (v := r.toInt64) hx hb dL_state_10 rfl ?_
  refine va_last hx hb hK hP hD hS 0 1 rfl rfl (by unfold vp_in; decide) dL_state_11 (fun H locs hP hD hS => ?_)
  have hP : va_P D vwCl ([(a_bx, .inl (y.2.1, 1, .inr (.inl (vp_updL c_bx 0 r.toInt64))))] ++ w) H := hP
  have hD : va_D A ([(a_bx, .inl (y.2.1, 1, .inr (.inl (vp_updL c_bx 0 r.toInt64))))] ++ w) := hD
  refine lv_goto (tgt := 23) hx hb dL_state_12 (by decide) ?_
  refine lv_iconst (v := 0) hx hb dL_state_23 (by decide) ?_
  exact zreti X hQ hP hD hS (Or.inl ⟨r, w, hp, rfl, rfl⟩) rfl dL_state_24 (Nat.le_of_ble_eq_true rfl) (Nat.le_of_ble_eq_true rfl)

theorem kf_RL_53 : zCB RL 53 yX8_ways cX8_ways 5 (some .long) 3 ∧ Cond.instanceMethod yX8_ways ∈ wAll ∧ Cond.selects yX8_ways.cls yX8_ways yX8_ways ∈ wAll := ⟨⟨q_1032, q_1, q_1029, by decide +kernel⟩, q_1030, q_1031⟩
abbrev rmw_L_ways : Room := { frames := 8, cells := 2, slots := 12, locals := 180 }
set_option maxHeartbeats 4000000 in
theorem zw_L_ways (l : Launch) (D : va_G) (y : zY) (b : Nat) (a_bx : Nat) (c_bx : Nat → Int64) (x1 : Int32) (x2 : Int32) (x3 : Int32) (wc : va_W) (fs : List Value) (q0 : Nat) (hb0 : wc[q0]? = some (b, .inr (8, fs))) (P : Option Value → va_W → Prop) (PX : String → va_W → Prop) (hC : zCx l D y yX8_ways cX8_ways 5 (some .long) rm_X8_ways [.ref b, .int x1, .int x2, .int x3] wc P PX) (hr : ∀ v w, P v w → ∃ r : Int64, v = some (.long r)) (hE : ∀ E w, PX E w → E = "java/lang/IndexOutOfBoundsException" ∨ E = "java/util/NoSuchElementException") : zCw l D y yL_ways cL_ways 6 (some .int) [(0, 11, 14, 19), (0, 11, 18, 51)] rmw_L_ways [.ref b, .int x1, .int x2, .int x3, .ref a_bx] ([(a_bx, .inl (y.2.1, 1, .inr (.inl c_bx)))] ++ wc) (fun v w => (∃ r w1, P (some (.long r)) w1 ∧ v = some (.int 0) ∧ w = ([(a_bx, .inl (y.2.1, 1, .inr (.inl (vp_updL c_bx 0 r))))] ++ w1)) ∨ (∃ E w1, PX E w1 ∧ ((E = "java/lang/IndexOutOfBoundsException" ∧ v = some (.int 1)) ∨ (E = "java/util/NoSuchElementException" ∧ v = some (.int 2))) ∧ w = ([(a_bx, .inl (y.2.1, 1, .inr (.inl c_bx)))] ++ w1))) := by
  refine zmkw (by decide) (Nat.le_of_ble_eq_true rfl) ?_
  intro p e s m args below meth c A Q ls X hQ htab hP hD hS hl
  have X : zX p s m args meth c D y A RL cL_ways 6 (some .int) := X
  obtain ⟨hx, hb, hr9, hml, hown, hts, hK, hA, hlocks⟩ := id X
  have hl : lv_has ls 6 [(0, .ref b), (1, .int x1), (2, .int x2), (3, .int x3), (4, .ref a_bx)] := hl
  refine lv_aload hx hb dL_ways_0 (lv_at hl 4 rfl) ?_
  refine lv_iconst (v := 0) hx hb dL_ways_2 (by decide) ?_
  refine lv_aload_n hx hb dL_ways_3 rfl (lv_at hl 0 rfl) ?_
  refine lv_iload_n hx hb dL_ways_4 rfl (lv_at hl 1 rfl) ?_
  refine lv_iload_n hx hb dL_ways_5 rfl (lv_at hl 2 rfl) ?_
  refine lv_iload_n hx hb dL_ways_6 rfl (lv_at hl 3 rfl) ?_
  refine zhVs (wr := [(a_bx, .inl (y.2.1, 1, .inr (.inl c_bx)))]) (rest := [.int (0 : Int32), .ref a_bx]) X hC kf_RL_53 ⟨(Nat.le_of_ble_eq_true rfl), (Nat.le_of_ble_eq_true rfl)⟩ hP hD hS q0 rfl hb0 rfl rfl hl.1 (Nat.le_of_ble_eq_true rfl) dL_ways_7 ⟨(Nat.le_of_ble_eq_true rfl), (Nat.le_of_ble_eq_true rfl)⟩ (fun E w hp q ce H locs hP hD hS hce hcv hcc => ?_) (fun v w hp H locs hP hD hS => ?_)
  · rcases hE E w hp with rfl | rfl
    · refine zcat (hh := [(0, 11, 14, 19), (0, 11, 18, 51)]) (p1 := []) (h := (0, 11, 14, 19)) (p2 := [(0, 11, 18, 51)]) (name := "java/lang/IndexOutOfBoundsException") X htab rfl (fun _ h => absurd h List.not_mem_nil) (by decide) (by decide) q_833 (by decide +kernel) hce hcv hcc ?_
      refine lv_astore (lv' := [(5, .ref q), (0, .ref b), (1, .int x1), (2, .int x2), (3, .int x3), (4, .ref a_bx)]) hx hb dL_ways_14 hl (by decide) rfl (fun ls hl => ?_)
      refine lv_iconst (v := 1) hx hb dL_ways_16 (by decide) ?_
      exact zreti X hQ hP hD hS (Or.inr ⟨_, w, hp, (Or.inl ⟨rfl, rfl⟩), rfl⟩) rfl dL_ways_17 (Nat.le_of_ble_eq_true rfl) (Nat.le_of_ble_eq_true rfl)
    · refine zcat (hh := [(0, 11, 14, 19), (0, 11, 18, 51)]) (p1 := [(0, 11, 14, 19)]) (h := (0, 11, 18, 51)) (p2 := []) (name := "java/util/NoSuchElementException") X htab rfl (List.forall_mem_cons.mpr ⟨⟨by decide, "java/lang/IndexOutOfBoundsException", q_833, by decide +kernel⟩, (fun _ h => absurd h List.not_mem_nil)⟩) (by decide) (by decide) q_992 (by decide +kernel) hce hcv hcc ?_
      refine lv_astore (lv' := [(5, .ref q), (0, .ref b), (1, .int x1), (2, .int x2), (3, .int x3), (4, .ref a_bx)]) hx hb dL_ways_18 hl (by decide) rfl (fun ls hl => ?_)
      refine lv_iconst (v := 2) hx hb dL_ways_20 (by decide) ?_
      exact zreti X hQ hP hD hS (Or.inr ⟨_, w, hp, (Or.inr ⟨rfl, rfl⟩), rfl⟩) rfl dL_ways_21 (Nat.le_of_ble_eq_true rfl) (Nat.le_of_ble_eq_true rfl)
  obtain ⟨r, rfl⟩ := hr v w hp
  show W p l e rmw_L_ways s m args below meth c H locs _ _ Q (F0 m 10 ls [.long r, .int (0 : Int32), .ref a_bx])
  refine va_last hx hb hK hP hD hS 0 1 rfl rfl (by unfold vp_in; decide) dL_ways_10 (fun H locs hP hD hS => ?_)
  have hP : va_P D vwCl ([(a_bx, .inl (y.2.1, 1, .inr (.inl (vp_updL c_bx 0 r))))] ++ w) H := hP
  have hD : va_D A ([(a_bx, .inl (y.2.1, 1, .inr (.inl (vp_updL c_bx 0 r))))] ++ w) := hD
  refine lv_goto (tgt := 22) hx hb dL_ways_11 (by decide) ?_
  refine lv_iconst (v := 0) hx hb dL_ways_22 (by decide) ?_
  exact zreti X hQ hP hD hS (Or.inl ⟨r, w, hp, rfl, rfl⟩) rfl dL_ways_23 (Nat.le_of_ble_eq_true rfl) (Nat.le_of_ble_eq_true rfl)

theorem kf_RL_57 : zCB RL 57 yX8_wet cX8_wet 7 (some .long) 2 ∧ Cond.instanceMethod yX8_wet ∈ wAll ∧ Cond.selects yX8_wet.cls yX8_wet yX8_wet ∈ wAll := ⟨⟨q_1040, q_1, q_1037, by decide +kernel⟩, q_1038, q_1039⟩
abbrev rmw_L_wet : Room := { frames := 7, cells := 1, slots := 6, locals := 159 }
set_option maxHeartbeats 4000000 in
theorem zw_L_wet (l : Launch) (D : va_G) (y : zY) (b : Nat) (a_bx : Nat) (c_bx : Nat → Int64) (x1 : Int32) (x2 : Int32) (wc : va_W) (fs : List Value) (q0 : Nat) (hb0 : wc[q0]? = some (b, .inr (8, fs))) (P : Option Value → va_W → Prop) (PX : String → va_W → Prop) (hC : zCx l D y yX8_wet cX8_wet 7 (some .long) rm_X8_wet [.ref b, .int x1, .int x2] wc P PX) (hr : ∀ v w, P v w → ∃ r : Int64, v = some (.long r)) (hE : ∀ E w, PX E w → E = "java/lang/IllegalArgumentException") : zCw l D y yL_wet cL_wet 5 (some .int) [(0, 9, 12, 13)] rmw_L_wet [.ref b, .int x1, .int x2, .ref a_bx] ([(a_bx, .inl (y.2.1, 1, .inr (.inl c_bx)))] ++ wc) (fun v w => (∃ r w1, P (some (.long r)) w1 ∧ v = some (.int 0) ∧ w = ([(a_bx, .inl (y.2.1, 1, .inr (.inl (vp_updL c_bx 0 r))))] ++ w1)) ∨ (∃ E w1, PX E w1 ∧ ((E = "java/lang/IllegalArgumentException" ∧ v = some (.int 1))) ∧ w = ([(a_bx, .inl (y.2.1, 1, .inr (.inl c_bx)))] ++ w1))) := by
  refine zmkw (by decide) (Nat.le_of_ble_eq_true rfl) ?_
  intro p e s m args below meth c A Q ls X hQ htab hP hD hS hl
  have X : zX p s m args meth c D y A RL cL_wet 5 (some .int) := X
  obtain ⟨hx, hb, hr9, hml, hown, hts, hK, hA, hlocks⟩ := id X
  have hl : lv_has ls 5 [(0, .ref b), (1, .int x1), (2, .int x2), (3, .ref a_bx)] := hl
  refine lv_aload_n hx hb dL_wet_0 rfl (lv_at hl 3 rfl) ?_
  refine lv_iconst (v := 0) hx hb dL_wet_1 (by decide) ?_
  refine lv_aload_n hx hb dL_wet_2 rfl (lv_at hl 0 rfl) ?_
  refine lv_iload_n hx hb dL_wet_3 rfl (lv_at hl 1 rfl) ?_
  refine lv_iload_n hx hb dL_wet_4 rfl (lv_at hl 2 rfl) ?_
  refine zhVs (wr := [(a_bx, .inl (y.2.1, 1, .inr (.inl c_bx)))]) (rest := [.int (0 : Int32), .ref a_bx]) X hC kf_RL_57 ⟨(Nat.le_of_ble_eq_true rfl), (Nat.le_of_ble_eq_true rfl)⟩ hP hD hS q0 rfl hb0 rfl rfl hl.1 (Nat.le_of_ble_eq_true rfl) dL_wet_5 ⟨(Nat.le_of_ble_eq_true rfl), (Nat.le_of_ble_eq_true rfl)⟩ (fun E w hp q ce H locs hP hD hS hce hcv hcc => ?_) (fun v w hp H locs hP hD hS => ?_)
  · rcases hE E w hp with rfl
    · refine zcat (hh := [(0, 9, 12, 13)]) (p1 := []) (h := (0, 9, 12, 13)) (p2 := []) (name := "java/lang/IllegalArgumentException") X htab rfl (fun _ h => absurd h List.not_mem_nil) (by decide) (by decide) q_614 (by decide +kernel) hce hcv hcc ?_
      refine lv_astore (lv' := [(4, .ref q), (0, .ref b), (1, .int x1), (2, .int x2), (3, .ref a_bx)]) hx hb dL_wet_12 hl (by decide) rfl (fun ls hl => ?_)
      refine lv_iconst (v := 1) hx hb dL_wet_14 (by decide) ?_
      exact zreti X hQ hP hD hS (Or.inr ⟨_, w, hp, ⟨rfl, rfl⟩, rfl⟩) rfl dL_wet_15 (Nat.le_of_ble_eq_true rfl) (Nat.le_of_ble_eq_true rfl)
  obtain ⟨r, rfl⟩ := hr v w hp
  show W p l e rmw_L_wet s m args below meth c H locs _ _ Q (F0 m 8 ls [.long r, .int (0 : Int32), .ref a_bx])
  refine va_last hx hb hK hP hD hS 0 1 rfl rfl (by unfold vp_in; decide) dL_wet_8 (fun H locs hP hD hS => ?_)
  have hP : va_P D vwCl ([(a_bx, .inl (y.2.1, 1, .inr (.inl (vp_updL c_bx 0 r))))] ++ w) H := hP
  have hD : va_D A ([(a_bx, .inl (y.2.1, 1, .inr (.inl (vp_updL c_bx 0 r))))] ++ w) := hD
  refine lv_goto (tgt := 16) hx hb dL_wet_9 (by decide) ?_
  refine lv_iconst (v := 0) hx hb dL_wet_16 (by decide) ?_
  exact zreti X hQ hP hD hS (Or.inl ⟨r, w, hp, rfl, rfl⟩) rfl dL_wet_17 (Nat.le_of_ble_eq_true rfl) (Nat.le_of_ble_eq_true rfl)

theorem kf_RL_61 : zCB RL 61 yX8_reaches cX8_reaches 3 (some .long) 2 ∧ Cond.instanceMethod yX8_reaches ∈ wAll ∧ Cond.selects yX8_reaches.cls yX8_reaches yX8_reaches ∈ wAll := ⟨⟨q_1048, q_1, q_1045, by decide +kernel⟩, q_1046, q_1047⟩
abbrev rmw_L_reaches : Room := { frames := 8, cells := 1, slots := 6, locals := 155 }
set_option maxHeartbeats 4000000 in
theorem zw_L_reaches (l : Launch) (D : va_G) (y : zY) (b : Nat) (a_bx : Nat) (c_bx : Nat → Int64) (x1 : Int32) (x2 : Int32) (wc : va_W) (fs : List Value) (q0 : Nat) (hb0 : wc[q0]? = some (b, .inr (8, fs))) (P : Option Value → va_W → Prop) (PX : String → va_W → Prop) (hC : zCx l D y yX8_reaches cX8_reaches 3 (some .long) rm_X8_reaches [.ref b, .int x1, .int x2] wc P PX) (hr : ∀ v w, P v w → ∃ r : Int64, v = some (.long r)) (hE : ∀ E w, PX E w → E = "java/lang/IndexOutOfBoundsException") : zCw l D y yL_reaches cL_reaches 5 (some .int) [(0, 9, 12, 19)] rmw_L_reaches [.ref b, .int x1, .int x2, .ref a_bx] ([(a_bx, .inl (y.2.1, 1, .inr (.inl c_bx)))] ++ wc) (fun v w => (∃ r w1, P (some (.long r)) w1 ∧ v = some (.int 0) ∧ w = ([(a_bx, .inl (y.2.1, 1, .inr (.inl (vp_updL c_bx 0 r))))] ++ w1)) ∨ (∃ E w1, PX E w1 ∧ ((E = "java/lang/IndexOutOfBoundsException" ∧ v = some (.int 1))) ∧ w = ([(a_bx, .inl (y.2.1, 1, .inr (.inl c_bx)))] ++ w1))) := by
  refine zmkw (by decide) (Nat.le_of_ble_eq_true rfl) ?_
  intro p e s m args below meth c A Q ls X hQ htab hP hD hS hl
  have X : zX p s m args meth c D y A RL cL_reaches 5 (some .int) := X
  obtain ⟨hx, hb, hr9, hml, hown, hts, hK, hA, hlocks⟩ := id X
  have hl : lv_has ls 5 [(0, .ref b), (1, .int x1), (2, .int x2), (3, .ref a_bx)] := hl
  refine lv_aload_n hx hb dL_reaches_0 rfl (lv_at hl 3 rfl) ?_
  refine lv_iconst (v := 0) hx hb dL_reaches_1 (by decide) ?_
  refine lv_aload_n hx hb dL_reaches_2 rfl (lv_at hl 0 rfl) ?_
  refine lv_iload_n hx hb dL_reaches_3 rfl (lv_at hl 1 rfl) ?_
  refine lv_iload_n hx hb dL_reaches_4 rfl (lv_at hl 2 rfl) ?_
  refine zhVs (wr := [(a_bx, .inl (y.2.1, 1, .inr (.inl c_bx)))]) (rest := [.int (0 : Int32), .ref a_bx]) X hC kf_RL_61 ⟨(Nat.le_of_ble_eq_true rfl), (Nat.le_of_ble_eq_true rfl)⟩ hP hD hS q0 rfl hb0 rfl rfl hl.1 (Nat.le_of_ble_eq_true rfl) dL_reaches_5 ⟨(Nat.le_of_ble_eq_true rfl), (Nat.le_of_ble_eq_true rfl)⟩ (fun E w hp q ce H locs hP hD hS hce hcv hcc => ?_) (fun v w hp H locs hP hD hS => ?_)
  · rcases hE E w hp with rfl
    · refine zcat (hh := [(0, 9, 12, 19)]) (p1 := []) (h := (0, 9, 12, 19)) (p2 := []) (name := "java/lang/IndexOutOfBoundsException") X htab rfl (fun _ h => absurd h List.not_mem_nil) (by decide) (by decide) q_833 (by decide +kernel) hce hcv hcc ?_
      refine lv_astore (lv' := [(4, .ref q), (0, .ref b), (1, .int x1), (2, .int x2), (3, .ref a_bx)]) hx hb dL_reaches_12 hl (by decide) rfl (fun ls hl => ?_)
      refine lv_iconst (v := 1) hx hb dL_reaches_14 (by decide) ?_
      exact zreti X hQ hP hD hS (Or.inr ⟨_, w, hp, ⟨rfl, rfl⟩, rfl⟩) rfl dL_reaches_15 (Nat.le_of_ble_eq_true rfl) (Nat.le_of_ble_eq_true rfl)
  obtain ⟨r, rfl⟩ := hr v w hp
  show W p l e rmw_L_reaches s m args below meth c H locs _ _ Q (F0 m 8 ls [.long r, .int (0 : Int32), .ref a_bx])
  refine va_last hx hb hK hP hD hS 0 1 rfl rfl (by unfold vp_in; decide) dL_reaches_8 (fun H locs hP hD hS => ?_)
  have hP : va_P D vwCl ([(a_bx, .inl (y.2.1, 1, .inr (.inl (vp_updL c_bx 0 r))))] ++ w) H := hP
  have hD : va_D A ([(a_bx, .inl (y.2.1, 1, .inr (.inl (vp_updL c_bx 0 r))))] ++ w) := hD
  refine lv_goto (tgt := 16) hx hb dL_reaches_9 (by decide) ?_
  refine lv_iconst (v := 0) hx hb dL_reaches_16 (by decide) ?_
  exact zreti X hQ hP hD hS (Or.inl ⟨r, w, hp, rfl, rfl⟩) rfl dL_reaches_17 (Nat.le_of_ble_eq_true rfl) (Nat.le_of_ble_eq_true rfl)

theorem kf_RL_64 : zCB RL 64 yX8_parted cX8_parted 8 (some .long) 2 ∧ Cond.instanceMethod yX8_parted ∈ wAll ∧ Cond.selects yX8_parted.cls yX8_parted yX8_parted ∈ wAll := ⟨⟨q_1056, q_1, q_1053, by decide +kernel⟩, q_1054, q_1055⟩
abbrev rmw_L_parted : Room := { frames := 8, cells := 1, slots := 6, locals := 160 }
set_option maxHeartbeats 4000000 in
theorem zw_L_parted (l : Launch) (D : va_G) (y : zY) (b : Nat) (a_bx : Nat) (c_bx : Nat → Int64) (x1 : Int32) (x2 : Int32) (wc : va_W) (fs : List Value) (q0 : Nat) (hb0 : wc[q0]? = some (b, .inr (8, fs))) (P : Option Value → va_W → Prop) (PX : String → va_W → Prop) (hC : zCx l D y yX8_parted cX8_parted 8 (some .long) rm_X8_parted [.ref b, .int x1, .int x2] wc P PX) (hr : ∀ v w, P v w → ∃ r : Int64, v = some (.long r)) (hE : ∀ E w, PX E w → E = "java/lang/IndexOutOfBoundsException") : zCw l D y yL_parted cL_parted 5 (some .int) [(0, 9, 12, 19)] rmw_L_parted [.ref b, .int x1, .int x2, .ref a_bx] ([(a_bx, .inl (y.2.1, 1, .inr (.inl c_bx)))] ++ wc) (fun v w => (∃ r w1, P (some (.long r)) w1 ∧ v = some (.int 0) ∧ w = ([(a_bx, .inl (y.2.1, 1, .inr (.inl (vp_updL c_bx 0 r))))] ++ w1)) ∨ (∃ E w1, PX E w1 ∧ ((E = "java/lang/IndexOutOfBoundsException" ∧ v = some (.int 1))) ∧ w = ([(a_bx, .inl (y.2.1, 1, .inr (.inl c_bx)))] ++ w1))) := by
  refine zmkw (by decide) (Nat.le_of_ble_eq_true rfl) ?_
  intro p e s m args below meth c A Q ls X hQ htab hP hD hS hl
  have X : zX p s m args meth c D y A RL cL_parted 5 (some .int) := X
  obtain ⟨hx, hb, hr9, hml, hown, hts, hK, hA, hlocks⟩ := id X
  have hl : lv_has ls 5 [(0, .ref b), (1, .int x1), (2, .int x2), (3, .ref a_bx)] := hl
  refine lv_aload_n hx hb dL_parted_0 rfl (lv_at hl 3 rfl) ?_
  refine lv_iconst (v := 0) hx hb dL_parted_1 (by decide) ?_
  refine lv_aload_n hx hb dL_parted_2 rfl (lv_at hl 0 rfl) ?_
  refine lv_iload_n hx hb dL_parted_3 rfl (lv_at hl 1 rfl) ?_
  refine lv_iload_n hx hb dL_parted_4 rfl (lv_at hl 2 rfl) ?_
  refine zhVs (wr := [(a_bx, .inl (y.2.1, 1, .inr (.inl c_bx)))]) (rest := [.int (0 : Int32), .ref a_bx]) X hC kf_RL_64 ⟨(Nat.le_of_ble_eq_true rfl), (Nat.le_of_ble_eq_true rfl)⟩ hP hD hS q0 rfl hb0 rfl rfl hl.1 (Nat.le_of_ble_eq_true rfl) dL_parted_5 ⟨(Nat.le_of_ble_eq_true rfl), (Nat.le_of_ble_eq_true rfl)⟩ (fun E w hp q ce H locs hP hD hS hce hcv hcc => ?_) (fun v w hp H locs hP hD hS => ?_)
  · rcases hE E w hp with rfl
    · refine zcat (hh := [(0, 9, 12, 19)]) (p1 := []) (h := (0, 9, 12, 19)) (p2 := []) (name := "java/lang/IndexOutOfBoundsException") X htab rfl (fun _ h => absurd h List.not_mem_nil) (by decide) (by decide) q_833 (by decide +kernel) hce hcv hcc ?_
      refine lv_astore (lv' := [(4, .ref q), (0, .ref b), (1, .int x1), (2, .int x2), (3, .ref a_bx)]) hx hb dL_parted_12 hl (by decide) rfl (fun ls hl => ?_)
      refine lv_iconst (v := 1) hx hb dL_parted_14 (by decide) ?_
      exact zreti X hQ hP hD hS (Or.inr ⟨_, w, hp, ⟨rfl, rfl⟩, rfl⟩) rfl dL_parted_15 (Nat.le_of_ble_eq_true rfl) (Nat.le_of_ble_eq_true rfl)
  obtain ⟨r, rfl⟩ := hr v w hp
  show W p l e rmw_L_parted s m args below meth c H locs _ _ Q (F0 m 8 ls [.long r, .int (0 : Int32), .ref a_bx])
  refine va_last hx hb hK hP hD hS 0 1 rfl rfl (by unfold vp_in; decide) dL_parted_8 (fun H locs hP hD hS => ?_)
  have hP : va_P D vwCl ([(a_bx, .inl (y.2.1, 1, .inr (.inl (vp_updL c_bx 0 r))))] ++ w) H := hP
  have hD : va_D A ([(a_bx, .inl (y.2.1, 1, .inr (.inl (vp_updL c_bx 0 r))))] ++ w) := hD
  refine lv_goto (tgt := 16) hx hb dL_parted_9 (by decide) ?_
  refine lv_iconst (v := 0) hx hb dL_parted_16 (by decide) ?_
  exact zreti X hQ hP hD hS (Or.inl ⟨r, w, hp, rfl, rfl⟩) rfl dL_parted_17 (Nat.le_of_ble_eq_true rfl) (Nat.le_of_ble_eq_true rfl)

theorem kf_RL_67 : zCB RL 67 yX8_pair cX8_pair 10 (some .long) 3 ∧ Cond.instanceMethod yX8_pair ∈ wAll ∧ Cond.selects yX8_pair.cls yX8_pair yX8_pair ∈ wAll := ⟨⟨q_1072, q_1, q_1069, by decide +kernel⟩, q_1070, q_1071⟩
abbrev rmw_L_pair : Room := { frames := 8, cells := 2, slots := 12, locals := 162 }
set_option maxHeartbeats 4000000 in
theorem zw_L_pair (l : Launch) (D : va_G) (y : zY) (b : Nat) (a_bx : Nat) (c_bx : Nat → Int64) (x1 : Int32) (x2 : Int32) (x3 : Int32) (wc : va_W) (fs : List Value) (q0 : Nat) (hb0 : wc[q0]? = some (b, .inr (8, fs))) (P : Option Value → va_W → Prop) (PX : String → va_W → Prop) (hC : zCx l D y yX8_pair cX8_pair 10 (some .long) rm_X8_pair [.ref b, .int x1, .int x2, .int x3] wc P PX) (hr : ∀ v w, P v w → ∃ r : Int64, v = some (.long r)) (hE : ∀ E w, PX E w → E = "java/lang/IndexOutOfBoundsException") : zCw l D y yL_pair cL_pair 6 (some .int) [(0, 11, 14, 19)] rmw_L_pair [.ref b, .int x1, .int x2, .int x3, .ref a_bx] ([(a_bx, .inl (y.2.1, 1, .inr (.inl c_bx)))] ++ wc) (fun v w => (∃ r w1, P (some (.long r)) w1 ∧ v = some (.int 0) ∧ w = ([(a_bx, .inl (y.2.1, 1, .inr (.inl (vp_updL c_bx 0 r))))] ++ w1)) ∨ (∃ E w1, PX E w1 ∧ ((E = "java/lang/IndexOutOfBoundsException" ∧ v = some (.int 1))) ∧ w = ([(a_bx, .inl (y.2.1, 1, .inr (.inl c_bx)))] ++ w1))) := by
  refine zmkw (by decide) (Nat.le_of_ble_eq_true rfl) ?_
  intro p e s m args below meth c A Q ls X hQ htab hP hD hS hl
  have X : zX p s m args meth c D y A RL cL_pair 6 (some .int) := X
  obtain ⟨hx, hb, hr9, hml, hown, hts, hK, hA, hlocks⟩ := id X
  have hl : lv_has ls 6 [(0, .ref b), (1, .int x1), (2, .int x2), (3, .int x3), (4, .ref a_bx)] := hl
  refine lv_aload hx hb dL_pair_0 (lv_at hl 4 rfl) ?_
  refine lv_iconst (v := 0) hx hb dL_pair_2 (by decide) ?_
  refine lv_aload_n hx hb dL_pair_3 rfl (lv_at hl 0 rfl) ?_
  refine lv_iload_n hx hb dL_pair_4 rfl (lv_at hl 1 rfl) ?_
  refine lv_iload_n hx hb dL_pair_5 rfl (lv_at hl 2 rfl) ?_
  refine lv_iload_n hx hb dL_pair_6 rfl (lv_at hl 3 rfl) ?_
  refine zhVs (wr := [(a_bx, .inl (y.2.1, 1, .inr (.inl c_bx)))]) (rest := [.int (0 : Int32), .ref a_bx]) X hC kf_RL_67 ⟨(Nat.le_of_ble_eq_true rfl), (Nat.le_of_ble_eq_true rfl)⟩ hP hD hS q0 rfl hb0 rfl rfl hl.1 (Nat.le_of_ble_eq_true rfl) dL_pair_7 ⟨(Nat.le_of_ble_eq_true rfl), (Nat.le_of_ble_eq_true rfl)⟩ (fun E w hp q ce H locs hP hD hS hce hcv hcc => ?_) (fun v w hp H locs hP hD hS => ?_)
  · rcases hE E w hp with rfl
    · refine zcat (hh := [(0, 11, 14, 19)]) (p1 := []) (h := (0, 11, 14, 19)) (p2 := []) (name := "java/lang/IndexOutOfBoundsException") X htab rfl (fun _ h => absurd h List.not_mem_nil) (by decide) (by decide) q_833 (by decide +kernel) hce hcv hcc ?_
      refine lv_astore (lv' := [(5, .ref q), (0, .ref b), (1, .int x1), (2, .int x2), (3, .int x3), (4, .ref a_bx)]) hx hb dL_pair_14 hl (by decide) rfl (fun ls hl => ?_)
      refine lv_iconst (v := 1) hx hb dL_pair_16 (by decide) ?_
      exact zreti X hQ hP hD hS (Or.inr ⟨_, w, hp, ⟨rfl, rfl⟩, rfl⟩) rfl dL_pair_17 (Nat.le_of_ble_eq_true rfl) (Nat.le_of_ble_eq_true rfl)
  obtain ⟨r, rfl⟩ := hr v w hp
  show W p l e rmw_L_pair s m args below meth c H locs _ _ Q (F0 m 10 ls [.long r, .int (0 : Int32), .ref a_bx])
  refine va_last hx hb hK hP hD hS 0 1 rfl rfl (by unfold vp_in; decide) dL_pair_10 (fun H locs hP hD hS => ?_)
  have hP : va_P D vwCl ([(a_bx, .inl (y.2.1, 1, .inr (.inl (vp_updL c_bx 0 r))))] ++ w) H := hP
  have hD : va_D A ([(a_bx, .inl (y.2.1, 1, .inr (.inl (vp_updL c_bx 0 r))))] ++ w) := hD
  refine lv_goto (tgt := 18) hx hb dL_pair_11 (by decide) ?_
  refine lv_iconst (v := 0) hx hb dL_pair_18 (by decide) ?_
  exact zreti X hQ hP hD hS (Or.inl ⟨r, w, hp, rfl, rfl⟩) rfl dL_pair_19 (Nat.le_of_ble_eq_true rfl) (Nat.le_of_ble_eq_true rfl)

theorem kf_RL_70 : zCB RL 70 yX8_tried cX8_tried 3 (some .int) 2 ∧ Cond.instanceMethod yX8_tried ∈ wAll ∧ Cond.selects yX8_tried.cls yX8_tried yX8_tried ∈ wAll := ⟨⟨q_1079, q_1, q_1076, by decide +kernel⟩, q_1077, q_1078⟩
abbrev rmw_L_tried : Room := { frames := 8, cells := 1, slots := 6, locals := 143 }
set_option maxHeartbeats 4000000 in
theorem zw_L_tried (l : Launch) (D : va_G) (y : zY) (b : Nat) (a_bx : Nat) (c_bx : Nat → Int64) (x1 : Int32) (x2 : Int32) (wc : va_W) (fs : List Value) (q0 : Nat) (hb0 : wc[q0]? = some (b, .inr (8, fs))) (P : Option Value → va_W → Prop) (PX : String → va_W → Prop) (hC : zCx l D y yX8_tried cX8_tried 3 (some .int) rm_X8_tried [.ref b, .int x1, .int x2] wc P PX) (hr : ∀ v w, P v w → ∃ r : Int32, v = some (.int r)) (hE : ∀ E w, PX E w → E = "java/lang/IllegalStateException") : zCw l D y yL_tried cL_tried 5 (some .int) [(0, 10, 13, 29)] rmw_L_tried [.ref b, .int x1, .int x2, .ref a_bx] ([(a_bx, .inl (y.2.1, 1, .inr (.inl c_bx)))] ++ wc) (fun v w => (∃ r w1, P (some (.int r)) w1 ∧ v = some (.int 0) ∧ w = ([(a_bx, .inl (y.2.1, 1, .inr (.inl (vp_updL c_bx 0 r.toInt64))))] ++ w1)) ∨ (∃ E w1, PX E w1 ∧ ((E = "java/lang/IllegalStateException" ∧ v = some (.int 1))) ∧ w = ([(a_bx, .inl (y.2.1, 1, .inr (.inl c_bx)))] ++ w1))) := by
  refine zmkw (by decide) (Nat.le_of_ble_eq_true rfl) ?_
  intro p e s m args below meth c A Q ls X hQ htab hP hD hS hl
  have X : zX p s m args meth c D y A RL cL_tried 5 (some .int) := X
  obtain ⟨hx, hb, hr9, hml, hown, hts, hK, hA, hlocks⟩ := id X
  have hl : lv_has ls 5 [(0, .ref b), (1, .int x1), (2, .int x2), (3, .ref a_bx)] := hl
  refine lv_aload_n hx hb dL_tried_0 rfl (lv_at hl 3 rfl) ?_
  refine lv_iconst (v := 0) hx hb dL_tried_1 (by decide) ?_
  refine lv_aload_n hx hb dL_tried_2 rfl (lv_at hl 0 rfl) ?_
  refine lv_iload_n hx hb dL_tried_3 rfl (lv_at hl 1 rfl) ?_
  refine lv_iload_n hx hb dL_tried_4 rfl (lv_at hl 2 rfl) ?_
  refine zhVs (wr := [(a_bx, .inl (y.2.1, 1, .inr (.inl c_bx)))]) (rest := [.int (0 : Int32), .ref a_bx]) X hC kf_RL_70 ⟨(Nat.le_of_ble_eq_true rfl), (Nat.le_of_ble_eq_true rfl)⟩ hP hD hS q0 rfl hb0 rfl rfl hl.1 (Nat.le_of_ble_eq_true rfl) dL_tried_5 ⟨(Nat.le_of_ble_eq_true rfl), (Nat.le_of_ble_eq_true rfl)⟩ (fun E w hp q ce H locs hP hD hS hce hcv hcc => ?_) (fun v w hp H locs hP hD hS => ?_)
  · rcases hE E w hp with rfl
    · refine zcat (hh := [(0, 10, 13, 29)]) (p1 := []) (h := (0, 10, 13, 29)) (p2 := []) (name := "java/lang/IllegalStateException") X htab rfl (fun _ h => absurd h List.not_mem_nil) (by decide) (by decide) q_878 (by decide +kernel) hce hcv hcc ?_
      refine lv_astore (lv' := [(4, .ref q), (0, .ref b), (1, .int x1), (2, .int x2), (3, .ref a_bx)]) hx hb dL_tried_13 hl (by decide) rfl (fun ls hl => ?_)
      refine lv_iconst (v := 1) hx hb dL_tried_15 (by decide) ?_
      exact zreti X hQ hP hD hS (Or.inr ⟨_, w, hp, ⟨rfl, rfl⟩, rfl⟩) rfl dL_tried_16 (Nat.le_of_ble_eq_true rfl) (Nat.le_of_ble_eq_true rfl)
  obtain ⟨r, rfl⟩ := hr v w hp
  show W p l e rmw_L_tried s m args below meth c H locs _ _ Q (F0 m 8 ls [.int r, .int (0 : Int32), .ref a_bx])
  refine lv_i2l (v := r.toInt64) hx hb dL_tried_8 rfl ?_
  refine va_last hx hb hK hP hD hS 0 1 rfl rfl (by unfold vp_in; decide) dL_tried_9 (fun H locs hP hD hS => ?_)
  have hP : va_P D vwCl ([(a_bx, .inl (y.2.1, 1, .inr (.inl (vp_updL c_bx 0 r.toInt64))))] ++ w) H := hP
  have hD : va_D A ([(a_bx, .inl (y.2.1, 1, .inr (.inl (vp_updL c_bx 0 r.toInt64))))] ++ w) := hD
  refine lv_goto (tgt := 17) hx hb dL_tried_10 (by decide) ?_
  refine lv_iconst (v := 0) hx hb dL_tried_17 (by decide) ?_
  exact zreti X hQ hP hD hS (Or.inl ⟨r, w, hp, rfl, rfl⟩) rfl dL_tried_18 (Nat.le_of_ble_eq_true rfl) (Nat.le_of_ble_eq_true rfl)

theorem kf_RL_74 : zCB RL 74 yX8_just cX8_just 3 (some .int) 1 ∧ Cond.instanceMethod yX8_just ∈ wAll ∧ Cond.selects yX8_just.cls yX8_just yX8_just ∈ wAll := ⟨⟨q_1132, q_1, q_1129, by decide +kernel⟩, q_1130, q_1131⟩
abbrev rmw_L_just : Room := { frames := 8, cells := 1, slots := 6, locals := 143 }
set_option maxHeartbeats 4000000 in
theorem zw_L_just (l : Launch) (D : va_G) (y : zY) (b : Nat) (a_bx : Nat) (c_bx : Nat → Int64) (x1 : Int32) (wc : va_W) (fs : List Value) (q0 : Nat) (hb0 : wc[q0]? = some (b, .inr (8, fs))) (P : Option Value → va_W → Prop) (PX : String → va_W → Prop) (hC : zCx l D y yX8_just cX8_just 3 (some .int) rm_X8_just [.ref b, .int x1] wc P PX) (hr : ∀ v w, P v w → ∃ r : Int32, v = some (.int r)) (hE : ∀ E w, PX E w → E = "java/lang/IllegalStateException") : zCw l D y yL_just cL_just 4 (some .int) [(0, 9, 12, 29)] rmw_L_just [.ref b, .int x1, .ref a_bx] ([(a_bx, .inl (y.2.1, 1, .inr (.inl c_bx)))] ++ wc) (fun v w => (∃ r w1, P (some (.int r)) w1 ∧ v = some (.int 0) ∧ w = ([(a_bx, .inl (y.2.1, 1, .inr (.inl (vp_updL c_bx 0 r.toInt64))))] ++ w1)) ∨ (∃ E w1, PX E w1 ∧ ((E = "java/lang/IllegalStateException" ∧ v = some (.int 1))) ∧ w = ([(a_bx, .inl (y.2.1, 1, .inr (.inl c_bx)))] ++ w1))) := by
  refine zmkw (by decide) (Nat.le_of_ble_eq_true rfl) ?_
  intro p e s m args below meth c A Q ls X hQ htab hP hD hS hl
  have X : zX p s m args meth c D y A RL cL_just 4 (some .int) := X
  obtain ⟨hx, hb, hr9, hml, hown, hts, hK, hA, hlocks⟩ := id X
  have hl : lv_has ls 4 [(0, .ref b), (1, .int x1), (2, .ref a_bx)] := hl
  refine lv_aload_n hx hb dL_just_0 rfl (lv_at hl 2 rfl) ?_
  refine lv_iconst (v := 0) hx hb dL_just_1 (by decide) ?_
  refine lv_aload_n hx hb dL_just_2 rfl (lv_at hl 0 rfl) ?_
  refine lv_iload_n hx hb dL_just_3 rfl (lv_at hl 1 rfl) ?_
  refine zhVs (wr := [(a_bx, .inl (y.2.1, 1, .inr (.inl c_bx)))]) (rest := [.int (0 : Int32), .ref a_bx]) X hC kf_RL_74 ⟨(Nat.le_of_ble_eq_true rfl), (Nat.le_of_ble_eq_true rfl)⟩ hP hD hS q0 rfl hb0 rfl rfl hl.1 (Nat.le_of_ble_eq_true rfl) dL_just_4 ⟨(Nat.le_of_ble_eq_true rfl), (Nat.le_of_ble_eq_true rfl)⟩ (fun E w hp q ce H locs hP hD hS hce hcv hcc => ?_) (fun v w hp H locs hP hD hS => ?_)
  · rcases hE E w hp with rfl
    · refine zcat (hh := [(0, 9, 12, 29)]) (p1 := []) (h := (0, 9, 12, 29)) (p2 := []) (name := "java/lang/IllegalStateException") X htab rfl (fun _ h => absurd h List.not_mem_nil) (by decide) (by decide) q_878 (by decide +kernel) hce hcv hcc ?_
      refine lv_astore_n (lv' := [(3, .ref q), (0, .ref b), (1, .int x1), (2, .ref a_bx)]) hx hb dL_just_12 rfl hl (by decide) rfl (fun ls hl => ?_)
      refine lv_iconst (v := 1) hx hb dL_just_13 (by decide) ?_
      exact zreti X hQ hP hD hS (Or.inr ⟨_, w, hp, ⟨rfl, rfl⟩, rfl⟩) rfl dL_just_14 (Nat.le_of_ble_eq_true rfl) (Nat.le_of_ble_eq_true rfl)
  obtain ⟨r, rfl⟩ := hr v w hp
  show W p l e rmw_L_just s m args below meth c H locs _ _ Q (F0 m 7 ls [.int r, .int (0 : Int32), .ref a_bx])
  refine lv_i2l (v := r.toInt64) hx hb dL_just_7 rfl ?_
  refine va_last hx hb hK hP hD hS 0 1 rfl rfl (by unfold vp_in; decide) dL_just_8 (fun H locs hP hD hS => ?_)
  have hP : va_P D vwCl ([(a_bx, .inl (y.2.1, 1, .inr (.inl (vp_updL c_bx 0 r.toInt64))))] ++ w) H := hP
  have hD : va_D A ([(a_bx, .inl (y.2.1, 1, .inr (.inl (vp_updL c_bx 0 r.toInt64))))] ++ w) := hD
  refine lv_goto (tgt := 15) hx hb dL_just_9 (by decide) ?_
  refine lv_iconst (v := 0) hx hb dL_just_15 (by decide) ?_
  exact zreti X hQ hP hD hS (Or.inl ⟨r, w, hp, rfl, rfl⟩) rfl dL_just_16 (Nat.le_of_ble_eq_true rfl) (Nat.le_of_ble_eq_true rfl)

theorem kf_RL_77 : zCB RL 77 yX8_likeliest cX8_likeliest 11 (some .long) 2 ∧ Cond.instanceMethod yX8_likeliest ∈ wAll ∧ Cond.selects yX8_likeliest.cls yX8_likeliest yX8_likeliest ∈ wAll := ⟨⟨q_1147, q_1, q_1144, by decide +kernel⟩, q_1145, q_1146⟩
abbrev rmw_L_likeliest : Room := { frames := 8, cells := 1, slots := 6, locals := 163 }
set_option maxHeartbeats 4000000 in
theorem zw_L_likeliest (l : Launch) (D : va_G) (y : zY) (b : Nat) (a_bx : Nat) (c_bx : Nat → Int64) (x1 : Int32) (x2 : Int32) (wc : va_W) (fs : List Value) (q0 : Nat) (hb0 : wc[q0]? = some (b, .inr (8, fs))) (P : Option Value → va_W → Prop) (PX : String → va_W → Prop) (hC : zCx l D y yX8_likeliest cX8_likeliest 11 (some .long) rm_X8_likeliest [.ref b, .int x1, .int x2] wc P PX) (hr : ∀ v w, P v w → ∃ r : Int64, v = some (.long r)) (hE : ∀ E w, PX E w → E = "java/lang/IndexOutOfBoundsException") : zCw l D y yL_likeliest cL_likeliest 5 (some .int) [(0, 9, 12, 19)] rmw_L_likeliest [.ref b, .int x1, .int x2, .ref a_bx] ([(a_bx, .inl (y.2.1, 1, .inr (.inl c_bx)))] ++ wc) (fun v w => (∃ r w1, P (some (.long r)) w1 ∧ v = some (.int 0) ∧ w = ([(a_bx, .inl (y.2.1, 1, .inr (.inl (vp_updL c_bx 0 r))))] ++ w1)) ∨ (∃ E w1, PX E w1 ∧ ((E = "java/lang/IndexOutOfBoundsException" ∧ v = some (.int 1))) ∧ w = ([(a_bx, .inl (y.2.1, 1, .inr (.inl c_bx)))] ++ w1))) := by
  refine zmkw (by decide) (Nat.le_of_ble_eq_true rfl) ?_
  intro p e s m args below meth c A Q ls X hQ htab hP hD hS hl
  have X : zX p s m args meth c D y A RL cL_likeliest 5 (some .int) := X
  obtain ⟨hx, hb, hr9, hml, hown, hts, hK, hA, hlocks⟩ := id X
  have hl : lv_has ls 5 [(0, .ref b), (1, .int x1), (2, .int x2), (3, .ref a_bx)] := hl
  refine lv_aload_n hx hb dL_likeliest_0 rfl (lv_at hl 3 rfl) ?_
  refine lv_iconst (v := 0) hx hb dL_likeliest_1 (by decide) ?_
  refine lv_aload_n hx hb dL_likeliest_2 rfl (lv_at hl 0 rfl) ?_
  refine lv_iload_n hx hb dL_likeliest_3 rfl (lv_at hl 1 rfl) ?_
  refine lv_iload_n hx hb dL_likeliest_4 rfl (lv_at hl 2 rfl) ?_
  refine zhVs (wr := [(a_bx, .inl (y.2.1, 1, .inr (.inl c_bx)))]) (rest := [.int (0 : Int32), .ref a_bx]) X hC kf_RL_77 ⟨(Nat.le_of_ble_eq_true rfl), (Nat.le_of_ble_eq_true rfl)⟩ hP hD hS q0 rfl hb0 rfl rfl hl.1 (Nat.le_of_ble_eq_true rfl) dL_likeliest_5 ⟨(Nat.le_of_ble_eq_true rfl), (Nat.le_of_ble_eq_true rfl)⟩ (fun E w hp q ce H locs hP hD hS hce hcv hcc => ?_) (fun v w hp H locs hP hD hS => ?_)
  · rcases hE E w hp with rfl
    · refine zcat (hh := [(0, 9, 12, 19)]) (p1 := []) (h := (0, 9, 12, 19)) (p2 := []) (name := "java/lang/IndexOutOfBoundsException") X htab rfl (fun _ h => absurd h List.not_mem_nil) (by decide) (by decide) q_833 (by decide +kernel) hce hcv hcc ?_
      refine lv_astore (lv' := [(4, .ref q), (0, .ref b), (1, .int x1), (2, .int x2), (3, .ref a_bx)]) hx hb dL_likeliest_12 hl (by decide) rfl (fun ls hl => ?_)
      refine lv_iconst (v := 1) hx hb dL_likeliest_14 (by decide) ?_
      exact zreti X hQ hP hD hS (Or.inr ⟨_, w, hp, ⟨rfl, rfl⟩, rfl⟩) rfl dL_likeliest_15 (Nat.le_of_ble_eq_true rfl) (Nat.le_of_ble_eq_true rfl)
  obtain ⟨r, rfl⟩ := hr v w hp
  show W p l e rmw_L_likeliest s m args below meth c H locs _ _ Q (F0 m 8 ls [.long r, .int (0 : Int32), .ref a_bx])
  refine va_last hx hb hK hP hD hS 0 1 rfl rfl (by unfold vp_in; decide) dL_likeliest_8 (fun H locs hP hD hS => ?_)
  have hP : va_P D vwCl ([(a_bx, .inl (y.2.1, 1, .inr (.inl (vp_updL c_bx 0 r))))] ++ w) H := hP
  have hD : va_D A ([(a_bx, .inl (y.2.1, 1, .inr (.inl (vp_updL c_bx 0 r))))] ++ w) := hD
  refine lv_goto (tgt := 16) hx hb dL_likeliest_9 (by decide) ?_
  refine lv_iconst (v := 0) hx hb dL_likeliest_16 (by decide) ?_
  exact zreti X hQ hP hD hS (Or.inl ⟨r, w, hp, rfl, rfl⟩) rfl dL_likeliest_17 (Nat.le_of_ble_eq_true rfl) (Nat.le_of_ble_eq_true rfl)

theorem kf_RL_81 : zCB RL 81 yX8_between cX8_between 6 (some .int) 3 ∧ Cond.instanceMethod yX8_between ∈ wAll ∧ Cond.selects yX8_between.cls yX8_between yX8_between ∈ wAll := ⟨⟨q_1154, q_1, q_1151, by decide +kernel⟩, q_1152, q_1153⟩
abbrev rmw_L_between : Room := { frames := 7, cells := 1, slots := 6, locals := 115 }
set_option maxHeartbeats 4000000 in
theorem zw_L_between (l : Launch) (D : va_G) (y : zY) (b : Nat) (a_bx : Nat) (c_bx : Nat → Int64) (x1 : Int32) (x2 : Int32) (x3 : Int32) (wc : va_W) (fs : List Value) (q0 : Nat) (hb0 : wc[q0]? = some (b, .inr (8, fs))) (P : Option Value → va_W → Prop) (PX : String → va_W → Prop) (hC : zCx l D y yX8_between cX8_between 6 (some .int) rm_X8_between [.ref b, .int x1, .int x2, .int x3] wc P PX) (hr : ∀ v w, P v w → ∃ r : Int32, v = some (.int r)) (hE : ∀ E w, PX E w → E = "java/lang/IndexOutOfBoundsException") : zCw l D y yL_between cL_between 6 (some .int) [(0, 12, 15, 19)] rmw_L_between [.ref b, .int x1, .int x2, .int x3, .ref a_bx] ([(a_bx, .inl (y.2.1, 1, .inr (.inl c_bx)))] ++ wc) (fun v w => (∃ r w1, P (some (.int r)) w1 ∧ v = some (.int 0) ∧ w = ([(a_bx, .inl (y.2.1, 1, .inr (.inl (vp_updL c_bx 0 r.toInt64))))] ++ w1)) ∨ (∃ E w1, PX E w1 ∧ ((E = "java/lang/IndexOutOfBoundsException" ∧ v = some (.int 1))) ∧ w = ([(a_bx, .inl (y.2.1, 1, .inr (.inl c_bx)))] ++ w1))) := by
  refine zmkw (by decide) (Nat.le_of_ble_eq_true rfl) ?_
  intro p e s m args below meth c A Q ls X hQ htab hP hD hS hl
  have X : zX p s m args meth c D y A RL cL_between 6 (some .int) := X
  obtain ⟨hx, hb, hr9, hml, hown, hts, hK, hA, hlocks⟩ := id X
  have hl : lv_has ls 6 [(0, .ref b), (1, .int x1), (2, .int x2), (3, .int x3), (4, .ref a_bx)] := hl
  refine lv_aload hx hb dL_between_0 (lv_at hl 4 rfl) ?_
  refine lv_iconst (v := 0) hx hb dL_between_2 (by decide) ?_
  refine lv_aload_n hx hb dL_between_3 rfl (lv_at hl 0 rfl) ?_
  refine lv_iload_n hx hb dL_between_4 rfl (lv_at hl 1 rfl) ?_
  refine lv_iload_n hx hb dL_between_5 rfl (lv_at hl 2 rfl) ?_
  refine lv_iload_n hx hb dL_between_6 rfl (lv_at hl 3 rfl) ?_
  refine zhVs (wr := [(a_bx, .inl (y.2.1, 1, .inr (.inl c_bx)))]) (rest := [.int (0 : Int32), .ref a_bx]) X hC kf_RL_81 ⟨(Nat.le_of_ble_eq_true rfl), (Nat.le_of_ble_eq_true rfl)⟩ hP hD hS q0 rfl hb0 rfl rfl hl.1 (Nat.le_of_ble_eq_true rfl) dL_between_7 ⟨(Nat.le_of_ble_eq_true rfl), (Nat.le_of_ble_eq_true rfl)⟩ (fun E w hp q ce H locs hP hD hS hce hcv hcc => ?_) (fun v w hp H locs hP hD hS => ?_)
  · rcases hE E w hp with rfl
    · refine zcat (hh := [(0, 12, 15, 19)]) (p1 := []) (h := (0, 12, 15, 19)) (p2 := []) (name := "java/lang/IndexOutOfBoundsException") X htab rfl (fun _ h => absurd h List.not_mem_nil) (by decide) (by decide) q_833 (by decide +kernel) hce hcv hcc ?_
      refine lv_astore (lv' := [(5, .ref q), (0, .ref b), (1, .int x1), (2, .int x2), (3, .int x3), (4, .ref a_bx)]) hx hb dL_between_15 hl (by decide) rfl (fun ls hl => ?_)
      refine lv_iconst (v := 1) hx hb dL_between_17 (by decide) ?_
      exact zreti X hQ hP hD hS (Or.inr ⟨_, w, hp, ⟨rfl, rfl⟩, rfl⟩) rfl dL_between_18 (Nat.le_of_ble_eq_true rfl) (Nat.le_of_ble_eq_true rfl)
  obtain ⟨r, rfl⟩ := hr v w hp
  show W p l e rmw_L_between s m args below meth c H locs _ _ Q (F0 m 10 ls [.int r, .int (0 : Int32), .ref a_bx])
  refine lv_i2l (v := r.toInt64) hx hb dL_between_10 rfl ?_
  refine va_last hx hb hK hP hD hS 0 1 rfl rfl (by unfold vp_in; decide) dL_between_11 (fun H locs hP hD hS => ?_)
  have hP : va_P D vwCl ([(a_bx, .inl (y.2.1, 1, .inr (.inl (vp_updL c_bx 0 r.toInt64))))] ++ w) H := hP
  have hD : va_D A ([(a_bx, .inl (y.2.1, 1, .inr (.inl (vp_updL c_bx 0 r.toInt64))))] ++ w) := hD
  refine lv_goto (tgt := 19) hx hb dL_between_12 (by decide) ?_
  refine lv_iconst (v := 0) hx hb dL_between_19 (by decide) ?_
  exact zreti X hQ hP hD hS (Or.inl ⟨r, w, hp, rfl, rfl⟩) rfl dL_between_20 (Nat.le_of_ble_eq_true rfl) (Nat.le_of_ble_eq_true rfl)

theorem kf_RL_84 : zCB RL 84 yX8_value cX8_value 5 (some .long) 3 ∧ Cond.instanceMethod yX8_value ∈ wAll ∧ Cond.selects yX8_value.cls yX8_value yX8_value ∈ wAll := ⟨⟨q_1162, q_1, q_1159, by decide +kernel⟩, q_1160, q_1161⟩
abbrev rmw_L_value : Room := { frames := 8, cells := 1, slots := 6, locals := 157 }
set_option maxHeartbeats 4000000 in
theorem zw_L_value (l : Launch) (D : va_G) (y : zY) (b : Nat) (a_bx : Nat) (c_bx : Nat → Int64) (x1 : Int32) (x2 : Int32) (x3 : Int32) (wc : va_W) (fs : List Value) (q0 : Nat) (hb0 : wc[q0]? = some (b, .inr (8, fs))) (P : Option Value → va_W → Prop) (PX : String → va_W → Prop) (hC : zCx l D y yX8_value cX8_value 5 (some .long) rm_X8_value [.ref b, .int x1, .int x2, .int x3] wc P PX) (hr : ∀ v w, P v w → ∃ r : Int64, v = some (.long r)) (hE : ∀ E w, PX E w → E = "java/lang/IllegalArgumentException") : zCw l D y yL_value cL_value 6 (some .int) [(0, 11, 14, 13)] rmw_L_value [.ref b, .int x1, .int x2, .int x3, .ref a_bx] ([(a_bx, .inl (y.2.1, 1, .inr (.inl c_bx)))] ++ wc) (fun v w => (∃ r w1, P (some (.long r)) w1 ∧ v = some (.int 0) ∧ w = ([(a_bx, .inl (y.2.1, 1, .inr (.inl (vp_updL c_bx 0 r))))] ++ w1)) ∨ (∃ E w1, PX E w1 ∧ ((E = "java/lang/IllegalArgumentException" ∧ v = some (.int 1))) ∧ w = ([(a_bx, .inl (y.2.1, 1, .inr (.inl c_bx)))] ++ w1))) := by
  refine zmkw (by decide) (Nat.le_of_ble_eq_true rfl) ?_
  intro p e s m args below meth c A Q ls X hQ htab hP hD hS hl
  have X : zX p s m args meth c D y A RL cL_value 6 (some .int) := X
  obtain ⟨hx, hb, hr9, hml, hown, hts, hK, hA, hlocks⟩ := id X
  have hl : lv_has ls 6 [(0, .ref b), (1, .int x1), (2, .int x2), (3, .int x3), (4, .ref a_bx)] := hl
  refine lv_aload hx hb dL_value_0 (lv_at hl 4 rfl) ?_
  refine lv_iconst (v := 0) hx hb dL_value_2 (by decide) ?_
  refine lv_aload_n hx hb dL_value_3 rfl (lv_at hl 0 rfl) ?_
  refine lv_iload_n hx hb dL_value_4 rfl (lv_at hl 1 rfl) ?_
  refine lv_iload_n hx hb dL_value_5 rfl (lv_at hl 2 rfl) ?_
  refine lv_iload_n hx hb dL_value_6 rfl (lv_at hl 3 rfl) ?_
  refine zhVs (wr := [(a_bx, .inl (y.2.1, 1, .inr (.inl c_bx)))]) (rest := [.int (0 : Int32), .ref a_bx]) X hC kf_RL_84 ⟨(Nat.le_of_ble_eq_true rfl), (Nat.le_of_ble_eq_true rfl)⟩ hP hD hS q0 rfl hb0 rfl rfl hl.1 (Nat.le_of_ble_eq_true rfl) dL_value_7 ⟨(Nat.le_of_ble_eq_true rfl), (Nat.le_of_ble_eq_true rfl)⟩ (fun E w hp q ce H locs hP hD hS hce hcv hcc => ?_) (fun v w hp H locs hP hD hS => ?_)
  · rcases hE E w hp with rfl
    · refine zcat (hh := [(0, 11, 14, 13)]) (p1 := []) (h := (0, 11, 14, 13)) (p2 := []) (name := "java/lang/IllegalArgumentException") X htab rfl (fun _ h => absurd h List.not_mem_nil) (by decide) (by decide) q_614 (by decide +kernel) hce hcv hcc ?_
      refine lv_astore (lv' := [(5, .ref q), (0, .ref b), (1, .int x1), (2, .int x2), (3, .int x3), (4, .ref a_bx)]) hx hb dL_value_14 hl (by decide) rfl (fun ls hl => ?_)
      refine lv_iconst (v := 1) hx hb dL_value_16 (by decide) ?_
      exact zreti X hQ hP hD hS (Or.inr ⟨_, w, hp, ⟨rfl, rfl⟩, rfl⟩) rfl dL_value_17 (Nat.le_of_ble_eq_true rfl) (Nat.le_of_ble_eq_true rfl)
  obtain ⟨r, rfl⟩ := hr v w hp
  show W p l e rmw_L_value s m args below meth c H locs _ _ Q (F0 m 10 ls [.long r, .int (0 : Int32), .ref a_bx])
  refine va_last hx hb hK hP hD hS 0 1 rfl rfl (by unfold vp_in; decide) dL_value_10 (fun H locs hP hD hS => ?_)
  have hP : va_P D vwCl ([(a_bx, .inl (y.2.1, 1, .inr (.inl (vp_updL c_bx 0 r))))] ++ w) H := hP
  have hD : va_D A ([(a_bx, .inl (y.2.1, 1, .inr (.inl (vp_updL c_bx 0 r))))] ++ w) := hD
  refine lv_goto (tgt := 18) hx hb dL_value_11 (by decide) ?_
  refine lv_iconst (v := 0) hx hb dL_value_18 (by decide) ?_
  exact zreti X hQ hP hD hS (Or.inl ⟨r, w, hp, rfl, rfl⟩) rfl dL_value_19 (Nat.le_of_ble_eq_true rfl) (Nat.le_of_ble_eq_true rfl)

theorem kf_RL_88 : zCB RL 88 yX8_barred cX8_barred 9 (some .long) 3 ∧ Cond.instanceMethod yX8_barred ∈ wAll ∧ Cond.selects yX8_barred.cls yX8_barred yX8_barred ∈ wAll := ⟨⟨q_1175, q_1, q_1172, by decide +kernel⟩, q_1173, q_1174⟩
abbrev rmw_L_barred : Room := { frames := 8, cells := 1, slots := 6, locals := 161 }
set_option maxHeartbeats 4000000 in
theorem zw_L_barred (l : Launch) (D : va_G) (y : zY) (b : Nat) (a_bx : Nat) (c_bx : Nat → Int64) (x1 : Int32) (x2 : Int32) (x3 : Int32) (wc : va_W) (fs : List Value) (q0 : Nat) (hb0 : wc[q0]? = some (b, .inr (8, fs))) (P : Option Value → va_W → Prop) (PX : String → va_W → Prop) (hC : zCx l D y yX8_barred cX8_barred 9 (some .long) rm_X8_barred [.ref b, .int x1, .int x2, .int x3] wc P PX) (hr : ∀ v w, P v w → ∃ r : Int64, v = some (.long r)) (hE : ∀ E w, PX E w → E = "java/lang/IllegalArgumentException") : zCw l D y yL_barred cL_barred 6 (some .int) [(0, 11, 14, 13)] rmw_L_barred [.ref b, .int x1, .int x2, .int x3, .ref a_bx] ([(a_bx, .inl (y.2.1, 1, .inr (.inl c_bx)))] ++ wc) (fun v w => (∃ r w1, P (some (.long r)) w1 ∧ v = some (.int 0) ∧ w = ([(a_bx, .inl (y.2.1, 1, .inr (.inl (vp_updL c_bx 0 r))))] ++ w1)) ∨ (∃ E w1, PX E w1 ∧ ((E = "java/lang/IllegalArgumentException" ∧ v = some (.int 1))) ∧ w = ([(a_bx, .inl (y.2.1, 1, .inr (.inl c_bx)))] ++ w1))) := by
  refine zmkw (by decide) (Nat.le_of_ble_eq_true rfl) ?_
  intro p e s m args below meth c A Q ls X hQ htab hP hD hS hl
  have X : zX p s m args meth c D y A RL cL_barred 6 (some .int) := X
  obtain ⟨hx, hb, hr9, hml, hown, hts, hK, hA, hlocks⟩ := id X
  have hl : lv_has ls 6 [(0, .ref b), (1, .int x1), (2, .int x2), (3, .int x3), (4, .ref a_bx)] := hl
  refine lv_aload hx hb dL_barred_0 (lv_at hl 4 rfl) ?_
  refine lv_iconst (v := 0) hx hb dL_barred_2 (by decide) ?_
  refine lv_aload_n hx hb dL_barred_3 rfl (lv_at hl 0 rfl) ?_
  refine lv_iload_n hx hb dL_barred_4 rfl (lv_at hl 1 rfl) ?_
  refine lv_iload_n hx hb dL_barred_5 rfl (lv_at hl 2 rfl) ?_
  refine lv_iload_n hx hb dL_barred_6 rfl (lv_at hl 3 rfl) ?_
  refine zhVs (wr := [(a_bx, .inl (y.2.1, 1, .inr (.inl c_bx)))]) (rest := [.int (0 : Int32), .ref a_bx]) X hC kf_RL_88 ⟨(Nat.le_of_ble_eq_true rfl), (Nat.le_of_ble_eq_true rfl)⟩ hP hD hS q0 rfl hb0 rfl rfl hl.1 (Nat.le_of_ble_eq_true rfl) dL_barred_7 ⟨(Nat.le_of_ble_eq_true rfl), (Nat.le_of_ble_eq_true rfl)⟩ (fun E w hp q ce H locs hP hD hS hce hcv hcc => ?_) (fun v w hp H locs hP hD hS => ?_)
  · rcases hE E w hp with rfl
    · refine zcat (hh := [(0, 11, 14, 13)]) (p1 := []) (h := (0, 11, 14, 13)) (p2 := []) (name := "java/lang/IllegalArgumentException") X htab rfl (fun _ h => absurd h List.not_mem_nil) (by decide) (by decide) q_614 (by decide +kernel) hce hcv hcc ?_
      refine lv_astore (lv' := [(5, .ref q), (0, .ref b), (1, .int x1), (2, .int x2), (3, .int x3), (4, .ref a_bx)]) hx hb dL_barred_14 hl (by decide) rfl (fun ls hl => ?_)
      refine lv_iconst (v := 1) hx hb dL_barred_16 (by decide) ?_
      exact zreti X hQ hP hD hS (Or.inr ⟨_, w, hp, ⟨rfl, rfl⟩, rfl⟩) rfl dL_barred_17 (Nat.le_of_ble_eq_true rfl) (Nat.le_of_ble_eq_true rfl)
  obtain ⟨r, rfl⟩ := hr v w hp
  show W p l e rmw_L_barred s m args below meth c H locs _ _ Q (F0 m 10 ls [.long r, .int (0 : Int32), .ref a_bx])
  refine va_last hx hb hK hP hD hS 0 1 rfl rfl (by unfold vp_in; decide) dL_barred_10 (fun H locs hP hD hS => ?_)
  have hP : va_P D vwCl ([(a_bx, .inl (y.2.1, 1, .inr (.inl (vp_updL c_bx 0 r))))] ++ w) H := hP
  have hD : va_D A ([(a_bx, .inl (y.2.1, 1, .inr (.inl (vp_updL c_bx 0 r))))] ++ w) := hD
  refine lv_goto (tgt := 18) hx hb dL_barred_11 (by decide) ?_
  refine lv_iconst (v := 0) hx hb dL_barred_18 (by decide) ?_
  exact zreti X hQ hP hD hS (Or.inl ⟨r, w, hp, rfl, rfl⟩) rfl dL_barred_19 (Nat.le_of_ble_eq_true rfl) (Nat.le_of_ble_eq_true rfl)

theorem kf_RL_91 : zCB RL 91 yX8_would cX8_would 11 (some .long) 7 ∧ Cond.instanceMethod yX8_would ∈ wAll ∧ Cond.selects yX8_would.cls yX8_would yX8_would ∈ wAll := ⟨⟨q_1182, q_1, q_1179, by decide +kernel⟩, q_1180, q_1181⟩
abbrev rmw_L_would : Room := { frames := 9, cells := 5, slots := 32, locals := 187 }
set_option maxHeartbeats 4000000 in
theorem zw_L_would (l : Launch) (D : va_G) (y : zY) (b : Nat) (a_bx : Nat) (c_bx : Nat → Int64) (x1 : Int32) (x2 : Int32) (x3 : Int32) (x4 : Int32) (x5 : Int32) (x6 : Int32) (x7 : Int32) (wc : va_W) (fs : List Value) (q0 : Nat) (hb0 : wc[q0]? = some (b, .inr (8, fs))) (P : Option Value → va_W → Prop) (PX : String → va_W → Prop) (hC : zCx l D y yX8_would cX8_would 11 (some .long) rm_X8_would [.ref b, .int x1, .int x2, .int x3, .int x4, .int x5, .int x6, .int x7] wc P PX) (hr : ∀ v w, P v w → ∃ r : Int64, v = some (.long r)) (hE : ∀ E w, PX E w → E = "java/lang/IndexOutOfBoundsException" ∨ E = "java/lang/IllegalArgumentException" ∨ E = "java/lang/IllegalStateException") : zCw l D y yL_would cL_would 10 (some .int) [(0, 19, 22, 19), (0, 19, 26, 13), (0, 19, 30, 29)] rmw_L_would [.ref b, .int x1, .int x2, .int x3, .int x4, .int x5, .int x6, .int x7, .ref a_bx] ([(a_bx, .inl (y.2.1, 1, .inr (.inl c_bx)))] ++ wc) (fun v w => (∃ r w1, P (some (.long r)) w1 ∧ v = some (.int 0) ∧ w = ([(a_bx, .inl (y.2.1, 1, .inr (.inl (vp_updL c_bx 0 r))))] ++ w1)) ∨ (∃ E w1, PX E w1 ∧ ((E = "java/lang/IndexOutOfBoundsException" ∧ v = some (.int 1)) ∨ (E = "java/lang/IllegalArgumentException" ∧ v = some (.int 2)) ∨ (E = "java/lang/IllegalStateException" ∧ v = some (.int 3))) ∧ w = ([(a_bx, .inl (y.2.1, 1, .inr (.inl c_bx)))] ++ w1))) := by
  refine zmkw (by decide) (Nat.le_of_ble_eq_true rfl) ?_
  intro p e s m args below meth c A Q ls X hQ htab hP hD hS hl
  have X : zX p s m args meth c D y A RL cL_would 10 (some .int) := X
  obtain ⟨hx, hb, hr9, hml, hown, hts, hK, hA, hlocks⟩ := id X
  have hl : lv_has ls 10 [(0, .ref b), (1, .int x1), (2, .int x2), (3, .int x3), (4, .int x4), (5, .int x5), (6, .int x6), (7, .int x7), (8, .ref a_bx)] := hl
  refine lv_aload hx hb dL_would_0 (lv_at hl 8 rfl) ?_
  refine lv_iconst (v := 0) hx hb dL_would_2 (by decide) ?_
  refine lv_aload_n hx hb dL_would_3 rfl (lv_at hl 0 rfl) ?_
  refine lv_iload_n hx hb dL_would_4 rfl (lv_at hl 1 rfl) ?_
  refine lv_iload_n hx hb dL_would_5 rfl (lv_at hl 2 rfl) ?_
  refine lv_iload_n hx hb dL_would_6 rfl (lv_at hl 3 rfl) ?_
  refine lv_iload hx hb dL_would_7 (lv_at hl 4 rfl) ?_
  refine lv_iload hx hb dL_would_9 (lv_at hl 5 rfl) ?_
  refine lv_iload hx hb dL_would_11 (lv_at hl 6 rfl) ?_
  refine lv_iload hx hb dL_would_13 (lv_at hl 7 rfl) ?_
  refine zhVs (wr := [(a_bx, .inl (y.2.1, 1, .inr (.inl c_bx)))]) (rest := [.int (0 : Int32), .ref a_bx]) X hC kf_RL_91 ⟨(Nat.le_of_ble_eq_true rfl), (Nat.le_of_ble_eq_true rfl)⟩ hP hD hS q0 rfl hb0 rfl rfl hl.1 (Nat.le_of_ble_eq_true rfl) dL_would_15 ⟨(Nat.le_of_ble_eq_true rfl), (Nat.le_of_ble_eq_true rfl)⟩ (fun E w hp q ce H locs hP hD hS hce hcv hcc => ?_) (fun v w hp H locs hP hD hS => ?_)
  · rcases hE E w hp with rfl | rfl | rfl
    · refine zcat (hh := [(0, 19, 22, 19), (0, 19, 26, 13), (0, 19, 30, 29)]) (p1 := []) (h := (0, 19, 22, 19)) (p2 := [(0, 19, 26, 13), (0, 19, 30, 29)]) (name := "java/lang/IndexOutOfBoundsException") X htab rfl (fun _ h => absurd h List.not_mem_nil) (by decide) (by decide) q_833 (by decide +kernel) hce hcv hcc ?_
      refine lv_astore (lv' := [(9, .ref q), (0, .ref b), (1, .int x1), (2, .int x2), (3, .int x3), (4, .int x4), (5, .int x5), (6, .int x6), (7, .int x7), (8, .ref a_bx)]) hx hb dL_would_22 hl (by decide) rfl (fun ls hl => ?_)
      refine lv_iconst (v := 1) hx hb dL_would_24 (by decide) ?_
      exact zreti X hQ hP hD hS (Or.inr ⟨_, w, hp, (Or.inl ⟨rfl, rfl⟩), rfl⟩) rfl dL_would_25 (Nat.le_of_ble_eq_true rfl) (Nat.le_of_ble_eq_true rfl)
    · refine zcat (hh := [(0, 19, 22, 19), (0, 19, 26, 13), (0, 19, 30, 29)]) (p1 := [(0, 19, 22, 19)]) (h := (0, 19, 26, 13)) (p2 := [(0, 19, 30, 29)]) (name := "java/lang/IllegalArgumentException") X htab rfl (List.forall_mem_cons.mpr ⟨⟨by decide, "java/lang/IndexOutOfBoundsException", q_833, by decide +kernel⟩, (fun _ h => absurd h List.not_mem_nil)⟩) (by decide) (by decide) q_614 (by decide +kernel) hce hcv hcc ?_
      refine lv_astore (lv' := [(9, .ref q), (0, .ref b), (1, .int x1), (2, .int x2), (3, .int x3), (4, .int x4), (5, .int x5), (6, .int x6), (7, .int x7), (8, .ref a_bx)]) hx hb dL_would_26 hl (by decide) rfl (fun ls hl => ?_)
      refine lv_iconst (v := 2) hx hb dL_would_28 (by decide) ?_
      exact zreti X hQ hP hD hS (Or.inr ⟨_, w, hp, (Or.inr (Or.inl ⟨rfl, rfl⟩)), rfl⟩) rfl dL_would_29 (Nat.le_of_ble_eq_true rfl) (Nat.le_of_ble_eq_true rfl)
    · refine zcat (hh := [(0, 19, 22, 19), (0, 19, 26, 13), (0, 19, 30, 29)]) (p1 := [(0, 19, 22, 19), (0, 19, 26, 13)]) (h := (0, 19, 30, 29)) (p2 := []) (name := "java/lang/IllegalStateException") X htab rfl (List.forall_mem_cons.mpr ⟨⟨by decide, "java/lang/IndexOutOfBoundsException", q_833, by decide +kernel⟩, (List.forall_mem_cons.mpr ⟨⟨by decide, "java/lang/IllegalArgumentException", q_614, by decide +kernel⟩, (fun _ h => absurd h List.not_mem_nil)⟩)⟩) (by decide) (by decide) q_878 (by decide +kernel) hce hcv hcc ?_
      refine lv_astore (lv' := [(9, .ref q), (0, .ref b), (1, .int x1), (2, .int x2), (3, .int x3), (4, .int x4), (5, .int x5), (6, .int x6), (7, .int x7), (8, .ref a_bx)]) hx hb dL_would_30 hl (by decide) rfl (fun ls hl => ?_)
      refine lv_iconst (v := 3) hx hb dL_would_32 (by decide) ?_
      exact zreti X hQ hP hD hS (Or.inr ⟨_, w, hp, (Or.inr (Or.inr ⟨rfl, rfl⟩)), rfl⟩) rfl dL_would_33 (Nat.le_of_ble_eq_true rfl) (Nat.le_of_ble_eq_true rfl)
  obtain ⟨r, rfl⟩ := hr v w hp
  show W p l e rmw_L_would s m args below meth c H locs _ _ Q (F0 m 18 ls [.long r, .int (0 : Int32), .ref a_bx])
  refine va_last hx hb hK hP hD hS 0 1 rfl rfl (by unfold vp_in; decide) dL_would_18 (fun H locs hP hD hS => ?_)
  have hP : va_P D vwCl ([(a_bx, .inl (y.2.1, 1, .inr (.inl (vp_updL c_bx 0 r))))] ++ w) H := hP
  have hD : va_D A ([(a_bx, .inl (y.2.1, 1, .inr (.inl (vp_updL c_bx 0 r))))] ++ w) := hD
  refine lv_goto (tgt := 34) hx hb dL_would_19 (by decide) ?_
  refine lv_iconst (v := 0) hx hb dL_would_34 (by decide) ?_
  exact zreti X hQ hP hD hS (Or.inl ⟨r, w, hp, rfl, rfl⟩) rfl dL_would_35 (Nat.le_of_ble_eq_true rfl) (Nat.le_of_ble_eq_true rfl)

theorem kf_RL_95 : zCB RL 95 yX8_wetness cX8_wetness 12 (some .long) 3 ∧ Cond.instanceMethod yX8_wetness ∈ wAll ∧ Cond.selects yX8_wetness.cls yX8_wetness yX8_wetness ∈ wAll := ⟨⟨q_1199, q_1, q_1196, by decide +kernel⟩, q_1197, q_1198⟩
abbrev rmw_L_wetness : Room := { frames := 8, cells := 1, slots := 6, locals := 164 }
set_option maxHeartbeats 4000000 in
theorem zw_L_wetness (l : Launch) (D : va_G) (y : zY) (b : Nat) (a_bx : Nat) (c_bx : Nat → Int64) (x1 : Int32) (x2 : Int32) (x3 : Int32) (wc : va_W) (fs : List Value) (q0 : Nat) (hb0 : wc[q0]? = some (b, .inr (8, fs))) (P : Option Value → va_W → Prop) (PX : String → va_W → Prop) (hC : zCx l D y yX8_wetness cX8_wetness 12 (some .long) rm_X8_wetness [.ref b, .int x1, .int x2, .int x3] wc P PX) (hr : ∀ v w, P v w → ∃ r : Int64, v = some (.long r)) (hE : ∀ E w, PX E w → E = "java/lang/IllegalArgumentException") : zCw l D y yL_wetness cL_wetness 6 (some .int) [(0, 11, 14, 13)] rmw_L_wetness [.ref b, .int x1, .int x2, .int x3, .ref a_bx] ([(a_bx, .inl (y.2.1, 1, .inr (.inl c_bx)))] ++ wc) (fun v w => (∃ r w1, P (some (.long r)) w1 ∧ v = some (.int 0) ∧ w = ([(a_bx, .inl (y.2.1, 1, .inr (.inl (vp_updL c_bx 0 r))))] ++ w1)) ∨ (∃ E w1, PX E w1 ∧ ((E = "java/lang/IllegalArgumentException" ∧ v = some (.int 1))) ∧ w = ([(a_bx, .inl (y.2.1, 1, .inr (.inl c_bx)))] ++ w1))) := by
  refine zmkw (by decide) (Nat.le_of_ble_eq_true rfl) ?_
  intro p e s m args below meth c A Q ls X hQ htab hP hD hS hl
  have X : zX p s m args meth c D y A RL cL_wetness 6 (some .int) := X
  obtain ⟨hx, hb, hr9, hml, hown, hts, hK, hA, hlocks⟩ := id X
  have hl : lv_has ls 6 [(0, .ref b), (1, .int x1), (2, .int x2), (3, .int x3), (4, .ref a_bx)] := hl
  refine lv_aload hx hb dL_wetness_0 (lv_at hl 4 rfl) ?_
  refine lv_iconst (v := 0) hx hb dL_wetness_2 (by decide) ?_
  refine lv_aload_n hx hb dL_wetness_3 rfl (lv_at hl 0 rfl) ?_
  refine lv_iload_n hx hb dL_wetness_4 rfl (lv_at hl 1 rfl) ?_
  refine lv_iload_n hx hb dL_wetness_5 rfl (lv_at hl 2 rfl) ?_
  refine lv_iload_n hx hb dL_wetness_6 rfl (lv_at hl 3 rfl) ?_
  refine zhVs (wr := [(a_bx, .inl (y.2.1, 1, .inr (.inl c_bx)))]) (rest := [.int (0 : Int32), .ref a_bx]) X hC kf_RL_95 ⟨(Nat.le_of_ble_eq_true rfl), (Nat.le_of_ble_eq_true rfl)⟩ hP hD hS q0 rfl hb0 rfl rfl hl.1 (Nat.le_of_ble_eq_true rfl) dL_wetness_7 ⟨(Nat.le_of_ble_eq_true rfl), (Nat.le_of_ble_eq_true rfl)⟩ (fun E w hp q ce H locs hP hD hS hce hcv hcc => ?_) (fun v w hp H locs hP hD hS => ?_)
  · rcases hE E w hp with rfl
    · refine zcat (hh := [(0, 11, 14, 13)]) (p1 := []) (h := (0, 11, 14, 13)) (p2 := []) (name := "java/lang/IllegalArgumentException") X htab rfl (fun _ h => absurd h List.not_mem_nil) (by decide) (by decide) q_614 (by decide +kernel) hce hcv hcc ?_
      refine lv_astore (lv' := [(5, .ref q), (0, .ref b), (1, .int x1), (2, .int x2), (3, .int x3), (4, .ref a_bx)]) hx hb dL_wetness_14 hl (by decide) rfl (fun ls hl => ?_)
      refine lv_iconst (v := 1) hx hb dL_wetness_16 (by decide) ?_
      exact zreti X hQ hP hD hS (Or.inr ⟨_, w, hp, ⟨rfl, rfl⟩, rfl⟩) rfl dL_wetness_17 (Nat.le_of_ble_eq_true rfl) (Nat.le_of_ble_eq_true rfl)
  obtain ⟨r, rfl⟩ := hr v w hp
  show W p l e rmw_L_wetness s m args below meth c H locs _ _ Q (F0 m 10 ls [.long r, .int (0 : Int32), .ref a_bx])
  refine va_last hx hb hK hP hD hS 0 1 rfl rfl (by unfold vp_in; decide) dL_wetness_10 (fun H locs hP hD hS => ?_)
  have hP : va_P D vwCl ([(a_bx, .inl (y.2.1, 1, .inr (.inl (vp_updL c_bx 0 r))))] ++ w) H := hP
  have hD : va_D A ([(a_bx, .inl (y.2.1, 1, .inr (.inl (vp_updL c_bx 0 r))))] ++ w) := hD
  refine lv_goto (tgt := 18) hx hb dL_wetness_11 (by decide) ?_
  refine lv_iconst (v := 0) hx hb dL_wetness_18 (by decide) ?_
  exact zreti X hQ hP hD hS (Or.inl ⟨r, w, hp, rfl, rfl⟩) rfl dL_wetness_19 (Nat.le_of_ble_eq_true rfl) (Nat.le_of_ble_eq_true rfl)

theorem kf_RL_98 : zCB RL 98 yX8_depth cX8_depth 13 (some .long) 3 ∧ Cond.instanceMethod yX8_depth ∈ wAll ∧ Cond.selects yX8_depth.cls yX8_depth yX8_depth ∈ wAll := ⟨⟨q_1207, q_1, q_1204, by decide +kernel⟩, q_1205, q_1206⟩
abbrev rmw_L_depth : Room := { frames := 8, cells := 1, slots := 6, locals := 165 }
set_option maxHeartbeats 4000000 in
theorem zw_L_depth (l : Launch) (D : va_G) (y : zY) (b : Nat) (a_bx : Nat) (c_bx : Nat → Int64) (x1 : Int32) (x2 : Int32) (x3 : Int32) (wc : va_W) (fs : List Value) (q0 : Nat) (hb0 : wc[q0]? = some (b, .inr (8, fs))) (P : Option Value → va_W → Prop) (PX : String → va_W → Prop) (hC : zCx l D y yX8_depth cX8_depth 13 (some .long) rm_X8_depth [.ref b, .int x1, .int x2, .int x3] wc P PX) (hr : ∀ v w, P v w → ∃ r : Int64, v = some (.long r)) (hE : ∀ E w, PX E w → E = "java/lang/IllegalArgumentException") : zCw l D y yL_depth cL_depth 6 (some .int) [(0, 11, 14, 13)] rmw_L_depth [.ref b, .int x1, .int x2, .int x3, .ref a_bx] ([(a_bx, .inl (y.2.1, 1, .inr (.inl c_bx)))] ++ wc) (fun v w => (∃ r w1, P (some (.long r)) w1 ∧ v = some (.int 0) ∧ w = ([(a_bx, .inl (y.2.1, 1, .inr (.inl (vp_updL c_bx 0 r))))] ++ w1)) ∨ (∃ E w1, PX E w1 ∧ ((E = "java/lang/IllegalArgumentException" ∧ v = some (.int 1))) ∧ w = ([(a_bx, .inl (y.2.1, 1, .inr (.inl c_bx)))] ++ w1))) := by
  refine zmkw (by decide) (Nat.le_of_ble_eq_true rfl) ?_
  intro p e s m args below meth c A Q ls X hQ htab hP hD hS hl
  have X : zX p s m args meth c D y A RL cL_depth 6 (some .int) := X
  obtain ⟨hx, hb, hr9, hml, hown, hts, hK, hA, hlocks⟩ := id X
  have hl : lv_has ls 6 [(0, .ref b), (1, .int x1), (2, .int x2), (3, .int x3), (4, .ref a_bx)] := hl
  refine lv_aload hx hb dL_depth_0 (lv_at hl 4 rfl) ?_
  refine lv_iconst (v := 0) hx hb dL_depth_2 (by decide) ?_
  refine lv_aload_n hx hb dL_depth_3 rfl (lv_at hl 0 rfl) ?_
  refine lv_iload_n hx hb dL_depth_4 rfl (lv_at hl 1 rfl) ?_
  refine lv_iload_n hx hb dL_depth_5 rfl (lv_at hl 2 rfl) ?_
  refine lv_iload_n hx hb dL_depth_6 rfl (lv_at hl 3 rfl) ?_
  refine zhVs (wr := [(a_bx, .inl (y.2.1, 1, .inr (.inl c_bx)))]) (rest := [.int (0 : Int32), .ref a_bx]) X hC kf_RL_98 ⟨(Nat.le_of_ble_eq_true rfl), (Nat.le_of_ble_eq_true rfl)⟩ hP hD hS q0 rfl hb0 rfl rfl hl.1 (Nat.le_of_ble_eq_true rfl) dL_depth_7 ⟨(Nat.le_of_ble_eq_true rfl), (Nat.le_of_ble_eq_true rfl)⟩ (fun E w hp q ce H locs hP hD hS hce hcv hcc => ?_) (fun v w hp H locs hP hD hS => ?_)
  · rcases hE E w hp with rfl
    · refine zcat (hh := [(0, 11, 14, 13)]) (p1 := []) (h := (0, 11, 14, 13)) (p2 := []) (name := "java/lang/IllegalArgumentException") X htab rfl (fun _ h => absurd h List.not_mem_nil) (by decide) (by decide) q_614 (by decide +kernel) hce hcv hcc ?_
      refine lv_astore (lv' := [(5, .ref q), (0, .ref b), (1, .int x1), (2, .int x2), (3, .int x3), (4, .ref a_bx)]) hx hb dL_depth_14 hl (by decide) rfl (fun ls hl => ?_)
      refine lv_iconst (v := 1) hx hb dL_depth_16 (by decide) ?_
      exact zreti X hQ hP hD hS (Or.inr ⟨_, w, hp, ⟨rfl, rfl⟩, rfl⟩) rfl dL_depth_17 (Nat.le_of_ble_eq_true rfl) (Nat.le_of_ble_eq_true rfl)
  obtain ⟨r, rfl⟩ := hr v w hp
  show W p l e rmw_L_depth s m args below meth c H locs _ _ Q (F0 m 10 ls [.long r, .int (0 : Int32), .ref a_bx])
  refine va_last hx hb hK hP hD hS 0 1 rfl rfl (by unfold vp_in; decide) dL_depth_10 (fun H locs hP hD hS => ?_)
  have hP : va_P D vwCl ([(a_bx, .inl (y.2.1, 1, .inr (.inl (vp_updL c_bx 0 r))))] ++ w) H := hP
  have hD : va_D A ([(a_bx, .inl (y.2.1, 1, .inr (.inl (vp_updL c_bx 0 r))))] ++ w) := hD
  refine lv_goto (tgt := 18) hx hb dL_depth_11 (by decide) ?_
  refine lv_iconst (v := 0) hx hb dL_depth_18 (by decide) ?_
  exact zreti X hQ hP hD hS (Or.inl ⟨r, w, hp, rfl, rfl⟩) rfl dL_depth_19 (Nat.le_of_ble_eq_true rfl) (Nat.le_of_ble_eq_true rfl)

theorem kf_RL_101 : zCB RL 101 yX8_least cX8_least 3 (some .int) 2 ∧ Cond.instanceMethod yX8_least ∈ wAll ∧ Cond.selects yX8_least.cls yX8_least yX8_least ∈ wAll := ⟨⟨q_1218, q_1, q_1215, by decide +kernel⟩, q_1216, q_1217⟩
abbrev rmw_L_least : Room := { frames := 8, cells := 1, slots := 6, locals := 180 }
set_option maxHeartbeats 4000000 in
theorem zw_L_least (l : Launch) (D : va_G) (y : zY) (b : Nat) (a_bx : Nat) (c_bx : Nat → Int64) (x1 : Int32) (x2 : Int32) (wc : va_W) (fs : List Value) (q0 : Nat) (hb0 : wc[q0]? = some (b, .inr (8, fs))) (P : Option Value → va_W → Prop) (PX : String → va_W → Prop) (hC : zCx l D y yX8_least cX8_least 3 (some .int) rm_X8_least [.ref b, .int x1, .int x2] wc P PX) (hr : ∀ v w, P v w → ∃ r : Int32, v = some (.int r)) (hE : ∀ E w, PX E w → E = "java/lang/IllegalArgumentException") : zCw l D y yL_least cL_least 5 (some .int) [(0, 10, 13, 13)] rmw_L_least [.ref b, .int x1, .int x2, .ref a_bx] ([(a_bx, .inl (y.2.1, 1, .inr (.inl c_bx)))] ++ wc) (fun v w => (∃ r w1, P (some (.int r)) w1 ∧ v = some (.int 0) ∧ w = ([(a_bx, .inl (y.2.1, 1, .inr (.inl (vp_updL c_bx 0 r.toInt64))))] ++ w1)) ∨ (∃ E w1, PX E w1 ∧ ((E = "java/lang/IllegalArgumentException" ∧ v = some (.int 1))) ∧ w = ([(a_bx, .inl (y.2.1, 1, .inr (.inl c_bx)))] ++ w1))) := by
  refine zmkw (by decide) (Nat.le_of_ble_eq_true rfl) ?_
  intro p e s m args below meth c A Q ls X hQ htab hP hD hS hl
  have X : zX p s m args meth c D y A RL cL_least 5 (some .int) := X
  obtain ⟨hx, hb, hr9, hml, hown, hts, hK, hA, hlocks⟩ := id X
  have hl : lv_has ls 5 [(0, .ref b), (1, .int x1), (2, .int x2), (3, .ref a_bx)] := hl
  refine lv_aload_n hx hb dL_least_0 rfl (lv_at hl 3 rfl) ?_
  refine lv_iconst (v := 0) hx hb dL_least_1 (by decide) ?_
  refine lv_aload_n hx hb dL_least_2 rfl (lv_at hl 0 rfl) ?_
  refine lv_iload_n hx hb dL_least_3 rfl (lv_at hl 1 rfl) ?_
  refine lv_iload_n hx hb dL_least_4 rfl (lv_at hl 2 rfl) ?_
  refine zhVs (wr := [(a_bx, .inl (y.2.1, 1, .inr (.inl c_bx)))]) (rest := [.int (0 : Int32), .ref a_bx]) X hC kf_RL_101 ⟨(Nat.le_of_ble_eq_true rfl), (Nat.le_of_ble_eq_true rfl)⟩ hP hD hS q0 rfl hb0 rfl rfl hl.1 (Nat.le_of_ble_eq_true rfl) dL_least_5 ⟨(Nat.le_of_ble_eq_true rfl), (Nat.le_of_ble_eq_true rfl)⟩ (fun E w hp q ce H locs hP hD hS hce hcv hcc => ?_) (fun v w hp H locs hP hD hS => ?_)
  · rcases hE E w hp with rfl
    · refine zcat (hh := [(0, 10, 13, 13)]) (p1 := []) (h := (0, 10, 13, 13)) (p2 := []) (name := "java/lang/IllegalArgumentException") X htab rfl (fun _ h => absurd h List.not_mem_nil) (by decide) (by decide) q_614 (by decide +kernel) hce hcv hcc ?_
      refine lv_astore (lv' := [(4, .ref q), (0, .ref b), (1, .int x1), (2, .int x2), (3, .ref a_bx)]) hx hb dL_least_13 hl (by decide) rfl (fun ls hl => ?_)
      refine lv_iconst (v := 1) hx hb dL_least_15 (by decide) ?_
      exact zreti X hQ hP hD hS (Or.inr ⟨_, w, hp, ⟨rfl, rfl⟩, rfl⟩) rfl dL_least_16 (Nat.le_of_ble_eq_true rfl) (Nat.le_of_ble_eq_true rfl)
  obtain ⟨r, rfl⟩ := hr v w hp
  show W p l e rmw_L_least s m args below meth c H locs _ _ Q (F0 m 8 ls [.int r, .int (0 : Int32), .ref a_bx])
  refine lv_i2l (v := r.toInt64) hx hb dL_least_8 rfl ?_
  refine va_last hx hb hK hP hD hS 0 1 rfl rfl (by unfold vp_in; decide) dL_least_9 (fun H locs hP hD hS => ?_)
  have hP : va_P D vwCl ([(a_bx, .inl (y.2.1, 1, .inr (.inl (vp_updL c_bx 0 r.toInt64))))] ++ w) H := hP
  have hD : va_D A ([(a_bx, .inl (y.2.1, 1, .inr (.inl (vp_updL c_bx 0 r.toInt64))))] ++ w) := hD
  refine lv_goto (tgt := 17) hx hb dL_least_10 (by decide) ?_
  refine lv_iconst (v := 0) hx hb dL_least_17 (by decide) ?_
  exact zreti X hQ hP hD hS (Or.inl ⟨r, w, hp, rfl, rfl⟩) rfl dL_least_18 (Nat.le_of_ble_eq_true rfl) (Nat.le_of_ble_eq_true rfl)

theorem kf_RL_104 : zCB RL 104 yX8_decides cX8_decides 8 (some .long) 4 ∧ Cond.instanceMethod yX8_decides ∈ wAll ∧ Cond.selects yX8_decides.cls yX8_decides yX8_decides ∈ wAll := ⟨⟨q_1226, q_1, q_1223, by decide +kernel⟩, q_1224, q_1225⟩
abbrev rmw_L_decides : Room := { frames := 8, cells := 4, slots := 28, locals := 184 }
set_option maxHeartbeats 4000000 in
theorem zw_L_decides (l : Launch) (D : va_G) (y : zY) (b : Nat) (a_bx : Nat) (c_bx : Nat → Int64) (x1 : Int32) (x2 : Int32) (x3 : Int32) (x4 : Int32) (wc : va_W) (fs : List Value) (q0 : Nat) (hb0 : wc[q0]? = some (b, .inr (8, fs))) (P : Option Value → va_W → Prop) (PX : String → va_W → Prop) (hC : zCx l D y yX8_decides cX8_decides 8 (some .long) rm_X8_decides [.ref b, .int x1, .int x2, .int x3, .int x4] wc P PX) (hr : ∀ v w, P v w → ∃ r : Int64, v = some (.long r)) (hE : ∀ E w, PX E w → E = "java/lang/IndexOutOfBoundsException" ∨ E = "java/lang/IllegalStateException") : zCw l D y yL_decides cL_decides 7 (some .int) [(0, 13, 16, 19), (0, 13, 20, 29)] rmw_L_decides [.ref b, .int x1, .int x2, .int x3, .int x4, .ref a_bx] ([(a_bx, .inl (y.2.1, 1, .inr (.inl c_bx)))] ++ wc) (fun v w => (∃ r w1, P (some (.long r)) w1 ∧ v = some (.int 0) ∧ w = ([(a_bx, .inl (y.2.1, 1, .inr (.inl (vp_updL c_bx 0 r))))] ++ w1)) ∨ (∃ E w1, PX E w1 ∧ ((E = "java/lang/IndexOutOfBoundsException" ∧ v = some (.int 1)) ∨ (E = "java/lang/IllegalStateException" ∧ v = some (.int 2))) ∧ w = ([(a_bx, .inl (y.2.1, 1, .inr (.inl c_bx)))] ++ w1))) := by
  refine zmkw (by decide) (Nat.le_of_ble_eq_true rfl) ?_
  intro p e s m args below meth c A Q ls X hQ htab hP hD hS hl
  have X : zX p s m args meth c D y A RL cL_decides 7 (some .int) := X
  obtain ⟨hx, hb, hr9, hml, hown, hts, hK, hA, hlocks⟩ := id X
  have hl : lv_has ls 7 [(0, .ref b), (1, .int x1), (2, .int x2), (3, .int x3), (4, .int x4), (5, .ref a_bx)] := hl
  refine lv_aload hx hb dL_decides_0 (lv_at hl 5 rfl) ?_
  refine lv_iconst (v := 0) hx hb dL_decides_2 (by decide) ?_
  refine lv_aload_n hx hb dL_decides_3 rfl (lv_at hl 0 rfl) ?_
  refine lv_iload_n hx hb dL_decides_4 rfl (lv_at hl 1 rfl) ?_
  refine lv_iload_n hx hb dL_decides_5 rfl (lv_at hl 2 rfl) ?_
  refine lv_iload_n hx hb dL_decides_6 rfl (lv_at hl 3 rfl) ?_
  refine lv_iload hx hb dL_decides_7 (lv_at hl 4 rfl) ?_
  refine zhVs (wr := [(a_bx, .inl (y.2.1, 1, .inr (.inl c_bx)))]) (rest := [.int (0 : Int32), .ref a_bx]) X hC kf_RL_104 ⟨(Nat.le_of_ble_eq_true rfl), (Nat.le_of_ble_eq_true rfl)⟩ hP hD hS q0 rfl hb0 rfl rfl hl.1 (Nat.le_of_ble_eq_true rfl) dL_decides_9 ⟨(Nat.le_of_ble_eq_true rfl), (Nat.le_of_ble_eq_true rfl)⟩ (fun E w hp q ce H locs hP hD hS hce hcv hcc => ?_) (fun v w hp H locs hP hD hS => ?_)
  · rcases hE E w hp with rfl | rfl
    · refine zcat (hh := [(0, 13, 16, 19), (0, 13, 20, 29)]) (p1 := []) (h := (0, 13, 16, 19)) (p2 := [(0, 13, 20, 29)]) (name := "java/lang/IndexOutOfBoundsException") X htab rfl (fun _ h => absurd h List.not_mem_nil) (by decide) (by decide) q_833 (by decide +kernel) hce hcv hcc ?_
      refine lv_astore (lv' := [(6, .ref q), (0, .ref b), (1, .int x1), (2, .int x2), (3, .int x3), (4, .int x4), (5, .ref a_bx)]) hx hb dL_decides_16 hl (by decide) rfl (fun ls hl => ?_)
      refine lv_iconst (v := 1) hx hb dL_decides_18 (by decide) ?_
      exact zreti X hQ hP hD hS (Or.inr ⟨_, w, hp, (Or.inl ⟨rfl, rfl⟩), rfl⟩) rfl dL_decides_19 (Nat.le_of_ble_eq_true rfl) (Nat.le_of_ble_eq_true rfl)
    · refine zcat (hh := [(0, 13, 16, 19), (0, 13, 20, 29)]) (p1 := [(0, 13, 16, 19)]) (h := (0, 13, 20, 29)) (p2 := []) (name := "java/lang/IllegalStateException") X htab rfl (List.forall_mem_cons.mpr ⟨⟨by decide, "java/lang/IndexOutOfBoundsException", q_833, by decide +kernel⟩, (fun _ h => absurd h List.not_mem_nil)⟩) (by decide) (by decide) q_878 (by decide +kernel) hce hcv hcc ?_
      refine lv_astore (lv' := [(6, .ref q), (0, .ref b), (1, .int x1), (2, .int x2), (3, .int x3), (4, .int x4), (5, .ref a_bx)]) hx hb dL_decides_20 hl (by decide) rfl (fun ls hl => ?_)
      refine lv_iconst (v := 2) hx hb dL_decides_22 (by decide) ?_
      exact zreti X hQ hP hD hS (Or.inr ⟨_, w, hp, (Or.inr ⟨rfl, rfl⟩), rfl⟩) rfl dL_decides_23 (Nat.le_of_ble_eq_true rfl) (Nat.le_of_ble_eq_true rfl)
  obtain ⟨r, rfl⟩ := hr v w hp
  show W p l e rmw_L_decides s m args below meth c H locs _ _ Q (F0 m 12 ls [.long r, .int (0 : Int32), .ref a_bx])
  refine va_last hx hb hK hP hD hS 0 1 rfl rfl (by unfold vp_in; decide) dL_decides_12 (fun H locs hP hD hS => ?_)
  have hP : va_P D vwCl ([(a_bx, .inl (y.2.1, 1, .inr (.inl (vp_updL c_bx 0 r))))] ++ w) H := hP
  have hD : va_D A ([(a_bx, .inl (y.2.1, 1, .inr (.inl (vp_updL c_bx 0 r))))] ++ w) := hD
  refine lv_goto (tgt := 24) hx hb dL_decides_13 (by decide) ?_
  refine lv_iconst (v := 0) hx hb dL_decides_24 (by decide) ?_
  exact zreti X hQ hP hD hS (Or.inl ⟨r, w, hp, rfl, rfl⟩) rfl dL_decides_25 (Nat.le_of_ble_eq_true rfl) (Nat.le_of_ble_eq_true rfl)

theorem kf_RL_108 : zCB RL 108 yX8_leader cX8_leader 6 (some .int) 2 ∧ Cond.instanceMethod yX8_leader ∈ wAll ∧ Cond.selects yX8_leader.cls yX8_leader yX8_leader ∈ wAll := ⟨⟨q_1233, q_1, q_1230, by decide +kernel⟩, q_1231, q_1232⟩
abbrev rmw_L_leader : Room := { frames := 8, cells := 1, slots := 6, locals := 148 }
set_option maxHeartbeats 4000000 in
theorem zw_L_leader (l : Launch) (D : va_G) (y : zY) (b : Nat) (a_bx : Nat) (c_bx : Nat → Int64) (x1 : Int32) (x2 : Int32) (wc : va_W) (fs : List Value) (q0 : Nat) (hb0 : wc[q0]? = some (b, .inr (8, fs))) (P : Option Value → va_W → Prop) (PX : String → va_W → Prop) (hC : zCx l D y yX8_leader cX8_leader 6 (some .int) rm_X8_leader [.ref b, .int x1, .int x2] wc P PX) (hr : ∀ v w, P v w → ∃ r : Int32, v = some (.int r)) (hE : ∀ E w, PX E w → E = "java/lang/IllegalArgumentException") : zCw l D y yL_leader cL_leader 5 (some .int) [(0, 10, 13, 13)] rmw_L_leader [.ref b, .int x1, .int x2, .ref a_bx] ([(a_bx, .inl (y.2.1, 1, .inr (.inl c_bx)))] ++ wc) (fun v w => (∃ r w1, P (some (.int r)) w1 ∧ v = some (.int 0) ∧ w = ([(a_bx, .inl (y.2.1, 1, .inr (.inl (vp_updL c_bx 0 r.toInt64))))] ++ w1)) ∨ (∃ E w1, PX E w1 ∧ ((E = "java/lang/IllegalArgumentException" ∧ v = some (.int 1))) ∧ w = ([(a_bx, .inl (y.2.1, 1, .inr (.inl c_bx)))] ++ w1))) := by
  refine zmkw (by decide) (Nat.le_of_ble_eq_true rfl) ?_
  intro p e s m args below meth c A Q ls X hQ htab hP hD hS hl
  have X : zX p s m args meth c D y A RL cL_leader 5 (some .int) := X
  obtain ⟨hx, hb, hr9, hml, hown, hts, hK, hA, hlocks⟩ := id X
  have hl : lv_has ls 5 [(0, .ref b), (1, .int x1), (2, .int x2), (3, .ref a_bx)] := hl
  refine lv_aload_n hx hb dL_leader_0 rfl (lv_at hl 3 rfl) ?_
  refine lv_iconst (v := 0) hx hb dL_leader_1 (by decide) ?_
  refine lv_aload_n hx hb dL_leader_2 rfl (lv_at hl 0 rfl) ?_
  refine lv_iload_n hx hb dL_leader_3 rfl (lv_at hl 1 rfl) ?_
  refine lv_iload_n hx hb dL_leader_4 rfl (lv_at hl 2 rfl) ?_
  refine zhVs (wr := [(a_bx, .inl (y.2.1, 1, .inr (.inl c_bx)))]) (rest := [.int (0 : Int32), .ref a_bx]) X hC kf_RL_108 ⟨(Nat.le_of_ble_eq_true rfl), (Nat.le_of_ble_eq_true rfl)⟩ hP hD hS q0 rfl hb0 rfl rfl hl.1 (Nat.le_of_ble_eq_true rfl) dL_leader_5 ⟨(Nat.le_of_ble_eq_true rfl), (Nat.le_of_ble_eq_true rfl)⟩ (fun E w hp q ce H locs hP hD hS hce hcv hcc => ?_) (fun v w hp H locs hP hD hS => ?_)
  · rcases hE E w hp with rfl
    · refine zcat (hh := [(0, 10, 13, 13)]) (p1 := []) (h := (0, 10, 13, 13)) (p2 := []) (name := "java/lang/IllegalArgumentException") X htab rfl (fun _ h => absurd h List.not_mem_nil) (by decide) (by decide) q_614 (by decide +kernel) hce hcv hcc ?_
      refine lv_astore (lv' := [(4, .ref q), (0, .ref b), (1, .int x1), (2, .int x2), (3, .ref a_bx)]) hx hb dL_leader_13 hl (by decide) rfl (fun ls hl => ?_)
      refine lv_iconst (v := 1) hx hb dL_leader_15 (by decide) ?_
      exact zreti X hQ hP hD hS (Or.inr ⟨_, w, hp, ⟨rfl, rfl⟩, rfl⟩) rfl dL_leader_16 (Nat.le_of_ble_eq_true rfl) (Nat.le_of_ble_eq_true rfl)
  obtain ⟨r, rfl⟩ := hr v w hp
  show W p l e rmw_L_leader s m args below meth c H locs _ _ Q (F0 m 8 ls [.int r, .int (0 : Int32), .ref a_bx])
  refine lv_i2l (v := r.toInt64) hx hb dL_leader_8 rfl ?_
  refine va_last hx hb hK hP hD hS 0 1 rfl rfl (by unfold vp_in; decide) dL_leader_9 (fun H locs hP hD hS => ?_)
  have hP : va_P D vwCl ([(a_bx, .inl (y.2.1, 1, .inr (.inl (vp_updL c_bx 0 r.toInt64))))] ++ w) H := hP
  have hD : va_D A ([(a_bx, .inl (y.2.1, 1, .inr (.inl (vp_updL c_bx 0 r.toInt64))))] ++ w) := hD
  refine lv_goto (tgt := 17) hx hb dL_leader_10 (by decide) ?_
  refine lv_iconst (v := 0) hx hb dL_leader_17 (by decide) ?_
  exact zreti X hQ hP hD hS (Or.inl ⟨r, w, hp, rfl, rfl⟩) rfl dL_leader_18 (Nat.le_of_ble_eq_true rfl) (Nat.le_of_ble_eq_true rfl)

theorem kf_RL_111 : zCB RL 111 yX8_rank cX8_rank 10 (some .int) 5 ∧ Cond.instanceMethod yX8_rank ∈ wAll ∧ Cond.selects yX8_rank.cls yX8_rank yX8_rank ∈ wAll := ⟨⟨q_1284, q_1, q_1281, by decide +kernel⟩, q_1282, q_1283⟩
abbrev rmw_L_rank : Room := { frames := 8, cells := 3, slots := 18, locals := 152 }
set_option maxHeartbeats 4000000 in
theorem zw_L_rank (l : Launch) (D : va_G) (y : zY) (b : Nat) (a_bx : Nat) (c_bx : Nat → Int64) (x1 : Int32) (x2 : Int32) (x3 : Int32) (x4 : Int32) (x5 : Int32) (wc : va_W) (fs : List Value) (q0 : Nat) (hb0 : wc[q0]? = some (b, .inr (8, fs))) (P : Option Value → va_W → Prop) (PX : String → va_W → Prop) (hC : zCx l D y yX8_rank cX8_rank 10 (some .int) rm_X8_rank [.ref b, .int x1, .int x2, .int x3, .int x4, .int x5] wc P PX) (hr : ∀ v w, P v w → ∃ r : Int32, v = some (.int r)) (hE : ∀ E w, PX E w → E = "java/lang/IndexOutOfBoundsException" ∨ E = "java/lang/IllegalArgumentException" ∨ E = "java/lang/IllegalStateException") : zCw l D y yL_rank cL_rank 8 (some .int) [(0, 16, 19, 19), (0, 16, 23, 13), (0, 16, 27, 29)] rmw_L_rank [.ref b, .int x1, .int x2, .int x3, .int x4, .int x5, .ref a_bx] ([(a_bx, .inl (y.2.1, 1, .inr (.inl c_bx)))] ++ wc) (fun v w => (∃ r w1, P (some (.int r)) w1 ∧ v = some (.int 0) ∧ w = ([(a_bx, .inl (y.2.1, 1, .inr (.inl (vp_updL c_bx 0 r.toInt64))))] ++ w1)) ∨ (∃ E w1, PX E w1 ∧ ((E = "java/lang/IndexOutOfBoundsException" ∧ v = some (.int 1)) ∨ (E = "java/lang/IllegalArgumentException" ∧ v = some (.int 2)) ∨ (E = "java/lang/IllegalStateException" ∧ v = some (.int 3))) ∧ w = ([(a_bx, .inl (y.2.1, 1, .inr (.inl c_bx)))] ++ w1))) := by
  refine zmkw (by decide) (Nat.le_of_ble_eq_true rfl) ?_
  intro p e s m args below meth c A Q ls X hQ htab hP hD hS hl
  have X : zX p s m args meth c D y A RL cL_rank 8 (some .int) := X
  obtain ⟨hx, hb, hr9, hml, hown, hts, hK, hA, hlocks⟩ := id X
  have hl : lv_has ls 8 [(0, .ref b), (1, .int x1), (2, .int x2), (3, .int x3), (4, .int x4), (5, .int x5), (6, .ref a_bx)] := hl
  refine lv_aload hx hb dL_rank_0 (lv_at hl 6 rfl) ?_
  refine lv_iconst (v := 0) hx hb dL_rank_2 (by decide) ?_
  refine lv_aload_n hx hb dL_rank_3 rfl (lv_at hl 0 rfl) ?_
  refine lv_iload_n hx hb dL_rank_4 rfl (lv_at hl 1 rfl) ?_
  refine lv_iload_n hx hb dL_rank_5 rfl (lv_at hl 2 rfl) ?_
  refine lv_iload_n hx hb dL_rank_6 rfl (lv_at hl 3 rfl) ?_
  refine lv_iload hx hb dL_rank_7 (lv_at hl 4 rfl) ?_
  refine lv_iload hx hb dL_rank_9 (lv_at hl 5 rfl) ?_
  refine zhVs (wr := [(a_bx, .inl (y.2.1, 1, .inr (.inl c_bx)))]) (rest := [.int (0 : Int32), .ref a_bx]) X hC kf_RL_111 ⟨(Nat.le_of_ble_eq_true rfl), (Nat.le_of_ble_eq_true rfl)⟩ hP hD hS q0 rfl hb0 rfl rfl hl.1 (Nat.le_of_ble_eq_true rfl) dL_rank_11 ⟨(Nat.le_of_ble_eq_true rfl), (Nat.le_of_ble_eq_true rfl)⟩ (fun E w hp q ce H locs hP hD hS hce hcv hcc => ?_) (fun v w hp H locs hP hD hS => ?_)
  · rcases hE E w hp with rfl | rfl | rfl
    · refine zcat (hh := [(0, 16, 19, 19), (0, 16, 23, 13), (0, 16, 27, 29)]) (p1 := []) (h := (0, 16, 19, 19)) (p2 := [(0, 16, 23, 13), (0, 16, 27, 29)]) (name := "java/lang/IndexOutOfBoundsException") X htab rfl (fun _ h => absurd h List.not_mem_nil) (by decide) (by decide) q_833 (by decide +kernel) hce hcv hcc ?_
      refine lv_astore (lv' := [(7, .ref q), (0, .ref b), (1, .int x1), (2, .int x2), (3, .int x3), (4, .int x4), (5, .int x5), (6, .ref a_bx)]) hx hb dL_rank_19 hl (by decide) rfl (fun ls hl => ?_)
      refine lv_iconst (v := 1) hx hb dL_rank_21 (by decide) ?_
      exact zreti X hQ hP hD hS (Or.inr ⟨_, w, hp, (Or.inl ⟨rfl, rfl⟩), rfl⟩) rfl dL_rank_22 (Nat.le_of_ble_eq_true rfl) (Nat.le_of_ble_eq_true rfl)
    · refine zcat (hh := [(0, 16, 19, 19), (0, 16, 23, 13), (0, 16, 27, 29)]) (p1 := [(0, 16, 19, 19)]) (h := (0, 16, 23, 13)) (p2 := [(0, 16, 27, 29)]) (name := "java/lang/IllegalArgumentException") X htab rfl (List.forall_mem_cons.mpr ⟨⟨by decide, "java/lang/IndexOutOfBoundsException", q_833, by decide +kernel⟩, (fun _ h => absurd h List.not_mem_nil)⟩) (by decide) (by decide) q_614 (by decide +kernel) hce hcv hcc ?_
      refine lv_astore (lv' := [(7, .ref q), (0, .ref b), (1, .int x1), (2, .int x2), (3, .int x3), (4, .int x4), (5, .int x5), (6, .ref a_bx)]) hx hb dL_rank_23 hl (by decide) rfl (fun ls hl => ?_)
      refine lv_iconst (v := 2) hx hb dL_rank_25 (by decide) ?_
      exact zreti X hQ hP hD hS (Or.inr ⟨_, w, hp, (Or.inr (Or.inl ⟨rfl, rfl⟩)), rfl⟩) rfl dL_rank_26 (Nat.le_of_ble_eq_true rfl) (Nat.le_of_ble_eq_true rfl)
    · refine zcat (hh := [(0, 16, 19, 19), (0, 16, 23, 13), (0, 16, 27, 29)]) (p1 := [(0, 16, 19, 19), (0, 16, 23, 13)]) (h := (0, 16, 27, 29)) (p2 := []) (name := "java/lang/IllegalStateException") X htab rfl (List.forall_mem_cons.mpr ⟨⟨by decide, "java/lang/IndexOutOfBoundsException", q_833, by decide +kernel⟩, (List.forall_mem_cons.mpr ⟨⟨by decide, "java/lang/IllegalArgumentException", q_614, by decide +kernel⟩, (fun _ h => absurd h List.not_mem_nil)⟩)⟩) (by decide) (by decide) q_878 (by decide +kernel) hce hcv hcc ?_
      refine lv_astore (lv' := [(7, .ref q), (0, .ref b), (1, .int x1), (2, .int x2), (3, .int x3), (4, .int x4), (5, .int x5), (6, .ref a_bx)]) hx hb dL_rank_27 hl (by decide) rfl (fun ls hl => ?_)
      refine lv_iconst (v := 3) hx hb dL_rank_29 (by decide) ?_
      exact zreti X hQ hP hD hS (Or.inr ⟨_, w, hp, (Or.inr (Or.inr ⟨rfl, rfl⟩)), rfl⟩) rfl dL_rank_30 (Nat.le_of_ble_eq_true rfl) (Nat.le_of_ble_eq_true rfl)
  obtain ⟨r, rfl⟩ := hr v w hp
  show W p l e rmw_L_rank s m args below meth c H locs _ _ Q (F0 m 14 ls [.int r, .int (0 : Int32), .ref a_bx])
  refine lv_i2l (v := r.toInt64) hx hb dL_rank_14 rfl ?_
  refine va_last hx hb hK hP hD hS 0 1 rfl rfl (by unfold vp_in; decide) dL_rank_15 (fun H locs hP hD hS => ?_)
  have hP : va_P D vwCl ([(a_bx, .inl (y.2.1, 1, .inr (.inl (vp_updL c_bx 0 r.toInt64))))] ++ w) H := hP
  have hD : va_D A ([(a_bx, .inl (y.2.1, 1, .inr (.inl (vp_updL c_bx 0 r.toInt64))))] ++ w) := hD
  refine lv_goto (tgt := 31) hx hb dL_rank_16 (by decide) ?_
  refine lv_iconst (v := 0) hx hb dL_rank_31 (by decide) ?_
  exact zreti X hQ hP hD hS (Or.inl ⟨r, w, hp, rfl, rfl⟩) rfl dL_rank_32 (Nat.le_of_ble_eq_true rfl) (Nat.le_of_ble_eq_true rfl)

theorem kf_RL_115 : zCB RL 115 yX8_drawn cX8_drawn 10 (some .int) 4 ∧ Cond.instanceMethod yX8_drawn ∈ wAll ∧ Cond.selects yX8_drawn.cls yX8_drawn yX8_drawn ∈ wAll := ⟨⟨q_1291, q_1, q_1288, by decide +kernel⟩, q_1289, q_1290⟩
abbrev rmw_L_drawn : Room := { frames := 8, cells := 2, slots := 12, locals := 141 }
set_option maxHeartbeats 4000000 in
theorem zw_L_drawn (l : Launch) (D : va_G) (y : zY) (b : Nat) (a_bx : Nat) (c_bx : Nat → Int64) (x1 : Int32) (x2 : Int32) (x3 : Int32) (x4 : Int32) (wc : va_W) (fs : List Value) (q0 : Nat) (hb0 : wc[q0]? = some (b, .inr (8, fs))) (P : Option Value → va_W → Prop) (PX : String → va_W → Prop) (hC : zCx l D y yX8_drawn cX8_drawn 10 (some .int) rm_X8_drawn [.ref b, .int x1, .int x2, .int x3, .int x4] wc P PX) (hr : ∀ v w, P v w → ∃ r : Int32, v = some (.int r)) (hE : ∀ E w, PX E w → E = "java/lang/IllegalArgumentException" ∨ E = "java/util/NoSuchElementException") : zCw l D y yL_drawn cL_drawn 7 (some .int) [(0, 14, 17, 13), (0, 14, 21, 51)] rmw_L_drawn [.ref b, .int x1, .int x2, .int x3, .int x4, .ref a_bx] ([(a_bx, .inl (y.2.1, 1, .inr (.inl c_bx)))] ++ wc) (fun v w => (∃ r w1, P (some (.int r)) w1 ∧ v = some (.int 0) ∧ w = ([(a_bx, .inl (y.2.1, 1, .inr (.inl (vp_updL c_bx 0 r.toInt64))))] ++ w1)) ∨ (∃ E w1, PX E w1 ∧ ((E = "java/lang/IllegalArgumentException" ∧ v = some (.int 1)) ∨ (E = "java/util/NoSuchElementException" ∧ v = some (.int 2))) ∧ w = ([(a_bx, .inl (y.2.1, 1, .inr (.inl c_bx)))] ++ w1))) := by
  refine zmkw (by decide) (Nat.le_of_ble_eq_true rfl) ?_
  intro p e s m args below meth c A Q ls X hQ htab hP hD hS hl
  have X : zX p s m args meth c D y A RL cL_drawn 7 (some .int) := X
  obtain ⟨hx, hb, hr9, hml, hown, hts, hK, hA, hlocks⟩ := id X
  have hl : lv_has ls 7 [(0, .ref b), (1, .int x1), (2, .int x2), (3, .int x3), (4, .int x4), (5, .ref a_bx)] := hl
  refine lv_aload hx hb dL_drawn_0 (lv_at hl 5 rfl) ?_
  refine lv_iconst (v := 0) hx hb dL_drawn_2 (by decide) ?_
  refine lv_aload_n hx hb dL_drawn_3 rfl (lv_at hl 0 rfl) ?_
  refine lv_iload_n hx hb dL_drawn_4 rfl (lv_at hl 1 rfl) ?_
  refine lv_iload_n hx hb dL_drawn_5 rfl (lv_at hl 2 rfl) ?_
  refine lv_iload_n hx hb dL_drawn_6 rfl (lv_at hl 3 rfl) ?_
  refine lv_iload hx hb dL_drawn_7 (lv_at hl 4 rfl) ?_
  refine zhVs (wr := [(a_bx, .inl (y.2.1, 1, .inr (.inl c_bx)))]) (rest := [.int (0 : Int32), .ref a_bx]) X hC kf_RL_115 ⟨(Nat.le_of_ble_eq_true rfl), (Nat.le_of_ble_eq_true rfl)⟩ hP hD hS q0 rfl hb0 rfl rfl hl.1 (Nat.le_of_ble_eq_true rfl) dL_drawn_9 ⟨(Nat.le_of_ble_eq_true rfl), (Nat.le_of_ble_eq_true rfl)⟩ (fun E w hp q ce H locs hP hD hS hce hcv hcc => ?_) (fun v w hp H locs hP hD hS => ?_)
  · rcases hE E w hp with rfl | rfl
    · refine zcat (hh := [(0, 14, 17, 13), (0, 14, 21, 51)]) (p1 := []) (h := (0, 14, 17, 13)) (p2 := [(0, 14, 21, 51)]) (name := "java/lang/IllegalArgumentException") X htab rfl (fun _ h => absurd h List.not_mem_nil) (by decide) (by decide) q_614 (by decide +kernel) hce hcv hcc ?_
      refine lv_astore (lv' := [(6, .ref q), (0, .ref b), (1, .int x1), (2, .int x2), (3, .int x3), (4, .int x4), (5, .ref a_bx)]) hx hb dL_drawn_17 hl (by decide) rfl (fun ls hl => ?_)
      refine lv_iconst (v := 1) hx hb dL_drawn_19 (by decide) ?_
      exact zreti X hQ hP hD hS (Or.inr ⟨_, w, hp, (Or.inl ⟨rfl, rfl⟩), rfl⟩) rfl dL_drawn_20 (Nat.le_of_ble_eq_true rfl) (Nat.le_of_ble_eq_true rfl)
    · refine zcat (hh := [(0, 14, 17, 13), (0, 14, 21, 51)]) (p1 := [(0, 14, 17, 13)]) (h := (0, 14, 21, 51)) (p2 := []) (name := "java/util/NoSuchElementException") X htab rfl (List.forall_mem_cons.mpr ⟨⟨by decide, "java/lang/IllegalArgumentException", q_614, by decide +kernel⟩, (fun _ h => absurd h List.not_mem_nil)⟩) (by decide) (by decide) q_992 (by decide +kernel) hce hcv hcc ?_
      refine lv_astore (lv' := [(6, .ref q), (0, .ref b), (1, .int x1), (2, .int x2), (3, .int x3), (4, .int x4), (5, .ref a_bx)]) hx hb dL_drawn_21 hl (by decide) rfl (fun ls hl => ?_)
      refine lv_iconst (v := 2) hx hb dL_drawn_23 (by decide) ?_
      exact zreti X hQ hP hD hS (Or.inr ⟨_, w, hp, (Or.inr ⟨rfl, rfl⟩), rfl⟩) rfl dL_drawn_24 (Nat.le_of_ble_eq_true rfl) (Nat.le_of_ble_eq_true rfl)
  obtain ⟨r, rfl⟩ := hr v w hp
  show W p l e rmw_L_drawn s m args below meth c H locs _ _ Q (F0 m 12 ls [.int r, .int (0 : Int32), .ref a_bx])
  refine lv_i2l (v := r.toInt64) hx hb dL_drawn_12 rfl ?_
  refine va_last hx hb hK hP hD hS 0 1 rfl rfl (by unfold vp_in; decide) dL_drawn_13 (fun H locs hP hD hS => ?_)
  have hP : va_P D vwCl ([(a_bx, .inl (y.2.1, 1, .inr (.inl (vp_updL c_bx 0 r.toInt64))))] ++ w) H := hP
  have hD : va_D A ([(a_bx, .inl (y.2.1, 1, .inr (.inl (vp_updL c_bx 0 r.toInt64))))] ++ w) := hD
  refine lv_goto (tgt := 25) hx hb dL_drawn_14 (by decide) ?_
  refine lv_iconst (v := 0) hx hb dL_drawn_25 (by decide) ?_
  exact zreti X hQ hP hD hS (Or.inl ⟨r, w, hp, rfl, rfl⟩) rfl dL_drawn_26 (Nat.le_of_ble_eq_true rfl) (Nat.le_of_ble_eq_true rfl)

theorem kf_RL_119 : zCB RL 119 yX8_compare cX8_compare 6 (some .int) 0 ∧ Cond.instanceMethod yX8_compare ∈ wAll ∧ Cond.selects yX8_compare.cls yX8_compare yX8_compare ∈ wAll := ⟨⟨q_1304, q_1, q_1301, by decide +kernel⟩, q_1302, q_1303⟩
abbrev rmw_L_compare : Room := { frames := 8, cells := 1, slots := 6, locals := 183 }
set_option maxHeartbeats 4000000 in
theorem zw_L_compare (l : Launch) (D : va_G) (y : zY) (b : Nat) (a_bx : Nat) (c_bx : Nat → Int64) (wc : va_W) (fs : List Value) (q0 : Nat) (hb0 : wc[q0]? = some (b, .inr (8, fs))) (P : Option Value → va_W → Prop) (PX : String → va_W → Prop) (hC : zCx l D y yX8_compare cX8_compare 6 (some .int) rm_X8_compare [.ref b] wc P PX) (hr : ∀ v w, P v w → ∃ r : Int32, v = some (.int r)) (hE : ∀ E w, PX E w → E = "java/util/NoSuchElementException") : zCw l D y yL_compare cL_compare 3 (some .int) [(0, 8, 11, 51)] rmw_L_compare [.ref b, .ref a_bx] ([(a_bx, .inl (y.2.1, 1, .inr (.inl c_bx)))] ++ wc) (fun v w => (∃ r w1, P (some (.int r)) w1 ∧ v = some (.int 0) ∧ w = ([(a_bx, .inl (y.2.1, 1, .inr (.inl (vp_updL c_bx 0 r.toInt64))))] ++ w1)) ∨ (∃ E w1, PX E w1 ∧ ((E = "java/util/NoSuchElementException" ∧ v = some (.int 1))) ∧ w = ([(a_bx, .inl (y.2.1, 1, .inr (.inl c_bx)))] ++ w1))) := by
  refine zmkw (by decide) (Nat.le_of_ble_eq_true rfl) ?_
  intro p e s m args below meth c A Q ls X hQ htab hP hD hS hl
  have X : zX p s m args meth c D y A RL cL_compare 3 (some .int) := X
  obtain ⟨hx, hb, hr9, hml, hown, hts, hK, hA, hlocks⟩ := id X
  have hl : lv_has ls 3 [(0, .ref b), (1, .ref a_bx)] := hl
  refine lv_aload_n hx hb dL_compare_0 rfl (lv_at hl 1 rfl) ?_
  refine lv_iconst (v := 0) hx hb dL_compare_1 (by decide) ?_
  refine lv_aload_n hx hb dL_compare_2 rfl (lv_at hl 0 rfl) ?_
  refine zhVs (wr := [(a_bx, .inl (y.2.1, 1, .inr (.inl c_bx)))]) (rest := [.int (0 : Int32), .ref a_bx]) X hC kf_RL_119 ⟨(Nat.le_of_ble_eq_true rfl), (Nat.le_of_ble_eq_true rfl)⟩ hP hD hS q0 rfl hb0 rfl rfl hl.1 (Nat.le_of_ble_eq_true rfl) dL_compare_3 ⟨(Nat.le_of_ble_eq_true rfl), (Nat.le_of_ble_eq_true rfl)⟩ (fun E w hp q ce H locs hP hD hS hce hcv hcc => ?_) (fun v w hp H locs hP hD hS => ?_)
  · rcases hE E w hp with rfl
    · refine zcat (hh := [(0, 8, 11, 51)]) (p1 := []) (h := (0, 8, 11, 51)) (p2 := []) (name := "java/util/NoSuchElementException") X htab rfl (fun _ h => absurd h List.not_mem_nil) (by decide) (by decide) q_992 (by decide +kernel) hce hcv hcc ?_
      refine lv_astore_n (lv' := [(2, .ref q), (0, .ref b), (1, .ref a_bx)]) hx hb dL_compare_11 rfl hl (by decide) rfl (fun ls hl => ?_)
      refine lv_iconst (v := 1) hx hb dL_compare_12 (by decide) ?_
      exact zreti X hQ hP hD hS (Or.inr ⟨_, w, hp, ⟨rfl, rfl⟩, rfl⟩) rfl dL_compare_13 (Nat.le_of_ble_eq_true rfl) (Nat.le_of_ble_eq_true rfl)
  obtain ⟨r, rfl⟩ := hr v w hp
  show W p l e rmw_L_compare s m args below meth c H locs _ _ Q (F0 m 6 ls [.int r, .int (0 : Int32), .ref a_bx])
  refine lv_i2l (v := r.toInt64) hx hb dL_compare_6 rfl ?_
  refine va_last hx hb hK hP hD hS 0 1 rfl rfl (by unfold vp_in; decide) dL_compare_7 (fun H locs hP hD hS => ?_)
  have hP : va_P D vwCl ([(a_bx, .inl (y.2.1, 1, .inr (.inl (vp_updL c_bx 0 r.toInt64))))] ++ w) H := hP
  have hD : va_D A ([(a_bx, .inl (y.2.1, 1, .inr (.inl (vp_updL c_bx 0 r.toInt64))))] ++ w) := hD
  refine lv_goto (tgt := 14) hx hb dL_compare_8 (by decide) ?_
  refine lv_iconst (v := 0) hx hb dL_compare_14 (by decide) ?_
  exact zreti X hQ hP hD hS (Or.inl ⟨r, w, hp, rfl, rfl⟩) rfl dL_compare_15 (Nat.le_of_ble_eq_true rfl) (Nat.le_of_ble_eq_true rfl)

theorem kf_RL_122 : zCB RL 122 yX8_beats cX8_beats 6 (some .int) 0 ∧ Cond.instanceMethod yX8_beats ∈ wAll ∧ Cond.selects yX8_beats.cls yX8_beats yX8_beats ∈ wAll := ⟨⟨q_1322, q_1, q_1319, by decide +kernel⟩, q_1320, q_1321⟩
abbrev rmw_L_beats : Room := { frames := 8, cells := 2, slots := 12, locals := 158 }
set_option maxHeartbeats 4000000 in
theorem zw_L_beats (l : Launch) (D : va_G) (y : zY) (b : Nat) (a_bx : Nat) (c_bx : Nat → Int64) (wc : va_W) (fs : List Value) (q0 : Nat) (hb0 : wc[q0]? = some (b, .inr (8, fs))) (P : Option Value → va_W → Prop) (PX : String → va_W → Prop) (hC : zCx l D y yX8_beats cX8_beats 6 (some .int) rm_X8_beats [.ref b] wc P PX) (hr : ∀ v w, P v w → ∃ r : Int32, v = some (.int r)) (hE : ∀ E w, PX E w → E = "java/util/NoSuchElementException" ∨ E = "java/lang/IllegalStateException") : zCw l D y yL_beats cL_beats 3 (some .int) [(0, 8, 11, 51), (0, 8, 14, 29)] rmw_L_beats [.ref b, .ref a_bx] ([(a_bx, .inl (y.2.1, 1, .inr (.inl c_bx)))] ++ wc) (fun v w => (∃ r w1, P (some (.int r)) w1 ∧ v = some (.int 0) ∧ w = ([(a_bx, .inl (y.2.1, 1, .inr (.inl (vp_updL c_bx 0 r.toInt64))))] ++ w1)) ∨ (∃ E w1, PX E w1 ∧ ((E = "java/util/NoSuchElementException" ∧ v = some (.int 1)) ∨ (E = "java/lang/IllegalStateException" ∧ v = some (.int 2))) ∧ w = ([(a_bx, .inl (y.2.1, 1, .inr (.inl c_bx)))] ++ w1))) := by
  refine zmkw (by decide) (Nat.le_of_ble_eq_true rfl) ?_
  intro p e s m args below meth c A Q ls X hQ htab hP hD hS hl
  have X : zX p s m args meth c D y A RL cL_beats 3 (some .int) := X
  obtain ⟨hx, hb, hr9, hml, hown, hts, hK, hA, hlocks⟩ := id X
  have hl : lv_has ls 3 [(0, .ref b), (1, .ref a_bx)] := hl
  refine lv_aload_n hx hb dL_beats_0 rfl (lv_at hl 1 rfl) ?_
  refine lv_iconst (v := 0) hx hb dL_beats_1 (by decide) ?_
  refine lv_aload_n hx hb dL_beats_2 rfl (lv_at hl 0 rfl) ?_
  refine zhVs (wr := [(a_bx, .inl (y.2.1, 1, .inr (.inl c_bx)))]) (rest := [.int (0 : Int32), .ref a_bx]) X hC kf_RL_122 ⟨(Nat.le_of_ble_eq_true rfl), (Nat.le_of_ble_eq_true rfl)⟩ hP hD hS q0 rfl hb0 rfl rfl hl.1 (Nat.le_of_ble_eq_true rfl) dL_beats_3 ⟨(Nat.le_of_ble_eq_true rfl), (Nat.le_of_ble_eq_true rfl)⟩ (fun E w hp q ce H locs hP hD hS hce hcv hcc => ?_) (fun v w hp H locs hP hD hS => ?_)
  · rcases hE E w hp with rfl | rfl
    · refine zcat (hh := [(0, 8, 11, 51), (0, 8, 14, 29)]) (p1 := []) (h := (0, 8, 11, 51)) (p2 := [(0, 8, 14, 29)]) (name := "java/util/NoSuchElementException") X htab rfl (fun _ h => absurd h List.not_mem_nil) (by decide) (by decide) q_992 (by decide +kernel) hce hcv hcc ?_
      refine lv_astore_n (lv' := [(2, .ref q), (0, .ref b), (1, .ref a_bx)]) hx hb dL_beats_11 rfl hl (by decide) rfl (fun ls hl => ?_)
      refine lv_iconst (v := 1) hx hb dL_beats_12 (by decide) ?_
      exact zreti X hQ hP hD hS (Or.inr ⟨_, w, hp, (Or.inl ⟨rfl, rfl⟩), rfl⟩) rfl dL_beats_13 (Nat.le_of_ble_eq_true rfl) (Nat.le_of_ble_eq_true rfl)
    · refine zcat (hh := [(0, 8, 11, 51), (0, 8, 14, 29)]) (p1 := [(0, 8, 11, 51)]) (h := (0, 8, 14, 29)) (p2 := []) (name := "java/lang/IllegalStateException") X htab rfl (List.forall_mem_cons.mpr ⟨⟨by decide, "java/util/NoSuchElementException", q_992, by decide +kernel⟩, (fun _ h => absurd h List.not_mem_nil)⟩) (by decide) (by decide) q_878 (by decide +kernel) hce hcv hcc ?_
      refine lv_astore_n (lv' := [(2, .ref q), (0, .ref b), (1, .ref a_bx)]) hx hb dL_beats_14 rfl hl (by decide) rfl (fun ls hl => ?_)
      refine lv_iconst (v := 2) hx hb dL_beats_15 (by decide) ?_
      exact zreti X hQ hP hD hS (Or.inr ⟨_, w, hp, (Or.inr ⟨rfl, rfl⟩), rfl⟩) rfl dL_beats_16 (Nat.le_of_ble_eq_true rfl) (Nat.le_of_ble_eq_true rfl)
  obtain ⟨r, rfl⟩ := hr v w hp
  show W p l e rmw_L_beats s m args below meth c H locs _ _ Q (F0 m 6 ls [.int r, .int (0 : Int32), .ref a_bx])
  refine lv_i2l (v := r.toInt64) hx hb dL_beats_6 rfl ?_
  refine va_last hx hb hK hP hD hS 0 1 rfl rfl (by unfold vp_in; decide) dL_beats_7 (fun H locs hP hD hS => ?_)
  have hP : va_P D vwCl ([(a_bx, .inl (y.2.1, 1, .inr (.inl (vp_updL c_bx 0 r.toInt64))))] ++ w) H := hP
  have hD : va_D A ([(a_bx, .inl (y.2.1, 1, .inr (.inl (vp_updL c_bx 0 r.toInt64))))] ++ w) := hD
  refine lv_goto (tgt := 17) hx hb dL_beats_8 (by decide) ?_
  refine lv_iconst (v := 0) hx hb dL_beats_17 (by decide) ?_
  exact zreti X hQ hP hD hS (Or.inl ⟨r, w, hp, rfl, rfl⟩) rfl dL_beats_18 (Nat.le_of_ble_eq_true rfl) (Nat.le_of_ble_eq_true rfl)

