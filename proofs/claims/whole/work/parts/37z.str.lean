/-! texts: what stands fixed of a text, told to a callee as one more premise -/
def zKok (K : (Nat → Prop) → State → Heap → Prop) : Prop := ∀ (A A' : Nat → Prop) (s U : State) (H0 H : Heap), K A s H0 → (∀ a : Nat, a < H0.size → ¬ A a → H[a]? = H0[a]?) → (∀ q, A' q → A q) → s.vm.Alike U.vm → K A' U H
def zCk (l : Launch) (D : va_G) (y : zY) (yn : MethodName) (cb : ByteArray) (mL : Nat) (ret : Option FieldType) (rm : Room) (av : List Value) (wc : va_W) (P : Option Value → va_W → Prop) (K : (Nat → Prop) → State → Heap → Prop) : Prop :=
  ∀ sz : Nat, Met l yn (Cond.code yn cb mL ret :: wAll) rm (fun a U => zPre D y av wc sz a U ∧ K (va_A wc sz) U U.heap) (zQ D y (va_A wc sz) P) rm.cells rm.slots (va_A wc sz)
theorem zmkk {l : Launch} {D : va_G} {y : zY} {yn : MethodName} {cb : ByteArray} {mL : Nat} {ret : Option FieldType} {rm : Room} {av : List Value} {wc : va_W} {P : Option Value → va_W → Prop} {K : (Nat → Prop) → State → Heap → Prop} (hn : plainName yn.cls = true) (hav : (lg_sl av).length ≤ mL)
    (body : ∀ (p : Program) (e : Env) (s : State) (m : MethodId) (args : Array Value) (below : List Frame) (meth : Method) (c : Code) (A : Nat → Prop) (Q : State → Prop) (ls : Array Slot), zX p s m args meth c D y A yn.cls cb mL ret → Q = zZ below D y A P args s rm.cells rm.slots → K A s s.heap → va_P D vwCl wc s.heap → va_D A wc → va_S A s.heap s.heap [] → lv_has ls mL (lv_args 0 av) →
      W p l e rm s m args below meth c s.heap [] 0 0 Q (F0 m 0 ls [])) : zCk l D y yn cb mL ret rm av wc P K := by
  intro sz
  refine Met.ofW (cc := cb) (maxL := mL) (ret := ret) hn rfl ?_
  intro p e s m args below meth c s₁ B hml hv
  obtain ⟨⟨rfl, hsz, hP, hK, hD0, hN⟩, hk⟩ := hv
  subst hsz
  have hts := atoms_spec (ws := Cond.code yn cb mL ret :: wAll) B.pre
  rw [lg_entry_eq]
  exact body p e s m av.toArray below meth c (va_A wc s.heap.size) _ _ ⟨B.exec, B.bytes, B.returns, hml, findClass_of_methodNamed B.named, fun w h => hts w (List.mem_cons_of_mem _ h), hK, fun q h => Or.inr h, B.notSynchronized, hN⟩ rfl hk hP (hD0.self (sz := s.heap.size)) va_S.rf (lv_entry av hav)
section ZK
variable {p : Program} {l : Launch} {e : Env} {R : Room} {s : State} {m : MethodId} {args : Array Value} {below : List Frame} {meth : Method} {c : Code} {H : Heap} {locs : List Loc} {cells slots : Nat} {Q : State → Prop} {D : va_G} {y : zY} {A : Nat → Prop} {own : String} {cc : ByteArray} {mL : Nat} {ret : Option FieldType} {pc : Nat} {ls : Array Slot} {rest : List Value} {ws wc wr : va_W} {b : Nat} {K : (Nat → Prop) → State → Heap → Prop}
variable {yn : MethodName} {cb : ByteArray} {mL' idx n : Nat} {ret' : Option FieldType} {rm : Room} {av : List Value} {st : List Value} {val : Option Value} {w : va_W}
theorem zprek (X : zX p s m args meth c D y A own cc mL ret) (hok : zKok K) (hk : K A s s.heap) (hP : va_P D vwCl wc H) (hD : va_D A wc) (hS : va_S A s.heap H locs) (hF : ∀ q, va_A wc H.size q → A q) : PreS s H (fun a U => zPre D y av wc H.size a U ∧ K (va_A wc H.size) U U.heap) av := by
  have h := zpre (av := av) X hP hD hS hF
  refine ⟨fun a U g mk q => ⟨h.1 a U g mk q.1, hok _ _ U _ _ _ q.2 (fun _ _ _ => rfl) (fun _ z => z) (Vm.Alike.refl _)⟩, fun U hU hW => ⟨h.2 U hU hW, ?_⟩⟩
  rw [hU]
  exact hok _ _ s U _ _ hk hS.2.1 hF hW.alike
theorem zcVk (X : zX p s m args meth c D y A own cc mL ret) (hC : zCk l D y yn cb mL' ret' rm (.ref b :: av) wc (zE val w) K) (hok : zKok K) (hk : K A s s.heap) (cf : zCB own idx yn cb mL' ret' n ∧ Cond.instanceMethod yn ∈ wAll ∧ Cond.selects yn.cls yn yn ∈ wAll) (hR : rm.frames + 1 ≤ R.frames ∧ 8 + (mL' + 11) + rm.locals ≤ R.locals) (hP : va_P D vwCl ws H) (hD : va_D A ws) (hS : va_S A s.heap H locs) (isC isR : List Nat) (hc : isC.map (fun i => ws[i]?) = wc.map some) (hr : isR.map (fun i => ws[i]?) = wr.map some) (hn : va_nd isR = true) (hnC : va_nd isC = true) (hdis : ∀ i ∈ isR, i ∉ isC)
    (hrec : ∃ cellB : Cell, H[b]? = some cellB ∧ cellB.vm.isStatics = false ∧ s.vm.findClass yn.cls = some cellB.cls) (hst : st = av.reverse ++ .ref b :: rest) (hlen : av.length = n) (hls : ls.size = mL) (hW : (rest.map fun v => v.category).sum ≤ 8) (hd : decode cc pc = .ok (.invokevirtual idx, 3)) (hcl : cells + rm.cells ≤ R.cells ∧ slots + rm.slots ≤ R.slots)
    (k : ∀ (H' : Heap) (locs' : List Loc), va_P D vwCl (wr ++ w) H' → va_D A (wr ++ w) → va_S A s.heap H' locs' → W p l e R s m args below meth c H' locs' (cells + rm.cells) (slots + rm.slots) Q (F0 m (pc + 3) ls (val.toList ++ rest))) : W p l e R s m args below meth c H locs cells slots Q (F0 m pc ls st) := by
  obtain ⟨hx, hb, hr', hml, hown, hts, hK, hA, hlocks, hN⟩ := id X
  have hpre := zprek (av := .ref b :: av) X hok hk (zPsub hP hc) (hD.sub isC hnC hc) hS (va_free hD hS hA isC hc)
  exact zafter X hP hD hS isC isR hc hr hn hdis (va_runV (As := av) (rest := rest) ⟨hx, hb, hml, hown, hts⟩ (hC H.size) ⟨zcb X cf.1 hR, hts _ cf.2.1, hts _ cf.2.2⟩ ⟨hpre.1, hrec, hpre.2⟩ rfl hlen hls hst (lv_room hW) hd hcl) (fun v' w' hp H' locs' h1 h2 h3 => by
    obtain ⟨rfl, rfl⟩ := hp
    exact k H' locs' h1 h2 h3)
theorem zcSk (X : zX p s m args meth c D y A own cc mL ret) (hC : zCk l D y yn cb mL' ret' rm av wc (zE val w) K) (hok : zKok K) (hk : K A s s.heap) (cf : zCB own idx yn cb mL' ret' n ∧ Cond.static yn ∈ wAll) (hR : rm.frames + 1 ≤ R.frames ∧ 8 + (mL' + 11) + rm.locals ≤ R.locals) (hP : va_P D vwCl ws H) (hD : va_D A ws) (hS : va_S A s.heap H locs) (isC isR : List Nat) (hc : isC.map (fun i => ws[i]?) = wc.map some) (hr : isR.map (fun i => ws[i]?) = wr.map some) (hn : va_nd isR = true) (hnC : va_nd isC = true) (hdis : ∀ i ∈ isR, i ∉ isC)
    (hst : st = av.reverse ++ rest) (hlen : av.length = n) (hls : ls.size = mL) (hW : (rest.map fun v => v.category).sum ≤ 8) (hd : decode cc pc = .ok (.invokestatic idx, 3)) (hcl : cells + rm.cells ≤ R.cells ∧ slots + rm.slots ≤ R.slots)
    (k : ∀ (H' : Heap) (locs' : List Loc), va_P D vwCl (wr ++ w) H' → va_D A (wr ++ w) → va_S A s.heap H' locs' → W p l e R s m args below meth c H' locs' (cells + rm.cells) (slots + rm.slots) Q (F0 m (pc + 3) ls (val.toList ++ rest))) : W p l e R s m args below meth c H locs cells slots Q (F0 m pc ls st) := by
  obtain ⟨hx, hb, hr', hml, hown, hts, hK, hA, hlocks, hN⟩ := id X
  exact zafter X hP hD hS isC isR hc hr hn hdis (va_runS (As := av) (rest := rest) ⟨hx, hb, hml, hown, hts⟩ (hC H.size) ⟨zcb X cf.1 hR, hts _ cf.2⟩ (zprek (av := av) X hok hk (zPsub hP hc) (hD.sub isC hnC hc) hS (va_free hD hS hA isC hc)) rfl hlen hls hst (lv_room hW) hd hcl) (fun v' w' hp H' locs' h1 h2 h3 => by
    obtain ⟨rfl, rfl⟩ := hp
    exact k H' locs' h1 h2 h3)
theorem zOrec {E : String} {t : Nat} (h : va_O E t A s s.heap) (hS : va_S A s.heap H locs) : ∃ cellB : Cell, H[t]? = some cellB ∧ cellB.vm.isStatics = false ∧ s.vm.findClass E = some cellB.cls := by
  obtain ⟨cell, h1, h2, h3, -⟩ := h.kept hS.2.1
  exact ⟨cell, h1, h2, h3⟩
end ZK
theorem zStr_ok (tx : String) (sa : Nat) : zKok (fun A U H => zStr tx sa A U H) := fun A A' s U H0 H h hq hA hvm => zStr.go h hq hA hvm
theorem zT_ok {ty : FieldType} {t N : Nat} {f : Nat → Value} : zKok (fun A U H => va_T ty t N f A U H) := fun A A' s U H0 H h hq hA hvm => va_T.moved hvm ((h.kept hq).narrow hA)
abbrev rm_J0_coder_7d493 : Room := { frames := 0, cells := 0, slots := 0, locals := 0 }
set_option maxHeartbeats 4000000 in
set_option maxRecDepth 100000 in
theorem zc_J0_coder_7d493 (l : Launch) (D : va_G) (y : zY) (tx : String) (sa : Nat) : zCk l D y yJ0_coder_7d493 cJ0_coder_7d493 1 (some .byte) rm_J0_coder_7d493 [.ref sa] [] (zE (some (.int 0)) []) (fun A U H => zStr tx sa A U H) := by
  refine zmkk (by decide) (Nat.le_of_ble_eq_true rfl) ?_
  intro p e s m args below meth c A Q ls X hQ hk hP hD hS hl
  have X : zX p s m args meth c D y A RJ0 cJ0_coder_7d493 1 (some .byte) := X
  obtain ⟨hx, hb, hr, hml, hown, hts, hK, hA, hlocks, hN⟩ := id X
  have hl : lv_has ls 1 [(0, .ref sa)] := hl
  obtain ⟨sv, k1, k2, k3, k4⟩ := hk
  refine va_gets hx hb hN.2.2.1 hS hown (hts _ q_681) (fun _ h => h) dJ0_coder_7d493_0 ?_
  refine lv_if_eq (tgt := 13) hx hb dJ0_coder_7d493_3 (by decide) (fun c3 => absurd c3 (by decide)) (fun _ => ?_)
  refine lv_aload_n hx hb dJ0_coder_7d493_6 rfl (lv_at hl 0 rfl) ?_
  refine vk_getf hx hb k2 hS hown (hts _ q_1891) (fun _ h => h) dJ0_coder_7d493_7 ?_
  refine lv_goto (tgt := 14) hx hb dJ0_coder_7d493_10 (by decide) ?_
  exact zreti X hQ hP hD hS ⟨rfl, rfl⟩ rfl dJ0_coder_7d493_14 (Nat.le_of_ble_eq_true rfl) (Nat.le_of_ble_eq_true rfl)
abbrev rm_J0_isLatin1_aae02 : Room := { frames := 0, cells := 0, slots := 0, locals := 0 }
set_option maxHeartbeats 4000000 in
set_option maxRecDepth 100000 in
theorem zc_J0_isLatin1_aae02 (l : Launch) (D : va_G) (y : zY) (tx : String) (sa : Nat) : zCk l D y yJ0_isLatin1_aae02 cJ0_isLatin1_aae02 1 (some .boolean) rm_J0_isLatin1_aae02 [.ref sa] [] (zE (some (.int 1)) []) (fun A U H => zStr tx sa A U H) := by
  refine zmkk (by decide) (Nat.le_of_ble_eq_true rfl) ?_
  intro p e s m args below meth c A Q ls X hQ hk hP hD hS hl
  have X : zX p s m args meth c D y A RJ0 cJ0_isLatin1_aae02 1 (some .boolean) := X
  obtain ⟨hx, hb, hr, hml, hown, hts, hK, hA, hlocks, hN⟩ := id X
  have hl : lv_has ls 1 [(0, .ref sa)] := hl
  obtain ⟨sv, k1, k2, k3, k4⟩ := hk
  refine va_gets hx hb hN.2.2.1 hS hown (hts _ q_681) (fun _ h => h) dJ0_isLatin1_aae02_0 ?_
  refine lv_if_eq (tgt := 17) hx hb dJ0_isLatin1_aae02_3 (by decide) (fun c3 => absurd c3 (by decide)) (fun _ => ?_)
  refine lv_aload_n hx hb dJ0_isLatin1_aae02_6 rfl (lv_at hl 0 rfl) ?_
  refine vk_getf hx hb k2 hS hown (hts _ q_1891) (fun _ h => h) dJ0_isLatin1_aae02_7 ?_
  refine lv_if_ne (tgt := 17) hx hb dJ0_isLatin1_aae02_10 (by decide) (fun c3 => absurd rfl c3) (fun _ => ?_)
  refine lv_iconst (v := 1) hx hb dJ0_isLatin1_aae02_13 (by decide) ?_
  refine lv_goto (tgt := 18) hx hb dJ0_isLatin1_aae02_14 (by decide) ?_
  exact zreti X hQ hP hD hS ⟨rfl, rfl⟩ rfl dJ0_isLatin1_aae02_18 (Nat.le_of_ble_eq_true rfl) (Nat.le_of_ble_eq_true rfl)
theorem kf_RJ0_335 : zCB RJ0 335 yJ0_coder_7d493 cJ0_coder_7d493 1 (some .byte) 0 ∧ Cond.instanceMethod yJ0_coder_7d493 ∈ wAll ∧ Cond.selects yJ0_coder_7d493.cls yJ0_coder_7d493 yJ0_coder_7d493 ∈ wAll := ⟨⟨q_680, q_11, q_677, by decide +kernel⟩, q_678, q_679⟩
abbrev rm_J0_length_8abf5 : Room := { frames := 1, cells := 0, slots := 0, locals := 20 }
set_option maxHeartbeats 4000000 in
set_option maxRecDepth 100000 in
theorem zc_J0_length_8abf5 (l : Launch) (D : va_G) (y : zY) (tx : String) (sa : Nat) : zCk l D y yJ0_length_8abf5 cJ0_length_8abf5 1 (some .int) rm_J0_length_8abf5 [.ref sa] [] (zE (some (.int (nI tx.toList.length))) []) (fun A U H => zStr tx sa A U H) := by
  refine zmkk (by decide) (Nat.le_of_ble_eq_true rfl) ?_
  intro p e s m args below meth c A Q ls X hQ hk hP hD hS hl
  have X : zX p s m args meth c D y A RJ0 cJ0_length_8abf5 1 (some .int) := X
  obtain ⟨hx, hb, hr, hml, hown, hts, hK, hA, hlocks, hN⟩ := id X
  have hl : lv_has ls 1 [(0, .ref sa)] := hl
  obtain ⟨sv, k1, k2, k3, k4⟩ := id hk
  refine lv_aload_n hx hb dJ0_length_8abf5_0 rfl (lv_at hl 0 rfl) ?_
  refine vk_getf hx hb k3 hS hown (hts _ q_1890) (fun _ h => h) dJ0_length_8abf5_1 ?_
  refine va_tlen (v := nI tx.toList.length) hx hb k4 hS rfl dJ0_length_8abf5_4 ?_
  refine lv_aload_n hx hb dJ0_length_8abf5_5 rfl (lv_at hl 0 rfl) ?_
  refine zcVk (wr := []) (av := []) (rest := [.int (nI tx.toList.length)]) X (zc_J0_coder_7d493 l D y tx sa) (zStr_ok tx sa) hk kf_RJ0_335 ⟨(Nat.le_of_ble_eq_true rfl), (Nat.le_of_ble_eq_true rfl)⟩ hP hD hS [] [] rfl rfl rfl rfl (by decide) (zOrec k1 hS) rfl rfl hl.1 (Nat.le_of_ble_eq_true rfl) dJ0_length_8abf5_6 ⟨(Nat.le_of_ble_eq_true rfl), (Nat.le_of_ble_eq_true rfl)⟩ (fun H locs hP hD hS => ?_)
  show W p l e rm_J0_length_8abf5 s m args below meth c H locs _ _ Q (F0 m 9 ls [.int 0, .int (nI tx.toList.length)])
  refine lv_ishr hx hb dJ0_length_8abf5_9 ?_
  rw [sb_shr0]
  exact zreti X hQ hP hD hS ⟨rfl, rfl⟩ rfl dJ0_length_8abf5_10 (Nat.le_of_ble_eq_true rfl) (Nat.le_of_ble_eq_true rfl)
abbrev rm_J3_checkIndex_8e157 : Room := { frames := 0, cells := 0, slots := 0, locals := 0 }
set_option maxHeartbeats 4000000 in
set_option maxRecDepth 100000 in
theorem zc_J3_checkIndex_8e157 (l : Launch) (D : va_G) (y : zY) (i n : Int32) (v : Value) (hv : v.category = 1) (h0 : ¬ i < 0) (h1 : i < n) : zC l D y yJ3_checkIndex_8e157 cJ3_checkIndex_8e157 3 (some .int) rm_J3_checkIndex_8e157 [.int i, .int n, v] [] (zE (some (.int i)) []) := by
  refine zmk (by decide) (by cases v <;> first | exact Nat.le_of_ble_eq_true rfl | simp [Value.category] at hv) ?_
  intro p e s m args below meth c A Q ls X hQ hnm hP hD hS hl
  have X : zX p s m args meth c D y A RJ3 cJ3_checkIndex_8e157 3 (some .int) := X
  obtain ⟨hx, hb, hr, hml, hown, hts, hK, hA, hlocks, hN⟩ := id X
  have hl : lv_has ls 3 [(0, .int i), (1, .int n), (2, v)] := by
    have e : lv_args 0 [.int i, .int n, v] = [(0, .int i), (1, .int n), (2, v)] := rfl
    rw [e] at hl
    exact hl
  refine lv_iload_n hx hb dJ3_checkIndex_8e157_0 rfl (lv_at hl 0 rfl) ?_
  refine lv_if_lt (tgt := 9) hx hb dJ3_checkIndex_8e157_1 (by decide) (fun c1 => absurd c1 h0) (fun _ => ?_)
  refine lv_iload_n hx hb dJ3_checkIndex_8e157_4 rfl (lv_at hl 0 rfl) ?_
  refine lv_iload_n hx hb dJ3_checkIndex_8e157_5 rfl (lv_at hl 1 rfl) ?_
  refine lv_icmp_lt (tgt := 16) hx hb dJ3_checkIndex_8e157_6 (by decide) (fun _ => ?_) (fun c1 => absurd h1 c1)
  refine lv_iload_n hx hb dJ3_checkIndex_8e157_16 rfl (lv_at hl 0 rfl) ?_
  exact zreti X hQ hP hD hS ⟨rfl, rfl⟩ rfl dJ3_checkIndex_8e157_17 (Nat.le_of_ble_eq_true rfl) (Nat.le_of_ble_eq_true rfl)
theorem kf_RJ0_1059 : zCB RJ0 1059 yJ3_checkIndex_8e157 cJ3_checkIndex_8e157 3 (some .int) 3 ∧ Cond.static yJ3_checkIndex_8e157 ∈ wAll := ⟨⟨q_701, q_13, q_699, by decide +kernel⟩, q_700⟩
abbrev rm_J0_checkIndex_df160 : Room := { frames := 1, cells := 0, slots := 0, locals := 22 }
set_option maxHeartbeats 4000000 in
set_option maxRecDepth 100000 in
theorem zc_J0_checkIndex_df160 (l : Launch) (D : va_G) (y : zY) (i n : Int32) (h0 : ¬ i < 0) (h1 : i < n) : zC l D y yJ0_checkIndex_df160 cJ0_checkIndex_df160 2 none rm_J0_checkIndex_df160 [.int i, .int n] [] (zE none []) := by
  refine zmk (by decide) (Nat.le_of_ble_eq_true rfl) ?_
  intro p e s m args below meth c A Q ls X hQ hnm hP hD hS hl
  have X : zX p s m args meth c D y A RJ0 cJ0_checkIndex_df160 2 none := X
  obtain ⟨hx, hb, hr, hml, hown, hts, hK, hA, hlocks, hN⟩ := id X
  have hl : lv_has ls 2 [(0, .int i), (1, .int n)] := hl
  refine lv_iload_n hx hb dJ0_checkIndex_df160_0 rfl (lv_at hl 0 rfl) ?_
  refine lv_iload_n hx hb dJ0_checkIndex_df160_1 rfl (lv_at hl 1 rfl) ?_
  rcases hN.2.2.2.1 with hz | ⟨t9, hz⟩
  · refine va_gets hx hb hz hS hown (hts _ q_697) (fun _ h => h) dJ0_checkIndex_df160_2 ?_
    refine zcS1 (wr := []) (rest := []) X (zc_J3_checkIndex_8e157 l D y i n .null rfl h0 h1) kf_RJ0_1059 ⟨(Nat.le_of_ble_eq_true rfl), (Nat.le_of_ble_eq_true rfl)⟩ hP hD hS [] [] rfl rfl rfl rfl (by decide) rfl rfl hl.1 (Nat.le_of_ble_eq_true rfl) dJ0_checkIndex_df160_5 ⟨(Nat.le_of_ble_eq_true rfl), (Nat.le_of_ble_eq_true rfl)⟩ (fun H locs hP hD hS => ?_)
    refine lv_pop hx hb dJ0_checkIndex_df160_8 rfl ?_
    exact zretv X hQ hP hD hS ⟨rfl, rfl⟩ dJ0_checkIndex_df160_9 (Nat.le_of_ble_eq_true rfl) (Nat.le_of_ble_eq_true rfl)
  · refine va_gets hx hb hz hS hown (hts _ q_697) (fun _ h => h) dJ0_checkIndex_df160_2 ?_
    refine zcS1 (wr := []) (rest := []) X (zc_J3_checkIndex_8e157 l D y i n (.ref t9) rfl h0 h1) kf_RJ0_1059 ⟨(Nat.le_of_ble_eq_true rfl), (Nat.le_of_ble_eq_true rfl)⟩ hP hD hS [] [] rfl rfl rfl rfl (by decide) rfl rfl hl.1 (Nat.le_of_ble_eq_true rfl) dJ0_checkIndex_df160_5 ⟨(Nat.le_of_ble_eq_true rfl), (Nat.le_of_ble_eq_true rfl)⟩ (fun H locs hP hD hS => ?_)
    refine lv_pop hx hb dJ0_checkIndex_df160_8 rfl ?_
    exact zretv X hQ hP hD hS ⟨rfl, rfl⟩ dJ0_checkIndex_df160_9 (Nat.le_of_ble_eq_true rfl) (Nat.le_of_ble_eq_true rfl)
theorem kf_RJ1_9 : zCB RJ1 9 yJ0_checkIndex_df160 cJ0_checkIndex_df160 2 (none : Option Jvm.ClassFile.FieldType) 2 ∧ Cond.static yJ0_checkIndex_df160 ∈ wAll := ⟨⟨q_696, q_11, q_694, by decide +kernel⟩, q_695⟩
abbrev rm_J1_charAt_3b067 : Room := { frames := 2, cells := 0, slots := 0, locals := 43 }
set_option maxHeartbeats 4000000 in
set_option maxRecDepth 100000 in
theorem zc_J1_charAt_3b067 (l : Launch) (D : va_G) (y : zY) (sv N : Nat) (f : Nat → Int32) (i : Int32) (hi : vp_in i N) (hN : N < 1000) : zCk l D y yJ1_charAt_3b067 cJ1_charAt_3b067 2 (some .char) rm_J1_charAt_3b067 [.ref sv, .int i] [] (zE (some (.int (zi2c (f i.toNatClampNeg &&& 255)))) []) (fun A U H => va_T .byte sv N (fun j => .int (f j)) A U H) := by
  refine zmkk (by decide) (Nat.le_of_ble_eq_true rfl) ?_
  intro p e s m args below meth c A Q ls X hQ hk hP hD hS hl
  have X : zX p s m args meth c D y A RJ1 cJ1_charAt_3b067 2 (some .char) := X
  obtain ⟨hx, hb, hr, hml, hown, hts, hK, hA, hlocks, hN⟩ := id X
  have hl : lv_has ls 2 [(0, .ref sv), (1, .int i)] := hl
  obtain ⟨j, hj, rfl⟩ := vp_in_of hi (by omega)
  refine lv_iload_n hx hb dJ1_charAt_3b067_0 rfl (lv_at hl 1 rfl) ?_
  refine lv_aload_n hx hb dJ1_charAt_3b067_1 rfl (lv_at hl 0 rfl) ?_
  refine va_tlen (v := nI N) hx hb hk hS rfl dJ1_charAt_3b067_2 ?_
  refine zcS0 (wr := []) (rest := []) X (zc_J0_checkIndex_df160 l D y (nI j) (nI N) (nI_pos (by omega)) (nI_lt hj (by omega))) kf_RJ1_9 ⟨(Nat.le_of_ble_eq_true rfl), (Nat.le_of_ble_eq_true rfl)⟩ hP hD hS [] [] rfl rfl rfl rfl (by decide) rfl rfl hl.1 (Nat.le_of_ble_eq_true rfl) dJ1_charAt_3b067_3 ⟨(Nat.le_of_ble_eq_true rfl), (Nat.le_of_ble_eq_true rfl)⟩ (fun H locs hP hD hS => ?_)
  refine lv_aload_n hx hb dJ1_charAt_3b067_6 rfl (lv_at hl 0 rfl) ?_
  refine lv_iload_n hx hb dJ1_charAt_3b067_7 rfl (lv_at hl 1 rfl) ?_
  refine va_tb hx hb hk hS hi rfl dJ1_charAt_3b067_8 ?_
  refine lv_sipush (v := 255) hx hb dJ1_charAt_3b067_9 (by decide) ?_
  refine lv_iand hx hb dJ1_charAt_3b067_12 ?_
  refine lv_i2c (v := zi2c (f (nI j).toNatClampNeg &&& 255)) hx hb dJ1_charAt_3b067_13 rfl ?_
  exact zreti X hQ hP hD hS ⟨rfl, rfl⟩ (pk_nc _) dJ1_charAt_3b067_14 (Nat.le_of_ble_eq_true rfl) (Nat.le_of_ble_eq_true rfl)
theorem kf_RJ0_492 : zCB RJ0 492 yJ0_isLatin1_aae02 cJ0_isLatin1_aae02 1 (some .boolean) 0 ∧ Cond.instanceMethod yJ0_isLatin1_aae02 ∈ wAll ∧ Cond.selects yJ0_isLatin1_aae02.cls yJ0_isLatin1_aae02 yJ0_isLatin1_aae02 ∈ wAll := ⟨⟨q_690, q_11, q_687, by decide +kernel⟩, q_688, q_689⟩
theorem kf_RJ0_495 : zCB RJ0 495 yJ1_charAt_3b067 cJ1_charAt_3b067 2 (some .char) 2 ∧ Cond.static yJ1_charAt_3b067 ∈ wAll := ⟨⟨q_693, q_12, q_691, by decide +kernel⟩, q_692⟩
abbrev rm_J0_charAt_5068e : Room := { frames := 3, cells := 0, slots := 0, locals := 64 }
set_option maxHeartbeats 4000000 in
set_option maxRecDepth 100000 in
theorem zc_J0_charAt_5068e (l : Launch) (D : va_G) (y : zY) (tx : String) (sa : Nat) (i : Int32) (hi : vp_in i tx.toList.length) (htx : tx.toList.length < 1000) : zCk l D y yJ0_charAt_5068e cJ0_charAt_5068e 2 (some .char) rm_J0_charAt_5068e [.ref sa, .int i] [] (zE (some (.int (zi2c (zchr tx i.toNatClampNeg &&& 255)))) []) (fun A U H => zStr tx sa A U H) := by
  refine zmkk (by decide) (Nat.le_of_ble_eq_true rfl) ?_
  intro p e s m args below meth c A Q ls X hQ hk hP hD hS hl
  have X : zX p s m args meth c D y A RJ0 cJ0_charAt_5068e 2 (some .char) := X
  obtain ⟨hx, hb, hr, hml, hown, hts, hK, hA, hlocks, hN⟩ := id X
  have hl : lv_has ls 2 [(0, .ref sa), (1, .int i)] := hl
  obtain ⟨sv, k1, k2, k3, k4⟩ := id hk
  refine lv_aload_n hx hb dJ0_charAt_5068e_0 rfl (lv_at hl 0 rfl) ?_
  refine zcVk (wr := []) (av := []) (rest := []) X (zc_J0_isLatin1_aae02 l D y tx sa) (zStr_ok tx sa) hk kf_RJ0_492 ⟨(Nat.le_of_ble_eq_true rfl), (Nat.le_of_ble_eq_true rfl)⟩ hP hD hS [] [] rfl rfl rfl rfl (by decide) (zOrec k1 hS) rfl rfl hl.1 (Nat.le_of_ble_eq_true rfl) dJ0_charAt_5068e_1 ⟨(Nat.le_of_ble_eq_true rfl), (Nat.le_of_ble_eq_true rfl)⟩ (fun H locs hP hD hS => ?_)
  show W p l e rm_J0_charAt_5068e s m args below meth c H locs _ _ Q (F0 m 4 ls [.int 1])
  refine lv_if_eq (tgt := 16) hx hb dJ0_charAt_5068e_4 (by decide) (fun c3 => absurd c3 (by decide)) (fun _ => ?_)
  refine lv_aload_n hx hb dJ0_charAt_5068e_7 rfl (lv_at hl 0 rfl) ?_
  refine vk_getf hx hb k3 hS hown (hts _ q_1890) (fun _ h => h) dJ0_charAt_5068e_8 ?_
  refine lv_iload_n hx hb dJ0_charAt_5068e_11 rfl (lv_at hl 1 rfl) ?_
  refine zcSk (wr := []) (av := [.ref sv, .int i]) (rest := []) X (zc_J1_charAt_3b067 l D y sv tx.toList.length (zchr tx) i hi htx) zT_ok k4 kf_RJ0_495 ⟨(Nat.le_of_ble_eq_true rfl), (Nat.le_of_ble_eq_true rfl)⟩ hP hD hS [] [] rfl rfl rfl rfl (by decide) rfl rfl hl.1 (Nat.le_of_ble_eq_true rfl) dJ0_charAt_5068e_12 ⟨(Nat.le_of_ble_eq_true rfl), (Nat.le_of_ble_eq_true rfl)⟩ (fun H locs hP hD hS => ?_)
  show W p l e rm_J0_charAt_5068e s m args below meth c H locs _ _ Q (F0 m 15 ls [.int (zi2c (zchr tx i.toNatClampNeg &&& 255))])
  exact zreti X hQ hP hD hS ⟨rfl, rfl⟩ (pk_nc _) dJ0_charAt_5068e_15 (Nat.le_of_ble_eq_true rfl) (Nat.le_of_ble_eq_true rfl)
