/-! a row laid: the class's counting of it -/
theorem gSum_filter (F : Nat → Nat) (p : Nat → Bool) (n : Nat) : gSum (fun i => F (((List.range n).filter p).getD i 0)) ((List.range n).filter p).length = gSum (fun s => if p s then F s else 0) n := by
  induction n with
  | zero => rfl
  | succ n ih =>
    rw [List.range_succ, List.filter_append]
    show _ = gSum (fun s => if p s then F s else 0) n + (if p n then F n else 0)
    rw [← ih]
    by_cases h : p n = true
    · rw [List.filter_cons, if_pos h, if_pos h, List.length_append]
      show gSum _ (((List.range n).filter p).length + 1) = _
      show gSum _ ((List.range n).filter p).length + F ((((List.range n).filter p) ++ [n]).getD ((List.range n).filter p).length 0) = _
      rw [List.getD_eq_getElem?_getD, List.getElem?_append_right (Nat.le_refl _), Nat.sub_self]
      congr 1
      refine gSum_cong (fun i hi => ?_)
      rw [List.getD_eq_getElem?_getD, List.getElem?_append_left hi, ← List.getD_eq_getElem?_getD]
    · rw [List.filter_cons, if_neg h, if_neg h, List.filter_nil, List.append_nil]; rfl
theorem gSts_mem {g : gG} {row s : Nat} : s ∈ gSts g row ↔ s < gSz g.1 ∧ 0 < gTot g row s := by
  unfold gSts
  rw [List.mem_filter, List.mem_range, decide_eq_true_eq]
theorem gSts_pw (g : gG) (row : Nat) : (gSts g row).Pairwise (· < ·) := List.Pairwise.filter _ List.pairwise_lt_range
theorem gSts_len {g : gG} (hw : gWf g) (row : Nat) : (gSts g row).length ≤ 132 := by
  refine Nat.le_trans (List.length_filter_le _ _) ?_
  rw [List.length_range]
  exact gSzle hw.1.2
theorem gEndE (g : gG) (row : Nat) (h : 0 < row) : gEnd g (row - 1) = gRS g.1 row := by
  unfold gEnd
  rw [show row - 1 + 1 = row by omega]
theorem gEnd_le {g : gG} (hw : gWf g) {row : Nat} (hr : row < g.2.1) : gEnd g row ≤ gRS g.1 g.2.1 := (gRSm' hw hr).2
theorem gTot_pos {g : gG} (hok : gOk g) {row s : Nat} (hr : row < g.2.1) : 0 < gTot g row s ↔ ∃ k, gW g row s k ≠ 0 := by
  have f24 := gFs24 hok (gEnd_le hok.1 hr)
  constructor
  · intro h
    obtain ⟨k, _, q⟩ := gSum_pos (f := gW g row s) (n := 25) (by unfold gTot at h; omega)
    exact ⟨k, q⟩
  · rintro ⟨k, q⟩
    rcases Nat.lt_or_ge k 25 with hk | hk
    · have : gW g row s k ≤ gTot g row s := gSum_mem (f := gW g row s) hk
      omega
    · exact absurd (gC_far g (gEnd g row) s k (by omega)) q
theorem gW_z {g : gG} (hok : gOk g) {row s : Nat} (hr : row < g.2.1) (h : ¬ 0 < gTot g row s) (k : Nat) : gW g row s k = 0 := by
  rw [gTot_pos hok hr] at h
  exact Decidable.byContradiction (fun q => h ⟨k, q⟩)
def gRowL (g : gG) (y : Nat) (mn nb : Nat → Int32) (wy : Nat → Int64) : Prop := mn y = nI (gSts g y).length ∧ ∀ j s, (gSts g y)[j]? = some s → nb (300 * y + j) = nI (gNum g y s g.1) ∧ ∀ k, k < 25 → wy (25 * (300 * y + j) + k) = lN (gW g y s k)
/-- the sources of a row -/
def gSl (g : gG) (row : Nat) : List Nat := if row = 0 then [gS0 g] else gSts g (row - 1)
theorem gSl_sum {g : gG} (hok : gOk g) {row : Nat} (hr : row < g.2.1) (F : Nat → Nat) (hF : ∀ s, (∀ k, gC g (gRS g.1 row) s k = 0) → F s = 0) : gSum (fun i => F ((gSl g row).getD i 0)) (gSl g row).length = gSum F (gSz g.1) := by
  unfold gSl
  by_cases r0 : row = 0
  · rw [if_pos r0]
    show 0 + F (gS0 g) = _
    rw [Nat.zero_add, ← gSum_one (a := gS0 g) F (gS0_lt hok.1).1]
    refine gSum_cong (fun s _ => ?_)
    by_cases e : gS0 g = s
    · rw [if_pos e]
    · rw [if_neg e, hF s (fun k => ?_)]
      rw [r0, gRS0]
      exact if_neg (fun q => e q.1.symm)
  · rw [if_neg r0]
    unfold gSts
    rw [gSum_filter]
    refine gSum_cong (fun s _ => ?_)
    by_cases q : 0 < gTot g (row - 1) s
    · rw [if_pos (decide_eq_true q)]
    · rw [if_neg (by rw [decide_eq_false q]; decide), hF s (fun k => ?_)]
      rw [← gEndE g row (by omega)]
      exact gW_z hok (by omega) q k
theorem gSl_mem {g : gG} (hok : gOk g) {row : Nat} (hr : row < g.2.1) {s : Nat} : s ∈ gSl g row ↔ s < gSz g.1 ∧ ∃ k, gC g (gRS g.1 row) s k ≠ 0 := by
  unfold gSl
  by_cases r0 : row = 0
  · rw [if_pos r0, List.mem_singleton, r0, gRS0]
    constructor
    · intro h
      rw [h]
      refine ⟨(gS0_lt hok.1).1, 0, ?_⟩
      show (if gS0 g = gS0 g ∧ 0 = 0 then 1 else 0) ≠ 0
      rw [if_pos ⟨rfl, rfl⟩]; decide
    · rintro ⟨_, k, h⟩
      have h : (if s = gS0 g ∧ k = 0 then 1 else 0) ≠ 0 := h
      by_cases q : s = gS0 g ∧ k = 0
      · exact q.1
      · rw [if_neg q] at h; exact absurd rfl h
  · rw [if_neg r0, gSts_mem, gTot_pos hok (by omega)]
    unfold gW
    rw [gEndE g row (by omega)]
theorem glayRow {g : gG} (hok : gOk g) {fc fr : Int32} {ct cs : Nat → Int32} (hM : gRM g fc fr ct cs) {row : Nat} (hr : row < g.2.1) {mn nb : Nat → Int32} {wy : Nat → Int64} {pl : Nat → Int32} (hp : ∀ i, i < 100000 → pl i = 0) (hL : ∀ y, y < row → gRowL g y mn nb wy) (lb ol io fo gv : Nat → Int32) : ∃ mn' nb' wy' pl' lb' ol' io' fo' gv', zf_X9_laysRow fc fr ct cs mn nb wy pl lb ol io fo gv (nI row) = some (mn', nb', wy', pl', lb', ol', io', fo', gv') ∧ (∀ i, i < 100000 → pl' i = 0) ∧ ∀ y, y < row + 1 → gRowL g y mn' nb' wy' := by
  have hw := hok.1
  have hr5 := hw.2.1.2
  obtain ⟨n, io1, fo1, f, o1, hR, ht⟩ := gones hw hM hr io fo
  -- the sources
  have Bl : (gSl g row).length ≤ 132 := by
    unfold gSl
    by_cases r0 : row = 0
    · rw [if_pos r0]; show 1 ≤ 132; decide
    · rw [if_neg r0]; exact gSts_len hw _
  have hS : gSrcs g row (gSl g row).length (fun i => (gSl g row).getD i 0) (fun i => gC g (gRS g.1 row) ((gSl g row).getD i 0)) nb wy := by
    refine ⟨Bl, fun i hi => ?_⟩
    have hi' : (gSl g row)[i]? = some ((gSl g row).getD i 0) := by rw [List.getD_eq_getElem?_getD, List.getElem?_eq_getElem hi]; rfl
    have mem : (gSl g row).getD i 0 ∈ gSl g row := List.mem_of_getElem? hi'
    obtain ⟨m1, k, m2⟩ := (gSl_mem hok hr).mp mem
    refine ⟨gsrcC (fun h0 s k hs h => ggood hw _ (by omega) s k hs h) m1 m2, fun r0 k => ?_, fun h0 => ?_⟩
    · have : (gSl g row).getD i 0 = gS0 g := by
        unfold gSl at mem
        rw [if_pos r0] at mem
        unfold gSl
        rw [if_pos r0]
        exact List.mem_singleton.mp mem
      dsimp only
      rw [this, r0, gRS0]
      show (if gS0 g = gS0 g ∧ k = 0 then 1 else 0) = _
      by_cases q : k = 0
      · rw [if_pos ⟨rfl, q⟩, if_pos q]
      · rw [if_neg (fun h => q h.2), if_neg q]
    · have e : gSl g row = gSts g (row - 1) := by unfold gSl; rw [if_neg (by omega)]
      rw [e] at hi' ⊢
      obtain ⟨a1, a2⟩ := (hL (row - 1) (by omega)).2 i _ hi'
      refine ⟨a1, fun k hk => ?_⟩
      rw [a2 k hk]
      unfold gW
      rw [gEndE g row h0]
  have hP0 : gPr g row [] (fun _ _ => 0) mn nb wy (upd mn row 0) nb wy pl := by
    refine ⟨List.Pairwise.nil, fun u h => absurd h (List.not_mem_nil), gupS, fun j u h => (by cases h), fun n hn _ => hp n hn, fun _ _ _ => rfl, fun y hy => gupN hy, fun _ _ => rfl, fun _ _ => rfl⟩
  obtain ⟨mn', nb1, wy1, pl1, lb', ol', io', gv', Ls, s1, s2, s3⟩ := gsrcs hw hr hR hS hM.2.2.2 hP0 ht lb ol gv
  obtain ⟨pl', b1, b2⟩ := gback hw (by omega) s2
  obtain ⟨nb', wy', L', t1, t2, t3, t4⟩ := gsorts hw (by omega) s2
  -- what leads to a state
  have hcnt : ∀ v k, v < gSz g.1 → gSum (fun i => gSum (fun mask => gFd v k (gC g (gRS g.1 row) ((gSl g row).getD i 0)) (gU1 g row f n ((gSl g row).getD i 0) mask) (gct mask.testBit n)) (2 ^ n)) (gSl g row).length = gW g row v k := by
    intro v k hv
    rw [growSum hw hr hR.2.1 hv]
    refine gSl_sum hok hr (fun s => gSum (fun mask => gFd v k (gC g (gRS g.1 row) s) (gU1 g row f n s mask) (gct mask.testBit n)) (2 ^ n)) (fun s hs => gSum_z (fun mask _ => ?_))
    unfold gFd
    rw [hs]
    by_cases q : gU1 g row f n s mask = v ∧ gct mask.testBit n ≤ k
    · rw [if_pos q]
    · rw [if_neg q]
  have eL : L' = gSts g row := by
    refine gsorted_un t3 (gSts_pw g row) (fun v => ?_)
    rw [t4.mem_iff, s3 v, gSts_mem, gTot_pos hok hr]
    constructor
    · rintro ⟨i, mask, hi, hm, e⟩
      obtain ⟨-, hS2⟩ := hS
      have st := gstep hw (hS2 i hi).1 (fun j hj => gfo0 hR.2.1 hj) mask (fo := f) (n := n)
      dsimp only at st e
      rw [e] at st
      refine ⟨st.1, ?_⟩
      have hi' : (gSl g row)[i]? = some ((gSl g row).getD i 0) := by rw [List.getD_eq_getElem?_getD, List.getElem?_eq_getElem hi]; rfl
      obtain ⟨m1, k, m2⟩ := (gSl_mem hok hr).mp (List.mem_of_getElem? hi')
      refine ⟨k + gct mask.testBit n, ?_⟩
      rw [growSum hw hr hR.2.1 st.1]
      have l1 : gFd v (k + gct mask.testBit n) (gC g (gRS g.1 row) ((gSl g row).getD i 0)) (gU1 g row f n ((gSl g row).getD i 0) mask) (gct mask.testBit n) ≠ 0 := by
        unfold gFd
        rw [if_pos ⟨e, by omega⟩, Nat.add_sub_cancel]; exact m2
      have l2 : _ ≤ gSum (fun mask' => gFd v (k + gct mask.testBit n) (gC g (gRS g.1 row) ((gSl g row).getD i 0)) (gU1 g row f n ((gSl g row).getD i 0) mask') (gct mask'.testBit n)) (2 ^ n) := gSum_mem (f := fun mask' => gFd v (k + gct mask.testBit n) (gC g (gRS g.1 row) ((gSl g row).getD i 0)) (gU1 g row f n ((gSl g row).getD i 0) mask') (gct mask'.testBit n)) hm
      have l3 := gSum_mem (f := fun s => gSum (fun mask' => gFd v (k + gct mask.testBit n) (gC g (gRS g.1 row) s) (gU1 g row f n s mask') (gct mask'.testBit n)) (2 ^ n)) m1
      omega
    · rintro ⟨hv, k, h⟩
      rw [growSum hw hr hR.2.1 hv] at h
      obtain ⟨s, hs, h⟩ := gSum_pos h
      obtain ⟨mask, hm, h⟩ := gSum_pos h
      unfold gFd at h
      by_cases q : gU1 g row f n s mask = v ∧ gct mask.testBit n ≤ k
      · rw [if_pos q] at h
        obtain ⟨i, hi⟩ := List.mem_iff_getElem?.mp ((gSl_mem hok hr).mpr ⟨hs, _, h⟩)
        refine ⟨i, mask, (List.getElem?_eq_some_iff.mp hi).1, hm, ?_⟩
        rw [List.getD_eq_getElem?_getD, hi]
        exact q.1
      · rw [if_neg q] at h; exact absurd rfl h
  unfold zf_X9_laysRow zf_X9_laysRow_148
  have z5 : zgd (nI row) 5 = true := ggN (by omega) (by decide)
  rw [o1, Option.bind_some]
  dsimp only
  have fin : ((zit (fun d : Int32 × (Nat → Int32) × (Nat → Int32) × (Nat → Int64) × (Nat → Int32) × (Nat → Int32) × (Nat → Int32) × (Nat → Int32) × (Nat → Int32) => zf_X9_laysRow_l152 fc cs fo1 (nI row) (nI n) (nI (gSl g row).length) d.1 d.2.1 d.2.2.1 d.2.2.2.1 d.2.2.2.2.1 d.2.2.2.2.2.1 d.2.2.2.2.2.2.1 d.2.2.2.2.2.2.2.1 d.2.2.2.2.2.2.2.2) zfu ((0 : Int32), upd mn row 0, nb, wy, pl, lb, ol, io1, gv)).bind fun o152 =>
      (zit (fun d : Int32 × (Nat → Int32) => zf_X9_laysRow_l335 o152.1 o152.2.1 (nI row) d.1 d.2) zfu ((0 : Int32), o152.2.2.2.1)).bind fun o335 =>
      (zf_X9_sorts o152.1 o152.2.1 o152.2.2.1 (nI row)).bind fun o373 =>
      some (o152.1, o373.1, o373.2, o335, o152.2.2.2.2.1, o152.2.2.2.2.2.1, o152.2.2.2.2.2.2.1, fo1, o152.2.2.2.2.2.2.2)) = some (mn', nb', wy', pl', lb', ol', io', fo1, gv') := by
    rw [hM.1, s1, Option.bind_some]
    dsimp only
    rw [b1, Option.bind_some, t1, Option.bind_some]
  refine ⟨mn', nb', wy', pl', lb', ol', io', fo1, gv', ?_, b2, fun y hy => ?_⟩
  · rw [if_pos z5]
    by_cases r0 : row = 0
    · have e1 : (gSl g row).length = 1 := by unfold gSl; rw [if_pos r0]; rfl
      rw [if_pos (by rw [r0]; rfl), nI_clamp (by omega), show (1 : Int32) = nI (gSl g row).length by rw [e1]; rfl]
      exact fin
    · have e1 : upd mn row 0 (row - 1) = nI (gSl g row).length := by
        rw [gupN (by omega), (hL (row - 1) (by omega)).1]
        unfold gSl; rw [if_neg r0]
      rw [if_neg (by rw [show (0 : Int32) = nI 0 from rfl, nI_eq (by omega) (by decide)]; exact r0), show (1 : Int32) = nI 1 from rfl, gsub (by omega), if_pos (ggN (by omega) (by decide)), nI_clamp (by omega), nI_clamp (by omega), e1]
      exact fin
  · by_cases e : y = row
    · rw [e]
      refine ⟨?_, fun j s hs => ?_⟩
      · rw [s2.2.2.1, ← t4.length_eq, eL]
      · rw [← eL] at hs
        obtain ⟨c1, c2⟩ := t2.1 j s hs
        have hv : s < gSz g.1 := (gSts_mem.mp (by rw [← eL]; exact List.mem_of_getElem? hs)).1
        exact ⟨c1, fun k hk => by rw [c2 k hk]; exact congrArg lN (hcnt s k hv)⟩
    · obtain ⟨c1, c2⟩ := hL y (by omega)
      refine ⟨?_, fun j s hs => ?_⟩
      · rw [s2.2.2.2.2.2.2.1 y e]; exact c1
      · have hj := (List.getElem?_eq_some_iff.mp hs).1
        have := gSts_len hw y
        obtain ⟨d1, d2⟩ := c2 j s hs
        exact ⟨by rw [t2.2.1 _ (by omega)]; exact d1, fun k hk => by rw [t2.2.2 _ (by omega)]; exact d2 k hk⟩
