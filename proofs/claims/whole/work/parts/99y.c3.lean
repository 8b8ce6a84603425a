/-! state, ways -/
theorem gETq : ∀ c : Fin 6, ∀ m : Fin 32, (gT c.val).all (fun k => !gGd c.val m.val.testBit k || (List.range c.val).all (fun x => Nat.ble (gct (fun z => m.val.testBit z && decide (gLk k z < gLk k x)) c.val) (gLk k x))) = true := by decide +kernel
theorem gStl {g : gG} (hw : gWf g) {row s x : Nat} (hs : s < gSz g.1) (h : gGood g row s) (hx : x < g.1) : gct (fun z => g.2.2.2 (5 * row + z) && decide (gLb g.1 s z < gLb g.1 s x)) g.1 ≤ gLb g.1 s x := by
  have hc := hw.1.2
  obtain ⟨m, hm, hb⟩ := gmask (gSt g row)
  have hb' : ∀ y, y < g.1 → m.testBit y = gSt g row y := fun y hy => hb y (by omega)
  have gd : gGd g.1 (gSt g row) (gCd g.1 s) = true := h
  rw [← gGd_c hb'] at gd
  have t := List.all_eq_true.mp (gETq ⟨g.1, by omega⟩ ⟨m, hm⟩) (gCd g.1 s) (gmemT hs)
  dsimp only at t
  rw [gd, Bool.not_true, Bool.false_or] at t
  have q := Nat.le_of_ble_eq_true (List.all_eq_true.mp t x (List.mem_range.mpr hx))
  refine Nat.le_trans (Nat.le_of_eq ?_) q
  refine gct_cong (fun z hz => ?_)
  rw [hb' z hz]
  rfl
theorem gdigC {g : gG} (hw : gWf g) {d : zGD} (hx : gRX g d) {cd : Nat → Int32} (hcd : ∀ s, s < gSz g.1 → cd s = nI (gCd g.1 s)) {row s X : Nat} (hr : row < g.2.1) (hs : s < gSz g.1) (hg : gGood g row s) (hX : X < g.1) : zf_X8_digitOf cd (nI s) (nI row) (nI X) d = some (nI (gDig g row s X)) := by
  have hc5 := hw.1
  unfold zf_X8_digitOf
  rw [gnum0, Option.bind_some, gstone hw hx hX hr, Option.bind_some]
  unfold gDig
  by_cases q : g.2.2.2 (5 * row + X) = true
  · rw [if_neg (by rw [q]; decide), if_pos q]
    rfl
  · have f9 : g.2.2.2 (5 * row + X) = false := by cases hh : g.2.2.2 (5 * row + X) with | false => rfl | true => exact absurd hh q
    rw [if_pos (by rw [f9]; rfl), if_neg q, glabel hw hcd hs hX, Option.bind_some]
    have lX := (gLbE hw.1.2 hs hX).2
    have e := gitr (f := fun e : Int32 × Int32 => zf_X8_digitOf_l36 cd (nI s) (nI row) (nI (gLb g.1 s X)) d e.1 e.2) (fun j => (nI (gct (fun z => g.2.2.2 (5 * row + z) && decide (gLb g.1 s z < gLb g.1 s X)) j), nI j)) g.1 (n := zfu) (b := nI (gct (fun z => g.2.2.2 (5 * row + z) && decide (gLb g.1 s z < gLb g.1 s X)) g.1)) (gfu (by omega)) ?_ ?_
    · rw [show ((0 : Int32), (0 : Int32)) = (nI (gct (fun z => g.2.2.2 (5 * row + z) && decide (gLb g.1 s z < gLb g.1 s X)) 0), nI 0) from rfl, e, Option.bind_some, gsub (gStl hw hs hg hX)]
    · intro j hj
      have lj := (gLbE hw.1.2 hs hj).2
      dsimp only
      unfold zf_X8_digitOf_l36 zf_X8_digitOf_83
      rw [hx.1, if_neg (gle50 (by omega) (by omega) hj), gnum0, Option.bind_some, gstone hw hx hj hr, Option.bind_some, glabel hw hcd hs hj, Option.bind_some, gctS, nI_1, nI_1]
      by_cases p : g.2.2.2 (5 * row + j) = true
      · rw [if_neg (by rw [p]; decide), p, Bool.true_and]
        by_cases r : gLb g.1 s j < gLb g.1 s X
        · rw [if_neg (by rw [nI_leI (by omega) (by omega)]; omega), decide_eq_true r]
          rfl
        · rw [if_pos (by rw [nI_leI (by omega) (by omega)]; omega), decide_eq_false r]
          rfl
      · have f8 : g.2.2.2 (5 * row + j) = false := by cases hh : g.2.2.2 (5 * row + j) with | false => rfl | true => exact absurd hh p
        rw [if_pos (by rw [f8]; rfl), f8, Bool.false_and]
        rfl
    · dsimp only
      unfold zf_X8_digitOf_l36
      rw [hx.1, if_pos (Int32.le_refl _)]
theorem gfilG (p : Nat → Bool) (n : Nat) {k s : Nat} : ((List.range n).filter p)[k]? = some s ↔ s < n ∧ p s = true ∧ gct p s = k := by
  induction n with
  | zero =>
    constructor
    · intro h; simp at h
    · rintro ⟨h, -⟩; omega
  | succ n ih =>
    rw [List.range_succ, List.filter_append]
    have hl : ((List.range n).filter p).length = gct p n := rfl
    by_cases hk : k < gct p n
    · rw [List.getElem?_append_left (by rw [hl]; exact hk), ih]
      constructor
      · rintro ⟨a, b, c⟩; exact ⟨by omega, b, c⟩
      · rintro ⟨a, b, c⟩
        refine ⟨?_, b, c⟩
        by_cases e : s = n
        · subst e; omega
        · omega
    · rw [List.getElem?_append_right (by rw [hl]; omega), hl]
      have mono : ∀ a b, a ≤ b → gct p a ≤ gct p b := by
        intro a b h
        induction b with
        | zero => rw [show a = 0 by omega]; exact Nat.le_refl _
        | succ b ihb =>
          by_cases e : a = b + 1
          · rw [e]; exact Nat.le_refl _
          · rw [gctS]; have := ihb (by omega); omega
      cases hp : p n with
      | false =>
        rw [show [n].filter p = [] from by simp [hp]]
        constructor
        · intro h; simp at h
        · rintro ⟨a, b, c⟩
          exfalso
          have e : s ≠ n := fun e => by rw [e, hp] at b; cases b
          have m := mono (s + 1) n (by omega)
          rw [gctS, b] at m
          simp at m
          omega
      | true =>
        rw [show [n].filter p = [n] from by simp [hp]]
        constructor
        · intro h
          by_cases z : k - gct p n = 0
          · rw [z] at h
            simp at h
            subst h
            exact ⟨by omega, hp, by omega⟩
          · rw [List.getElem?_eq_none (by simp; omega)] at h
            cases h
        · rintro ⟨a, b, c⟩
          by_cases e : s = n
          · subst e
            rw [show k - gct p s = 0 by omega]
            rfl
          · exfalso
            have m := mono (s + 1) n (by omega)
            rw [gctS, b] at m
            simp at m
            omega
theorem gct_mono (p : Nat → Bool) {a b : Nat} (h : a ≤ b) : gct p a ≤ gct p b := by
  induction b with
  | zero => rw [show a = 0 by omega]; exact Nat.le_refl _
  | succ b ihb =>
    by_cases e : a = b + 1
    · rw [e]; exact Nat.le_refl _
    · rw [gctS]; have := ihb (by omega); omega
theorem gstAt1 {g : gG} (hok : gOk g) {cn tt : Nat → Int64} {fd : Nat → Int32} {jn : Nat → Int64} (hF : gFl g cn tt fd jn) {row : Nat} (hr : row < g.2.1) {k s : Nat} (h : (gSts g row)[k]? = some s) : zf_X1_stateAt 5 (nI (gSz g.1)) tt 660 (nI row) (nI k) = some (nI s) := by
  have hz := gSzle hok.1.1.2
  obtain ⟨s1, s2, s3⟩ := (gfilG (gPt g row) (gSz g.1)).mp h
  have k132 : k ≤ 132 := by rw [← s3]; exact Nat.le_trans (gct_le _ _) (by omega)
  unfold zf_X1_stateAt
  have e := gitr (f := fun d : Int32 × Int32 => zf_X1_stateAt_l5 5 (nI (gSz g.1)) tt 660 (nI row) (nI k) d.1 d.2) (fun j => (nI (gct (gPt g row) j), nI j)) s (n := zfu) (b := Sum.inr (nI s)) (gfu (by omega)) ?_ ?_
  · rw [show ((0 : Int32), (0 : Int32)) = (nI (gct (gPt g row) 0), nI 0) from rfl, e]
    rfl
  · intro j hj
    dsimp only
    have t24 := gTot_le hok hr (show j < gSz g.1 by omega)
    unfold zf_X1_stateAt_l5 zf_X1_stateAt_40
    rw [if_neg (gle50 (by omega) (by omega) (show j < gSz g.1 by omega)), gtotalOf hok.1 hF hr (by omega), Option.bind_some, gctS, nI_1, nI_1]
    by_cases q : gTot g row j = 0
    · rw [if_pos ((glpos (by omega)).mpr q), show gPt g row j = false from decide_eq_false (by omega)]
      rfl
    · have pj : gPt g row j = true := decide_eq_true (by omega)
      have m := gct_mono (gPt g row) (show j + 1 ≤ s by omega)
      have le := gct_le (gPt g row) j
      rw [gctS, pj] at m
      simp at m
      rw [if_neg (fun h => q ((glpos (by omega)).mp h)), pj, if_neg (by rw [nI_eq (by omega) (by omega)]; omega)]
      rfl
  · dsimp only
    have t24 := gTot_le hok hr s1
    have pp : 0 < gTot g row s := of_decide_eq_true s2
    unfold zf_X1_stateAt_l5
    rw [if_neg (gle50 (by omega) (by omega) s1), gtotalOf hok.1 hF hr s1, Option.bind_some, if_neg (fun h => by have := (glpos (by omega)).mp h; omega), s3, if_pos rfl]
theorem gstAtN {g : gG} (hok : gOk g) {cn tt : Nat → Int64} {fd : Nat → Int32} {jn : Nat → Int64} (hF : gFl g cn tt fd jn) {row : Nat} (hr : row < g.2.1) {x : Int32} (h : x < 0 ∨ nI (gSts g row).length ≤ x) : zf_X1_stateAt 5 (nI (gSz g.1)) tt 660 (nI row) x = some (-1) := by
  have hz := gSzle hok.1.1.2
  have hl := gSts_len hok.1 row
  unfold zf_X1_stateAt
  have e := gitr (f := fun d : Int32 × Int32 => zf_X1_stateAt_l5 5 (nI (gSz g.1)) tt 660 (nI row) x d.1 d.2) (fun j => (nI (gct (gPt g row) j), nI j)) (gSz g.1) (n := zfu) (b := Sum.inl ()) (gfu (by omega)) ?_ ?_
  · rw [show ((0 : Int32), (0 : Int32)) = (nI (gct (gPt g row) 0), nI 0) from rfl, e]
    rfl
  · intro j hj
    dsimp only
    have t24 := gTot_le hok hr hj
    unfold zf_X1_stateAt_l5 zf_X1_stateAt_40
    rw [if_neg (gle50 (by omega) (by omega) hj), gtotalOf hok.1 hF hr hj, Option.bind_some, gctS, nI_1, nI_1]
    by_cases q : gTot g row j = 0
    · rw [if_pos ((glpos (by omega)).mpr q), show gPt g row j = false from decide_eq_false (by omega)]
      rfl
    · have pj : gPt g row j = true := decide_eq_true (by omega)
      have m := gct_mono (gPt g row) (show j + 1 ≤ gSz g.1 by omega)
      have le := gct_le (gPt g row) j
      rw [gctS, pj, ← gSts_len'] at m
      simp at m
      have ne : ¬ nI (gct (gPt g row) j) = x := by
        rintro rfl
        rcases h with h | h
        · exact nI_pos (by omega) h
        · exact gle50 (by omega) (by omega) (by omega) h
      rw [if_neg (fun h => q ((glpos (by omega)).mp h)), pj, if_neg ne]
      rfl
  · dsimp only
    unfold zf_X1_stateAt_l5
    rw [if_pos (Int32.le_refl _)]
theorem gdemS {xi : Nat → Int32} {xu : Nat → Option Nat} {fg : Nat} {xh : Nat → Nat → Int32} {xk : Nat → Nat → Int64} {LG : List Nat} {G : Nat → zGD} {g : gG} (hok : gOk g) (hg : fg ∈ LG) (hx : gRX g (G fg)) (hc : gCc xi xu xh xk LG G) {row : Nat} (hr : row < g.2.1) (x : Int32) : ∃ T : gT8, gCt8 g fg T ∧ gCc (gset (gset (gset (gset (gset xi 7 T.1) 8 T.2.1) 9 T.2.2.1) 10 T.2.2.2.1) 12 T.2.2.2.2.2.1) (gset xu 1 T.2.2.2.2.1) (gset (gset (gset (gset (gset (gset (gset (gset xh 1 T.2.2.2.2.2.2.1) 2 T.2.2.2.2.2.2.2.1) 3 T.2.2.2.2.2.2.2.2.1) 4 T.2.2.2.2.2.2.2.2.2.1) 5 T.2.2.2.2.2.2.2.2.2.2.1) 6 T.2.2.2.2.2.2.2.2.2.2.2.1) 7 T.2.2.2.2.2.2.2.2.2.2.2.2.1) 8 T.2.2.2.2.2.2.2.2.2.2.2.2.2.2.2.1) (gset (gset (gset xk 0 T.2.2.2.2.2.2.2.2.2.2.2.2.2.1) 1 T.2.2.2.2.2.2.2.2.2.2.2.2.2.2.1) 2 T.2.2.2.2.2.2.2.2.2.2.2.2.2.2.2.2) LG G ∧ ((∃ k s, (gSts g row)[k]? = some s ∧ x = nI k ∧ zf_X8_demandState fg (xi 7) (xi 8) (xi 9) (xi 10) (xi 11) (xu 1) (xi 12) (xh 1) (xh 2) (xh 3) (xh 4) (xh 5) (xh 6) (xh 7) (xk 0) (xk 1) (xh 8) (xk 2) 16500 660 (nI row) x (G fg) = some (.inl (nI s, T))) ∨ ((x < 0 ∨ nI (gSts g row).length ≤ x) ∧ zf_X8_demandState fg (xi 7) (xi 8) (xi 9) (xi 10) (xi 11) (xu 1) (xi 12) (xh 1) (xh 2) (xh 3) (xh 4) (xh 5) (xh 6) (xh 7) (xk 0) (xk 1) (xh 8) (xk 2) 16500 660 (nI row) x (G fg) = some (.inr (4, T)))) := by
  have b5 : xi 11 = 5 := hc.2.1
  have hl := gSts_len hok.1 row
  have hz := gSzle hok.1.1.2
  obtain ⟨T, eT, hT, cT⟩ := gcountD hok hg hx hc
  refine ⟨T, hT, cT, ?_⟩
  unfold zf_X8_demandState
  rw [eT, Option.bind_some, b5]
  have done : (∃ k s, (gSts g row)[k]? = some s ∧ x = nI k) ∨ (x < 0 ∨ nI (gSts g row).length ≤ x) := by
    by_cases q : x < 0
    · exact Or.inr (Or.inl q)
    · by_cases p : nI (gSts g row).length ≤ x
      · exact Or.inr (Or.inr p)
      · obtain ⟨k, hk, rfl⟩ := gltI (by omega) q p
        exact Or.inl ⟨k, _, ggetD hk, rfl⟩
  rcases done with ⟨k, s, a, rfl⟩ | a
  · left
    have e := gstAt1 hok hT.2.2.2.2.2.2 hr a
    rw [← hT.2.2.1] at e
    have s1 := ((gfilG (gPt g row) (gSz g.1)).mp a).1
    refine ⟨k, s, a, rfl, ?_⟩
    rw [e, Option.bind_some, if_pos (nI_pos' (by omega))]
  · right
    have e := gstAtN hok hT.2.2.2.2.2.2 hr a
    rw [← hT.2.2.1] at e
    refine ⟨a, ?_⟩
    rw [e, Option.bind_some, if_neg (by decide)]
theorem gP16_ok : gP16 gInv := by
  intro xi xu fg xh xk ac LG G mi mh mk h x1 x2 x3
  obtain ⟨g, past, h1, h2, h3, h4, h5, h6, h7⟩ := h
  obtain ⟨hok, hg, hx, hm⟩ := id h3
  have b5 : xi 11 = 5 := h5.2.1
  have hr5 := hok.1.2.1
  obtain ⟨M, eM, m1, m2⟩ := glaysD hok hm (mi 10, mh 12, mh 13, mk 0, mh 14, mh 15, mh 16, mh 10, mh 17, mk 1, mh 18) h6
  dsimp only at eM
  unfold zf_X8_ways zf_X9_ways
  rw [eM, Option.bind_some]
  rcases gdrow hok.1 hx x1 with ⟨Y, hY, rfl, e1, e2⟩ | ⟨e1, e2⟩
  · rw [← hm.2.1] at e2
    have hl := gSts_len hok.1 Y
    rw [e1, e2, Option.bind_some, Option.bind_some, if_neg (show ¬ (1 : Int32) = 0 by decide)]
    dsimp only [Sum.elim_inl]
    unfold zf_X9_ways_18
    rw [if_pos rfl, if_pos (ggN (by omega) (by decide)), nI_clamp (by omega), (gLdR m1 m2 hY).1]
    obtain ⟨T, hT, cT, h⟩ := gdemS hok hg hx h5 hY x2
    rcases h with ⟨k, s, a1, rfl, a2⟩ | ⟨a1, a2⟩
    · have k1 : k < (gSts g Y).length := (List.getElem?_eq_some_iff.mp a1).1
      have s1 := ((gfilG (gPt g Y) (gSz g.1)).mp a1).1
      have ei : zf_X9_isIn (nI k) 0 (nI (gSts g Y).length - 1) = some 1 := by
        rcases gin1 (show (gSts g Y).length < 2 ^ 31 by omega) (nI k) with ⟨X, -, -, e⟩ | ⟨e | e, -⟩
        · exact e
        · exact absurd e (nI_pos (by omega))
        · exact absurd e (gle50 (by omega) (by omega) k1)
      rw [a2, Option.bind_some, ei, Option.bind_some, if_neg (show ¬ (1 : Int32) = 0 by decide)]
      dsimp only [Sum.elim_inl]
      unfold zf_X9_ways_49
      rw [if_pos (show (0 : Int32) ≤ 0 by decide)]
      rcases g25 x3 with ⟨n, hn, rfl⟩ | hn
      · rw [gisC hn, Option.bind_some, if_neg (show ¬ (1 : Int32) = 0 by decide), b5, gcount2 hok hx hT, Option.bind_some, gwaysTo hok.1 hT.2.2.2.2.2.2 hY s1 hn, Option.bind_some, gin25 hn, Option.bind_some, if_neg (show ¬ (1 : Int32) = 0 by decide), show (300 : Int32) = nI 300 from rfl, gmul, nI_add, show (25 : Int32) = nI 25 from rfl, gmul, nI_add, if_pos (ggN (by omega) (by decide)), nI_clamp (by omega), (gLdU m1 m2 hY a1).2 n hn]
        exact ⟨_, _, rfl, rfl, Or.inl ⟨_, rfl, rfl, rfl, g, past, h1, h2, h3, h4, cT, m2, h7⟩⟩
      · rw [gisN hn, Option.bind_some, if_pos rfl, gin25N hn, Option.bind_some, if_pos rfl]
        exact ⟨_, _, rfl, rfl, Or.inl ⟨_, rfl, rfl, rfl, g, past, h1, h2, h3, h4, cT, m2, h7⟩⟩
    · have ei : zf_X9_isIn x2 0 (nI (gSts g Y).length - 1) = some 0 := by
        rcases gin1 (show (gSts g Y).length < 2 ^ 31 by omega) x2 with ⟨X, hX, rfl, e⟩ | ⟨-, e⟩
        · rcases a1 with a1 | a1
          · exact absurd a1 (nI_pos (by omega))
          · exact absurd a1 (gle50 (by omega) (by omega) hX)
        · exact e
      rw [a2, Option.bind_some, ei, Option.bind_some, if_pos rfl]
      dsimp only [Sum.elim_inr]
      unfold zf_X9_ways_49
      rw [if_neg (show ¬ (2 : Int32) ≤ 0 by decide)]
      exact ⟨_, _, rfl, rfl, Or.inr ⟨_, rfl, Or.inr ⟨rfl, rfl⟩, g, past, h1, h2, h3, h4, cT, m2, h7⟩⟩
  · rw [← hm.2.1] at e2
    rw [e1, e2, Option.bind_some, Option.bind_some, if_pos rfl]
    dsimp only [Sum.elim_inr]
    unfold zf_X9_ways_18 zf_X9_ways_49
    rw [if_neg (show ¬ (1 : Int32) = 0 by decide), if_neg (show ¬ (1 : Int32) ≤ 0 by decide)]
    exact ⟨_, _, rfl, rfl, Or.inr ⟨_, rfl, Or.inl ⟨rfl, rfl⟩, g, past, h1, h2, h3, h4, gCcS h5, m2, h7⟩⟩
theorem gP15_ok : gP15 gInv := by
  intro xi xu fg xh xk ac LG G mi mh mk h x1 x2 x3
  obtain ⟨g, past, h1, h2, h3, h4, h5, h6, h7⟩ := h
  obtain ⟨hok, hg, hx, hm⟩ := id h3
  have hr5 := hok.1.2.1
  have hc5 := hok.1.1
  obtain ⟨M, eM, m1, m2⟩ := glaysD hok hm (mi 10, mh 12, mh 13, mk 0, mh 14, mh 15, mh 16, mh 10, mh 17, mk 1, mh 18) h6
  dsimp only at eM
  unfold zf_X8_state zf_X9_state
  rw [eM, Option.bind_some]
  rcases gdemC hok.1 hx x3 x1 with ⟨X, Y, hX, hY, rfl, rfl, e1⟩ | ⟨e1, hn⟩
  · have e2 : zf_X9_isRow (mi 8) (nI Y) = some 1 := by
      rw [hm.2.1]
      rcases gdrow hok.1 hx (nI Y) with ⟨Y', -, -, -, e⟩ | ⟨e, -⟩
      · exact e
      · exfalso
        unfold zf_X8_demandRow zf_X2_hasCell at e
        rw [hx.1, hx.2.1, if_neg (show ¬ (0 : Int32) < 0 by decide), if_neg (nI_nle (by omega) (by omega)), if_neg (nI_pos (by omega)), if_neg (gle50 (by omega) (by omega) hY)] at e
        cases e
    have e3 : zf_X9_isIn (nI X) 0 (mi 7 - 1) = some 1 := by
      rw [hm.1]
      rcases gin1 (show g.1 < 2 ^ 31 by omega) (nI X) with ⟨-, -, -, e⟩ | ⟨e | e, -⟩
      · exact e
      · exact absurd e (nI_pos (by omega))
      · exact absurd e (gle50 (by omega) (by omega) hX)
    have hl := gSts_len hok.1 Y
    rw [e1, e2, e3, Option.bind_some, Option.bind_some, if_neg (show ¬ (1 : Int32) = 0 by decide), Option.bind_some, if_neg (show ¬ (1 : Int32) = 0 by decide)]
    dsimp only [Sum.elim_inl]
    unfold zf_X9_state_32
    rw [if_pos rfl, if_pos (ggN (by omega) (by decide)), nI_clamp (by omega), (gLdR m1 m2 hY).1]
    obtain ⟨T, hT, cT, h⟩ := gdemS hok hg hx h5 hY x2
    rcases h with ⟨k, s, a1, rfl, a2⟩ | ⟨a1, a2⟩
    · have k1 : k < (gSts g Y).length := (List.getElem?_eq_some_iff.mp a1).1
      obtain ⟨s1, gd⟩ := gSts_good hok hY (List.mem_of_getElem? a1)
      have lt := gDig10 hok.1 s1 gd
      have hb : gNum g Y s g.1 / 10 ^ (g.1 - 1 - X) < 100000 := Nat.lt_of_le_of_lt (Nat.div_le_self _ _) lt
      have ei : zf_X9_isIn (nI k) 0 (nI (gSts g Y).length - 1) = some 1 := by
        rcases gin1 (show (gSts g Y).length < 2 ^ 31 by omega) (nI k) with ⟨X, -, -, e⟩ | ⟨e | e, -⟩
        · exact e
        · exact absurd e (nI_pos (by omega))
        · exact absurd e (gle50 (by omega) (by omega) k1)
      have ed := gdigN hc5.2 lt hX (f := fun d : Int32 × Int32 => zf_X9_state_l94 (nI X) d.1 d.2) (fun a b => rfl)
      rw [← hm.1] at ed
      rw [a2, Option.bind_some, ei, Option.bind_some, if_neg (show ¬ (1 : Int32) = 0 by decide)]
      dsimp only [Sum.elim_inl]
      unfold zf_X9_state_63
      rw [if_pos (show (0 : Int32) ≤ 0 by decide), show (300 : Int32) = nI 300 from rfl, gmul, nI_add, if_pos (ggN (by omega) (by decide)), nI_clamp (by omega), (gLdU m1 m2 hY a1).1, ed, Option.bind_some, show (10 : Int32) = nI 10 from rfl, grem (by omega) (by decide), gdigR hok.1 s1 gd hX, gdigC hok.1 hx hT.2.2.2.2.1 hY s1 gd hX, Option.bind_some]
      exact ⟨_, _, rfl, rfl, Or.inl ⟨_, rfl, rfl, rfl, g, past, h1, h2, h3, h4, cT, m2, h7⟩⟩
    · have ei : zf_X9_isIn x2 0 (nI (gSts g Y).length - 1) = some 0 := by
        rcases gin1 (show (gSts g Y).length < 2 ^ 31 by omega) x2 with ⟨X, hX, rfl, e⟩ | ⟨-, e⟩
        · rcases a1 with a1 | a1
          · exact absurd a1 (nI_pos (by omega))
          · exact absurd a1 (gle50 (by omega) (by omega) hX)
        · exact e
      rw [a2, Option.bind_some, ei, Option.bind_some, if_pos rfl]
      dsimp only [Sum.elim_inr]
      unfold zf_X9_state_63
      rw [if_neg (show ¬ (2 : Int32) ≤ 0 by decide)]
      exact ⟨_, _, rfl, rfl, Or.inr ⟨_, rfl, Or.inr ⟨rfl, rfl⟩, g, past, h1, h2, h3, h4, cT, m2, h7⟩⟩
  · have m27 : zf_X9_state_27 (mi 7) M.1 M.2.1 M.2.2.1 M.2.2.2.1 M.2.2.2.2.1 M.2.2.2.2.2.1 M.2.2.2.2.2.2.1 M.2.2.2.2.2.2.2.1 M.2.2.2.2.2.2.2.2.1 M.2.2.2.2.2.2.2.2.2.1 M.2.2.2.2.2.2.2.2.2.2 x1 x2 x3 = some (0, 1, M) := by
      unfold zf_X9_state_27 zf_X9_state_32 zf_X9_state_63
      rw [if_neg (show ¬ (1 : Int32) = 0 by decide), if_neg (show ¬ (1 : Int32) ≤ 0 by decide)]
    rw [e1, Option.bind_some]
    dsimp only [Sum.elim_inr]
    have fin : (zf_X9_isRow (mi 8) x1 = some 0) ∨ (zf_X9_isRow (mi 8) x1 = some 1 ∧ zf_X9_isIn x3 0 (mi 7 - 1) = some 0) := by
      rw [hm.1, hm.2.1]
      rcases gdrow hok.1 hx x1 with ⟨Y, hY, rfl, -, e⟩ | ⟨-, e⟩
      · right
        refine ⟨e, ?_⟩
        rcases gin1 (show g.1 < 2 ^ 31 by omega) x3 with ⟨X, hX, rfl, -⟩ | ⟨-, e⟩
        · exfalso
          rcases hn with h | h | h | h
          · exact nI_pos (by omega) h
          · exact gle50 (by omega) (by omega) hX h
          · exact nI_pos (by omega) h
          · exact gle50 (by omega) (by omega) hY h
        · exact e
      · exact Or.inl e
    rcases fin with e | ⟨e, e'⟩
    · rw [e, Option.bind_some, if_pos rfl, m27]
      exact ⟨_, _, rfl, rfl, Or.inr ⟨_, rfl, Or.inl ⟨rfl, rfl⟩, g, past, h1, h2, h3, h4, gCcS h5, m2, h7⟩⟩
    · rw [e, e', Option.bind_some, if_neg (show ¬ (1 : Int32) = 0 by decide), Option.bind_some, if_pos rfl, m27]
      exact ⟨_, _, rfl, rfl, Or.inr ⟨_, rfl, Or.inl ⟨rfl, rfl⟩, g, past, h1, h2, h3, h4, gCcS h5, m2, h7⟩⟩
