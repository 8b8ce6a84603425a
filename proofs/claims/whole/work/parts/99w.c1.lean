/-! joins, bars, states, reaches, wet -/
theorem gsid {α : Type} (f : Nat → α) (i : Nat) : gset f i (f i) = f := by
  funext j
  unfold gset
  by_cases h : j = i
  · rw [if_pos h, h]
  · rw [if_neg h]
theorem gCcS {xi : Nat → Int32} {xu : Nat → Option Nat} {xh : Nat → Nat → Int32} {xk : Nat → Nat → Int64} {LG : List Nat} {G : Nat → zGD} (h : gCc xi xu xh xk LG G) : gCc (gset (gset (gset (gset (gset xi 7 (xi 7)) 8 (xi 8)) 9 (xi 9)) 10 (xi 10)) 12 (xi 12)) (gset xu 1 (xu 1)) (gset (gset (gset (gset (gset (gset (gset (gset xh 1 (xh 1)) 2 (xh 2)) 3 (xh 3)) 4 (xh 4)) 5 (xh 5)) 6 (xh 6)) 7 (xh 7)) 8 (xh 8)) (gset (gset (gset xk 0 (xk 0)) 1 (xk 1)) 2 (xk 2)) LG G := by
  simp only [gsid]
  exact h
theorem gP11_ok : gP11 gInv := by
  intro xi xu fg xh xk ac LG G mi mh mk h x1
  obtain ⟨g, past, h1, h2, h3, h4, h5, h6, h7⟩ := h
  obtain ⟨hok, hg, hx, hm⟩ := id h3
  unfold zf_X8_joins zf_X9_joins
  rcases g25 x1 with ⟨k, hk, rfl⟩ | hn
  · obtain ⟨T, eT, hT, cT⟩ := gcountD hok hg hx h5
    obtain ⟨M, eM, m1, m2⟩ := gjoinsOf hok hm (mi 10, mh 12, mh 13, mk 0, mh 14, mh 15, mh 16, mh 10, mh 17, mk 1, mh 18) h6 hk
    dsimp only at eM
    rw [gisC hk, Option.bind_some, if_neg (show ¬ (1 : Int32) = 0 by decide), eT, Option.bind_some, if_pos (ggN hk (by decide)), nI_clamp (by omega), hT.2.2.2.2.2.2.1 k hk, eM, Option.bind_some]
    exact ⟨_, _, rfl, rfl, rfl, g, past, h1, h2, h3, h4, cT, m2, h7⟩
  · obtain ⟨M, eM, m2⟩ := gjoinsN hok hm (mi 10, mh 12, mh 13, mk 0, mh 14, mh 15, mh 16, mh 10, mh 17, mk 1, mh 18) h6 hn
    dsimp only at eM
    rw [gisN hn, Option.bind_some, if_pos rfl, eM, Option.bind_some]
    exact ⟨_, _, rfl, rfl, rfl, g, past, h1, h2, h3, h4, gCcS h5, m2, h7⟩
theorem gP12_ok : gP12 gInv := by
  intro xi xu fg xh xk ac LG G mi mh mk h x1
  obtain ⟨g, past, h1, h2, h3, h4, h5, h6, h7⟩ := h
  obtain ⟨hok, hg, hx, hm⟩ := id h3
  unfold zf_X8_bars zf_X9_bars
  obtain ⟨T, eT, hT, cT⟩ := gcountD hok hg hx h5
  rcases g25 x1 with ⟨k, hk, rfl⟩ | hn
  · obtain ⟨M, eM, m2⟩ := gbarsOf hok hm (mi 10, mh 12, mh 13, mk 0, mh 14, mh 15, mh 16, mh 10, mh 17, mk 1, mh 18) h6 hk
    dsimp only at eM
    rw [eT, Option.bind_some, gbarr hok hx hT.2.2.2.2.2.2.1 hk, Option.bind_some, eM, Option.bind_some]
    exact ⟨_, _, rfl, rfl, rfl, g, past, h1, h2, h3, h4, cT, m2, h7⟩
  · have eM := gbarsN hok hm (mi 10, mh 12, mh 13, mk 0, mh 14, mh 15, mh 16, mh 10, mh 17, mk 1, mh 18) hn
    dsimp only at eM
    rw [eT, Option.bind_some, gbarrN hok hx hn, Option.bind_some, eM, Option.bind_some]
    exact ⟨_, _, rfl, rfl, rfl, g, past, h1, h2, h3, h4, cT, h6, h7⟩
theorem gTot_le {g : gG} (hok : gOk g) {row s : Nat} (hr : row < g.2.1) (hs : s < gSz g.1) : gTot g row s ≤ 2 ^ 24 := gTt_le hok.1 (gEnd_le hok.1 hr) (gFs24 hok (gEnd_le hok.1 hr)) hs
theorem glpos {n : Nat} (h : n < 2 ^ 31) : lg_cmp (lN n) 0 ≤ 0 ↔ n = 0 := by
  rw [lg_cmp_le, show (0 : Int64) = lN 0 from rfl, lN_le h (by decide)]
  omega
def gPt (g : gG) (row s : Nat) : Bool := decide (0 < gTot g row s)
theorem gSts_len' (g : gG) (row : Nat) : (gSts g row).length = gct (gPt g row) (gSz g.1) := rfl
theorem gstCnt {g : gG} (hok : gOk g) {cn tt : Nat → Int64} {fd : Nat → Int32} {jn : Nat → Int64} (hF : gFl g cn tt fd jn) {row : Nat} (hr : row < g.2.1) : zf_X1_stateCount 5 (nI (gSz g.1)) tt 660 (nI row) = some (nI (gSts g row).length) := by
  have hz := gSzle hok.1.1.2
  unfold zf_X1_stateCount
  have e := gitr (f := fun d : Int32 × Int32 => zf_X1_stateCount_l4 5 (nI (gSz g.1)) tt 660 (nI row) d.1 d.2) (fun j => (nI (gct (gPt g row) j), nI j)) (gSz g.1) (n := zfu) (b := nI (gct (gPt g row) (gSz g.1))) (gfu (by omega)) ?_ ?_
  · rw [show ((0 : Int32), (0 : Int32)) = (nI (gct (gPt g row) 0), nI 0) from rfl, e]
    rfl
  · intro j hj
    dsimp only
    have t24 := gTot_le hok hr hj
    unfold zf_X1_stateCount_l4 zf_X1_stateCount_29
    rw [if_neg (gle50 (by omega) (by omega) hj), gtotalOf hok.1 hF hr hj, Option.bind_some, gctS, nI_1, nI_1]
    by_cases q : gTot g row j = 0
    · rw [if_pos ((glpos (by omega)).mpr q), show gPt g row j = false from decide_eq_false (by omega)]
      rfl
    · rw [if_neg (fun h => q ((glpos (by omega)).mp h)), show gPt g row j = true from decide_eq_true (by omega)]
      rfl
  · dsimp only
    unfold zf_X1_stateCount_l4
    rw [if_pos (Int32.le_refl _)]
theorem gP14_ok : gP14 gInv := by
  intro xi xu fg xh xk ac LG G mi mh mk h x1
  obtain ⟨g, past, h1, h2, h3, h4, h5, h6, h7⟩ := h
  obtain ⟨hok, hg, hx, hm⟩ := id h3
  have b5 : xi 11 = 5 := h5.2.1
  have hr5 := hok.1.2.1.2
  unfold zf_X8_states zf_X9_states
  rcases gdrow hok.1 hx x1 with ⟨Y, hY, rfl, e1, e2⟩ | ⟨e1, e2⟩
  · rw [← hm.2.1] at e2
    obtain ⟨T, eT, hT, cT⟩ := gcountD hok hg hx h5
    obtain ⟨M, eM, m1, m2⟩ := glaysD hok hm (mi 10, mh 12, mh 13, mk 0, mh 14, mh 15, mh 16, mh 10, mh 17, mk 1, mh 18) h6
    dsimp only at eM
    rw [e1, e2, Option.bind_some, Option.bind_some, if_neg (show ¬ (1 : Int32) = 0 by decide)]
    dsimp only [Sum.elim_inl]
    unfold zf_X9_states_14
    have eC := gstCnt hok hT.2.2.2.2.2.2 hY
    rw [← hT.2.2.1] at eC
    rw [eT, Option.bind_some, b5, eC, Option.bind_some, if_pos (show (0 : Int32) ≤ 0 by decide), eM, Option.bind_some, if_pos (ggN (by omega) (by decide)), nI_clamp (by omega), (gLdR m1 m2 hY).1]
    exact ⟨_, _, rfl, rfl, Or.inl ⟨_, rfl, rfl, rfl, g, past, h1, h2, h3, h4, cT, m2, h7⟩⟩
  · rw [← hm.2.1] at e2
    rw [e1, e2, Option.bind_some, Option.bind_some, if_pos rfl]
    dsimp only [Sum.elim_inr]
    unfold zf_X9_states_14
    rw [if_neg (show ¬ (1 : Int32) ≤ 0 by decide)]
    exact ⟨_, _, rfl, rfl, Or.inr ⟨_, rfl, ⟨rfl, rfl⟩, g, past, h1, h2, h3, h4, gCcS h5, h6, h7⟩⟩
theorem gwetC {g : gG} (hok : gOk g) {cn tt : Nat → Int64} {fd : Nat → Int32} {jn : Nat → Int64} (hF : gFl g cn tt fd jn) {wt mv sp ss rs : Nat → Int32} (hl : gLz g wt mv sp ss rs) {row k : Nat} (hr : row < g.2.1) (hk : k < 25) : zf_X1_wetWays 5 (nI (gSz g.1)) cn wt 16500 (nI row) (nI k) = some (lN (gSum (fun s => if gWs g.1 s = 0 then 0 else gW g row s k) (gSz g.1))) := by
  have hr5 := hok.1.2.1.2
  exact gwetW hok.1 hl (bl := 5) (Or.inr rfl) (by omega) hk (by decide) (by decide) (D := gW g row) (T := gTot g row) (tt := tt) (by
    rw [show min row (5 - 1) = row by omega]
    exact (hF.2 row hr).2)
theorem gWs32 {c s : Nat} (hc : c ≤ 5) (hs : s < gSz c) : gWs c s < 32 := by
  have h := List.all_eq_true.mp (gwpT ⟨c, by omega⟩) s (List.mem_range.mpr hs)
  rw [Bool.and_eq_true] at h
  have e : gwp c s c = gWs c s := of_decide_eq_true h.1
  rw [← e]
  exact of_decide_eq_true (List.all_eq_true.mp h.2 c (List.mem_range.mpr (by omega)))
theorem ggetD {l : List Nat} {j : Nat} (h : j < l.length) : l[j]? = some (l.getD j 0) := by
  rw [List.getD_eq_getElem?_getD, List.getElem?_eq_getElem h]
  rfl
theorem greachM {g : gG} (hok : gOk g) {M : gD9} (m1 : M.1 = 1) (m2 : gLdD g M) {row : Nat} (hr : row < g.2.1) {x2 : Int32} {W : Nat → Nat} (hW : (∃ k, k < 25 ∧ x2 = nI k ∧ ∀ s, W s = gW g row s k) ∨ ((x2 < 0 ∨ (24 : Int32) < x2) ∧ ∀ s, W s = 0)) : zit (fun d : Int64 × Int32 => zf_X9_reaches_l35 (nI g.1) M.2.1 M.2.2.1 M.2.2.2.1 (nI row) x2 d.1 d.2) zfu ((0 : Int64), (0 : Int32)) = some (lN (gSum (fun s => if gWs g.1 s = 0 then 0 else W s) (gSz g.1))) := by
  have hw := hok.1
  have hr5 := hw.2.1
  have hlen := gSts_len hw row
  have hL := gLdR m1 m2 hr
  rw [← gSts_sum hok hr (fun s => if gWs g.1 s = 0 then 0 else W s) (fun s hs => by
    have : W s = 0 := by
      rcases hW with ⟨k, hk, -, h⟩ | ⟨-, h⟩
      · rw [h, hs]
      · exact h s
    rw [this]; by_cases q : gWs g.1 s = 0 <;> simp [q])]
  refine gsumL _ _ (by omega) (fun j v hj => ?_) (fun v => ?_)
  · obtain ⟨a1, a2⟩ := hL.2 j _ (ggetD hj)
    obtain ⟨b1, b2⟩ := gSts_good hok hr (List.mem_of_getElem? (ggetD hj))
    have w32 := gWs32 hw.1.2 b1
    dsimp only
    unfold zf_X9_reaches_l35 zf_X9_reaches_98 zf_X9_reaches_99
    rw [if_pos (ggN (by omega) (by decide)), nI_clamp (by omega), hL.1, if_neg (gle50 (by omega) (by omega) hj), show (300 : Int32) = nI 300 from rfl, gmul, nI_add, if_pos (ggN (by omega) (by decide)), nI_clamp (by omega), a1, gwetS hw b1 b2, Option.bind_some, nI_1]
    by_cases q : gWs g.1 ((gSts g row).getD j 0) = 0
    · rw [if_pos (by rw [q]; rfl), if_pos q]
      rfl
    · rw [if_neg (by rw [show (0 : Int32) = nI 0 from rfl, nI_eq (by omega) (by decide)]; exact q), if_neg q]
      rcases hW with ⟨k, hk, rfl, h⟩ | ⟨hn, h⟩
      · rw [gin25 hk, Option.bind_some, if_neg (show ¬ (1 : Int32) = 0 by decide), show (25 : Int32) = nI 25 from rfl, gmul, nI_add, if_pos (ggN (by omega) (by decide)), nI_clamp (by omega), a2 k hk, h]
      · rw [gin25N hn, Option.bind_some, if_pos rfl, h]
        rfl
  · dsimp only
    unfold zf_X9_reaches_l35
    rw [if_pos (ggN (by omega) (by decide)), nI_clamp (by omega), hL.1, if_pos (Int32.le_refl _)]
theorem gP18_ok : gP18 gInv := by
  intro xi xu fg xh xk ac LG G mi mh mk h x1 x2
  obtain ⟨g, past, h1, h2, h3, h4, h5, h6, h7⟩ := h
  obtain ⟨hok, hg, hx, hm⟩ := id h3
  have b5 : xi 11 = 5 := h5.2.1
  have hr5 := hok.1.2.1.2
  unfold zf_X8_reaches zf_X9_reaches
  rcases gdrow hok.1 hx x1 with ⟨Y, hY, rfl, e1, e2⟩ | ⟨e1, e2⟩
  · rw [← hm.2.1] at e2
    obtain ⟨M, eM, m1, m2⟩ := glaysD hok hm (mi 10, mh 12, mh 13, mk 0, mh 14, mh 15, mh 16, mh 10, mh 17, mk 1, mh 18) h6
    dsimp only at eM
    rw [e1, e2, Option.bind_some, Option.bind_some, if_neg (show ¬ (1 : Int32) = 0 by decide)]
    dsimp only [Sum.elim_inl]
    unfold zf_X9_reaches_14
    rw [if_pos (show (0 : Int32) ≤ 0 by decide), eM, Option.bind_some]
    rcases g25 x2 with ⟨k, hk, rfl⟩ | hn
    · obtain ⟨T, eT, hT, cT⟩ := gcountD hok hg hx h5
      have eR := greachM hok m1 m2 hY (x2 := nI k) (W := fun s => gW g Y s k) (Or.inl ⟨k, hk, rfl, fun _ => rfl⟩)
      rw [← hm.1] at eR
      have eC := gwetC hok hT.2.2.2.2.2.2 hT.2.2.2.2.2.1 hY hk
      rw [← hT.2.2.1] at eC
      rw [gisC hk, Option.bind_some, if_neg (show ¬ (1 : Int32) = 0 by decide), eT, Option.bind_some, b5, eC, Option.bind_some, eR, Option.bind_some]
      exact ⟨_, _, rfl, rfl, Or.inl ⟨_, rfl, rfl, rfl, g, past, h1, h2, h3, h4, cT, m2, h7⟩⟩
    · have eR := greachM hok m1 m2 hY (x2 := x2) (W := fun s => 0) (Or.inr ⟨hn, fun _ => rfl⟩)
      rw [← hm.1] at eR
      rw [gisN hn, Option.bind_some, if_pos rfl, eR, Option.bind_some, gSum_z (fun s _ => by by_cases q : gWs g.1 s = 0 <;> simp [q])]
      exact ⟨_, _, rfl, rfl, Or.inl ⟨_, rfl, rfl, rfl, g, past, h1, h2, h3, h4, gCcS h5, m2, h7⟩⟩
  · rw [← hm.2.1] at e2
    rw [e1, e2, Option.bind_some, Option.bind_some, if_pos rfl]
    dsimp only [Sum.elim_inr]
    unfold zf_X9_reaches_14
    rw [if_neg (show ¬ (1 : Int32) ≤ 0 by decide)]
    exact ⟨_, _, rfl, rfl, Or.inr ⟨_, rfl, ⟨rfl, rfl⟩, g, past, h1, h2, h3, h4, gCcS h5, h6, h7⟩⟩
