/-! depth -/
theorem gStP2 : ∀ (c r : Fin 6), 1 ≤ c.val → (List.range r.val).all (fun row => (((gSteps c.val r.val).take (gRS c.val (row + 1))).map (fun q => q.1)).isPerm ((List.range 50).filter (fun p => gTh p c.val r.val && decide (p / 10 + p % 2 ≤ row)))) = true := by decide +kernel
def gFt (g : gG) (row p : Nat) : Bool := gIs g 0 p && decide (p / 10 + p % 2 ≤ row)
theorem gFt_E {g : gG} (hw : gWf g) {row : Nat} (hr : row < g.2.1) : gFs g (gEnd g row) = gct (gFt g row) 50 := by
  have hc := hw.1
  have hrr := hw.2.1
  have hp := List.isPerm_iff.mp (List.all_eq_true.mp (gStP2 ⟨g.1, by omega⟩ ⟨g.2.1, by omega⟩ hc.1) row (List.mem_range.mpr hr))
  simp only at hp
  have hlen : (gSteps g.1 g.2.1).length = gRS g.1 g.2.1 := (gsyT ⟨g.1, by omega⟩ ⟨g.2.1, by omega⟩ hc.1).1
  have hle := gEnd_le hw hr
  have e1 : (List.range (gEnd g row)).map (fun j => (gStep g j).1) = ((gSteps g.1 g.2.1).take (gRS g.1 (row + 1))).map (fun q => q.1) := by
    apply List.ext_getElem?
    intro i
    by_cases h : i < gEnd g row
    · have h' : i < (gSteps g.1 g.2.1).length := by omega
      have h2 : i < gRS g.1 (row + 1) := h
      rw [List.getElem?_map, List.getElem?_map, List.getElem?_range h, List.getElem?_take, if_pos h2, List.getElem?_eq_getElem h']
      unfold gStep
      rw [Option.map_some, Option.map_some, List.getD_eq_getElem?_getD, List.getElem?_eq_getElem h']
      rfl
    · have h2 : ¬ i < gRS g.1 (row + 1) := h
      rw [List.getElem?_eq_none (by simp; omega), List.getElem?_eq_none (by rw [List.length_map, List.length_take]; omega)]
  have e2 : gFs g (gEnd g row) = (((List.range (gEnd g row)).map (fun j => (gStep g j).1)).filter (fun p => decide (gHow g p = 0))).length := by
    unfold gFs gct
    rw [List.filter_map, List.length_map]
    rfl
  rw [e2, e1, (hp.filter _).length_eq, List.filter_filter]
  show ((List.range 50).filter _).length = gct (gFt g row) 50
  unfold gct
  congr 1
  apply List.filter_congr
  intro p _
  unfold gFt gIs
  cases gTh p g.1 g.2.1 <;> cases decide (gHow g p = 0) <;> cases decide (p / 10 + p % 2 ≤ row) <;> rfl
theorem gfreeTo {g : gG} (hw : gWf g) {fc fr : Int32} {ct cs : Nat → Int32} (hM : gRM g fc fr ct cs) {row : Nat} (hr : row < g.2.1) : zf_X9_freeTo fc fr ct cs (nI row) = some (nI (gFs g (gEnd g row))) := by
  have hrr := hw.2.1
  rw [gFt_E hw hr]
  unfold zf_X9_freeTo
  have e := gitr (f := fun d : Int32 × Int32 => zf_X9_freeTo_l4 fc fr ct cs (nI row) d.1 d.2) (fun j => (nI (gct (gFt g row) j), nI j)) 50 (n := zfu) (b := nI (gct (gFt g row) 50)) (gfu (by decide)) ?_ ?_
  · rw [show ((0 : Int32), (0 : Int32)) = (nI (gct (gFt g row) 0), nI 0) from rfl, e]
    rfl
  · intro j hj
    dsimp only
    unfold zf_X9_freeTo_l4 zf_X9_freeTo_43 zf_X9_freeTo_44
    have ip := gisP hj hw.1 hw.2.1
    rw [← hM.1, ← hM.2.1] at ip
    rw [if_neg (gl50 hj), ip, Option.bind_some, gctS, nI_1]
    unfold gFt gIs
    cases ht : gTh j g.1 g.2.1 with
    | false =>
      rw [if_pos (by decide), show (0 : Int32) = nI 0 from rfl, nI_add]
      rfl
    | true =>
      have h2 := gHow2 hw j
      rw [if_neg (by decide), ghow hw hM ht, Option.bind_some]
      by_cases q : gHow g j = 0
      · rw [if_pos (by rw [q]; rfl), q, show (10 : Int32) = nI 10 from rfl, gdiv (by omega) (by decide), show (2 : Int32) = nI 2 from rfl, grem (by omega) (by decide), nI_add]
        by_cases r : j / 10 + j % 2 ≤ row
        · rw [if_neg (by rw [nI_ltI (by omega) (by omega)]; omega), decide_eq_true r, show (1 : Int32) = nI 1 from rfl, nI_add]
          rfl
        · rw [if_pos (by rw [nI_ltI (by omega) (by omega)]; omega), decide_eq_false r, show (0 : Int32) = nI 0 from rfl, nI_add]
          rfl
      · rw [if_neg (by rw [show (0 : Int32) = nI 0 from rfl, nI_eq (by omega) (by decide)]; exact q), decide_eq_false q, show (0 : Int32) = nI 0 from rfl, nI_add]
        rfl
  · dsimp only
    unfold zf_X9_freeTo_l4
    rw [if_pos (by decide)]
/-- what a row weighs by some cell of it being wet -/
def gRw2 (g : gG) (a d row : Nat) : Nat := gSum (fun s => if gWs g.1 s = 0 then 0 else gQw g row a d s) (gSz g.1)
def gDp (g : gG) (a d row : Nat) : Nat := gRw2 g a d row * (a + d) ^ (gFree g - gFs g (gEnd g row))
theorem gDp_le {g : gG} (hok : gOk g) {row : Nat} (hr : row < g.2.1) (a d : Nat) : gDp g a d row ≤ (a + d) ^ gFree g := by
  have h1 : gFs g (gEnd g row) ≤ gFree g := by rw [← gFs_all hok.1]; exact gFs_mono g (gEnd_le hok.1 hr)
  have h2 : gRw2 g a d row ≤ (a + d) ^ gFs g (gEnd g row) := gQw_le hok hr a d _ fun s => by
    by_cases q : gWs g.1 s = 0
    · rw [if_pos q]; exact Nat.zero_le _
    · rw [if_neg q]; exact Nat.le_refl _
  refine Nat.le_trans (Nat.mul_le_mul_right _ h2) (Nat.le_of_eq ?_)
  rw [← Nat.pow_add, show gFs g (gEnd g row) + (gFree g - gFs g (gEnd g row)) = gFree g by omega]
theorem gDp_C {g : gG} (a d row : Nat) : gSum (fun k => gSum (fun s => if gWs g.1 s = 0 then 0 else gW g row s k) (gSz g.1) * (a ^ k * d ^ (gFs g (gEnd g row) - k) * (a + d) ^ (gFree g - gFs g (gEnd g row)))) (gFs g (gEnd g row) + 1) = gDp g a d row := by
  unfold gDp gRw2
  rw [gSum_cong (f' := fun k => (gSum (fun s => (if gWs g.1 s = 0 then 0 else gW g row s k) * (a ^ k * d ^ (gFs g (gEnd g row) - k))) (gSz g.1)) * (a + d) ^ (gFree g - gFs g (gEnd g row))) (fun k _ => by
    rw [gSum_mulr]
    ac_rfl), gSum_mulr, gSum_swap]
  congr 1
  refine gSum_cong fun s _ => ?_
  by_cases q : gWs g.1 s = 0
  · rw [if_pos q, gSum_z (fun k _ => by rw [if_pos q, Nat.zero_mul])]
  · rw [if_neg q]
    exact gSum_cong fun k _ => by rw [if_neg q]
theorem gdpM1 {g : gG} (hok : gOk g) {M : gD9} (m1 : M.1 = 1) (m2 : gLdD g M) {a b row : Nat} (hab : a ≤ b) (hb : b ≤ 6) (hr : row < g.2.1) : zit (fun d : Int64 × Int32 => zf_X9_depth_l71 (nI g.1) M.2.1 M.2.2.1 M.2.2.2.1 (nI a) (nI b) (nI row) (nI (gFs g (gEnd g row))) d.1 d.2) zfu ((0 : Int64), (0 : Int32)) = some (lN (gRw2 g a (b - a) row)) := by
  have hw := hok.1
  have hr5 := hw.2.1
  have f24 := gFs24 hok (gEnd_le hw hr)
  have hlen := gSts_len hw row
  have hL := gLdR m1 m2 hr
  unfold gRw2
  rw [← gSts_sum hok hr (fun s => if gWs g.1 s = 0 then 0 else gQw g row a (b - a) s) (fun s hs => by rw [gQw_z hs]; exact ite_self 0)]
  refine gsumL _ _ (by omega) (fun j v hj => ?_) (fun v => ?_)
  · obtain ⟨a1, a2⟩ := hL.2 j _ (ggetD hj)
    obtain ⟨b1, b2⟩ := gSts_good hok hr (List.mem_of_getElem? (ggetD hj))
    have w32 := gWs32 hw.1.2 b1
    dsimp only
    unfold zf_X9_depth_l71 zf_X9_depth_169
    rw [if_pos (ggN (by omega) (by decide)), nI_clamp (by omega), hL.1, if_neg (gle50 (by omega) (by omega) hj), show (300 : Int32) = nI 300 from rfl, gmul, nI_add, if_pos (ggN (by omega) (by decide)), nI_clamp (by omega), a1, gwetS hw b1 b2, Option.bind_some, nI_1]
    by_cases q : gWs g.1 ((gSts g row).getD j 0) = 0
    · rw [if_pos (by rw [q]; rfl), if_pos q, show lN 0 = (0 : Int64) from rfl, Int64.add_zero]
    · rw [if_neg (by rw [show (0 : Int32) = nI 0 from rfl, nI_eq (by omega) (by decide)]; exact q), if_neg q, gsumV v (fun k => gW g row ((gSts g row).getD j 0) k * (a ^ k * (b - a) ^ (gFs g (gEnd g row) - k))) (gFs g (gEnd g row) + 1) (by omega) (fun k w hk => ?_) (fun w => ?_), Option.bind_some]
      · rfl
      · dsimp only
        unfold zf_X9_depth_l110
        rw [if_neg (by rw [nI_ltI (by omega) (by omega)]; omega), show (300 : Int32) = nI 300 from rfl, gmul, nI_add, show (25 : Int32) = nI 25 from rfl, gmul, nI_add, if_pos (ggN (by omega) (by decide)), nI_l (by omega), gpow9 (by omega), Option.bind_some, gsub hab, nI_l (by omega), gsub (show k ≤ gFs g (gEnd g row) by omega), gpow9 (by omega), Option.bind_some, nI_clamp (by omega), a2 k (by omega), lN_mul, lN_mul, nI_1, Nat.mul_assoc]
      · dsimp only
        unfold zf_X9_depth_l110
        rw [if_pos (by rw [nI_ltI (by omega) (by omega)]; omega)]
  · dsimp only
    unfold zf_X9_depth_l71
    rw [if_pos (ggN (by omega) (by decide)), nI_clamp (by omega), hL.1, if_pos (Int32.le_refl _)]
theorem gdpM {g : gG} (hok : gOk g) {fc fr : Int32} {ct cs : Nat → Int32} (hM : gRM g fc fr ct cs) {M : gD9} (m1 : M.1 = 1) (m2 : gLdD g M) {a b : Nat} (hab : a ≤ b) (hb : b ≤ 6) : zit (fun d : Int64 × Int32 => zf_X9_depth_l48 fc fr ct cs M.2.1 M.2.2.1 M.2.2.2.1 (nI a) (nI b) (nI (gFree g)) d.1 d.2) zfu ((0 : Int64), (0 : Int32)) = some (lN (gSum (gDp g a (b - a)) g.2.1)) := by
  have hw := hok.1
  have hr5 := hw.2.1
  have f24 := hok.2
  refine gsumL _ _ (by omega) (fun j v hj => ?_) (fun v => ?_)
  · have e1 := gdpM1 hok m1 m2 hab hb hj
    rw [← hM.1] at e1
    have le : gFs g (gEnd g j) ≤ gFree g := by rw [← gFs_all hw]; exact gFs_mono g (gEnd_le hw hj)
    dsimp only
    unfold zf_X9_depth_l48
    rw [gfreeTo hw hM hj, Option.bind_some, e1, Option.bind_some, hM.2.1, if_neg (gle50 (by omega) (by omega) hj), nI_l (by omega), gsub le, gpow9 (by omega), Option.bind_some, lN_mul, nI_1]
    unfold gDp
    rw [show a + (b - a) = b by omega]
  · dsimp only
    unfold zf_X9_depth_l48
    rw [hM.2.1, if_pos (Int32.le_refl _)]
theorem gdpC {g : gG} (hok : gOk g) {d : zGD} (hx : gRX g d) {cn tt : Nat → Int64} {fd : Nat → Int32} {jn : Nat → Int64} (hF : gFl g cn tt fd jn) {wt mv sp ss rs : Nat → Int32} (hl : gLz g wt mv sp ss rs) {a b : Nat} (hab : a ≤ b) (hb : b ≤ 6) : zit (fun e : Int64 × Int32 => zf_X8_depth_l27 (nI (gSz g.1)) 5 wt cn fd 16500 (nI a) (nI b) (nI (gFree g)) d e.1 e.2) zfu ((0 : Int64), (0 : Int32)) = some (lN (gSum (gDp g a (b - a)) g.2.1)) := by
  have hw := hok.1
  have hr5 := hw.2.1
  have f24 := hok.2
  refine gsumL _ _ (by omega) (fun j v hj => ?_) (fun v => ?_)
  · have le : gFs g (gEnd g j) ≤ gFree g := by rw [← gFs_all hw]; exact gFs_mono g (gEnd_le hw hj)
    dsimp only
    unfold zf_X8_depth_l27 zf_X1_freeTo
    rw [hx.2.1, if_neg (gle50 (by omega) (by omega) hj), if_pos (ggN (by omega) (by decide)), nI_clamp (by omega), (hF.2 j hj).1, Option.bind_some, gsumV v (fun k => gSum (fun s => if gWs g.1 s = 0 then 0 else gW g j s k) (gSz g.1) * (a ^ k * (b - a) ^ (gFs g (gEnd g j) - k) * (a + (b - a)) ^ (gFree g - gFs g (gEnd g j)))) (gFs g (gEnd g j) + 1) (by omega) (fun k w hk => ?_) (fun w => ?_), Option.bind_some, gDp_C, nI_1]
    · dsimp only
      unfold zf_X8_depth_l51
      rw [if_neg (by rw [nI_ltI (by omega) (by omega)]; omega), gpow8 (by omega) (by omega), Option.bind_some, gsub hab, gsub (show k ≤ gFs g (gEnd g j) by omega), gpow8 (by omega) (by omega), Option.bind_some, gsub le, gpow8 (by omega) (by omega), Option.bind_some, gwetC hok hF hl hj (by omega), Option.bind_some, lN_mul, lN_mul, lN_mul, nI_1, show a + (b - a) = b by omega]
    · dsimp only
      unfold zf_X8_depth_l51
      rw [if_pos (by rw [nI_ltI (by omega) (by omega)]; omega)]
  · dsimp only
    unfold zf_X8_depth_l27
    rw [hx.2.1, if_pos (Int32.le_refl _)]
theorem gP30_ok : gP30 gInv := by
  intro xi xu fg xh xk ac LG G mi mh mk h x1 x2 x3 hb3
  obtain ⟨g, past, h1, h2, h3, h4, h5, h6, h7⟩ := h
  obtain ⟨hok, hg, hx, hm⟩ := id h3
  have b5 : xi 11 = 5 := h5.2.1
  have f24 := hok.2
  have hr5 := hok.1.2.1
  have m19 : zf_X9_depth_19 (mi 7) (mi 8) (mi 10) (mh 4) (mh 5) (mh 12) (mh 13) (mk 0) (mh 14) (mh 15) (mh 16) (mh 10) (mh 17) (mk 1) (mh 18) x1 x2 x3 = some (0, 1, (mi 10, mh 12, mh 13, mk 0, mh 14, mh 15, mh 16, mh 10, mh 17, mk 1, mh 18)) := by
    unfold zf_X9_depth_19 zf_X9_depth_20
    rw [if_neg (show ¬ (1 : Int32) ≤ 0 by decide)]
  unfold zf_X8_depth zf_X9_depth
  rw [show (5 : Int32) = nI 5 from rfl, m19]
  rcases gchance 5 (by decide) x1 x2 with ⟨a, b, hab, hb1, hb5, rfl, rfl, e1⟩ | ⟨e1, hn⟩
  · obtain ⟨T, eT, hT, cT⟩ := gcountD hok hg hx h5
    obtain ⟨M, eM, m1, m2⟩ := glaysD hok hm (mi 10, mh 12, mh 13, mk 0, mh 14, mh 15, mh 16, mh 10, mh 17, mk 1, mh 18) h6
    dsimp only at eM
    have p63 := gpow63 (show b ≤ 6 by omega) f24
    have p5 := gpow5 hb5 f24
    have le : gSum (gDp g a (b - a)) g.2.1 ≤ 5 * b ^ gFree g := by
      have := gSum_bd (f := gDp g a (b - a)) (n := g.2.1) (B := (a + (b - a)) ^ gFree g) (fun i hi => gDp_le hok hi a (b - a))
      rw [show a + (b - a) = b by omega] at this
      exact Nat.le_trans this (Nat.mul_le_mul_right _ hr5.2)
    have bp : 0 < b ^ gFree g := Nat.pow_pos (by omega)
    have eC := gdpC hok hx hT.2.2.2.2.2.2 hT.2.2.2.2.2.1 hab (show b ≤ 6 by omega)
    rw [← hT.2.2.1] at eC
    rw [e1, Option.bind_some, gchT9 hab hb1 (by omega), Option.bind_some, if_neg (show ¬ (1 : Int32) = 0 by decide), if_neg (gle6 (by omega))]
    dsimp only [Sum.elim_inl]
    rw [eT, Option.bind_some, gX2free hok.1 hx, Option.bind_some, b5, eC, Option.bind_some, gpow8 (by omega) (by omega), Option.bind_some, glowest (by omega) p63 bp, Option.bind_some]
    unfold zf_X9_depth_20
    rw [if_pos (show (0 : Int32) ≤ 0 by decide), eM, Option.bind_some, gX9free hok.1 hm, Option.bind_some, gdpM hok hm m1 m2 hab (by omega), Option.bind_some, nI_l (by omega), gpow9 (by omega), Option.bind_some, gpart (by omega) p63 bp, Option.bind_some]
    exact ⟨_, _, rfl, rfl, Or.inl ⟨_, rfl, rfl, rfl, g, past, h1, h2, h3, h4, cT, m2, h7⟩⟩
  · rw [e1, Option.bind_some]
    dsimp only [Sum.elim_inr]
    by_cases z : x2 < 1 ∨ (6 : Int32) < x2 ∨ x1 < 0 ∨ ¬ x1 ≤ x2
    · rw [gchN9 z, Option.bind_some, if_pos rfl]
      exact ⟨_, _, rfl, rfl, Or.inr ⟨_, rfl, ⟨rfl, rfl⟩, g, past, h1, h2, h3, h4, gCcS h5, h6, h7⟩⟩
    · have e6 : (6 : Int32) ≤ x2 := by
        have n5 : nI 5 < x2 := by
          rcases hn with h | h | h | h
          · exact absurd (Or.inl h) z
          · exact h
          · exact absurd (Or.inr (Or.inr (Or.inl h))) z
          · exact absurd (Or.inr (Or.inr (Or.inr h))) z
        rw [Int32.lt_iff_toInt_lt] at n5
        rw [Int32.le_iff_toInt_le]
        have k5 : (nI 5).toInt = 5 := rfl
        have k6 : (6 : Int32).toInt = 6 := rfl
        omega
      have ch : ∃ v, zf_X9_isChance x1 x2 = some v := by
        unfold zf_X9_isChance
        rw [gIn, Option.bind_some, gIn, Option.bind_some]
        by_cases p : (if x2 < 1 then (0 : Int32) else if x2 ≤ 6 then 1 else 0) = 0
        · rw [if_pos p]; exact ⟨_, rfl⟩
        · rw [if_neg p]
          by_cases p2 : (if x1 < 0 then (0 : Int32) else if x1 ≤ x2 then 1 else 0) = 0
          · rw [if_pos p2]; exact ⟨_, rfl⟩
          · rw [if_neg p2]; exact ⟨_, rfl⟩
      obtain ⟨v, ev⟩ := ch
      rw [ev, Option.bind_some, if_pos e6, ite_self]
      exact ⟨_, _, rfl, rfl, Or.inr ⟨_, rfl, ⟨rfl, rfl⟩, g, past, h1, h2, h3, h4, gCcS h5, h6, h7⟩⟩
