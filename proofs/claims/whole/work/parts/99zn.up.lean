/-! deciders: up; leader, rank -/
def gStO (g : gG) (i p : Nat) : Prop := ∃ j, i ≤ j ∧ j < gRS g.1 g.2.1 ∧ (gStep g j).1 = p
theorem ggoUp {g : gG} (hok : gOk g) {gd : zGD} (hx : gRX g gd) {wt mvA sp ss rs : Nat → Int32} (hl : gLz g wt mvA sp ss rs) {a d : Nat} (ha : a ≤ 6) (hd : d ≤ 6) {ah : Nat → Int64} (hA : gAh g a d (gRS g.1 g.2.1) ah) (ch w : Nat → Int64) : ∃ ch' w', zf_X0_goUp (nI a) (nI d) (nI (gSz g.1)) (nI (gRS g.1 g.2.1)) gd.2.2.2.2.2.1 gd.2.2.2.2.2.2.1 gd.2.2.2.2.2.2.2 ch ah w wt mvA sp ss = some (ch', w') ∧ ∀ p, gIs g 0 p = true → ch' p = gDec g (lN a) (lN d) p := by
  have hw := hok.1
  have hz := gSzle hw.1.2
  have h40 := gRS40 hw
  unfold zf_X0_goUp
  have h1 := gitH (f := fun e : Int32 × (Nat → Int64) => zf_X0_goUp_l2 (nI (gSz g.1)) wt e.1 e.2) (fun j e => e.1 = nI j ∧ ∀ s, s < j → e.2 s = lN (if gWs g.1 s = 0 then 0 else 1)) (fun e => gRw3 (gSz g.1) e (fun s => if gWs g.1 s = 0 then 0 else 1)) (gSz g.1) (n := zfu) (gfu (by omega)) (a := ((0 : Int32), w)) ⟨rfl, fun s hs => by omega⟩ ?_ ?_
  · obtain ⟨w0, e0, k0⟩ := h1
    have h2 := gitH (f := fun e : Int32 × Int32 × (Nat → Int64) × (Nat → Int64) => zf_X0_goUp_l60 (nI a) (nI d) (nI (gSz g.1)) gd.2.2.2.2.2.1 gd.2.2.2.2.2.2.1 gd.2.2.2.2.2.2.2 ah mvA sp ss e.1 e.2.1 e.2.2.1 e.2.2.2) (fun j e => e.1 = nI (gFs g (gRS g.1 g.2.1 - j)) ∧ e.2.1 = nI (gRS g.1 g.2.1 - j) - 1 ∧ (∀ p, gHow g p = 0 → gStO g (gRS g.1 g.2.1 - j) p → e.2.2.1 p = gDec g (lN a) (lN d) p) ∧ gRw3 (gSz g.1) e.2.2.2 (gBi g a d (gRS g.1 g.2.1 - j))) (fun e => ∀ p, gHow g p = 0 → gStO g 0 p → e.1 p = gDec g (lN a) (lN d) p) (gRS g.1 g.2.1) (n := zfu) (gfu (by omega)) (a := (nI (gFree g), nI (gRS g.1 g.2.1) - 1, ch, w0)) ⟨by rw [Nat.sub_zero, gFs_all hw], by rw [Nat.sub_zero], fun p _ h => by
      obtain ⟨j, j1, j2, -⟩ := h
      omega, fun s hs => by
      rw [Nat.sub_zero]
      unfold gBi
      rw [Nat.sub_self]
      exact k0 s hs⟩ ?_ ?_
    · obtain ⟨⟨ch', w'⟩, e1, k1⟩ := h2
      rw [e0, Option.bind_some, gX2free hw hx, Option.bind_some, e1, Option.bind_some]
      refine ⟨ch', w', rfl, fun p hp => ?_⟩
      unfold gIs at hp
      rw [Bool.and_eq_true] at hp
      obtain ⟨i, hi, ei, -⟩ := gstepOf hw hp.1
      exact k1 p (of_decide_eq_true hp.2) ⟨i, Nat.zero_le _, hi, ei⟩
    · rintro j ⟨x1, x2, ch1, w1⟩ hj ⟨rfl, rfl, k1, k2⟩
      dsimp only at k1 k2 ⊢
      obtain ⟨i, hi⟩ : ∃ i, gRS g.1 g.2.1 - j = i + 1 := ⟨gRS g.1 g.2.1 - j - 1, by omega⟩
      have hi2 : gRS g.1 g.2.1 - (j + 1) = i := by omega
      have hlt : i < gRS g.1 g.2.1 := by omega
      obtain ⟨i40, e1, e2, p50, hp, hm⟩ := gstepA hw hl hlt
      have f24 := gFs24 hok (show i + 1 ≤ gRS g.1 g.2.1 by omega)
      rw [hi] at k1 k2 ⊢
      rw [hi2]
      unfold zf_X0_goUp_l60 zf_X0_goUp_172
      have nx : nI i + (-1 : Int32) = nI i - 1 := (Int32.sub_eq_add_neg _ _).symm
      rw [nI_pred, if_neg (nI_pos (by omega)), if_pos (ggN i40 (by decide)), if_pos (ggN i40 (by decide)), nI_clamp (by omega), e1, e2, gfreeB hw hx hp, Option.bind_some, nx]
      by_cases h0 : gHow g (gStep g i).1 = 0
      · rw [gFsS, if_pos h0] at f24
        have hmo : zf_X4_movesOpen (nI (gStep g i).1) = some (gbI (decide ((gStep g i).1 % 2 = 0))) := gmoT ⟨_, p50⟩
        obtain ⟨w2, ew, kw⟩ := ggather hw hm (gGo a d (gStep g i).1) (gSy a d (gStep g i).1) k2
        obtain ⟨go, sy⟩ := ggoes ha hd p50
        have dc := gdecC hw hm (f := gFs g i) (by omega) k2 (hA i hlt h0) (decide ((gStep g i).1 % 2 = 0))
        obtain ⟨u1, u2⟩ := gdecU hok hlt h0 a d
        have eD : gDec g (lN a) (lN d) (gStep g i).1 = (if decide ((gStep g i).1 % 2 = 0) = true then lN (gSum (fun s => gAw g a d i s * gBi g a d (i + 1) (gMv g.1 (gStep g i).2 s)) (gSz g.1)) - lN (gSum (fun s => gAw g a d i s * gBi g a d (i + 1) s) (gSz g.1)) else lN (gSum (fun s => gAw g a d i s * gBi g a d (i + 1) s) (gSz g.1)) - lN (gSum (fun s => gAw g a d i s * gBi g a d (i + 1) (gMv g.1 (gStep g i).2 s)) (gSz g.1))) := by
          rw [gDec_U hok hp h0, u1, u2]
          by_cases ev : (gStep g i).1 % 2 = 0
          · rw [if_pos (decide_eq_true ev)]
            simp only [if_pos ev]
          · rw [if_neg (by rw [decide_eq_false ev]; decide)]
            simp only [if_neg ev]
        have fs : nI (gFs g (i + 1)) + (-1 : Int32) = nI (gFs g i) := by
          rw [gFsS, if_pos h0, ← Int32.sub_eq_add_neg, nI_pred]
        rw [if_neg (by rw [decide_eq_true h0]; decide), if_neg (show ¬ nI (gFs g (i + 1)) ≤ 0 from nI_nle (by rw [gFsS, if_pos h0]; omega) (by rw [gFsS, if_pos h0]; omega)), if_neg (show ¬ (24 : Int32) < nI (gFs g (i + 1)) by rw [show (24 : Int32) = nI 24 from rfl, nI_ltI (by decide) (by rw [gFsS, if_pos h0]; omega), gFsS, if_pos h0]; omega), hmo, Option.bind_some, fs, show (132 : Int32) = nI 132 from rfl, gmul, dc, Option.bind_some, if_pos (ggN p50 (by decide)), go, Option.bind_some, sy, Option.bind_some, ew, Option.bind_some, nI_clamp (by omega)]
        refine ⟨_, rfl, rfl, rfl, fun p q st => ?_, fun s hs => ?_⟩
        · dsimp only
          by_cases ep : p = (gStep g i).1
          · rw [ep, guLS, eD]
          · rw [guLN ep]
            obtain ⟨j', j1, j2, j3⟩ := st
            have : j' ≠ i := fun e => ep (by rw [← j3, e])
            exact k1 p q ⟨j', by omega, j2, j3⟩
        · dsimp only
          rw [kw s hs, gBiS a d hlt, if_pos h0]
      · rw [if_pos (by rw [decide_eq_false h0]; rfl), gstat hw hx hp, Option.bind_some, gmvsA hw hlt, Option.bind_some]
        have ef : gFs g (i + 1) = gFs g i := by rw [gFsS, if_neg h0]; rfl
        rw [ef]
        have ks : ∀ p, gHow g p = 0 → gStO g i p → ch1 p = gDec g (lN a) (lN d) p := fun p q st => by
          obtain ⟨j', j1, j2, j3⟩ := st
          have : j' ≠ i := fun e => by rw [e] at j3; rw [j3] at h0; exact h0 q
          exact k1 p q ⟨j', by omega, j2, j3⟩
        by_cases mv : gMvs g i = true
        · obtain ⟨w2, ew, kw⟩ := ggather hw hm 1 0 k2
          have ew' : zf_X0_gather (nI (gSz g.1)) w1 mvA (nI (gStep g i).2) (1 : Int64) (0 : Int64) = some w2 := ew
          rw [mv, if_neg (by decide), ew', Option.bind_some]
          refine ⟨_, rfl, rfl, rfl, ks, fun s hs => ?_⟩
          dsimp only
          rw [kw s hs, gBiS a d hlt, if_neg h0, if_pos mv]
          show lN (1 * _ + 0 * _) = _
          rw [Nat.one_mul, Nat.zero_mul, Nat.add_zero]
        · have mf : gMvs g i = false := by cases hh : gMvs g i with | false => rfl | true => exact absurd hh mv
          rw [mf, if_pos (show gbI false = 0 from rfl)]
          refine ⟨_, rfl, rfl, rfl, ks, fun s hs => ?_⟩
          dsimp only
          rw [k2 s hs, gBiS a d hlt, if_neg h0, if_neg mv]
    · rintro ⟨x1, x2, ch1, w1⟩ ⟨rfl, rfl, k1, k2⟩
      dsimp only at k1 k2 ⊢
      unfold zf_X0_goUp_l60
      rw [Nat.sub_self] at k1 ⊢
      rw [if_pos (by decide)]
      exact ⟨_, rfl, k1⟩
  · rintro j ⟨x, w1⟩ hj ⟨rfl, k⟩
    dsimp only at k ⊢
    have w32 := gWs32 hw.1.2 hj
    unfold zf_X0_goUp_l2 zf_X0_goUp_35
    rw [if_neg (gle50 (by omega) (by omega) hj), if_pos (ggN (by omega) (by decide)), if_pos (ggN (by omega) (by decide)), if_pos (ggN (by omega) (by decide)), nI_clamp (by omega), hl.1 j hj, nI_1]
    have fin : ∀ v, v = lN (if gWs g.1 j = 0 then 0 else 1) → ∃ a', some (Sum.inl (nI (j + 1), vp_updL w1 j v) : (Int32 × (Nat → Int64)) ⊕ (Nat → Int64)) = some (Sum.inl a') ∧ a'.1 = nI (j + 1) ∧ ∀ s, s < j + 1 → a'.2 s = lN (if gWs g.1 s = 0 then 0 else 1) := by
      intro v hv
      refine ⟨_, rfl, rfl, fun s hs => ?_⟩
      dsimp only
      by_cases e : s = j
      · rw [e, guLS, hv]
      · rw [guLN e]; exact k s (by omega)
    by_cases q : gWs g.1 j = 0
    · rw [if_pos (show nI (gWs g.1 j) = (0 : Int32) by rw [q]; rfl)]
      exact fin _ (by rw [if_pos q]; rfl)
    · rw [if_neg (show ¬ nI (gWs g.1 j) = (0 : Int32) by rw [show (0 : Int32) = nI 0 from rfl, nI_eq (by omega) (by decide)]; exact q)]
      exact fin _ (by rw [if_neg q]; rfl)
  · rintro ⟨x, w1⟩ ⟨rfl, k⟩
    dsimp only at k ⊢
    unfold zf_X0_goUp_l2
    rw [if_pos (Int32.le_refl _)]
    exact ⟨_, rfl, k⟩
abbrev gT0 : Type := Int32 × Int32 × Int32 × Int32 × Option Nat × Int32 × Int32 × (Nat → Int32) × (Nat → Int32) × (Nat → Int32) × (Nat → Int32) × (Nat → Int32) × (Nat → Int32) × (Nat → Int32) × (Nat → Int64) × (Nat → Int64) × (Nat → Int64)
/-- what the class has weighed: columns, rows, size, steps, grid, openWeight, shutWeight, codes, wetCells, moves, stepPipe, stepSlot, rowStart, longer, chances, ahead, weights -/
theorem gdecBy {xi : Nat → Int32} {xu : Nat → Option Nat} {fg : Nat} {xh : Nat → Nat → Int32} {xk : Nat → Nat → Int64} {LG : List Nat} {G : Nat → zGD} {g : gG} (hok : gOk g) (hg : fg ∈ LG) (hx : gRX g (G fg)) (hc : gCc xi xu xh xk LG G) {a b : Nat} (hab : a ≤ b) (hb : b ≤ 6) : ∃ T : gT0, zf_X8_decidedBy fg (xi 7) (xi 8) (xi 9) (xi 10) (xu 4) (xi 16) (xi 17) (xh 1) (xh 2) (xh 3) (xh 4) (xh 5) (xh 6) (xh 7) (xk 7) (xk 8) (xk 9) (nI a) (nI b) (G fg) = some T ∧ (∀ p, gIs g 0 p = true → T.2.2.2.2.2.2.2.2.2.2.2.2.2.2.1 p = gDec g (lN a) (lN (b - a)) p) ∧ gCc (gset (gset (gset (gset (gset (gset xi 7 T.1) 8 T.2.1) 9 T.2.2.1) 10 T.2.2.2.1) 16 T.2.2.2.2.2.1) 17 T.2.2.2.2.2.2.1) (gset xu 4 T.2.2.2.2.1) (gset (gset (gset (gset (gset (gset (gset xh 1 T.2.2.2.2.2.2.2.1) 2 T.2.2.2.2.2.2.2.2.1) 3 T.2.2.2.2.2.2.2.2.2.1) 4 T.2.2.2.2.2.2.2.2.2.2.1) 5 T.2.2.2.2.2.2.2.2.2.2.2.1) 6 T.2.2.2.2.2.2.2.2.2.2.2.2.1) 7 T.2.2.2.2.2.2.2.2.2.2.2.2.2.1) (gset (gset (gset xk 7 T.2.2.2.2.2.2.2.2.2.2.2.2.2.2.1) 8 T.2.2.2.2.2.2.2.2.2.2.2.2.2.2.2.1) 9 T.2.2.2.2.2.2.2.2.2.2.2.2.2.2.2.2) LG G := by
  obtain ⟨h1, h2, h3, h4, h5, h6, h7, h8⟩ := hc
  have hcw := hok.1.1
  have hrw := hok.1.2.1
  obtain ⟨cd', wt', mv', sp', ss', rs', lg', e1, f1, f2, f3, f4⟩ := gfit (lg := xh 7) h1 hcw hrw
  have hl : gLz g wt' mv' sp' ss' rs' := ⟨fun s hs => (f1 s hs).2, f2, f3, f4⟩
  have hcd : ∀ s, s < gSz g.1 → cd' s = nI (gCd g.1 s) := fun s hs => (f1 s hs).1
  have key : ∃ ch' ah' w', zf_X0_weigh (xu 4) (xi 16) (xi 17) (nI g.1) (nI (gSz g.1)) (nI (gRS g.1 g.2.1)) (G fg).2.2.2.2.1 (G fg).2.2.2.2.2.1 (G fg).2.2.2.2.2.2.1 (G fg).2.2.2.2.2.2.2 (xk 7) (xk 8) (xk 9) cd' wt' mv' sp' ss' fg (nI a) (nI b) = some (some fg, nI a, nI (b - a), ch', ah', w') ∧ ∀ p, gIs g 0 p = true → ch' p = gDec g (lN a) (lN (b - a)) p := by
    have new : ∃ ch' ah' w', zf_X0_weigh_27 (nI g.1) (nI (gSz g.1)) (nI (gRS g.1 g.2.1)) (G fg).2.2.2.2.1 (G fg).2.2.2.2.2.1 (G fg).2.2.2.2.2.2.1 (G fg).2.2.2.2.2.2.2 (xk 7) (xk 8) (xk 9) cd' wt' mv' sp' ss' fg (nI a) (nI b) = some (some fg, nI a, nI (b - a), ch', ah', w') ∧ ∀ p, gIs g 0 p = true → ch' p = gDec g (lN a) (lN (b - a)) p := by
      obtain ⟨ah', w', ed, kd⟩ := ggoDown hok hx hcd hl (a := a) (d := b - a) (by omega) (by omega) (xk 8) (xk 9)
      obtain ⟨ch', w2, eu, ku⟩ := ggoUp hok hx hl (a := a) (d := b - a) (by omega) (by omega) kd (xk 7) w'
      unfold zf_X0_weigh_27
      rw [gsub hab, ed, Option.bind_some]
      dsimp only
      rw [eu, Option.bind_some]
      exact ⟨ch', ah', w2, rfl, ku⟩
    unfold zf_X0_weigh
    rw [gsub hab]
    by_cases c1 : xu 4 = some fg
    · rw [if_pos c1]
      obtain ⟨-, g', a', d', o1, o2, o3, o4, o5, o6, o7⟩ := h7 fg c1
      have eg : g' = g := gRXu o1.1 hok.1 o2 hx
      subst eg
      by_cases c2 : xi 16 = nI a
      · rw [if_pos c2]
        by_cases c3 : xi 17 = nI (b - a)
        · rw [if_pos c3, c1, c2, c3]
          have ea : a' = a := (nI_eq (by omega) (by omega)).mp (o5.symm.trans c2)
          have ed : d' = b - a := (nI_eq (by omega) (by omega)).mp (o6.symm.trans c3)
          subst ea ed
          exact ⟨_, _, _, rfl, o7⟩
        · rw [if_neg c3]; exact new
      · rw [if_neg c2]; exact new
    · rw [if_neg c1]; exact new
  obtain ⟨ch', ah', w', e2, k2⟩ := key
  refine ⟨(nI g.1, nI g.2.1, nI (gSz g.1), nI (gRS g.1 g.2.1), some fg, nI a, nI (b - a), cd', wt', mv', sp', ss', rs', lg', ch', ah', w'), ?_, k2, ?_⟩
  · unfold zf_X8_decidedBy
    have e3 : zf_X4_fit (xi 7) (xi 8) (xi 9) (xi 10) (xh 1) (xh 2) (xh 3) (xh 4) (xh 5) (xh 6) (xh 7) (G fg).1 (G fg).2.1 = some (nI g.1, nI g.2.1, nI (gSz g.1), nI (gRS g.1 g.2.1), cd', wt', mv', sp', ss', rs', lg') := by
      rw [hx.1, hx.2.1]
      exact e1
    rw [e3, Option.bind_some]
    dsimp only
    rw [e2, Option.bind_some]
  · refine ⟨Or.inr ⟨g.1, g.2.1, hcw, hrw, rfl, rfl, rfl, rfl, f1, f2, f3, f4⟩, h2, h3, h4, h5, h6, fun q hq => ?_, h8⟩
    have hq' : some fg = some q := hq
    obtain rfl := Option.some.inj hq'
    exact ⟨hg, g, a, b - a, hok, hx, by omega, by omega, rfl, rfl, k2⟩
