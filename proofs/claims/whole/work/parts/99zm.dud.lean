/-! deciders: down and up -/
theorem gStQ : ∀ (c r : Fin 6), 1 ≤ c.val → 1 ≤ r.val → (List.range (gRS c.val r.val)).all (fun i => if ((gSteps c.val r.val).getD i (0, 0)).1 % 2 = 0 then decide (5 ≤ ((gSteps c.val r.val).getD i (0, 0)).2) else decide (((gSteps c.val r.val).getD i (0, 0)).2 < c.val)) = true := by decide +kernel
theorem gStQ' {g : gG} (hw : gWf g) {i : Nat} (hi : i < gRS g.1 g.2.1) : if (gStep g i).1 % 2 = 0 then 5 ≤ (gStep g i).2 else (gStep g i).2 < g.1 := by
  have hc := hw.1
  have hr := hw.2.1
  have t := List.all_eq_true.mp (gStQ ⟨g.1, by omega⟩ ⟨g.2.1, by omega⟩ hc.1 hr.1) i (List.mem_range.mpr hi)
  dsimp only at t
  unfold gStep
  by_cases q : ((gSteps g.1 g.2.1).getD i (0, 0)).1 % 2 = 0
  · rw [if_pos q] at t ⊢
    exact of_decide_eq_true t
  · rw [if_neg q] at t ⊢
    exact of_decide_eq_true t
theorem gstepA {g : gG} (hw : gWf g) {wt mvA sp ss rs : Nat → Int32} (hl : gLz g wt mvA sp ss rs) {i : Nat} (hi : i < gRS g.1 g.2.1) : i < 40 ∧ sp i = nI (gStep g i).1 ∧ ss i = nI (gStep g i).2 ∧ (gStep g i).1 < 50 ∧ gTh (gStep g i).1 g.1 g.2.1 = true ∧ gMvA g mvA (gStep g i).2 := by
  have h40 := gRS40 hw
  obtain ⟨hp, hv⟩ := gStE hw hi
  obtain ⟨e1, e2⟩ := hl.2.2.1 i hi
  have hc := hw.1
  have hsl : (gStep g i).2 < 9 := by
    rcases gSl_cases hv with a | ⟨x, a, b, c⟩ <;> omega
  exact ⟨by omega, e1, e2, gTh50 hw.2.1.2 hp, hp, hsl, hv, fun s hs => gLz_mv hl hv hs⟩
theorem gmvsA {g : gG} (hw : gWf g) {i : Nat} (hi : i < gRS g.1 g.2.1) : zf_X4_movesAll (nI (gStep g i).1) (nI (gHow g (gStep g i).1)) = some (gbI (gMvs g i)) := by
  have h50 := gTh50 hw.2.1.2 (gStE hw hi).1
  have h2 := gHow2 hw (gStep g i).1
  have hmo : zf_X4_movesOpen (nI (gStep g i).1) = some (gbI (decide ((gStep g i).1 % 2 = 0))) := gmoT ⟨_, h50⟩
  unfold zf_X4_movesAll zf_X4_movesAll_13 gMvs
  rw [hmo, Option.bind_some]
  by_cases ev : (gStep g i).1 % 2 = 0
  · rw [decide_eq_true ev, if_neg (by decide), if_pos ev]
    by_cases q : gHow g (gStep g i).1 = 1
    · rw [if_pos (by rw [q]; rfl), decide_eq_true q]; rfl
    · rw [if_neg (by rw [show (1 : Int32) = nI 1 from rfl, nI_eq (by omega) (by decide)]; exact q), decide_eq_false q]; rfl
  · rw [decide_eq_false ev, if_pos (show gbI false = 0 from rfl), if_neg ev]
    by_cases q : gHow g (gStep g i).1 = 2
    · rw [if_pos (by rw [q]; rfl), decide_eq_true q]; rfl
    · rw [if_neg (by rw [show (2 : Int32) = nI 2 from rfl, nI_eq (by omega) (by decide)]; exact q), decide_eq_false q]; rfl
theorem ggoes {a d p : Nat} (ha : a ≤ 6) (hd : d ≤ 6) (hp : p < 50) : zf_X0_goes (nI a) (nI d) (nI p) = some (lN (gGo a d p)) ∧ zf_X0_stays (nI a) (nI d) (nI p) = some (lN (gSy a d p)) := by
  have hmo : zf_X4_movesOpen (nI p) = some (gbI (decide (p % 2 = 0))) := gmoT ⟨_, hp⟩
  unfold zf_X0_goes zf_X0_stays gGo gSy
  rw [hmo, Option.bind_some, Option.bind_some, nI_l (by omega), nI_l (by omega)]
  by_cases ev : p % 2 = 0
  · rw [decide_eq_true ev, if_neg (show ¬ gbI true = 0 by decide), if_neg (show ¬ gbI true = 0 by decide), if_pos ev, if_pos ev]
    exact ⟨rfl, rfl⟩
  · rw [decide_eq_false ev, if_pos (show gbI false = 0 from rfl), if_pos (show gbI false = 0 from rfl), if_neg ev, if_neg ev]
    exact ⟨rfl, rfl⟩
def gAh (g : gG) (a d i : Nat) (ah : Nat → Int64) : Prop := ∀ i', i' < i → gHow g (gStep g i').1 = 0 → ∀ s, s < gSz g.1 → ah (gFs g i' * 132 + s) = lN (gAw g a d i' s)
theorem ggoDown {g : gG} (hok : gOk g) {gd : zGD} (hx : gRX g gd) {codes wt mvA sp ss rs : Nat → Int32} (hcd : ∀ s, s < gSz g.1 → codes s = nI (gCd g.1 s)) (hl : gLz g wt mvA sp ss rs) {a d : Nat} (ha : a ≤ 6) (hd : d ≤ 6) (ah w : Nat → Int64) : ∃ ah' w', zf_X0_goDown (nI a) (nI d) (nI g.1) (nI (gSz g.1)) (nI (gRS g.1 g.2.1)) gd.2.2.2.2.1 gd.2.2.2.2.2.1 gd.2.2.2.2.2.2.1 gd.2.2.2.2.2.2.2 ah w codes mvA sp ss = some (ah', w') ∧ gAh g a d (gRS g.1 g.2.1) ah' := by
  have hw := hok.1
  have hz := gSzle hw.1.2
  have h40 := gRS40 hw
  have s0 := (gS0_lt hw).1
  unfold zf_X0_goDown
  have h1 := gitH (f := fun e : Int32 × (Nat → Int64) => zf_X0_goDown_l2 (nI (gSz g.1)) e.1 e.2) (fun j e => e.1 = nI j ∧ ∀ s, s < j → e.2 s = 0) (fun e => ∀ s, s < gSz g.1 → e s = 0) (gSz g.1) (n := zfu) (gfu (by omega)) (a := ((0 : Int32), w)) ⟨rfl, fun s hs => by omega⟩ ?_ ?_
  · obtain ⟨w0, e0, k0⟩ := h1
    have h2 := gitH (f := fun e : Int32 × Int32 × (Nat → Int64) × (Nat → Int64) => zf_X0_goDown_l47 (nI a) (nI d) (nI (gSz g.1)) (nI (gRS g.1 g.2.1)) gd.2.2.2.2.2.1 gd.2.2.2.2.2.2.1 gd.2.2.2.2.2.2.2 mvA sp ss e.1 e.2.1 e.2.2.1 e.2.2.2) (fun j e => e.1 = nI (gFs g j) ∧ e.2.1 = nI j ∧ gAh g a d j e.2.2.1 ∧ gRw3 (gSz g.1) e.2.2.2 (gAw g a d j)) (fun e => gAh g a d (gRS g.1 g.2.1) e.1) (gRS g.1 g.2.1) (n := zfu) (gfu (by omega)) (a := ((0 : Int32), (0 : Int32), ah, vp_updL w0 (gS0 g) 1)) ⟨rfl, rfl, fun i' h => by omega, fun s hs => ?_⟩ ?_ ?_
    · obtain ⟨⟨ah', w'⟩, e1, k1⟩ := h2
      rw [e0, Option.bind_some, gstart hw hx hcd, Option.bind_some, if_pos (ggN (by omega) (by decide)), nI_clamp (by omega), e1, Option.bind_some]
      exact ⟨ah', w', rfl, k1⟩
    · show vp_updL w0 (gS0 g) 1 s = lN (if s = gS0 g then 1 else 0)
      by_cases q : s = gS0 g
      · rw [q, guLS, if_pos rfl]; rfl
      · rw [guLN q, k0 s hs, if_neg q]; rfl
    · rintro j ⟨x1, x2, ah1, w1⟩ hj ⟨rfl, rfl, k1, k2⟩
      dsimp only at k1 k2 ⊢
      obtain ⟨j40, e1, e2, p50, hp, hm⟩ := gstepA hw hl hj
      have f24 := gFs24 hok (show j + 1 ≤ gRS g.1 g.2.1 by omega)
      have f24' := gFs24 hok (show j ≤ gRS g.1 g.2.1 by omega)
      unfold zf_X0_goDown_l47 zf_X0_goDown_165
      rw [if_neg (gle50 (by omega) (by omega) hj), if_pos (ggN j40 (by decide)), if_pos (ggN j40 (by decide)), nI_clamp (by omega), e1, e2, gfreeB hw hx hp, Option.bind_some, nI_1]
      by_cases h0 : gHow g (gStep g j).1 = 0
      · rw [gFsS, if_pos h0] at f24
        have z : zcg (0 : Int32) (nI (gFs g j) * (132 : Int32)) (nI (gSz g.1)) 132 3168 = true := by
          rw [show (132 : Int32) = nI 132 from rfl, gmul]
          unfold zcg
          refine decide_eq_true ⟨by decide, nI_pos (by omega), nI_pos (by omega), ?_, ?_⟩
          · rw [nI_clamp (show gSz g.1 < 2 ^ 31 by omega)]
            show 0 + gSz g.1 ≤ 132
            omega
          · rw [nI_clamp (by omega), nI_clamp (by omega)]
            omega
        obtain ⟨w2, ew, kw⟩ := gspread hw hm (gGo a d (gStep g j).1) (gSy a d (gStep g j).1) k2
        obtain ⟨go, sy⟩ := ggoes ha hd p50
        rw [if_neg (by rw [decide_eq_true h0]; decide), if_neg (gle24 (by omega)), if_pos z, go, Option.bind_some, sy, Option.bind_some, ew, Option.bind_some, nI_1, show (132 : Int32) = nI 132 from rfl, gmul, nI_clamp (by omega), nI_clamp (by omega)]
        refine ⟨_, rfl, by rw [gFsS, if_pos h0], rfl, fun i' hi' q' s hs => ?_, fun s hs => ?_⟩
        · dsimp only
          show va_cpy w1 ah1 0 (gFs g j * 132) (gSz g.1) _ = _
          unfold va_cpy
          by_cases ej : i' = j
          · rw [ej, if_pos (by omega), show 0 + (gFs g j * 132 + s - gFs g j * 132) = s by omega]
            exact k2 s hs
          · have lt : gFs g i' + 1 ≤ gFs g j := by
              have := gFs_mono g (show i' + 1 ≤ j by omega)
              rw [gFsS, if_pos q'] at this
              exact this
            have : gFs g i' * 132 + 132 ≤ gFs g j * 132 := by omega
            rw [if_neg (by omega)]
            exact k1 i' (by omega) q' s hs
        · dsimp only
          rw [kw s hs]
          show _ = lN (if gHow g (gStep g j).1 = 0 then _ else _)
          rw [if_pos h0]
      · rw [if_pos (by rw [decide_eq_false h0]; rfl), gstat hw hx hp, Option.bind_some, gmvsA hw hj, Option.bind_some]
        have ef : gFs g (j + 1) = gFs g j := by rw [gFsS, if_neg h0]; rfl
        have ah2 : gAh g a d (j + 1) ah1 := fun i' hi' q' s hs => by
          by_cases ej : i' = j
          · rw [ej] at q'; exact absurd q' h0
          · exact k1 i' (by omega) q' s hs
        by_cases mv : gMvs g j = true
        · obtain ⟨w2, ew, kw⟩ := gspread hw hm 1 0 k2
          have ew' : zf_X0_spread (nI (gSz g.1)) w1 mvA (nI (gStep g j).2) (1 : Int64) (0 : Int64) = some w2 := ew
          rw [mv, if_neg (by decide), ew', Option.bind_some]
          refine ⟨_, rfl, by rw [ef], rfl, ah2, fun s hs => ?_⟩
          dsimp only
          rw [kw s hs]
          show lN (1 * gInto g (gStep g j).2 s (gAw g a d j) + 0 * gAw g a d j s) = lN (if gHow g (gStep g j).1 = 0 then _ else if gMvs g j then _ else _)
          rw [if_neg h0, if_pos mv, Nat.one_mul, Nat.zero_mul, Nat.add_zero]
        · have mf : gMvs g j = false := by cases hh : gMvs g j with | false => rfl | true => exact absurd hh mv
          rw [mf, if_pos (show gbI false = 0 from rfl)]
          refine ⟨_, rfl, by rw [ef], rfl, ah2, fun s hs => ?_⟩
          dsimp only
          rw [k2 s hs]
          show _ = lN (if gHow g (gStep g j).1 = 0 then _ else if gMvs g j then _ else _)
          rw [if_neg h0, if_neg mv]
    · rintro ⟨x1, x2, ah1, w1⟩ ⟨rfl, rfl, k1, k2⟩
      dsimp only at k1 k2 ⊢
      unfold zf_X0_goDown_l47
      rw [if_pos (Int32.le_refl _)]
      exact ⟨_, rfl, k1⟩
  · rintro j ⟨x, w1⟩ hj ⟨rfl, k⟩
    dsimp only at k ⊢
    unfold zf_X0_goDown_l2
    rw [if_neg (gle50 (by omega) (by omega) hj), if_pos (ggN (by omega) (by decide)), nI_clamp (by omega), nI_1]
    refine ⟨_, rfl, rfl, fun s hs => ?_⟩
    dsimp only
    by_cases e : s = j
    · rw [e, guLS]
    · rw [guLN e]; exact k s (by omega)
  · rintro ⟨x, w1⟩ ⟨rfl, k⟩
    dsimp only at k ⊢
    unfold zf_X0_goDown_l2
    rw [if_pos (Int32.le_refl _)]
    exact ⟨_, rfl, k⟩
/-- what a free pipe decides weighs: open less shut -/
theorem gdecU {g : gG} (hok : gOk g) {i : Nat} (hi : i < gRS g.1 g.2.1) (h0 : gHow g (gStep g i).1 = 0) (a d : Nat) : gUp (gTell g (gStep g i).1 1) a d = gSum (fun s => gAw g a d i s * (if (gStep g i).1 % 2 = 0 then gBi g a d (i + 1) (gMv g.1 (gStep g i).2 s) else gBi g a d (i + 1) s)) (gSz g.1) ∧ gUp (gTell g (gStep g i).1 2) a d = gSum (fun s => gAw g a d i s * (if (gStep g i).1 % 2 = 0 then gBi g a d (i + 1) s else gBi g a d (i + 1) (gMv g.1 (gStep g i).2 s))) (gSz g.1) := by
  obtain ⟨hp, hv⟩ := gStE hok.1 hi
  obtain ⟨i0, l0, e0, u0⟩ := gstepOf hok.1 hp
  have ei : i = i0 := u0 i hi rfl
  have hne : ∀ j, j < gRS g.1 g.2.1 → j ≠ i → (gStep g j).1 ≠ (gStep g i).1 := fun j hj hji e => hji ((u0 j hj e).trans ei.symm)
  have how : ∀ h j, j < gRS g.1 g.2.1 → j ≠ i → gHow (gTell g (gStep g i).1 h) (gStep g j).1 = gHow g (gStep g j).1 := fun h j hj hji => by
    rw [gTl_how h0, if_neg (hne j hj hji)]
  have ahead : ∀ h j, j ≤ i → gAw (gTell g (gStep g i).1 h) a d j = gAw g a d j := by
    intro h j
    induction j with
    | zero =>
      intro _
      funext s
      show (if s = gS0 (gTell g (gStep g i).1 h) then 1 else 0) = (if s = gS0 g then 1 else 0)
      rw [gTl_S0 hok.1]
    | succ j ih =>
      intro hj
      funext s
      have hh := how h j (by omega) (by omega)
      have mm : gMvs (gTell g (gStep g i).1 h) j = gMvs g j := by
        show decide (gHow (gTell g (gStep g i).1 h) (gStep g j).1 = _) = decide (gHow g (gStep g j).1 = _)
        rw [hh]
        rfl
      show (if gHow (gTell g (gStep g i).1 h) (gStep g j).1 = 0 then gGo a d (gStep g j).1 * gInto g (gStep g j).2 s (gAw (gTell g (gStep g i).1 h) a d j) + gSy a d (gStep g j).1 * gAw (gTell g (gStep g i).1 h) a d j s else if gMvs (gTell g (gStep g i).1 h) j then gInto g (gStep g j).2 s (gAw (gTell g (gStep g i).1 h) a d j) else gAw (gTell g (gStep g i).1 h) a d j s) = (if gHow g (gStep g j).1 = 0 then gGo a d (gStep g j).1 * gInto g (gStep g j).2 s (gAw g a d j) + gSy a d (gStep g j).1 * gAw g a d j s else if gMvs g j then gInto g (gStep g j).2 s (gAw g a d j) else gAw g a d j s)
      rw [hh, mm, ih (by omega)]
  have behind : ∀ h n, n ≤ gRS g.1 g.2.1 - (i + 1) → gBw (gTell g (gStep g i).1 h) a d n = gBw g a d n := by
    intro h n
    induction n with
    | zero => intro _; rfl
    | succ n ih =>
      intro hn
      funext s
      have hh := how h (gRS g.1 g.2.1 - (n + 1)) (by omega) (by omega)
      have mm : gMvs (gTell g (gStep g i).1 h) (gRS g.1 g.2.1 - (n + 1)) = gMvs g (gRS g.1 g.2.1 - (n + 1)) := by
        show decide (gHow (gTell g (gStep g i).1 h) (gStep g (gRS g.1 g.2.1 - (n + 1))).1 = _) = decide (gHow g (gStep g (gRS g.1 g.2.1 - (n + 1))).1 = _)
        rw [hh]
        rfl
      have I := ih (by omega)
      show (if gHow (gTell g (gStep g i).1 h) (gStep g (gRS g.1 g.2.1 - (n + 1))).1 = 0 then gGo a d (gStep g (gRS g.1 g.2.1 - (n + 1))).1 * gBw (gTell g (gStep g i).1 h) a d n (gMv g.1 (gStep g (gRS g.1 g.2.1 - (n + 1))).2 s) + gSy a d (gStep g (gRS g.1 g.2.1 - (n + 1))).1 * gBw (gTell g (gStep g i).1 h) a d n s else if gMvs (gTell g (gStep g i).1 h) (gRS g.1 g.2.1 - (n + 1)) then gBw (gTell g (gStep g i).1 h) a d n (gMv g.1 (gStep g (gRS g.1 g.2.1 - (n + 1))).2 s) else gBw (gTell g (gStep g i).1 h) a d n s) = (if gHow g (gStep g (gRS g.1 g.2.1 - (n + 1))).1 = 0 then gGo a d (gStep g (gRS g.1 g.2.1 - (n + 1))).1 * gBw g a d n (gMv g.1 (gStep g (gRS g.1 g.2.1 - (n + 1))).2 s) + gSy a d (gStep g (gRS g.1 g.2.1 - (n + 1))).1 * gBw g a d n s else if gMvs g (gRS g.1 g.2.1 - (n + 1)) then gBw g a d n (gMv g.1 (gStep g (gRS g.1 g.2.1 - (n + 1))).2 s) else gBw g a d n s)
      rw [hh, mm, I]
  have one : ∀ h, (h = 1 ∨ h = 2) → gUp (gTell g (gStep g i).1 h) a d = gSum (fun s => gAw g a d i s * (if h = (if (gStep g i).1 % 2 = 0 then 1 else 2) then gBi g a d (i + 1) (gMv g.1 (gStep g i).2 s) else gBi g a d (i + 1) s)) (gSz g.1) := by
    intro h hh
    obtain ⟨okh, -⟩ := gTl_ok hok hp h0 hh
    have U := gdotU okh a d (i := i) (Nat.le_of_lt hi)
    rw [← U]
    refine gSum_cong fun s _ => ?_
    rw [ahead h i (Nat.le_refl _)]
    congr 1
    have bs := gBiS (g := gTell g (gStep g i).1 h) a d (i := i) hi s
    have hi' : gHow (gTell g (gStep g i).1 h) (gStep (gTell g (gStep g i).1 h) i).1 = h := by
      show gHow (gTell g (gStep g i).1 h) (gStep g i).1 = h
      rw [gTl_how h0, if_pos rfl]
    have nb : ∀ t, gBi (gTell g (gStep g i).1 h) a d (i + 1) t = gBi g a d (i + 1) t := fun t => by
      show gBw (gTell g (gStep g i).1 h) a d (gRS g.1 g.2.1 - (i + 1)) t = gBw g a d (gRS g.1 g.2.1 - (i + 1)) t
      rw [behind h _ (Nat.le_refl _)]
    rw [bs, hi', if_neg (by omega), nb, nb]
    unfold gMvs
    rw [hi']
    by_cases q : h = (if (gStep g i).1 % 2 = 0 then 1 else 2)
    · rw [if_pos q]
      show (if decide (h = (if (gStep g i).1 % 2 = 0 then 1 else 2)) = true then _ else _) = _
      rw [decide_eq_true q, if_pos rfl]
      rfl
    · rw [if_neg q]
      show (if decide (h = (if (gStep g i).1 % 2 = 0 then 1 else 2)) = true then _ else _) = _
      rw [decide_eq_false q, if_neg (by decide)]
  refine ⟨?_, ?_⟩
  · rw [one 1 (Or.inl rfl)]
    refine gSum_cong fun s _ => ?_
    by_cases ev : (gStep g i).1 % 2 = 0
    · rw [if_pos ev, if_pos ev, if_pos rfl]
    · rw [if_neg ev, if_neg ev, if_neg (by decide)]
  · rw [one 2 (Or.inr rfl)]
    refine gSum_cong fun s _ => ?_
    by_cases ev : (gStep g i).1 % 2 = 0
    · rw [if_pos ev, if_pos ev, if_neg (by decide)]
    · rw [if_neg ev, if_neg ev, if_pos rfl]
theorem gPw_n (a : Nat) : ∀ n, gPw (lN a) n = lN (a ^ n) := by
  intro n
  induction n with
  | zero => rfl
  | succ n ih =>
    show gPw (lN a) n * lN a = _
    rw [ih, lN_mul, Nat.pow_succ]
theorem gDec_U {g : gG} (hok : gOk g) {p : Nat} (hp : gTh p g.1 g.2.1 = true) (h0 : gHow g p = 0) (a d : Nat) : gDec g (lN a) (lN d) p = lN (gUp (gTell g p 1) a d) - lN (gUp (gTell g p 2) a d) := by
  obtain ⟨-, e1⟩ := gTl_ok hok hp h0 (h := 1) (Or.inl rfl)
  obtain ⟨-, e2⟩ := gTl_ok hok hp h0 (h := 2) (Or.inr rfl)
  unfold gDec gUp
  rw [show gFree (gTell g p 1) = gFree g - 1 by omega, show gFree (gTell g p 2) = gFree g - 1 by omega, show gFree g - 1 + 1 = gFree g by omega, ← gSuL_sub]
  refine gSuL_cong fun k _ => ?_
  rw [gPw_n, gPw_n, lN_mul, Int64.sub_mul, lN_mul, lN_mul]
theorem gDec_pos {g : gG} (hok : gOk g) {p : Nat} (hp : gTh p g.1 g.2.1 = true) (h0 : gHow g p = 0) (a d : Nat) : gUp (gTell g p 2) a d ≤ gUp (gTell g p 1) a d := by
  obtain ⟨i, hi, rfl, -⟩ := gstepOf hok.1 hp
  obtain ⟨e1, e2⟩ := gdecU hok hi h0 a d
  obtain ⟨-, hv⟩ := gStE hok.1 hi
  have hc := hok.1.1
  have q5 := gStQ' hok.1 hi
  rw [e1, e2]
  refine gSum_le fun s hs => Nat.mul_le_mul_left _ ?_
  have ms := (gMvI' hc.2 hv hs).2
  by_cases ev : (gStep g i).1 % 2 = 0
  · rw [if_pos ev] at q5 ⊢
    rw [if_pos ev]
    refine gBw_mono hok.1 a d _ (by omega) s _ hs ms ?_
    rcases gSl_cases hv with b | ⟨x, b, b1, b2⟩
    · omega
    · rw [b]; exact gFin_joinL hc.2 hs b1 b2
  · rw [if_neg ev] at q5 ⊢
    rw [if_neg ev]
    exact gBw_mono hok.1 a d _ (by omega) _ s ms hs (gFin_cutL hc.2 hs q5)
