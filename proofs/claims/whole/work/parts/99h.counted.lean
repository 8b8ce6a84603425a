/-! what is counted of the grid that is -/
/-- two grids of one cell's data are one -/
theorem gRXu {g g' : gG} {d : zGD} (hw : gWf g) (hw' : gWf g') (h : gRX g d) (h' : gRX g' d) : g = g' := by
  have hc := hw.1
  have hr := hw.2.1
  have hc' := hw'.1
  have hr' := hw'.2.1
  have e1 : g.1 = g'.1 := (nI_eq (by omega) (by omega)).mp (h.1.symm.trans h'.1)
  have e2 : g.2.1 = g'.2.1 := (nI_eq (by omega) (by omega)).mp (h.2.1.symm.trans h'.2.1)
  have e3 : g.2.2.1 = g'.2.2.1 := by
    funext i
    by_cases hi : i < 64
    · obtain ⟨a1, a2, -⟩ := h.2.2.1 i hi
      obtain ⟨b1, b2, -⟩ := h'.2.2.1 i hi
      have q1 := (hw.2.2.1 i).1
      have q2 := (hw'.2.2.1 i).1
      have p1 : decide (g.2.2.1 i = 1) = decide (g'.2.2.1 i = 1) := a1.symm.trans b1
      have p2 : decide (g.2.2.1 i = 2) = decide (g'.2.2.1 i = 2) := a2.symm.trans b2
      rw [decide_eq_decide] at p1 p2
      omega
    · have t1 : gTh i g.1 g.2.1 = false := by
        cases ht : gTh i g.1 g.2.1 with
        | false => rfl
        | true => have := gTh50 hr.2 ht; omega
      have t2 : gTh i g'.1 g'.2.1 = false := by
        cases ht : gTh i g'.1 g'.2.1 with
        | false => rfl
        | true => have := gTh50 hr'.2 ht; omega
      rw [(hw.2.2.1 i).2 t1, (hw'.2.2.1 i).2 t2]
  have e4 : g.2.2.2 = g'.2.2.2 := by
    funext k
    by_cases hk : k < 25
    · have a := (h.2.2.1 (2 * k) (by omega)).2.2
      have b := (h'.2.2.1 (2 * k) (by omega)).2.2
      rw [gfr2, show decide (2 * k % 2 = 0) = true from by simp, Bool.true_and] at a b
      exact a.symm.trans b
    · rw [gTh_st hw (by omega), gTh_st hw' (by omega)]
  obtain ⟨c, r, t, s⟩ := g
  obtain ⟨c', r', t', s'⟩ := g'
  simp only at e1 e2 e3 e4
  subst e1 e2 e3 e4
  rfl
theorem gcounted {xi : Nat → Int32} {xu : Nat → Option Nat} {fg : Nat} {xh : Nat → Nat → Int32} {xk : Nat → Nat → Int64} {LG : List Nat} {G : Nat → zGD} {g : gG} (hok : gOk g) (hg : fg ∈ LG) (hx : gRX g (G fg)) (hc : gCc xi xu xh xk LG G) : ∃ u' cd' wt' mv' sp' ss' rs' lg' cn' tt' fd' jn', zf_X8_counted fg (xi 7) (xi 8) (xi 9) (xi 10) (xi 11) (xu 1) (xi 12) (xh 1) (xh 2) (xh 3) (xh 4) (xh 5) (xh 6) (xh 7) (xk 0) (xk 1) (xh 8) (xk 2) 16500 660 (G fg) = some (nI g.1, nI g.2.1, nI (gSz g.1), nI (gRS g.1 g.2.1), some fg, u', cd', wt', mv', sp', ss', rs', lg', cn', tt', fd', jn') ∧ (∀ s, s < gSz g.1 → cd' s = nI (gCd g.1 s)) ∧ gLz g wt' mv' sp' ss' rs' ∧ gFl g cn' tt' fd' jn' ∧ ∀ xi' xu' xh' xk', xi' 2 = xi 2 → xi' 7 = nI g.1 → xi' 8 = nI g.2.1 → xi' 9 = nI (gSz g.1) → xi' 10 = nI (gRS g.1 g.2.1) → xi' 11 = xi 11 → xi' 13 = xi 13 → xi' 14 = xi 14 → xi' 16 = xi 16 → xi' 17 = xi 17 → xu' 0 = xu 0 → xu' 1 = some fg → xu' 2 = xu 2 → xu' 3 = xu 3 → xu' 4 = xu 4 → xh' 1 = cd' → xh' 2 = wt' → xh' 3 = mv' → xh' 4 = sp' → xh' 5 = ss' → xh' 6 = rs' → xh' 8 = fd' → xh' 9 = xh 9 → xk' 0 = cn' → xk' 1 = tt' → xk' 2 = jn' → xk' 6 = xk 6 → xk' 7 = xk 7 → gCc xi' xu' xh' xk' LG G := by
  obtain ⟨h1, h2, h3, h4, h5, h6, h7, h8⟩ := hc
  have hcw := hok.1.1
  have hrw := hok.1.2.1
  obtain ⟨cd', wt', mv', sp', ss', rs', lg', e1, f1, f2, f3, f4⟩ := gfit (lg := xh 7) h1 hcw hrw
  have hl : gLz g wt' mv' sp' ss' rs' := ⟨fun s hs => (f1 s hs).2, f2, f3, f4⟩
  have hcd : ∀ s, s < gSz g.1 → cd' s = nI (gCd g.1 s) := fun s hs => (f1 s hs).1
  have key : ∃ u' cn' tt' fd' jn', zf_X1_follow (xi 11) (xu 1) (xi 12) (nI g.1) (nI (gSz g.1)) (G fg).2.1 (G fg).2.2.2.2.1 (G fg).2.2.2.2.2.1 (G fg).2.2.2.2.2.2.1 (G fg).2.2.2.2.2.2.2 (xk 0) (xk 1) (xh 8) (xk 2) cd' wt' mv' sp' ss' rs' 16500 660 fg = some (some fg, u', cn', tt', fd', jn') ∧ gFl g cn' tt' fd' jn' := by
    by_cases hq : xu 1 = some fg
    · obtain ⟨-, g', k1, k2, k3⟩ := h5 fg hq
      have : g' = g := gRXu k1.1 hok.1 k2 hx
      subst this
      unfold zf_X1_follow
      rw [if_pos hq, hq]
      exact ⟨_, _, _, _, _, rfl, k3⟩
    · obtain ⟨u', cn', tt', fd', jn', e, -, k⟩ := gfollow hok hx hcd hl (bl := 5) (nc := 16500) (nt := 660) (Or.inr rfl) (by decide) (by decide) (by decide) (by decide) hq (xi 12) (xk 0) (xk 1) (xh 8) (xk 2)
      rw [h2]
      exact ⟨u', cn', tt', fd', jn', e, k rfl⟩
  obtain ⟨u', cn', tt', fd', jn', e2, k2⟩ := key
  refine ⟨u', cd', wt', mv', sp', ss', rs', lg', cn', tt', fd', jn', ?_, hcd, hl, k2, ?_⟩
  · unfold zf_X8_counted
    have e3 : zf_X4_fit (xi 7) (xi 8) (xi 9) (xi 10) (xh 1) (xh 2) (xh 3) (xh 4) (xh 5) (xh 6) (xh 7) (G fg).1 (G fg).2.1 = some (nI g.1, nI g.2.1, nI (gSz g.1), nI (gRS g.1 g.2.1), cd', wt', mv', sp', ss', rs', lg') := by
      rw [hx.1, hx.2.1]
      exact e1
    rw [e3, Option.bind_some]
    dsimp only
    rw [e2]
    rfl
  · intro xi' xu' xh' xk' a2 a7 a8 a9 a10 a11 a13 a14 a16 a17 b0 b1 b2 b3 b4 c1 c2 c3 c4 c5 c6 c8 c9 d0 d1 d2 d6 d7
    refine ⟨?_, a11.trans h2, a14.trans h3, by rw [b3]; exact h4, fun q hq => ?_, fun q hq => ?_, fun q hq => ?_, fun q hq => ?_⟩
    · rw [a7, a8, a9, a10, c1, c2, c3, c4, c5, c6]
      exact Or.inr ⟨g.1, g.2.1, hcw, hrw, rfl, rfl, rfl, rfl, f1, f2, f3, f4⟩
    · rw [b1] at hq
      obtain rfl := Option.some.inj hq
      rw [d0, d1, c8, d2]
      exact ⟨hg, g, hok, hx, k2⟩
    · rw [b0] at hq
      rw [a2, d6]
      exact h6 q hq
    · rw [b4] at hq
      rw [a16, a17, d7]
      exact h7 q hq
    · rw [b2] at hq
      rw [a13, c9]
      exact h8 q hq
