/-! the flow: row by row to its end -/
theorem gRSm : ∀ (c r : Fin 6), 1 ≤ c.val → (List.range r.val).all (fun y => decide (gRS c.val y ≤ gRS c.val (y + 1) ∧ gRS c.val (y + 1) ≤ gRS c.val r.val)) = true := by decide +kernel
theorem gRSm' {g : gG} (hw : gWf g) {y : Nat} (hy : y < g.2.1) : gRS g.1 y ≤ gRS g.1 (y + 1) ∧ gRS g.1 (y + 1) ≤ gRS g.1 g.2.1 := by
  have hc := hw.1
  have hr := hw.2.1
  exact of_decide_eq_true (List.all_eq_true.mp (gRSm ⟨g.1, by omega⟩ ⟨g.2.1, by omega⟩ hc.1) y (List.mem_range.mpr hy))
theorem gblk {bl row : Nat} (hb : bl = 1 ∨ bl = 5) (hr : row < 5) : zf_X1_blockOf (nI bl) (nI row) = some (nI (min row (bl - 1))) := by
  unfold zf_X1_blockOf
  rcases hb with rfl | rfl
  · rw [show nI 1 - 1 = nI 0 from rfl]
    simp only [nI_ltI (show 0 < 2 ^ 31 by decide) (show row < 2 ^ 31 by omega)]
    by_cases h : 0 < row
    · rw [if_pos h, show min row (1 - 1) = 0 from by omega]
    · rw [if_neg h, show min row (1 - 1) = row from by omega]
  · rw [show nI 5 - 1 = nI 4 from rfl]
    simp only [nI_ltI (show 4 < 2 ^ 31 by decide) (show row < 2 ^ 31 by omega)]
    rw [if_neg (by omega), show min row (5 - 1) = row from by omega]
theorem genter {sz bl row nc nt : Nat} (hsz : sz ≤ 132) (hb : bl = 1 ∨ bl = 5) (hr : row < 5) (hnc : bl * 3300 ≤ nc) (hnc2 : nc < 2 ^ 31) (hnt : bl * 132 ≤ nt) (hnt2 : nt < 2 ^ 31) {cn tt : Nat → Int64} {D : Nat → Nat → Nat} {T : Nat → Nat} (hR : gRp sz (min (row - 1) (bl - 1)) cn tt D T) : ∃ cn' tt', zf_X1_enterRow (nI bl) (nI sz) cn tt nc nt (nI row) = some (cn', tt') ∧ gRp sz (min row (bl - 1)) cn' tt' D T ∧ gFm (min row (bl - 1)) cn tt cn' tt' := by
  unfold zf_X1_enterRow
  by_cases r0 : row = 0
  · subst r0
    rw [if_pos (by decide)]
    refine ⟨cn, tt, rfl, ?_, gFm0⟩
    rwa [show min 0 (bl - 1) = min (0 - 1) (bl - 1) from by omega]
  · rw [if_neg (by rw [show (0 : Int32) = nI 0 from rfl, nI_leI (by omega) (by decide)]; omega)]
    by_cases hbr : bl ≤ row
    · rw [if_pos ((nI_leI (by omega) (by omega)).mpr hbr)]
      refine ⟨cn, tt, rfl, ?_, gFm0⟩
      rwa [show min row (bl - 1) = min (row - 1) (bl - 1) from by omega]
    · have h5 : bl = 5 := by omega
      subst h5
      rw [if_neg (fun q => hbr ((nI_leI (by omega) (by omega)).mp q))]
      have m1 : min row (5 - 1) = row := by omega
      have m2 : min (row - 1) (5 - 1) = row - 1 := by omega
      rw [m2] at hR
      rw [m1]
      have k1 : (nI row - 1) * 132 = nI ((row - 1) * 132) := by rw [show (1 : Int32) = nI 1 from rfl, show (132 : Int32) = nI 132 from rfl, gsub (by omega), gmul]
      have k2 : nI row * 132 = nI (row * 132) := by rw [show (132 : Int32) = nI 132 from rfl, gmul]
      have k3 : nI ((row - 1) * 132) * 25 = nI ((row - 1) * 132 * 25) := by rw [show (25 : Int32) = nI 25 from rfl, gmul]
      have k4 : nI (row * 132) * 25 = nI (row * 132 * 25) := by rw [show (25 : Int32) = nI 25 from rfl, gmul]
      have k5 : nI sz * 25 = nI (sz * 25) := by rw [show (25 : Int32) = nI 25 from rfl, gmul]
      rw [k1, k2, k3, k4, k5]
      have zc : ∀ a b n N : Nat, a < 2 ^ 31 → b < 2 ^ 31 → n < 2 ^ 31 → a + n ≤ N → b + n ≤ N → zcg (nI a) (nI b) (nI n) N N = true := by
        intro a b n N ha hb hn h1 h2
        unfold zcg
        exact decide_eq_true ⟨nI_pos ha, nI_pos hb, nI_pos hn, by rw [nI_clamp ha, nI_clamp hn]; exact h1, by rw [nI_clamp hb, nI_clamp hn]; exact h2⟩
      rw [if_pos (zc _ _ _ _ (by omega) (by omega) (by omega) (by omega) (by omega)), if_pos (zc _ _ _ _ (by omega) (by omega) (by omega) (by omega) (by omega))]
      rw [nI_clamp (by omega), nI_clamp (by omega), nI_clamp (by omega), nI_clamp (by omega), nI_clamp (by omega), nI_clamp (by omega)]
      refine ⟨_, _, rfl, fun s hs => ⟨?_, fun k hk => ?_⟩, fun q hq => ?_, fun q hq => ?_⟩
      · unfold va_cpy
        rw [if_pos (by omega), show (row - 1) * 132 + (row * 132 + s - row * 132) = (row - 1) * 132 + s from by omega]
        exact (hR s hs).1
      · unfold va_cpy
        rw [if_pos (by omega), show (row - 1) * 132 * 25 + ((row * 132 + s) * 25 + k - row * 132 * 25) = ((row - 1) * 132 + s) * 25 + k from by omega]
        exact (hR s hs).2 k hk
      · unfold va_cpy
        rw [if_neg (by omega)]
      · unfold va_cpy
        rw [if_neg (by omega)]
theorem gRp_frame {sz B B' : Nat} {cn tt cn' tt' : Nat → Int64} {D : Nat → Nat → Nat} {T : Nat → Nat} (hsz : sz ≤ 132) (hne : B' ≠ B) (hF : gFm B cn tt cn' tt') (h : gRp sz B' cn tt D T) : gRp sz B' cn' tt' D T := fun s hs => ⟨by rw [hF.2 _ (by omega)]; exact (h s hs).1, fun k hk => by rw [hF.1 _ (by omega)]; exact (h s hs).2 k hk⟩
theorem growL {g : gG} (hok : gOk g) {d : zGD} (hx : gRX g d) {wt mvA sp ss rs : Nat → Int32} (hl : gLz g wt mvA sp ss rs) {bl row nc nt : Nat} (hb : bl = 1 ∨ bl = 5) (hr : row < g.2.1) (hnc : bl * 3300 ≤ nc) (hnc2 : nc < 2 ^ 31) (hnt : bl * 132 ≤ nt) (hnt2 : nt < 2 ^ 31) {cn tt : Nat → Int64} (hR : gRp (gSz g.1) (min row (bl - 1)) cn tt (gC g (gRS g.1 row)) (gTt g (gRS g.1 row))) : ∃ cn' tt', zit (fun q : Int32 × Int32 × (Nat → Int64) × (Nat → Int64) => zf_X1_follow_l48 (nI bl) (nI (gSz g.1)) d.2.2.2.2.2.1 d.2.2.2.2.2.2.1 d.2.2.2.2.2.2.2 mvA sp ss rs nc nt (nI row) q.1 q.2.1 q.2.2.1 q.2.2.2) zfu (nI (gRS g.1 row), nI (gFs g (gRS g.1 row)), cn, tt) = some (nI (gFs g (gEnd g row)), cn', tt') ∧ gRp (gSz g.1) (min row (bl - 1)) cn' tt' (gC g (gEnd g row)) (gTt g (gEnd g row)) ∧ gFm (min row (bl - 1)) cn tt cn' tt' := by
  have hr5 := hok.1.2.1.2
  obtain ⟨m1, m2⟩ := gRSm' hok.1 hr
  have h40 := gRS40 hok.1
  have hB : (min row (bl - 1) + 1) * 3300 ≤ bl * 3300 ∧ (min row (bl - 1) + 1) * 132 ≤ bl * 132 := by omega
  have hE : gEnd g row = gRS g.1 (row + 1) := rfl
  have hL := gitH (f := fun q : Int32 × Int32 × (Nat → Int64) × (Nat → Int64) => zf_X1_follow_l48 (nI bl) (nI (gSz g.1)) d.2.2.2.2.2.1 d.2.2.2.2.2.2.1 d.2.2.2.2.2.2.2 mvA sp ss rs nc nt (nI row) q.1 q.2.1 q.2.2.1 q.2.2.2) (fun j a => a.1 = nI (gRS g.1 row + j) ∧ a.2.1 = nI (gFs g (gRS g.1 row + j)) ∧ gRp (gSz g.1) (min row (bl - 1)) a.2.2.1 a.2.2.2 (gC g (gRS g.1 row + j)) (gTt g (gRS g.1 row + j)) ∧ gFm (min row (bl - 1)) cn tt a.2.2.1 a.2.2.2) (fun b => b.1 = nI (gFs g (gEnd g row)) ∧ gRp (gSz g.1) (min row (bl - 1)) b.2.1 b.2.2 (gC g (gEnd g row)) (gTt g (gEnd g row)) ∧ gFm (min row (bl - 1)) cn tt b.2.1 b.2.2) (gRS g.1 (row + 1) - gRS g.1 row) (n := zfu) (gfu (by omega)) (a := (nI (gRS g.1 row), nI (gFs g (gRS g.1 row)), cn, tt)) ⟨rfl, rfl, hR, gFm0⟩ ?_ ?_
  · obtain ⟨⟨u1, c1, t1⟩, e, h1, h2, h3⟩ := hL
    dsimp only at h1
    subst h1
    exact ⟨c1, t1, e, h2, h3⟩
  · rintro j ⟨x, u, c1, t1⟩ hj ⟨rfl, rfl, hR1, hF1⟩
    dsimp only at hR1 hF1 ⊢
    unfold zf_X1_follow_l48
    rw [nI_1, if_pos (ggN (by omega) (by decide)), nI_clamp (by omega), hl.2.2.2 (row + 1) (by omega), if_neg (gle50 (by omega) (by omega) (by omega)), gblk hb (by omega), Option.bind_some]
    obtain ⟨c2, t2, q1, q2, q3⟩ := gpass hok.1 hx hl (B := min row (bl - 1)) (nc := nc) (nt := nt) (i := gRS g.1 row + j) (by omega) (gFs24 hok (by omega)) (Nat.le_trans hB.1 hnc) hnc2 (Nat.le_trans hB.2 hnt) hnt2 hR1
    rw [q1, Option.bind_some, nI_1]
    exact ⟨_, rfl, rfl, rfl, q2, gFmT hF1 q3⟩
  · rintro ⟨x, u, c1, t1⟩ ⟨rfl, rfl, hR1, hF1⟩
    dsimp only at hR1 hF1 ⊢
    have e0 : gRS g.1 row + (gRS g.1 (row + 1) - gRS g.1 row) = gRS g.1 (row + 1) := by omega
    rw [e0] at hR1
    unfold zf_X1_follow_l48
    rw [e0, nI_1, if_pos (ggN (by omega) (by decide)), nI_clamp (by omega), hl.2.2.2 (row + 1) (by omega), if_pos (Int32.le_refl _)]
    exact ⟨_, rfl, rfl, hR1, hF1⟩
theorem gwetW {g : gG} (hw : gWf g) {wt mvA sp ss rs : Nat → Int32} (hl : gLz g wt mvA sp ss rs) {bl row nc k : Nat} (hb : bl = 1 ∨ bl = 5) (hr : row < 5) (hk : k < 25) (hnc : bl * 3300 ≤ nc) (hnc2 : nc < 2 ^ 31) {cn tt : Nat → Int64} {D : Nat → Nat → Nat} {T : Nat → Nat} (hR : gRp (gSz g.1) (min row (bl - 1)) cn tt D T) : zf_X1_wetWays (nI bl) (nI (gSz g.1)) cn wt nc (nI row) (nI k) = some (lN (gSum (fun s => if gWs g.1 s = 0 then 0 else D s k) (gSz g.1))) := by
  have hsz := gSzle hw.1.2
  have hWs : ∀ s, s < gSz g.1 → gWs g.1 s < 2 ^ 31 := fun s hs => by
    have hc := hw.1
    have hT := List.all_eq_true.mp (gwpT ⟨g.1, by omega⟩) s (List.mem_range.mpr hs)
    rw [Bool.and_eq_true] at hT
    have h1 : gwp g.1 s g.1 = gWs g.1 s := of_decide_eq_true hT.1
    have h2 : gwp g.1 s g.1 < 32 := of_decide_eq_true (List.all_eq_true.mp hT.2 g.1 (List.mem_range.mpr (by omega)))
    omega
  unfold zf_X1_wetWays
  have e := gitr (f := fun q : Int64 × Int32 => zf_X1_wetWays_l5 (nI bl) (nI (gSz g.1)) cn wt nc (nI row) (nI k) q.1 q.2) (fun s => (lN (gSum (fun s => if gWs g.1 s = 0 then 0 else D s k) s), nI s)) (gSz g.1) (n := zfu) (b := lN (gSum (fun s => if gWs g.1 s = 0 then 0 else D s k) (gSz g.1))) (gfu (by omega)) ?_ ?_
  · rw [show ((0 : Int64), (0 : Int32)) = (lN (gSum (fun s => if gWs g.1 s = 0 then 0 else D s k) 0), nI 0) from rfl, e]
    rfl
  · intro s hs
    dsimp only
    unfold zf_X1_wetWays_l5 zf_X1_wetWays_41 zf_X1_waysTo
    have kx : (nI (min row (bl - 1)) * 132 + nI s) * 25 + nI k = nI ((min row (bl - 1) * 132 + s) * 25 + k) := by
      rw [show (132 : Int32) = nI 132 from rfl, show (25 : Int32) = nI 25 from rfl, gmul, nI_add, gmul, nI_add]
    rw [if_neg (gle50 (by omega) (by omega) hs), if_pos (ggN (by omega) (by decide)), nI_clamp (by omega), hl.1 s hs, gblk hb hr, Option.bind_some, kx, if_pos (ggN (by omega) hnc2), nI_clamp (by omega), Option.bind_some, (hR s hs).2 k hk, nI_1, show (0 : Int32) = nI 0 from rfl]
    simp only [nI_eq (hWs s hs) (show 0 < 2 ^ 31 by decide)]
    rw [gSum]
    by_cases h0 : gWs g.1 s = 0
    · rw [if_pos h0, if_pos h0]
      rfl
    · rw [if_neg h0, if_neg h0, lN_add]
  · dsimp only
    unfold zf_X1_wetWays_l5
    rw [if_pos (Int32.le_refl _)]
theorem gfollow {g : gG} (hok : gOk g) {d : zGD} (hx : gRX g d) {codes wt mvA sp ss rs : Nat → Int32} (hcd : ∀ s, s < gSz g.1 → codes s = nI (gCd g.1 s)) (hl : gLz g wt mvA sp ss rs) {bl nc nt q : Nat} (hb : bl = 1 ∨ bl = 5) (hnc : bl * 3300 ≤ nc) (hnc2 : nc < 2 ^ 31) (hnt : bl * 132 ≤ nt) (hnt2 : nt < 2 ^ 31) {fg : Option Nat} (hne : fg ≠ some q) (fu : Int32) (cn tt : Nat → Int64) (fd : Nat → Int32) (jn : Nat → Int64) : ∃ fu' cn' tt' fd' jn', zf_X1_follow (nI bl) fg fu (nI g.1) (nI (gSz g.1)) d.2.1 d.2.2.2.2.1 d.2.2.2.2.2.1 d.2.2.2.2.2.2.1 d.2.2.2.2.2.2.2 cn tt fd jn codes wt mvA sp ss rs nc nt q = some (some q, fu', cn', tt', fd', jn') ∧ gJn g jn' ∧ (bl = 5 → gFl g cn' tt' fd' jn') := by
  have hc := hok.1.1
  have hr := hok.1.2.1
  have hsz := gSzle hc.2
  unfold zf_X1_follow
  obtain ⟨c0, t0, b1, b2⟩ := gbegin hok.1 hx hcd (nc := nc) (nt := nt) (by omega) hnc2 (by omega) hnt2 cn tt
  rw [if_neg hne, b1, Option.bind_some, hx.2.1]
  dsimp only
  have hL := gitH (f := fun z : Int32 × Int32 × (Nat → Int64) × (Nat → Int64) × (Nat → Int32) => zf_X1_follow_l25 (nI bl) (nI (gSz g.1)) (nI g.2.1) d.2.2.2.2.2.1 d.2.2.2.2.2.2.1 d.2.2.2.2.2.2.2 mvA sp ss rs nc nt z.1 z.2.1 z.2.2.1 z.2.2.2.1 z.2.2.2.2) (fun row a => a.1 = nI row ∧ a.2.1 = nI (gFs g (gRS g.1 row)) ∧ gRp (gSz g.1) (min (row - 1) (bl - 1)) a.2.2.1 a.2.2.2.1 (gC g (gRS g.1 row)) (gTt g (gRS g.1 row)) ∧ (∀ y, y < row → a.2.2.2.2 y = nI (gFs g (gEnd g y))) ∧ (bl = 5 → ∀ y, y < row → gRp (gSz g.1) y a.2.2.1 a.2.2.2.1 (gC g (gEnd g y)) (gTt g (gEnd g y)))) (fun b => gRp (gSz g.1) (min (g.2.1 - 1) (bl - 1)) b.2.1 b.2.2.1 (gC g (gRS g.1 g.2.1)) (gTt g (gRS g.1 g.2.1)) ∧ (∀ y, y < g.2.1 → b.2.2.2 y = nI (gFs g (gEnd g y))) ∧ (bl = 5 → ∀ y, y < g.2.1 → gRp (gSz g.1) y b.2.1 b.2.2.1 (gC g (gEnd g y)) (gTt g (gEnd g y)))) g.2.1 (n := zfu) (gfu (by omega)) (a := ((0 : Int32), (0 : Int32), c0, t0, fd)) ⟨rfl, rfl, by rw [show min (0 - 1) (bl - 1) = 0 from by omega]; exact b2, fun y hy => by omega, fun _ y hy => by omega⟩ ?_ ?_
  · obtain ⟨⟨u1, c1, t1, f1⟩, e, h1, h2, h3⟩ := hL
    dsimp only at h1 h2 h3
    rw [e, Option.bind_some]
    dsimp only
    have hJ := gitH (f := fun z : Int32 × (Nat → Int64) => zf_X1_follow_l97 (nI bl) (nI (gSz g.1)) (nI g.2.1) c1 wt nc z.1 z.2) (fun k a => a.1 = nI k ∧ ∀ k', k' < k → a.2 k' = lN (gJ g k')) (fun b => ∀ k, k < 25 → b k = lN (gJ g k)) 25 (n := zfu) (gfu (by decide)) (a := ((0 : Int32), jn)) ⟨rfl, fun k' h => by omega⟩ ?_ ?_
    · obtain ⟨j1, e2, h4⟩ := hJ
      rw [e2, Option.bind_some]
      refine ⟨_, _, _, _, _, rfl, h4, fun h5 => ⟨h4, fun row hrow => ⟨h2 row hrow, fun s hs => ?_⟩⟩⟩
      exact h3 h5 row hrow s hs
    · rintro k ⟨x, j1⟩ hk ⟨rfl, h4⟩
      dsimp only at h4 ⊢
      unfold zf_X1_follow_l97
      obtain ⟨r1, hr1⟩ : ∃ r1, g.2.1 = r1 + 1 := ⟨g.2.1 - 1, by omega⟩
      have hR2 : gRp (gSz g.1) (min r1 (bl - 1)) c1 t1 (gC g (gRS g.1 g.2.1)) (gTt g (gRS g.1 g.2.1)) := by
        rw [show r1 = g.2.1 - 1 from by omega]
        exact h1
      rw [if_neg (show ¬ (25 : Int32) ≤ nI k from gle50 (a := 25) (by decide) (by omega) hk), show nI g.2.1 - 1 = nI r1 from by rw [hr1]; exact nI_pred r1, gwetW hok.1 hl hb (by omega) hk hnc hnc2 hR2, Option.bind_some, if_pos (ggN hk (by decide)), nI_clamp (by omega), nI_1]
      refine ⟨_, rfl, rfl, fun k' hk' => ?_⟩
      dsimp only
      by_cases e1 : k' = k
      · rw [e1, guLS]
        unfold gJ gW gEnd
        rw [show g.2.1 - 1 + 1 = g.2.1 from by omega]
      · rw [guLN e1]
        exact h4 k' (by omega)
    · rintro ⟨x, j1⟩ ⟨rfl, h4⟩
      dsimp only
      unfold zf_X1_follow_l97
      rw [if_pos (by decide)]
      exact ⟨_, rfl, h4⟩
  · rintro row ⟨x, u, c1, t1, f1⟩ hrow ⟨rfl, rfl, h1, h2, h3⟩
    dsimp only at h1 h2 h3 ⊢
    unfold zf_X1_follow_l25
    obtain ⟨c2, t2, p1, p2, p3⟩ := genter hsz hb (show row < 5 by omega) hnc hnc2 hnt hnt2 h1
    obtain ⟨c3, t3, s1, s2, s3⟩ := growL hok hx hl hb hrow hnc hnc2 hnt hnt2 p2
    rw [if_neg (gle50 (by omega) (by omega) hrow), p1, Option.bind_some, if_pos (ggN (by omega) (by decide)), nI_clamp (by omega), hl.2.2.2 row (by omega)]
    dsimp only
    rw [s1, Option.bind_some, if_pos (ggN (by omega) (by decide)), nI_1]
    refine ⟨_, rfl, rfl, rfl, ?_, fun y hy => ?_, fun h5 y hy => ?_⟩
    · rw [show min (row + 1 - 1) (bl - 1) = min row (bl - 1) from by omega]
      exact s2
    · dsimp only
      by_cases e1 : y = row
      · rw [e1, gupS]
      · rw [gupN e1]
        exact h2 y (by omega)
    · dsimp only
      have hm : min row (bl - 1) = row := by omega
      rw [hm] at s2 s3 p3
      by_cases e1 : y = row
      · rw [e1]
        exact s2
      · exact gRp_frame hsz e1 s3 (gRp_frame hsz e1 p3 (h3 h5 y (by omega)))
  · rintro ⟨x, u, c1, t1, f1⟩ ⟨rfl, rfl, h1, h2, h3⟩
    dsimp only at h1 h2 h3 ⊢
    unfold zf_X1_follow_l25
    rw [if_pos (Int32.le_refl _)]
    exact ⟨_, rfl, h1, h2, h3⟩
