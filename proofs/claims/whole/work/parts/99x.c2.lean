/-! wet, pair, state, ways -/
theorem gdemC {g : gG} (hw : gWf g) {d : zGD} (hx : gRX g d) (x y : Int32) : (∃ X Y, X < g.1 ∧ Y < g.2.1 ∧ x = nI X ∧ y = nI Y ∧ zf_X8_demandCell x y d = some (.inl (nI (10 * Y + 2 * X)))) ∨ (zf_X8_demandCell x y d = some (.inr 1) ∧ (x < 0 ∨ nI g.1 ≤ x ∨ y < 0 ∨ nI g.2.1 ≤ y)) := by
  unfold zf_X8_demandCell
  rw [hx.1, hx.2.1]
  rcases gcell hw.1 hw.2.1 x y with ⟨X, Y, hX, hY, rfl, rfl, h1, h2⟩ | ⟨h1, h2, h3⟩
  · left
    rw [h1, Option.bind_some, if_neg (show ¬ (1 : Int32) = 0 by decide), gnum0]
    exact ⟨X, Y, hX, hY, rfl, rfl, rfl⟩
  · right
    rw [h1, Option.bind_some, if_pos rfl]
    exact ⟨rfl, h3⟩
theorem gin1 {n : Nat} (hn : n < 2 ^ 31) (x : Int32) : (∃ X, X < n ∧ x = nI X ∧ zf_X9_isIn x 0 (nI n - 1) = some 1) ∨ ((x < 0 ∨ nI n ≤ x) ∧ zf_X9_isIn x 0 (nI n - 1) = some 0) := by
  rw [gIn]
  by_cases a0 : x < 0
  · right
    rw [if_pos a0]
    exact ⟨Or.inl a0, rfl⟩
  · rw [if_neg a0]
    have e1 := gle1 n hn x a0
    by_cases a1 : nI n ≤ x
    · right
      rw [if_neg (fun h => e1.mp h a1)]
      exact ⟨Or.inr a1, rfl⟩
    · left
      obtain ⟨X, hX, eX⟩ := gltI hn a0 a1
      rw [if_pos (e1.mpr a1)]
      exact ⟨X, hX, eX, rfl⟩
theorem gWsumM {g : gG} {row : Nat} {x2 : Int32} {W : Nat → Nat} (hW : (∃ k, k < 25 ∧ x2 = nI k ∧ ∀ s, W s = gW g row s k) ∨ ((x2 < 0 ∨ (24 : Int32) < x2) ∧ ∀ s, W s = 0)) {s : Nat} (hs : ∀ k, gW g row s k = 0) : W s = 0 := by
  rcases hW with ⟨k, hk, -, h⟩ | ⟨-, h⟩
  · rw [h, hs]
  · exact h s
theorem gwetM {g : gG} (hok : gOk g) {M : gD9} (m1 : M.1 = 1) (m2 : gLdD g M) {X : Nat} (hX : X < 2 ^ 31) {x2 : Int32} {W : Nat → Nat} (hW : (∃ k, k < 25 ∧ x2 = nI k ∧ ∀ s, W s = gW g (g.2.1 - 1) s k) ∨ ((x2 < 0 ∨ (24 : Int32) < x2) ∧ ∀ s, W s = 0)) : zit (fun d : Int64 × Int32 => zf_X9_wet_l55 (nI g.1) (nI g.2.1) M.2.1 M.2.2.1 M.2.2.2.1 (nI X) x2 ((300 : Int32) * (nI g.2.1 - (1 : Int32))) d.1 d.2) zfu ((0 : Int64), (0 : Int32)) = some (lN (gSum (fun s => if gWs g.1 s = X then W s else 0) (gSz g.1))) := by
  have hw := hok.1
  have hr5 := hw.2.1
  have hr : g.2.1 - 1 < g.2.1 := by omega
  have hlen := gSts_len hw (g.2.1 - 1)
  have hL := gLdR m1 m2 hr
  rw [← gSts_sum hok hr (fun s => if gWs g.1 s = X then W s else 0) (fun s hs => by rw [gWsumM hW hs]; by_cases q : gWs g.1 s = X <;> simp [q])]
  have z5 : nI g.2.1 - 1 = nI (g.2.1 - 1) := by rw [show (1 : Int32) = nI 1 from rfl, gsub (by omega)]
  rw [z5, show (300 : Int32) = nI 300 from rfl, gmul]
  refine gsumL _ _ (by omega) (fun j v hj => ?_) (fun v => ?_)
  · obtain ⟨a1, a2⟩ := hL.2 j _ (ggetD hj)
    obtain ⟨b1, b2⟩ := gSts_good hok hr (List.mem_of_getElem? (ggetD hj))
    have w32 := gWs32 hw.1.2 b1
    dsimp only
    unfold zf_X9_wet_l55 zf_X9_wet_118 zf_X9_wet_119
    rw [z5, if_pos (ggN (by omega) (by decide)), nI_clamp (by omega), hL.1, if_neg (gle50 (by omega) (by omega) hj), nI_add, if_pos (ggN (by omega) (by decide)), nI_clamp (by omega), a1, gwetS hw b1 b2, Option.bind_some, nI_1]
    by_cases q : gWs g.1 ((gSts g (g.2.1 - 1)).getD j 0) = X
    · rw [if_pos (by rw [q]), if_pos q]
      rcases hW with ⟨k, hk, rfl, h⟩ | ⟨hn, h⟩
      · rw [gin25 hk, Option.bind_some, if_neg (show ¬ (1 : Int32) = 0 by decide), show (25 : Int32) = nI 25 from rfl, gmul, nI_add, if_pos (ggN (by omega) (by decide)), nI_clamp (by omega), a2 k hk, h]
      · rw [gin25N hn, Option.bind_some, if_pos rfl, h]
        rfl
    · rw [if_neg (by rw [nI_eq (by omega) hX]; exact q), if_neg q]
      rfl
  · dsimp only
    unfold zf_X9_wet_l55
    rw [z5, if_pos (ggN (by omega) (by decide)), nI_clamp (by omega), hL.1, if_pos (Int32.le_refl _)]
theorem gwetC2 {g : gG} (hok : gOk g) {d : zGD} (hx : gRX g d) {cn tt : Nat → Int64} {fd : Nat → Int32} {jn : Nat → Int64} (hF : gFl g cn tt fd jn) {wt mv sp ss rs : Nat → Int32} (hl : gLz g wt mv sp ss rs) {X k : Nat} (hX : X < 2 ^ 31) (hk : k < 25) : zit (fun e : Int64 × Int32 => zf_X8_wet_l47 (nI (gSz g.1)) 5 wt cn 16500 (nI X) (nI k) d e.1 e.2) zfu ((0 : Int64), (0 : Int32)) = some (lN (gSum (fun s => if gWs g.1 s = X then gW g (g.2.1 - 1) s k else 0) (gSz g.1))) := by
  have hw := hok.1
  have hr5 := hw.2.1
  have hz := gSzle hw.1.2
  refine gsumL _ _ (by omega) (fun j v hj => ?_) (fun v => ?_)
  · have w32 := gWs32 hw.1.2 hj
    dsimp only
    unfold zf_X8_wet_l47 zf_X8_wet_94
    rw [if_neg (gle50 (by omega) (by omega) hj), if_pos (ggN (by omega) (by decide)), nI_clamp (by omega), hl.1 j hj, hx.2.1, show nI g.2.1 - 1 = nI (g.2.1 - 1) by rw [show (1 : Int32) = nI 1 from rfl, gsub (by omega)], gwaysTo hw hF (by omega) hj hk, Option.bind_some, nI_1]
    by_cases q : gWs g.1 j = X
    · rw [if_pos (by rw [q]), if_pos q]
    · rw [if_neg (by rw [nI_eq (by omega) hX]; exact q), if_neg q, show (lN 0) = (0 : Int64) from rfl, Int64.add_zero]
  · dsimp only
    unfold zf_X8_wet_l47
    rw [if_pos (Int32.le_refl _)]
theorem gP17_ok : gP17 gInv := by
  intro xi xu fg xh xk ac LG G mi mh mk h x1 x2
  obtain ⟨g, past, h1, h2, h3, h4, h5, h6, h7⟩ := h
  obtain ⟨hok, hg, hx, hm⟩ := id h3
  have b5 : xi 11 = 5 := h5.2.1
  have hc5 := hok.1.1
  have es : zshl (1 : Int32) (nI g.1) = nI (2 ^ g.1) := gshl9 ⟨g.1, by omega⟩
  have h32 : 2 ^ g.1 ≤ 2 ^ 5 := Nat.pow_le_pow_right (by decide) hc5.2
  unfold zf_X8_wet zf_X9_wet
  rw [hx.1, hm.1, es]
  rcases gin1 (show 2 ^ g.1 < 2 ^ 31 by omega) x1 with ⟨X, hX, rfl, e2⟩ | ⟨hn, e2⟩
  · obtain ⟨M, eM, m1, m2⟩ := glaysD hok hm (mi 10, mh 12, mh 13, mk 0, mh 14, mh 15, mh 16, mh 10, mh 17, mk 1, mh 18) h6
    dsimp only at eM
    rw [hm.1] at eM
    rw [e2, Option.bind_some, if_neg (show ¬ (1 : Int32) = 0 by decide), if_neg (nI_pos (show X < 2 ^ 31 by omega)), if_pos ((nI_ltI (by omega) (by omega)).mpr hX)]
    unfold zf_X9_wet_22
    rw [if_pos (show (0 : Int32) ≤ 0 by decide), eM, Option.bind_some]
    rcases g25 x2 with ⟨k, hk, rfl⟩ | hn
    · obtain ⟨T, eT, hT, cT⟩ := gcountD hok hg hx h5
      have eR := gwetM hok m1 m2 (X := X) (by omega) (x2 := nI k) (W := fun s => gW g (g.2.1 - 1) s k) (Or.inl ⟨k, hk, rfl, fun _ => rfl⟩)
      rw [← hm.2.1] at eR
      have eC := gwetC2 hok hx hT.2.2.2.2.2.2 hT.2.2.2.2.2.1 (X := X) (by omega) hk
      rw [← hT.2.2.1] at eC
      rw [gisC hk, Option.bind_some, if_neg (show ¬ (1 : Int32) = 0 by decide), eT, Option.bind_some, b5, eC, Option.bind_some, eR, Option.bind_some]
      exact ⟨_, _, rfl, rfl, Or.inl ⟨_, rfl, rfl, rfl, g, past, h1, h2, h3, h4, cT, m2, h7⟩⟩
    · have eR := gwetM hok m1 m2 (X := X) (by omega) (x2 := x2) (W := fun s => 0) (Or.inr ⟨hn, fun _ => rfl⟩)
      rw [← hm.2.1] at eR
      rw [gisN hn, Option.bind_some, if_pos rfl, eR, Option.bind_some, gSum_z (fun s _ => by by_cases q : gWs g.1 s = X <;> simp [q])]
      exact ⟨_, _, rfl, rfl, Or.inl ⟨_, rfl, rfl, rfl, g, past, h1, h2, h3, h4, gCcS h5, m2, h7⟩⟩
  · rw [e2, Option.bind_some, if_pos rfl]
    unfold zf_X9_wet_22 zf_X8_wet_17
    rw [if_neg (show ¬ (1 : Int32) ≤ 0 by decide)]
    have bad : ∀ A B : Option ((Int64 × gT8) ⊕ (Nat × gT8)), (if x1 < 0 then A else if x1 < nI (2 ^ g.1) then B else A) = A := by
      intro A B
      by_cases q : x1 < 0
      · rw [if_pos q]
      · rw [if_neg q, if_neg (Int32.not_lt.mpr (hn.resolve_left q))]
    rw [bad]
    exact ⟨_, _, rfl, rfl, Or.inr ⟨_, rfl, ⟨rfl, rfl⟩, g, past, h1, h2, h3, h4, gCcS h5, h6, h7⟩⟩
/-- a digit of a number -/
theorem gdigN {c N x : Nat} (hc : c ≤ 5) (hN : N < 100000) (hx : x < c) {f : Int32 × Int32 → Option ((Int32 × Int32) ⊕ Int32)} (hf : ∀ a b : Int32, f (a, b) = if b ≤ nI x then some (.inr a) else some (.inl (a / 10, b + -1))) : zit f zfu (nI N, nI c - 1) = some (nI (N / 10 ^ (c - 1 - x))) := by
  have e := gitr (f := f) (fun j => (nI (N / 10 ^ j), nI (c - 1 - j))) (c - 1 - x) (n := zfu) (b := nI (N / 10 ^ (c - 1 - x))) (gfu (by omega)) ?_ ?_
  · rw [show nI c - 1 = nI (c - 1 - 0) by rw [show (1 : Int32) = nI 1 from rfl, gsub (by omega)]; rfl]
    rw [← e, Nat.pow_zero, Nat.div_one]
  · intro j hj
    have hb : N / 10 ^ j < 100000 := Nat.lt_of_le_of_lt (Nat.div_le_self _ _) hN
    rw [hf, if_neg (by rw [nI_leI (by omega) (by omega)]; omega), show (10 : Int32) = nI 10 from rfl, gdiv (by omega) (by decide), Nat.div_div_eq_div_mul, ← Nat.pow_succ, show nI (c - 1 - j) + -1 = nI (c - 1 - (j + 1)) by rw [← Int32.sub_eq_add_neg, show (1 : Int32) = nI 1 from rfl, gsub (by omega)]; rfl]
  · rw [hf, if_pos (by rw [nI_leI (by omega) (by omega)]; omega)]
theorem gdigR {g : gG} (hw : gWf g) {row s x : Nat} (hs : s < gSz g.1) (hg : gGood g row s) (hx : x < g.1) : gNum g row s g.1 / 10 ^ (g.1 - 1 - x) % 10 = gDig g row s x := by
  obtain ⟨-, -, d3⟩ := gDigE hw hs hg
  rw [gNum_nv, gNv_dg (fun x hx => d3 x hx) (g.1 - 1 - x) (by omega), show g.1 - 1 - (g.1 - 1 - x) = x by omega]
theorem gdigO {g : gG} (hw : gWf g) {row s x : Nat} (hs : s < gSz g.1) (hg : gGood g row s) (hx : x < g.1) : zf_X9_digitOf (nI g.1) (nI (gNum g row s g.1)) (nI x) = some (nI (gDig g row s x)) := by
  have lt := gDig10 hw hs hg
  have hb : gNum g row s g.1 / 10 ^ (g.1 - 1 - x) < 100000 := Nat.lt_of_le_of_lt (Nat.div_le_self _ _) lt
  unfold zf_X9_digitOf
  rw [gdigN hw.1.2 lt hx (f := fun d : Int32 × Int32 => zf_X9_digitOf_l10 (nI x) d.1 d.2) (fun a b => rfl), Option.bind_some, show (10 : Int32) = nI 10 from rfl, grem (by omega) (by decide), gdigR hw hs hg hx]
theorem glabel {g : gG} (hw : gWf g) {cd : Nat → Int32} (hcd : ∀ s, s < gSz g.1 → cd s = nI (gCd g.1 s)) {s x : Nat} (hs : s < gSz g.1) (hx : x < g.1) : zf_X4_label cd (nI s) (nI x) = some (nI (gLb g.1 s x)) := by
  have hz := gSzle hw.1.2
  unfold zf_X4_label
  rw [if_pos (ggN (by omega) (by decide)), nI_clamp (by omega), hcd s hs, (gLbE hw.1.2 hs hx).1]
  rfl
theorem gpairM {g : gG} (hok : gOk g) {M : gD9} (m1 : M.1 = 1) (m2 : gLdD g M) {X Y : Nat} (hX : X < g.1) (hY : Y < g.1) {x2 : Int32} {W : Nat → Nat} (hW : (∃ k, k < 25 ∧ x2 = nI k ∧ ∀ s, W s = gW g (g.2.1 - 1) s k) ∨ ((x2 < 0 ∨ (24 : Int32) < x2) ∧ ∀ s, W s = 0)) : zit (fun d : Int64 × Int32 => zf_X9_pair_l68 (nI g.1) (nI g.2.1) M.2.1 M.2.2.1 M.2.2.2.1 (nI X) (nI Y) x2 ((300 : Int32) * (nI g.2.1 - (1 : Int32))) d.1 d.2) zfu ((0 : Int64), (0 : Int32)) = some (lN (gSum (fun s => if g.2.2.2 (5 * (g.2.1 - 1) + X) = false ∧ gLb g.1 s X = gLb g.1 s Y then W s else 0) (gSz g.1))) := by
  have hw := hok.1
  have hr5 := hw.2.1
  have hr : g.2.1 - 1 < g.2.1 := by omega
  have hlen := gSts_len hw (g.2.1 - 1)
  have hL := gLdR m1 m2 hr
  rw [← gSts_sum hok hr (fun s => if g.2.2.2 (5 * (g.2.1 - 1) + X) = false ∧ gLb g.1 s X = gLb g.1 s Y then W s else 0) (fun s hs => by rw [gWsumM hW hs]; exact ite_self 0)]
  have z5 : nI g.2.1 - 1 = nI (g.2.1 - 1) := by rw [show (1 : Int32) = nI 1 from rfl, gsub (by omega)]
  rw [z5, show (300 : Int32) = nI 300 from rfl, gmul]
  refine gsumL _ _ (by omega) (fun j v hj => ?_) (fun v => ?_)
  · obtain ⟨a1, a2⟩ := hL.2 j _ (ggetD hj)
    obtain ⟨b1, b2⟩ := gSts_good hok hr (List.mem_of_getElem? (ggetD hj))
    obtain ⟨dE, d9, dle⟩ := gDigE hw b1 b2
    dsimp only
    have dX := dle X hX
    have dY := dle Y hY
    have d9X := d9 X hX
    have dXY := dE.2 X Y hX hY
    unfold zf_X9_pair_l68 zf_X9_pair_132 zf_X9_pair_133 zf_X9_pair_170 zf_X9_pair_171
    rw [z5, if_pos (ggN (by omega) (by decide)), nI_clamp (by omega), hL.1, if_neg (gle50 (by omega) (by omega) hj), nI_add, if_pos (ggN (by omega) (by decide)), nI_clamp (by omega), a1, gdigO hw b1 b2 hX, Option.bind_some, gdigO hw b1 b2 hY, Option.bind_some, nI_1, if_pos (ggN (by omega) (by decide)), if_pos (show (0 : Int32) = 0 from rfl)]
    generalize (gSts g (g.2.1 - 1)).getD j 0 = s at *
    by_cases q9 : g.2.2.2 (5 * (g.2.1 - 1) + X) = true
    · rw [if_pos (by rw [d9X.mpr q9]; rfl), if_neg (by rw [q9]; rintro ⟨h, -⟩; cases h)]
      rfl
    · have n9 : ¬ gDig g (g.2.1 - 1) s X = 9 := fun h => q9 (d9X.mp h)
      have f9 : g.2.2.2 (5 * (g.2.1 - 1) + X) = false := by cases hh : g.2.2.2 (5 * (g.2.1 - 1) + X) with | false => rfl | true => exact absurd hh q9
      rw [if_neg (by rw [show (9 : Int32) = nI 9 from rfl, nI_eq (by omega) (by decide)]; exact n9)]
      have iff : gLb g.1 s X = gLb g.1 s Y ↔ gDig g (g.2.1 - 1) s X = gDig g (g.2.1 - 1) s Y := by
        rw [dXY]
        constructor
        · rintro (h | h)
          · rw [h]
          · exact h.1
        · intro h
          exact Or.inr ⟨h, n9⟩
      by_cases q : gLb g.1 s X = gLb g.1 s Y
      · rw [if_pos (by rw [iff.mp q]), if_neg (show ¬ (1 : Int32) = 0 by decide), if_pos (show g.2.2.2 (5 * (g.2.1 - 1) + X) = false ∧ gLb g.1 s X = gLb g.1 s Y from ⟨f9, q⟩)]
        rcases hW with ⟨k, hk, rfl, h⟩ | ⟨hn, h⟩
        · rw [gin25 hk, Option.bind_some, if_neg (show ¬ (1 : Int32) = 0 by decide), show (25 : Int32) = nI 25 from rfl, gmul, nI_add, if_pos (ggN (by omega) (by decide)), nI_clamp (by omega), a2 k hk, h]
        · rw [gin25N hn, Option.bind_some, if_pos rfl, h]
          rfl
      · rw [if_neg (by rw [nI_eq (by omega) (by omega)]; exact fun h => q (iff.mpr h)), if_neg (fun h => q h.2)]
        rfl
  · dsimp only
    unfold zf_X9_pair_l68
    rw [z5, if_pos (ggN (by omega) (by decide)), nI_clamp (by omega), hL.1, if_pos (Int32.le_refl _)]
theorem gpairC {g : gG} (hok : gOk g) {cn tt : Nat → Int64} {fd : Nat → Int32} {jn : Nat → Int64} (hF : gFl g cn tt fd jn) {cd : Nat → Int32} (hcd : ∀ s, s < gSz g.1 → cd s = nI (gCd g.1 s)) {X Y k : Nat} (hX : X < g.1) (hY : Y < g.1) (hk : k < 25) : zit (fun e : Int64 × Int32 => zf_X8_pair_l61 (nI (gSz g.1)) 5 cd cn 16500 (nI X) (nI Y) (nI k) (nI (g.2.1 - 1)) e.1 e.2) zfu ((0 : Int64), (0 : Int32)) = some (lN (gSum (fun s => if gLb g.1 s X = gLb g.1 s Y then gW g (g.2.1 - 1) s k else 0) (gSz g.1))) := by
  have hw := hok.1
  have hr5 := hw.2.1
  have hz := gSzle hw.1.2
  refine gsumL _ _ (by omega) (fun j v hj => ?_) (fun v => ?_)
  · have l1 := (gLbE hw.1.2 hj hX).2
    have l2 := (gLbE hw.1.2 hj hY).2
    dsimp only
    unfold zf_X8_pair_l61 zf_X8_pair_111
    rw [if_neg (gle50 (by omega) (by omega) hj), glabel hw hcd hj hX, Option.bind_some, glabel hw hcd hj hY, Option.bind_some, gwaysTo hw hF (by omega) hj hk, Option.bind_some, nI_1]
    by_cases q : gLb g.1 j X = gLb g.1 j Y
    · rw [if_pos (by rw [q]), if_pos q]
    · rw [if_neg (by rw [nI_eq (by omega) (by omega)]; exact q), if_neg q, show (lN 0) = (0 : Int64) from rfl, Int64.add_zero]
  · dsimp only
    unfold zf_X8_pair_l61
    rw [if_pos (Int32.le_refl _)]
theorem gP20_ok : gP20 gInv := by
  intro xi xu fg xh xk ac LG G mi mh mk h x1 x2 x3
  obtain ⟨g, past, h1, h2, h3, h4, h5, h6, h7⟩ := h
  obtain ⟨hok, hg, hx, hm⟩ := id h3
  have b5 : xi 11 = 5 := h5.2.1
  have hc5 := hok.1.1
  have hr5 := hok.1.2.1
  have zr : (G fg).2.1 - 1 = nI (g.2.1 - 1) := by rw [hx.2.1, show (1 : Int32) = nI 1 from rfl, gsub (by omega)]
  unfold zf_X8_pair zf_X9_pair
  rw [zr, hm.1]
  rcases gin1 (show g.1 < 2 ^ 31 by omega) x1 with ⟨X, hX, rfl, e1⟩ | ⟨n1, e1⟩
  · have f1 : zf_X8_demandCell (nI X) (nI (g.2.1 - 1)) (G fg) = some (.inl (nI (10 * (g.2.1 - 1) + 2 * X))) := by
      rcases gdemC hok.1 hx (nI X) (nI (g.2.1 - 1)) with ⟨X', Y', a1, a2, a3, a4, a5⟩ | ⟨-, h⟩
      · rw [a5, (nI_eq (by omega) (by omega)).mp a3, (nI_eq (by omega) (by omega)).mp a4]
      · exfalso
        simp only [nI_leI (show g.1 < 2 ^ 31 by omega) (show X < 2 ^ 31 by omega), nI_leI (show g.2.1 < 2 ^ 31 by omega) (show g.2.1 - 1 < 2 ^ 31 by omega)] at h
        have p1 := nI_pos (show X < 2 ^ 31 by omega)
        have p2 := nI_pos (show g.2.1 - 1 < 2 ^ 31 by omega)
        rcases h with h | h | h | h
        · exact p1 h
        · omega
        · exact p2 h
        · omega
    rcases gin1 (show g.1 < 2 ^ 31 by omega) x2 with ⟨Y, hY, rfl, e2⟩ | ⟨n2, e2⟩
    · have f2 : ∃ v, zf_X8_demandCell (nI Y) (nI (g.2.1 - 1)) (G fg) = some (.inl v) := by
        rcases gdemC hok.1 hx (nI Y) (nI (g.2.1 - 1)) with ⟨X', Y', a1, a2, a3, a4, a5⟩ | ⟨-, h⟩
        · exact ⟨_, a5⟩
        · exfalso
          simp only [nI_leI (show g.1 < 2 ^ 31 by omega) (show Y < 2 ^ 31 by omega), nI_leI (show g.2.1 < 2 ^ 31 by omega) (show g.2.1 - 1 < 2 ^ 31 by omega)] at h
          have p1 := nI_pos (show Y < 2 ^ 31 by omega)
          have p2 := nI_pos (show g.2.1 - 1 < 2 ^ 31 by omega)
          rcases h with h | h | h | h
          · exact p1 h
          · omega
          · exact p2 h
          · omega
      obtain ⟨v2, f2⟩ := f2
      obtain ⟨M, eM, m1, m2⟩ := glaysD hok hm (mi 10, mh 12, mh 13, mk 0, mh 14, mh 15, mh 16, mh 10, mh 17, mk 1, mh 18) h6
      dsimp only at eM
      rw [hm.1] at eM
      rw [f1, f2, Option.bind_some, e1, Option.bind_some, if_neg (show ¬ (1 : Int32) = 0 by decide), e2, Option.bind_some, if_neg (show ¬ (1 : Int32) = 0 by decide)]
      dsimp only [Sum.elim_inl]
      rw [Option.bind_some]
      dsimp only [Sum.elim_inl]
      unfold zf_X9_pair_34
      rw [if_pos (show (0 : Int32) ≤ 0 by decide), eM, Option.bind_some]
      have st := gstone hok.1 hx hX (show g.2.1 - 1 < g.2.1 by omega)
      rcases g25 x3 with ⟨k, hk, rfl⟩ | hn
      · have eR := gpairM hok m1 m2 hX hY (x2 := nI k) (W := fun s => gW g (g.2.1 - 1) s k) (Or.inl ⟨k, hk, rfl, fun _ => rfl⟩)
        rw [← hm.2.1] at eR
        rw [gisC hk, Option.bind_some, if_neg (show ¬ (1 : Int32) = 0 by decide), st, Option.bind_some, eR, Option.bind_some]
        by_cases q : g.2.2.2 (5 * (g.2.1 - 1) + X) = true
        · rw [if_neg (by rw [q]; decide), gSum_z (fun s _ => if_neg (by rw [q]; rintro ⟨h, -⟩; cases h))]
          exact ⟨_, _, rfl, rfl, Or.inl ⟨_, rfl, rfl, rfl, g, past, h1, h2, h3, h4, gCcS h5, m2, h7⟩⟩
        · have f9 : g.2.2.2 (5 * (g.2.1 - 1) + X) = false := by cases hh : g.2.2.2 (5 * (g.2.1 - 1) + X) with | false => rfl | true => exact absurd hh q
          obtain ⟨T, eT, hT, cT⟩ := gcountD hok hg hx h5
          have eC := gpairC hok hT.2.2.2.2.2.2 hT.2.2.2.2.1 hX hY hk
          rw [← hT.2.2.1] at eC
          rw [if_pos (by rw [f9]; rfl), eT, Option.bind_some, b5, eC, Option.bind_some, gSum_cong (f := fun s => if g.2.2.2 (5 * (g.2.1 - 1) + X) = false ∧ gLb g.1 s X = gLb g.1 s Y then gW g (g.2.1 - 1) s k else 0) (f' := fun s => if gLb g.1 s X = gLb g.1 s Y then gW g (g.2.1 - 1) s k else 0) (fun s _ => by simp only [f9, true_and])]
          exact ⟨_, _, rfl, rfl, Or.inl ⟨_, rfl, rfl, rfl, g, past, h1, h2, h3, h4, cT, m2, h7⟩⟩
      · have eR := gpairM hok m1 m2 hX hY (x2 := x3) (W := fun s => 0) (Or.inr ⟨hn, fun _ => rfl⟩)
        rw [← hm.2.1] at eR
        rw [gisN hn, Option.bind_some, if_pos rfl, eR, Option.bind_some, gSum_z (fun s _ => ite_self 0)]
        exact ⟨_, _, rfl, rfl, Or.inl ⟨_, rfl, rfl, rfl, g, past, h1, h2, h3, h4, gCcS h5, m2, h7⟩⟩
    · have f2 : zf_X8_demandCell x2 (nI (g.2.1 - 1)) (G fg) = some (.inr 1) := by
        rcases gdemC hok.1 hx x2 (nI (g.2.1 - 1)) with ⟨X', Y', a1, a2, a3, a4, a5⟩ | ⟨a5, -⟩
        · exfalso
          subst a3
          rcases n2 with n2 | n2
          · exact nI_pos (by omega) n2
          · exact gle50 (by omega) (by omega) a1 n2
        · exact a5
      rw [f1, f2, Option.bind_some, e1, Option.bind_some, if_neg (show ¬ (1 : Int32) = 0 by decide), e2, Option.bind_some, if_pos rfl]
      dsimp only [Sum.elim_inl]
      rw [Option.bind_some]
      dsimp only [Sum.elim_inr]
      unfold zf_X9_pair_33 zf_X9_pair_34
      rw [if_neg (show ¬ (1 : Int32) ≤ 0 by decide)]
      exact ⟨_, _, rfl, rfl, Or.inr ⟨_, rfl, ⟨rfl, rfl⟩, g, past, h1, h2, h3, h4, gCcS h5, h6, h7⟩⟩
  · have f1 : zf_X8_demandCell x1 (nI (g.2.1 - 1)) (G fg) = some (.inr 1) := by
      rcases gdemC hok.1 hx x1 (nI (g.2.1 - 1)) with ⟨X', Y', a1, a2, a3, a4, a5⟩ | ⟨a5, -⟩
      · exfalso
        subst a3
        rcases n1 with n1 | n1
        · exact nI_pos (by omega) n1
        · exact gle50 (by omega) (by omega) a1 n1
      · exact a5
    rw [f1, Option.bind_some, e1, Option.bind_some, if_pos rfl]
    dsimp only [Sum.elim_inr]
    unfold zf_X9_pair_33 zf_X9_pair_34
    rw [if_neg (show ¬ (1 : Int32) ≤ 0 by decide)]
    exact ⟨_, _, rfl, rfl, Or.inr ⟨_, rfl, ⟨rfl, rfl⟩, g, past, h1, h2, h3, h4, gCcS h5, h6, h7⟩⟩
