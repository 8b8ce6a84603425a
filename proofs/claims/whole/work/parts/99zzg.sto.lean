/-! reading: a line's stone, a line -/
theorem gdigS {bs tp : Nat → Int32} {L a : Nat} (hL : L ≤ 400) (ht : ∀ i, i < L → tp i = bs i) (ha : a ≤ L) (lo hi : Int32) : zf_X9_digit (nI L) (nI (gSk bs L a)) (-1) tp lo hi = zf_X9_digit (nI L) (nI a) (-1) tp lo hi := by
  obtain ⟨h1, h2, -⟩ := gSk_sp bs ha
  unfold zf_X9_digit
  rw [gheM hL ht h2, gheM hL ht ha, gSk_id bs ha, if_pos rfl, if_pos rfl]
theorem gstoB {bs tp : Nat → Int32} {L e : Nat} (hL : L ≤ 400) (hB : ∀ i, i < L → ∃ z, z < 256 ∧ bs i = nI z) (ht : ∀ i, i < L → tp i = bs i) (he : e ≤ L) {g : gG} {to ts st : Int64} {nt nh ns : Nat → Int32} (h : gRd9 g to ts st nt nh ns) (x1 : Int32) {a0 : Int32} (h5 : a0 + 5 = nI e) : (∃ a' g' st' bg ns', e ≤ a' ∧ a' ≤ L ∧ g'.1 = g.1 ∧ g'.2.1 = g.2.1 ∧ gRd9 g' to ts st' nt nh ns' ∧ zf_X5_takeLine_55 (nI g.1) (nI g.2.1) to ts st (nI L) (nI e) (-1) bs x1 1 = some (1, to, ts, st', nI a', bg, -1) ∧ zf_X9_stoneLine (nI L) a0 (-1) (nI g.1) (nI g.2.1) tp ns = some (nI a', -1, ns')) ∨ ∃ f st' w bg at' ns', f ≤ L ∧ zf_X5_takeLine_55 (nI g.1) (nI g.2.1) to ts st (nI L) (nI e) (-1) bs x1 1 = some (0, to, ts, st', w, bg, nI f) ∧ zf_X9_stoneLine (nI L) a0 (-1) (nI g.1) (nI g.2.1) tp ns = some (at', nI f, ns') := by
  have hc := h.1.1
  have hr := h.1.2.1
  have zc : nI g.1 - 1 = nI (g.1 - 1) := by rw [show (1 : Int32) = nI 1 from rfl, gsub (by omega)]
  have zr : nI g.2.1 - 1 = nI (g.2.1 - 1) := by rw [show (1 : Int32) = nI 1 from rfl, gsub (by omega)]
  obtain ⟨p1, p2, -⟩ := gSk_sp bs he
  unfold zf_X5_takeLine_55 zf_X9_stoneLine
  rw [h5, zc, zr]
  rcases gnumB hL hB ht he 0 (nI (g.1 - 1)) (-1) with ⟨v, c1, m1, l1, l2, l3⟩ | ⟨w, c1, m1⟩
  · obtain ⟨x, hx, rfl⟩ := gnI (by omega) l1 l2
    rw [c1, m1, Option.bind_some, Option.bind_some]
    dsimp only
    rw [if_neg (gn1 (show x < 2 ^ 31 by omega))]
    generalize gSk bs L e = s1 at p1 p2 l3 ⊢
    obtain ⟨p3, p4, -⟩ := gSk_sp bs (show s1 + 1 ≤ L by omega)
    rw [gheM hL ht (show s1 + 1 ≤ L by omega), Option.bind_some]
    dsimp only
    rw [gdigS hL ht (show s1 + 1 ≤ L by omega)]
    rcases gnumB hL hB ht (show s1 + 1 ≤ L by omega) 0 (nI (g.2.1 - 1)) (-1) with ⟨v, c2, m2, l4, l5, l6⟩ | ⟨w, c2, m2⟩
    · obtain ⟨y, hy, rfl⟩ := gnI (by omega) l4 l5
      rw [c2, m2, Option.bind_some, Option.bind_some]
      dsimp only
      rw [if_neg (gn1 (show y < 2 ^ 31 by omega)), if_neg (show ¬ (1 : Int32) = 0 by decide), if_pos rfl]
      generalize gSk bs L (s1 + 1) = s2 at p3 p4 l6 ⊢
      have n1 : ¬ nI s2 = -1 := gn1 (by omega)
      obtain ⟨hw, hT, hN, hS⟩ := h
      have t := (gpipeT ⟨g.1 - 1, by omega⟩ ⟨g.2.1 - 1, by omega⟩ ⟨x, by omega⟩ ⟨y, by omega⟩ ⟨0, by decide⟩ (show x ≤ g.1 - 1 by omega) (show y ≤ g.2.1 - 1 by omega)).2.1
      dsimp only at t
      have t' : zf_X2_numberOf (nI x) (nI y) (0 : Int32) = some (nI (10 * y + 2 * x + 0)) := t
      have k1 : (5 : Int32) * nI y + nI x = nI (5 * y + x) := by rw [show (5 : Int32) = nI 5 from rfl, gmul, nI_add]
      have zk : zgd (nI (5 * y + x)) 25 = true := ggN (by omega) (by decide)
      have bt : gbt st (10 * y + 2 * x + 0) = g.2.2.2 (5 * y + x) := by
        rw [(hT _ (by omega)).2.2, decide_eq_true (show (10 * y + 2 * x + 0) % 2 = 0 by omega), show gFr (10 * y + 2 * x + 0) = 5 * y + x by unfold gFr; omega]
        rfl
      have mk := gmsk st (show 10 * y + 2 * x + 0 < 64 by omega)
      rw [bt] at mk
      unfold zf_X5_takeStone zf_X6_refuse zf_X9_stoneLine_77 zf_X9_wrong
      simp only [t', k1, zk, Option.bind_some, if_true, show zbit (0 : Int32) = true from by decide, show zbit (1 : Int32) = true from by decide, nI_clamp (show 5 * y + x < 2 ^ 31 by omega), hS (5 * y + x) (by omega)]
      cases hs : g.2.2.2 (5 * y + x) with
      | false =>
        rw [hs] at mk
        rw [if_pos (mk.mpr rfl), if_pos (show gbI false = 0 from rfl), Option.bind_some]
        refine Or.inl ⟨s2 + 1, gPut g (5 * y + x) true, st ||| zlshl 1 (nI (10 * y + 2 * x + 0)), nI s2, upd ns (5 * y + x) (vp_nar .boolean 1), by omega, by omega, rfl, rfl, ⟨gWfS hw (by omega) (by omega), fun i hi => ?_, hN, fun k hk => ?_⟩, ?_, rfl⟩
        · obtain ⟨a1, a2, a3⟩ := hT i hi
          refine ⟨a1, a2, ?_⟩
          rw [gbt_or, gbt_bit i (show 10 * y + 2 * x + 0 < 64 by omega), a3]
          show _ = (decide (i % 2 = 0) && (if gFr i = 5 * y + x then true else g.2.2.2 (gFr i)))
          by_cases ev : i % 2 = 0
          · rw [decide_eq_true ev, Bool.true_and, Bool.true_and]
            by_cases ei : i = 10 * y + 2 * x + 0
            · rw [decide_eq_true ei, Bool.or_true, if_pos (show gFr i = 5 * y + x by unfold gFr; omega)]
            · rw [decide_eq_false ei, Bool.or_false, if_neg (show ¬ gFr i = 5 * y + x by unfold gFr; omega)]
          · rw [decide_eq_false ev, decide_eq_false (show ¬ i = 10 * y + 2 * x + 0 by omega)]
            rfl
        · show upd ns (5 * y + x) (vp_nar .boolean (gbI true)) k = gbI (if k = 5 * y + x then true else g.2.2.2 k)
          by_cases ek : k = 5 * y + x
          · rw [ek, gupS, if_pos rfl, gnar]
          · rw [gupN ek, if_neg ek]; exact hS k hk
        · rw [if_pos (show zbit (1 : Int32) = true from by decide)]
      | true =>
        rw [hs] at mk
        rw [if_neg (fun c => by have := mk.mp c; cases this), if_neg (show ¬ gbI true = 0 by decide), Option.bind_some]
        refine Or.inr ⟨s2, st, nI (s2 + 1), nI s2, _, _, p4, ?_, rfl⟩
        rw [if_pos (show zbit (0 : Int32) = true from by decide)]
    · rw [c2, m2, Option.bind_some, Option.bind_some]
      dsimp only
      rw [if_pos rfl, if_neg (gn1 (show gSk bs L (s1 + 1) < 2 ^ 31 by omega))]
      exact Or.inr ⟨_, _, _, _, _, _, p4, rfl, rfl⟩
  · rw [c1, m1, Option.bind_some, Option.bind_some]
    dsimp only
    have n1 : ¬ nI (gSk bs L e) = -1 := gn1 (by omega)
    rw [if_pos rfl, gheM hL ht p2, Option.bind_some]
    dsimp only
    rw [gdigF n1, Option.bind_some]
    dsimp only
    rw [if_neg n1]
    exact Or.inr ⟨_, _, _, _, _, _, p2, rfl, rfl⟩
theorem glinB {bs tp : Nat → Int32} {L a : Nat} (hL : L ≤ 400) (hB : ∀ i, i < L → ∃ z, z < 256 ∧ bs i = nI z) (ht : ∀ i, i < L → tp i = bs i) (ha : a ≤ L) (hs : gSk bs L a < L) {g : gG} {to ts st : Int64} {nt nh ns : Nat → Int32} (h : gRd9 g to ts st nt nh ns) : (∃ a' g' to' ts' st' bg nt' nh' ns', gSk bs L a ≤ a' ∧ a' ≤ L ∧ g'.1 = g.1 ∧ g'.2.1 = g.2.1 ∧ gRd9 g' to' ts' st' nt' nh' ns' ∧ zf_X5_takeLine (nI g.1) (nI g.2.1) to ts st (nI L) (nI (gSk bs L a)) (-1) bs = some (1, to', ts', st', nI a', bg, -1) ∧ zf_X9_read_l111 (nI L) (nI g.1) (nI g.2.1) tp (nI a) (-1) nt nh ns = zf_X9_read_181 (nI L) (nI a') (-1) tp nt' nh' ns') ∨ ∃ f to' ts' st' w bg at' nt' nh' ns', f ≤ L ∧ zf_X5_takeLine (nI g.1) (nI g.2.1) to ts st (nI L) (nI (gSk bs L a)) (-1) bs = some (0, to', ts', st', w, bg, nI f) ∧ zf_X9_read_l111 (nI L) (nI g.1) (nI g.2.1) tp (nI a) (-1) nt nh ns = zf_X9_read_181 (nI L) at' (nI f) tp nt' nh' ns' := by
  obtain ⟨p1, p2, -⟩ := gSk_sp bs ha
  obtain ⟨p3, p4, -, -⟩ := gEs_sp bs 97 122 p2
  have hv : ¬ gHv bs L (gSk bs L a) = -1 := by
    unfold gHv
    rw [if_pos hs]
    exact gbyte hB hs
  have lo : ("open" : String).toList.length = 4 := by decide
  have lsh : ("shut" : String).toList.length = 4 := by decide
  have lst : ("stone" : String).toList.length = 5 := by decide
  unfold zf_X5_takeLine zf_X9_read_l111
  simp only [gwrdC hL p2, gSk_id bs ha, gheM hL ht ha, Option.bind_some, if_true, if_neg hv, gisWC hL p3 p4 (show ("open" : String).toList.length ≤ 9 by decide), gisWC hL p3 p4 (show ("stone" : String).toList.length ≤ 9 by decide), gisWC hL p3 p4 (show ("shut" : String).toList.length ≤ 9 by decide), gisM hL hB ht p2 (show ("open" : String).toList.length ≤ 9 by decide), gisM hL hB ht p2 (show ("shut" : String).toList.length ≤ 9 by decide), gisM hL hB ht p2 (show ("stone" : String).toList.length ≤ 9 by decide)]
  generalize gEs bs 97 122 L (gSk bs L a) = e at p3 p4 ⊢
  generalize gSk bs L a = s at p1 p2 p3 hs hv ⊢
  have e4 : e = s + 4 → nI s + 4 = nI e := fun q => by rw [q, show (4 : Int32) = nI 4 from rfl, nI_add]
  have e5 : e = s + 5 → nI s + 5 = nI e := fun q => by rw [q, show (5 : Int32) = nI 5 from rfl, nI_add]
  have fT : (gbI true = 0) = False := eq_false (by decide)
  have fF : (gbI false = 0) = True := eq_true rfl
  cases hO : gIw bs s e "open" with
  | true =>
    have le := gIw_len hO p3
    rw [lo] at le
    have nS : gIw bs s e "stone" = false := by
      cases hS : gIw bs s e "stone" with
      | false => rfl
      | true => have := gIw_len hS p3; rw [lst] at this; omega
    simp only [nS, fT, if_false]
    rcases gpipB hL hB ht p4 h true (e4 le) with ⟨a', g', to', ts', bg, nt', nh', k1, k2, k3, k4, k5, k6, k7⟩ | ⟨f, to', ts', w, bg, at', nt', nh', k1, k6, k7⟩
    · have k6' : zf_X5_takeLine_55 (nI g.1) (nI g.2.1) to ts st (nI L) (nI e) (-1) bs (gbI true) (gbI false) = some (1, to', ts', st, nI a', bg, -1) := k6
      have k7' : zf_X9_pipeLine (nI L) (nI s) (-1) (nI g.1) (nI g.2.1) tp nt nh 1 = some (nI a', -1, nt', nh') := k7
      rw [k6', k7', Option.bind_some]
      exact Or.inl ⟨a', g', to', ts', st, bg, nt', nh', ns, by omega, k2, k3, k4, k5, rfl, rfl⟩
    · have k6' : zf_X5_takeLine_55 (nI g.1) (nI g.2.1) to ts st (nI L) (nI e) (-1) bs (gbI true) (gbI false) = some (0, to', ts', st, w, bg, nI f) := k6
      have k7' : zf_X9_pipeLine (nI L) (nI s) (-1) (nI g.1) (nI g.2.1) tp nt nh 1 = some (at', nI f, nt', nh') := k7
      rw [k6', k7', Option.bind_some]
      exact Or.inr ⟨f, to', ts', st, w, bg, at', nt', nh', ns, k1, rfl, rfl⟩
  | false =>
    simp only [fF, if_true]
    cases hH : gIw bs s e "shut" with
    | true =>
      have le := gIw_len hH p3
      rw [lsh] at le
      have nS : gIw bs s e "stone" = false := by
        cases hS : gIw bs s e "stone" with
        | false => rfl
        | true => have := gIw_len hS p3; rw [lst] at this; omega
      simp only [nS, fF, fT, if_true, if_false]
      rcases gpipB hL hB ht p4 h false (e4 le) with ⟨a', g', to', ts', bg, nt', nh', k1, k2, k3, k4, k5, k6, k7⟩ | ⟨f, to', ts', w, bg, at', nt', nh', k1, k6, k7⟩
      · have k6' : zf_X5_takeLine_55 (nI g.1) (nI g.2.1) to ts st (nI L) (nI e) (-1) bs (gbI false) (gbI false) = some (1, to', ts', st, nI a', bg, -1) := k6
        have k7' : zf_X9_pipeLine (nI L) (nI s) (-1) (nI g.1) (nI g.2.1) tp nt nh 2 = some (nI a', -1, nt', nh') := k7
        rw [k6', k7', Option.bind_some]
        exact Or.inl ⟨a', g', to', ts', st, bg, nt', nh', ns, by omega, k2, k3, k4, k5, rfl, rfl⟩
      · have k6' : zf_X5_takeLine_55 (nI g.1) (nI g.2.1) to ts st (nI L) (nI e) (-1) bs (gbI false) (gbI false) = some (0, to', ts', st, w, bg, nI f) := k6
        have k7' : zf_X9_pipeLine (nI L) (nI s) (-1) (nI g.1) (nI g.2.1) tp nt nh 2 = some (at', nI f, nt', nh') := k7
        rw [k6', k7', Option.bind_some]
        exact Or.inr ⟨f, to', ts', st, w, bg, at', nt', nh', ns, k1, rfl, rfl⟩
    | false =>
      cases hS : gIw bs s e "stone" with
      | true =>
        have le := gIw_len hS p3
        rw [lst] at le
        simp only [fF, fT, if_true, if_false]
        rcases gstoB hL hB ht p4 h (gbI false) (e5 le) with ⟨a', g', st', bg, ns', k1, k2, k3, k4, k5, k6, k7⟩ | ⟨f, st', w, bg, at', ns', k1, k6, k7⟩
        · have k6' : zf_X5_takeLine_55 (nI g.1) (nI g.2.1) to ts st (nI L) (nI e) (-1) bs (gbI false) (gbI true) = some (1, to, ts, st', nI a', bg, -1) := k6
          rw [k6', k7, Option.bind_some]
          exact Or.inl ⟨a', g', to, ts, st', bg, nt, nh, ns', by omega, k2, k3, k4, k5, rfl, rfl⟩
        · have k6' : zf_X5_takeLine_55 (nI g.1) (nI g.2.1) to ts st (nI L) (nI e) (-1) bs (gbI false) (gbI true) = some (0, to, ts, st', w, bg, nI f) := k6
          rw [k6', k7, Option.bind_some]
          exact Or.inr ⟨f, to, ts, st', w, bg, at', nt, nh, ns', k1, rfl, rfl⟩
      | false =>
        unfold zf_X6_refuse zf_X9_wrong
        simp only [fF, if_true, Option.bind_some, show zbit (0 : Int32) = true from by decide]
        exact Or.inr ⟨s, to, ts, st, _, _, _, nt, nh, ns, p2, rfl, rfl⟩
