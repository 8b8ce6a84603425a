/-! least, half, toOpen, toShut, alike, keep, compare, beats -/
def gAns : Option Nat → Int32
  | none => -1
  | some k => nI k
def gS1 : Option Nat → Unit ⊕ Int32
  | none => Sum.inl ()
  | some k => Sum.inr (nI k)
def gQ9 (g : gG) (r : Option Nat) (b : gD9 ⊕ (Int32 × gD9)) : Prop := match r with
  | none => ∃ M, b = Sum.inl M ∧ gLdD g M
  | some k => ∃ M, b = Sum.inr (nI k, M) ∧ gLdD g M
def gPL (g : gG) (n d : Int64) (k : Nat) : Bool := decide (gch (gFree g) k * n ≤ lN (gJ g k) * d)
theorem gleastC {xi : Nat → Int32} {xu : Nat → Option Nat} {fg : Nat} {xh : Nat → Nat → Int32} {xk : Nat → Nat → Int64} {LG : List Nat} {G : Nat → zGD} {g : gG} (hok : gOk g) (hg : fg ∈ LG) (hx : gRX g (G fg)) (hc : gCc xi xu xh xk LG G) (x1 x2 : Int32) : ∃ T : gT8, zf_X8_leastBy fg (xi 7) (xi 8) (xi 9) (xi 10) (xi 11) (xu 1) (xi 12) (xh 1) (xh 2) (xh 3) (xh 4) (xh 5) (xh 6) (xh 7) (xk 0) (xk 1) (xh 8) (xk 2) 16500 660 x1 x2 (G fg) = some (gAns (gfi (gPL g x1.toInt64 x2.toInt64) (gFree g + 1) 0), T) ∧ gCt8 g fg T ∧ gCc (gset (gset (gset (gset (gset xi 7 T.1) 8 T.2.1) 9 T.2.2.1) 10 T.2.2.2.1) 12 T.2.2.2.2.2.1) (gset xu 1 T.2.2.2.2.1) (gset (gset (gset (gset (gset (gset (gset (gset xh 1 T.2.2.2.2.2.2.1) 2 T.2.2.2.2.2.2.2.1) 3 T.2.2.2.2.2.2.2.2.1) 4 T.2.2.2.2.2.2.2.2.2.1) 5 T.2.2.2.2.2.2.2.2.2.2.1) 6 T.2.2.2.2.2.2.2.2.2.2.2.1) 7 T.2.2.2.2.2.2.2.2.2.2.2.2.1) 8 T.2.2.2.2.2.2.2.2.2.2.2.2.2.2.2.1) (gset (gset (gset xk 0 T.2.2.2.2.2.2.2.2.2.2.2.2.2.1) 1 T.2.2.2.2.2.2.2.2.2.2.2.2.2.2.1) 2 T.2.2.2.2.2.2.2.2.2.2.2.2.2.2.2.2) LG G := by
  obtain ⟨T, eT, hT, cT⟩ := gcountD hok hg hx hc
  refine ⟨T, ?_, hT, cT⟩
  have f24 := hok.2
  unfold zf_X8_leastBy
  rw [gX2free hok.1 hx, Option.bind_some, eT, Option.bind_some]
  have hF := gitF (f := fun d : Int32 => zf_X8_leastBy_l20 T.2.2.2.2.2.2.2.2.2.2.2.2.2.2.2.2 x1 x2 (nI (gFree g)) d) (gPL g x1.toInt64 x2.toInt64) (fun j a => a = nI j) (fun r b => b = gS1 r) (gFree g + 1) ?_ ?_ ?_ (n := zfu) (gfu (by omega)) (a := (0 : Int32)) rfl
  · obtain ⟨b, e, rfl⟩ := hF
    rw [e, Option.bind_some]
    cases gfi (gPL g x1.toInt64 x2.toInt64) (gFree g + 1) 0 with
    | none => rfl
    | some k => rfl
  · rintro j _ hj rfl hp
    have hp' := of_decide_eq_true hp
    unfold zf_X8_leastBy_l20
    rw [if_neg (by rw [nI_ltI (by omega) (by omega)]; omega), if_neg (gle25 (by omega)), if_pos (ggN (by omega) (by decide)), gchS f24 (by omega), Option.bind_some, nI_clamp (by omega), hT.2.2.2.2.2.2.1 j (by omega), if_neg (by rw [lg_cmp_lt]; exact Int64.not_lt.mpr hp')]
    exact ⟨_, rfl, rfl⟩
  · rintro j _ hj rfl hp
    have hp' := of_decide_eq_false hp
    unfold zf_X8_leastBy_l20
    rw [if_neg (by rw [nI_ltI (by omega) (by omega)]; omega), if_neg (gle25 (by omega)), if_pos (ggN (by omega) (by decide)), gchS f24 (by omega), Option.bind_some, nI_clamp (by omega), hT.2.2.2.2.2.2.1 j (by omega), if_pos (by rw [lg_cmp_lt]; exact Int64.not_le.mp hp'), nI_1]
    exact ⟨_, rfl, rfl⟩
  · rintro _ rfl
    unfold zf_X8_leastBy_l20
    rw [if_pos (by rw [nI_ltI (by omega) (by omega)]; omega)]
    exact ⟨_, rfl, rfl⟩
theorem gleastM {g : gG} (hok : gOk g) {fc fr : Int32} {ct cs : Nat → Int32} (hM : gRM g fc fr ct cs) (D : gD9) (hD : gLdD g D) (x1 x2 : Int32) : ∃ M : gD9, zf_X9_leastBy fc fr D.1 ct cs D.2.1 D.2.2.1 D.2.2.2.1 D.2.2.2.2.1 D.2.2.2.2.2.1 D.2.2.2.2.2.2.1 D.2.2.2.2.2.2.2.1 D.2.2.2.2.2.2.2.2.1 D.2.2.2.2.2.2.2.2.2.1 D.2.2.2.2.2.2.2.2.2.2 x1 x2 = some (gAns (gfi (gPL g x1.toInt64 x2.toInt64) (gFree g + 1) 0), M) ∧ gLdD g M := by
  have f24 := hok.2
  unfold zf_X9_leastBy
  have hF := gitF (f := fun d : Int32 × gD9 => zf_X9_leastBy_l2 fc fr ct cs x1 x2 d.1 d.2.1 d.2.2.1 d.2.2.2.1 d.2.2.2.2.1 d.2.2.2.2.2.1 d.2.2.2.2.2.2.1 d.2.2.2.2.2.2.2.1 d.2.2.2.2.2.2.2.2.1 d.2.2.2.2.2.2.2.2.2.1 d.2.2.2.2.2.2.2.2.2.2.1 d.2.2.2.2.2.2.2.2.2.2.2) (gPL g x1.toInt64 x2.toInt64) (fun j a => a.1 = nI j ∧ gLdD g a.2) (gQ9 g) (gFree g + 1) ?_ ?_ ?_ (n := zfu) (gfu (by omega)) (a := ((0 : Int32), D)) ⟨rfl, hD⟩
  · obtain ⟨b, e, q⟩ := hF
    have e' : zit (fun d : Int32 × gD9 => zf_X9_leastBy_l2 fc fr ct cs x1 x2 d.1 d.2.1 d.2.2.1 d.2.2.2.1 d.2.2.2.2.1 d.2.2.2.2.2.1 d.2.2.2.2.2.2.1 d.2.2.2.2.2.2.2.1 d.2.2.2.2.2.2.2.2.1 d.2.2.2.2.2.2.2.2.2.1 d.2.2.2.2.2.2.2.2.2.2.1 d.2.2.2.2.2.2.2.2.2.2.2) zfu ((0 : Int32), D.1, D.2.1, D.2.2.1, D.2.2.2.1, D.2.2.2.2.1, D.2.2.2.2.2.1, D.2.2.2.2.2.2.1, D.2.2.2.2.2.2.2.1, D.2.2.2.2.2.2.2.2.1, D.2.2.2.2.2.2.2.2.2.1, D.2.2.2.2.2.2.2.2.2.2) = some b := e
    rw [e', Option.bind_some]
    cases hr : gfi (gPL g x1.toInt64 x2.toInt64) (gFree g + 1) 0 with
    | none =>
      rw [hr] at q
      obtain ⟨M, rfl, hM⟩ := q
      exact ⟨M, rfl, hM⟩
    | some k =>
      rw [hr] at q
      obtain ⟨M, rfl, hM⟩ := q
      exact ⟨M, rfl, hM⟩
  · rintro j ⟨x, E⟩ hj ⟨rfl, hE⟩ hp
    dsimp only at hE ⊢
    have hp' := of_decide_eq_true hp
    obtain ⟨M, e, m1, m2⟩ := gjoinsOf hok hM E hE (k := j) (by omega)
    unfold zf_X9_leastBy_l2
    rw [gX9free hok.1 hM, Option.bind_some, if_neg (by rw [nI_ltI (by omega) (by omega)]; omega), e, Option.bind_some, Option.bind_some, gchE, gchS f24 (by omega), Option.bind_some, if_neg (by rw [lg_cmp_lt, Int64.mul_comm x1.toInt64]; exact Int64.not_lt.mpr hp')]
    exact ⟨_, rfl, M, rfl, m2⟩
  · rintro j ⟨x, E⟩ hj ⟨rfl, hE⟩ hp
    dsimp only at hE ⊢
    have hp' := of_decide_eq_false hp
    obtain ⟨M, e, m1, m2⟩ := gjoinsOf hok hM E hE (k := j) (by omega)
    unfold zf_X9_leastBy_l2
    rw [gX9free hok.1 hM, Option.bind_some, if_neg (by rw [nI_ltI (by omega) (by omega)]; omega), e, Option.bind_some, Option.bind_some, gchE, gchS f24 (by omega), Option.bind_some, if_pos (by rw [lg_cmp_lt, Int64.mul_comm x1.toInt64]; exact Int64.not_le.mp hp'), nI_1]
    exact ⟨_, rfl, rfl, m2⟩
  · rintro ⟨x, E⟩ ⟨rfl, hE⟩
    dsimp only at hE ⊢
    unfold zf_X9_leastBy_l2
    rw [gX9free hok.1 hM, Option.bind_some, if_pos (by rw [nI_ltI (by omega) (by omega)]; omega)]
    exact ⟨_, rfl, E, rfl, hE⟩
theorem gP33_ok : gP33 gInv := by
  intro xi xu fg xh xk ac LG G mi mh mk h
  obtain ⟨g, past, h1, h2, h3, h4, h5, h6, h7⟩ := h
  obtain ⟨hok, hg, hx, hm⟩ := id h3
  obtain ⟨T, eT, hT, cT⟩ := gleastC hok hg hx h5 1 2
  obtain ⟨M, eM, m2⟩ := gleastM hok hm (mi 10, mh 12, mh 13, mk 0, mh 14, mh 15, mh 16, mh 10, mh 17, mk 1, mh 18) h6 1 2
  dsimp only at eM
  unfold zf_X8_half zf_X9_half
  rw [eT, Option.bind_some, eM, Option.bind_some]
  exact ⟨_, _, rfl, rfl, rfl, g, past, h1, h2, h3, h4, cT, m2, h7⟩
theorem gP31_ok : gP31 gInv := by
  intro xi xu fg xh xk ac LG G mi mh mk h x1 x2
  obtain ⟨g, past, h1, h2, h3, h4, h5, h6, h7⟩ := h
  obtain ⟨hok, hg, hx, hm⟩ := id h3
  unfold zf_X8_least zf_X9_least
  have b8 : ∀ A B : Option ((Int32 × gT8) ⊕ (Nat × gT8)), (x2 < 1 ∨ (100 : Int32) < x2 ∨ x1 < 0 ∨ ¬ x1 ≤ x2) → (if x2 < (1 : Int32) then A else if (100 : Int32) < x2 then A else if x1 < 0 then A else if x1 ≤ x2 then B else A) = A := by
    intro A B h
    by_cases a : x2 < 1
    · rw [if_pos a]
    · rw [if_neg a]
      by_cases b : (100 : Int32) < x2
      · rw [if_pos b]
      · rw [if_neg b]
        by_cases c : x1 < 0
        · rw [if_pos c]
        · rw [if_neg c]
          by_cases d : x1 ≤ x2
          · exact absurd h (by simp [a, b, c, d])
          · rw [if_neg d]
  have m24 : zf_X9_least_24 (mi 7) (mi 8) (mi 10) (mh 4) (mh 5) (mh 12) (mh 13) (mk 0) (mh 14) (mh 15) (mh 16) (mh 10) (mh 17) (mk 1) (mh 18) x1 x2 = some (0, 1, (mi 10, mh 12, mh 13, mk 0, mh 14, mh 15, mh 16, mh 10, mh 17, mk 1, mh 18)) := by
    unfold zf_X9_least_24 zf_X9_least_25
    rw [if_neg (show ¬ (1 : Int32) ≤ 0 by decide)]
  by_cases q : x2 < 1 ∨ (100 : Int32) < x2 ∨ x1 < 0 ∨ ¬ x1 ≤ x2
  · rw [b8 _ _ q]
    unfold zf_X8_least_20
    have e9 : ((zf_X9_isIn x2 (1 : Int32) (100 : Int32)).bind fun o5 => if o5 = 0 then (zf_X9_least_24 (mi 7) (mi 8) (mi 10) (mh 4) (mh 5) (mh 12) (mh 13) (mk 0) (mh 14) (mh 15) (mh 16) (mh 10) (mh 17) (mk 1) (mh 18) x1 x2) else ((zf_X9_isIn x1 (0 : Int32) x2).bind fun o14 => if o14 = 0 then (zf_X9_least_24 (mi 7) (mi 8) (mi 10) (mh 4) (mh 5) (mh 12) (mh 13) (mk 0) (mh 14) (mh 15) (mh 16) (mh 10) (mh 17) (mk 1) (mh 18) x1 x2) else (zf_X9_least_25 (mi 7) (mi 8) (mi 10) (mh 4) (mh 5) (mh 12) (mh 13) (mk 0) (mh 14) (mh 15) (mh 16) (mh 10) (mh 17) (mk 1) (mh 18) x1 x2 (0 : Int32)))) = some (0, 1, (mi 10, mh 12, mh 13, mk 0, mh 14, mh 15, mh 16, mh 10, mh 17, mk 1, mh 18)) := by
      rw [gIn, Option.bind_some, gIn, Option.bind_some, m24]
      by_cases a : x2 < 1
      · rw [if_pos a, if_pos rfl]
      · rw [if_neg a]
        by_cases b : x2 ≤ (100 : Int32)
        · rw [if_pos b, if_neg (show ¬ (1 : Int32) = 0 by decide)]
          by_cases c : x1 < 0
          · rw [if_pos c, if_pos rfl]
          · have nd : ¬ x1 ≤ x2 := by
              intro d
              rcases q with q | q | q | q
              · exact a q
              · exact Int32.not_le.mpr q b
              · exact c q
              · exact q d
            rw [if_neg c, if_neg nd, if_pos rfl]
        · rw [if_neg b, if_pos rfl]
    rw [e9]
    exact ⟨_, _, rfl, rfl, Or.inr ⟨_, rfl, ⟨rfl, rfl⟩, g, past, h1, h2, h3, h4, gCcS h5, h6, h7⟩⟩
  · have a : ¬ x2 < 1 := fun h => q (Or.inl h)
    have b : ¬ (100 : Int32) < x2 := fun h => q (Or.inr (Or.inl h))
    have c : ¬ x1 < 0 := fun h => q (Or.inr (Or.inr (Or.inl h)))
    have d : x1 ≤ x2 := Classical.byContradiction fun h => q (Or.inr (Or.inr (Or.inr h)))
    obtain ⟨T, eT, hT, cT⟩ := gleastC hok hg hx h5 x1 x2
    obtain ⟨M, eM, m2⟩ := gleastM hok hm (mi 10, mh 12, mh 13, mk 0, mh 14, mh 15, mh 16, mh 10, mh 17, mk 1, mh 18) h6 x1 x2
    dsimp only at eM
    rw [if_neg a, if_neg b, if_neg c, if_pos d, eT, Option.bind_some, gIn, Option.bind_some, if_neg a, if_pos (Int32.not_lt.mp b), if_neg (show ¬ (1 : Int32) = 0 by decide), gIn, Option.bind_some, if_neg c, if_pos d, if_neg (show ¬ (1 : Int32) = 0 by decide)]
    unfold zf_X9_least_25
    rw [if_pos (show (0 : Int32) ≤ 0 by decide), eM, Option.bind_some]
    exact ⟨_, _, rfl, rfl, Or.inl ⟨_, rfl, rfl, rfl, g, past, h1, h2, h3, h4, cT, m2, h7⟩⟩
def gPO (g : gG) (k : Nat) : Bool := decide (0 < gJ g k)
theorem gP37_ok : gP37 gInv := by
  intro xi xu fg xh xk ac LG G mi mh mk h
  obtain ⟨g, past, h1, h2, h3, h4, h5, h6, h7⟩ := h
  obtain ⟨hok, hg, hx, hm⟩ := id h3
  obtain ⟨T, eT, hT, cT⟩ := gcountD hok hg hx h5
  have f24 := hok.2
  have eG : gfi (gPO g) 25 0 = gfi (gPO g) (gFree g + 1) 0 := by
    have := gfi_ext (P := gPO g) (25 - (gFree g + 1)) (gFree g + 1) 0 (fun j h1 _ => decide_eq_false (by rw [gJ_far hok.1 (by omega)]; omega))
    rw [show gFree g + 1 + (25 - (gFree g + 1)) = 25 by omega] at this
    exact this
  unfold zf_X8_toOpen zf_X9_toOpen
  rw [eT, Option.bind_some]
  have hC := gitF (f := fun d : Int32 => zf_X8_toOpen_l10 T.2.2.2.2.2.2.2.2.2.2.2.2.2.2.2.2 d) (gPO g) (fun j a => a = nI j) (fun r b => b = gS1 r) 25 ?_ ?_ ?_ (n := zfu) (gfu (by decide)) (a := (0 : Int32)) rfl
  · have hF := gitF (f := fun d : Int32 × gD9 => zf_X9_toOpen_l7 (mi 7) (mi 8) (mh 4) (mh 5) d.1 d.2.1 d.2.2.1 d.2.2.2.1 d.2.2.2.2.1 d.2.2.2.2.2.1 d.2.2.2.2.2.2.1 d.2.2.2.2.2.2.2.1 d.2.2.2.2.2.2.2.2.1 d.2.2.2.2.2.2.2.2.2.1 d.2.2.2.2.2.2.2.2.2.2.1 d.2.2.2.2.2.2.2.2.2.2.2) (gPO g) (fun j a => a.1 = nI j ∧ gLdD g a.2) (gQ9 g) (gFree g + 1) ?_ ?_ ?_ (n := zfu) (gfu (by omega)) (a := ((0 : Int32), (mi 10, mh 12, mh 13, mk 0, mh 14, mh 15, mh 16, mh 10, mh 17, mk 1, mh 18))) ⟨rfl, h6⟩
    · obtain ⟨b, e, rfl⟩ := hC
      obtain ⟨b9, e9, q⟩ := hF
      have e9' : zit (fun d : Int32 × gD9 => zf_X9_toOpen_l7 (mi 7) (mi 8) (mh 4) (mh 5) d.1 d.2.1 d.2.2.1 d.2.2.2.1 d.2.2.2.2.1 d.2.2.2.2.2.1 d.2.2.2.2.2.2.1 d.2.2.2.2.2.2.2.1 d.2.2.2.2.2.2.2.2.1 d.2.2.2.2.2.2.2.2.2.1 d.2.2.2.2.2.2.2.2.2.2.1 d.2.2.2.2.2.2.2.2.2.2.2) zfu ((0 : Int32), mi 10, mh 12, mh 13, mk 0, mh 14, mh 15, mh 16, mh 10, mh 17, mk 1, mh 18) = some b9 := e9
      rw [e, Option.bind_some, e9', Option.bind_some, eG]
      cases hr : gfi (gPO g) (gFree g + 1) 0 with
      | none =>
        rw [hr] at q
        obtain ⟨M, rfl, m2⟩ := q
        exact ⟨_, _, rfl, rfl, rfl, g, past, h1, h2, h3, h4, cT, m2, h7⟩
      | some k =>
        rw [hr] at q
        obtain ⟨M, rfl, m2⟩ := q
        exact ⟨_, _, rfl, rfl, rfl, g, past, h1, h2, h3, h4, cT, m2, h7⟩
    · rintro j ⟨x, E⟩ hj ⟨rfl, hE⟩ hp
      dsimp only at hE ⊢
      have hp' := of_decide_eq_true hp
      have j24 := gJ_le hok j
      obtain ⟨M, e, m1, m2⟩ := gjoinsOf hok hm E hE (k := j) (by omega)
      unfold zf_X9_toOpen_l7
      rw [gX9free hok.1 hm, Option.bind_some, if_neg (by rw [nI_ltI (by omega) (by omega)]; omega), e, Option.bind_some, if_neg (fun h => by have := (glpos (by omega)).mp h; omega)]
      exact ⟨_, rfl, M, rfl, m2⟩
    · rintro j ⟨x, E⟩ hj ⟨rfl, hE⟩ hp
      dsimp only at hE ⊢
      have hp' := of_decide_eq_false hp
      have j24 := gJ_le hok j
      obtain ⟨M, e, m1, m2⟩ := gjoinsOf hok hm E hE (k := j) (by omega)
      unfold zf_X9_toOpen_l7
      rw [gX9free hok.1 hm, Option.bind_some, if_neg (by rw [nI_ltI (by omega) (by omega)]; omega), e, Option.bind_some, if_pos ((glpos (by omega)).mpr (by omega)), nI_1]
      exact ⟨_, rfl, rfl, m2⟩
    · rintro ⟨x, E⟩ ⟨rfl, hE⟩
      dsimp only at hE ⊢
      unfold zf_X9_toOpen_l7
      rw [gX9free hok.1 hm, Option.bind_some, if_pos (by rw [nI_ltI (by omega) (by omega)]; omega)]
      exact ⟨_, rfl, E, rfl, hE⟩
  · rintro j _ hj rfl hp
    have hp' := of_decide_eq_true hp
    have j24 := gJ_le hok j
    unfold zf_X8_toOpen_l10
    rw [if_neg (gle25 (by omega)), if_pos (ggN (by omega) (by decide)), nI_clamp (by omega), hT.2.2.2.2.2.2.1 j (by omega), if_neg (fun h => by have := (glpos (by omega)).mp h; omega)]
    exact ⟨_, rfl, rfl⟩
  · rintro j _ hj rfl hp
    have hp' := of_decide_eq_false hp
    have j24 := gJ_le hok j
    unfold zf_X8_toOpen_l10
    rw [if_neg (gle25 (by omega)), if_pos (ggN (by omega) (by decide)), nI_clamp (by omega), hT.2.2.2.2.2.2.1 j (by omega), if_pos ((glpos (by omega)).mpr (by omega)), nI_1]
    exact ⟨_, rfl, rfl⟩
  · rintro _ rfl
    unfold zf_X8_toOpen_l10
    rw [if_pos (by decide)]
    exact ⟨_, rfl, rfl⟩
def gPS (g : gG) (k : Nat) : Bool := decide (lN (gJ g (gFree g - k)) < gch (gFree g) k)
theorem gP38_ok : gP38 gInv := by
  intro xi xu fg xh xk ac LG G mi mh mk h
  obtain ⟨g, past, h1, h2, h3, h4, h5, h6, h7⟩ := h
  obtain ⟨hok, hg, hx, hm⟩ := id h3
  obtain ⟨T, eT, hT, cT⟩ := gcountD hok hg hx h5
  have f24 := hok.2
  unfold zf_X8_toShut zf_X9_toShut
  rw [gX2free hok.1 hx, Option.bind_some, eT, Option.bind_some, gX9free hok.1 hm, Option.bind_some]
  have hC := gitF (f := fun d : Int32 => zf_X8_toShut_l18 T.2.2.2.2.2.2.2.2.2.2.2.2.2.2.2.2 (nI (gFree g)) d) (gPS g) (fun j a => a = nI j) (fun r b => b = gS1 r) (gFree g + 1) ?_ ?_ ?_ (n := zfu) (gfu (by omega)) (a := (0 : Int32)) rfl
  · have hF := gitF (f := fun d : Int32 × gD9 => zf_X9_toShut_l12 (mi 7) (mi 8) (mh 4) (mh 5) (nI (gFree g)) d.1 d.2.1 d.2.2.1 d.2.2.2.1 d.2.2.2.2.1 d.2.2.2.2.2.1 d.2.2.2.2.2.2.1 d.2.2.2.2.2.2.2.1 d.2.2.2.2.2.2.2.2.1 d.2.2.2.2.2.2.2.2.2.1 d.2.2.2.2.2.2.2.2.2.2.1 d.2.2.2.2.2.2.2.2.2.2.2) (gPS g) (fun j a => a.1 = nI j ∧ gLdD g a.2) (gQ9 g) (gFree g + 1) ?_ ?_ ?_ (n := zfu) (gfu (by omega)) (a := ((0 : Int32), (mi 10, mh 12, mh 13, mk 0, mh 14, mh 15, mh 16, mh 10, mh 17, mk 1, mh 18))) ⟨rfl, h6⟩
    · obtain ⟨b, e, rfl⟩ := hC
      obtain ⟨b9, e9, q⟩ := hF
      have e9' : zit (fun d : Int32 × gD9 => zf_X9_toShut_l12 (mi 7) (mi 8) (mh 4) (mh 5) (nI (gFree g)) d.1 d.2.1 d.2.2.1 d.2.2.2.1 d.2.2.2.2.1 d.2.2.2.2.2.1 d.2.2.2.2.2.2.1 d.2.2.2.2.2.2.2.1 d.2.2.2.2.2.2.2.2.1 d.2.2.2.2.2.2.2.2.2.1 d.2.2.2.2.2.2.2.2.2.2.1 d.2.2.2.2.2.2.2.2.2.2.2) zfu ((0 : Int32), mi 10, mh 12, mh 13, mk 0, mh 14, mh 15, mh 16, mh 10, mh 17, mk 1, mh 18) = some b9 := e9
      rw [e, Option.bind_some, e9', Option.bind_some]
      cases hr : gfi (gPS g) (gFree g + 1) 0 with
      | none =>
        rw [hr] at q
        obtain ⟨M, rfl, m2⟩ := q
        exact ⟨_, _, rfl, rfl, rfl, g, past, h1, h2, h3, h4, cT, m2, h7⟩
      | some k =>
        rw [hr] at q
        obtain ⟨M, rfl, m2⟩ := q
        exact ⟨_, _, rfl, rfl, rfl, g, past, h1, h2, h3, h4, cT, m2, h7⟩
    · rintro j ⟨x, E⟩ hj ⟨rfl, hE⟩ hp
      dsimp only at hE ⊢
      have hp' := of_decide_eq_true hp
      obtain ⟨M, e, m1, m2⟩ := gjoinsOf hok hm E hE (k := gFree g - j) (by omega)
      unfold zf_X9_toShut_l12
      rw [if_neg (by rw [nI_ltI (by omega) (by omega)]; omega), gsub (by omega), e, Option.bind_some, gchE, gchS f24 (by omega), Option.bind_some, if_neg (by rw [lg_cmp_ge]; exact Int64.not_le.mpr hp')]
      exact ⟨_, rfl, M, rfl, m2⟩
    · rintro j ⟨x, E⟩ hj ⟨rfl, hE⟩ hp
      dsimp only at hE ⊢
      have hp' := of_decide_eq_false hp
      obtain ⟨M, e, m1, m2⟩ := gjoinsOf hok hm E hE (k := gFree g - j) (by omega)
      unfold zf_X9_toShut_l12
      rw [if_neg (by rw [nI_ltI (by omega) (by omega)]; omega), gsub (by omega), e, Option.bind_some, gchE, gchS f24 (by omega), Option.bind_some, if_pos (by rw [lg_cmp_ge]; exact Int64.not_lt.mp hp'), nI_1]
      exact ⟨_, rfl, rfl, m2⟩
    · rintro ⟨x, E⟩ ⟨rfl, hE⟩
      dsimp only at hE ⊢
      unfold zf_X9_toShut_l12
      rw [if_pos (by rw [nI_ltI (by omega) (by omega)]; omega)]
      exact ⟨_, rfl, E, rfl, hE⟩
  · rintro j _ hj rfl hp
    have hp' := of_decide_eq_true hp
    unfold zf_X8_toShut_l18
    rw [if_neg (by rw [nI_ltI (by omega) (by omega)]; omega), if_neg (gle25 (by omega)), gsub (by omega), if_pos (ggN (by omega) (by decide)), gchS f24 (by omega), Option.bind_some, nI_clamp (by omega), hT.2.2.2.2.2.2.1 _ (by omega), if_neg (by rw [lg_cmp_ge]; exact Int64.not_le.mpr hp')]
    exact ⟨_, rfl, rfl⟩
  · rintro j _ hj rfl hp
    have hp' := of_decide_eq_false hp
    unfold zf_X8_toShut_l18
    rw [if_neg (by rw [nI_ltI (by omega) (by omega)]; omega), if_neg (gle25 (by omega)), gsub (by omega), if_pos (ggN (by omega) (by decide)), gchS f24 (by omega), Option.bind_some, nI_clamp (by omega), hT.2.2.2.2.2.2.1 _ (by omega), if_pos (by rw [lg_cmp_ge]; exact Int64.not_lt.mp hp'), nI_1]
    exact ⟨_, rfl, rfl⟩
  · rintro _ rfl
    unfold zf_X8_toShut_l18
    rw [if_pos (by rw [nI_ltI (by omega) (by omega)]; omega)]
    exact ⟨_, rfl, rfl⟩
def gPA (g : gG) (k : Nat) : Bool := !decide (lN (gJ g k) = gBv g k)
def gS2 : Option Nat → Unit ⊕ Unit
  | none => Sum.inl ()
  | some _ => Sum.inr ()
def gQA (g : gG) (r : Option Nat) (b : gD9 ⊕ gD9) : Prop := match r with
  | none => ∃ M, b = Sum.inl M ∧ gLdD g M
  | some _ => ∃ M, b = Sum.inr M ∧ gLdD g M
theorem gP25_ok : gP25 gInv := by
  intro xi xu fg xh xk ac LG G mi mh mk h
  obtain ⟨g, past, h1, h2, h3, h4, h5, h6, h7⟩ := h
  obtain ⟨hok, hg, hx, hm⟩ := id h3
  obtain ⟨T, eT, hT, cT⟩ := gcountD hok hg hx h5
  have f24 := hok.2
  unfold zf_X8_alike zf_X9_alike
  rw [eT, Option.bind_some]
  have hC := gitF (f := fun d : Int32 => zf_X8_alike_l10 T.2.2.2.2.2.2.2.2.2.2.2.2.2.2.2.2 (G fg) d) (gPA g) (fun j a => a = nI j) (fun r b => b = gS2 r) (gFree g + 1) ?_ ?_ ?_ (n := zfu) (gfu (by omega)) (a := (0 : Int32)) rfl
  · have hF := gitF (f := fun d : Int32 × gD9 => zf_X9_alike_l7 (mi 7) (mi 8) (mh 4) (mh 5) d.1 d.2.1 d.2.2.1 d.2.2.2.1 d.2.2.2.2.1 d.2.2.2.2.2.1 d.2.2.2.2.2.2.1 d.2.2.2.2.2.2.2.1 d.2.2.2.2.2.2.2.2.1 d.2.2.2.2.2.2.2.2.2.1 d.2.2.2.2.2.2.2.2.2.2.1 d.2.2.2.2.2.2.2.2.2.2.2) (gPA g) (fun j a => a.1 = nI j ∧ gLdD g a.2) (gQA g) (gFree g + 1) ?_ ?_ ?_ (n := zfu) (gfu (by omega)) (a := ((0 : Int32), (mi 10, mh 12, mh 13, mk 0, mh 14, mh 15, mh 16, mh 10, mh 17, mk 1, mh 18))) ⟨rfl, h6⟩
    · obtain ⟨b, e, rfl⟩ := hC
      obtain ⟨b9, e9, q⟩ := hF
      have e9' : zit (fun d : Int32 × gD9 => zf_X9_alike_l7 (mi 7) (mi 8) (mh 4) (mh 5) d.1 d.2.1 d.2.2.1 d.2.2.2.1 d.2.2.2.2.1 d.2.2.2.2.2.1 d.2.2.2.2.2.2.1 d.2.2.2.2.2.2.2.1 d.2.2.2.2.2.2.2.2.1 d.2.2.2.2.2.2.2.2.2.1 d.2.2.2.2.2.2.2.2.2.2.1 d.2.2.2.2.2.2.2.2.2.2.2) zfu ((0 : Int32), mi 10, mh 12, mh 13, mk 0, mh 14, mh 15, mh 16, mh 10, mh 17, mk 1, mh 18) = some b9 := e9
      rw [e, Option.bind_some, e9', Option.bind_some]
      cases hr : gfi (gPA g) (gFree g + 1) 0 with
      | none =>
        rw [hr] at q
        obtain ⟨M, rfl, m2⟩ := q
        exact ⟨_, _, rfl, rfl, rfl, g, past, h1, h2, h3, h4, cT, m2, h7⟩
      | some k =>
        rw [hr] at q
        obtain ⟨M, rfl, m2⟩ := q
        exact ⟨_, _, rfl, rfl, rfl, g, past, h1, h2, h3, h4, cT, m2, h7⟩
    · rintro j ⟨x, E⟩ hj ⟨rfl, hE⟩ hp
      dsimp only at hE ⊢
      have hp' : ¬ lN (gJ g j) = gBv g j := by unfold gPA at hp; simpa using hp
      obtain ⟨M, e, m1, m2⟩ := gjoinsOf hok hm E hE (k := j) (by omega)
      obtain ⟨M', e', m2'⟩ := gbarsOf hok hm M m2 (k := j) (by omega)
      unfold zf_X9_alike_l7
      rw [gX9free hok.1 hm, Option.bind_some, if_neg (by rw [nI_ltI (by omega) (by omega)]; omega), e, Option.bind_some, e', Option.bind_some, if_neg (by rw [lg_cmp_eq]; exact hp')]
      exact ⟨_, rfl, M', rfl, m2'⟩
    · rintro j ⟨x, E⟩ hj ⟨rfl, hE⟩ hp
      dsimp only at hE ⊢
      have hp' : lN (gJ g j) = gBv g j := by unfold gPA at hp; simpa using hp
      obtain ⟨M, e, m1, m2⟩ := gjoinsOf hok hm E hE (k := j) (by omega)
      obtain ⟨M', e', m2'⟩ := gbarsOf hok hm M m2 (k := j) (by omega)
      unfold zf_X9_alike_l7
      rw [gX9free hok.1 hm, Option.bind_some, if_neg (by rw [nI_ltI (by omega) (by omega)]; omega), e, Option.bind_some, e', Option.bind_some, if_pos (by rw [lg_cmp_eq]; exact hp'), nI_1]
      exact ⟨_, rfl, rfl, m2'⟩
    · rintro ⟨x, E⟩ ⟨rfl, hE⟩
      dsimp only at hE ⊢
      unfold zf_X9_alike_l7
      rw [gX9free hok.1 hm, Option.bind_some, if_pos (by rw [nI_ltI (by omega) (by omega)]; omega)]
      exact ⟨_, rfl, E, rfl, hE⟩
  · rintro j _ hj rfl hp
    have hp' : ¬ lN (gJ g j) = gBv g j := by unfold gPA at hp; simpa using hp
    unfold zf_X8_alike_l10
    rw [gX2free hok.1 hx, Option.bind_some, if_neg (by rw [nI_ltI (by omega) (by omega)]; omega), if_neg (gle25 (by omega)), if_pos (ggN (by omega) (by decide)), gbarr hok hx hT.2.2.2.2.2.2.1 (by omega), Option.bind_some, nI_clamp (by omega), hT.2.2.2.2.2.2.1 j (by omega), if_neg (by rw [lg_cmp_eq]; exact hp')]
    exact ⟨_, rfl, rfl⟩
  · rintro j _ hj rfl hp
    have hp' : lN (gJ g j) = gBv g j := by unfold gPA at hp; simpa using hp
    unfold zf_X8_alike_l10
    rw [gX2free hok.1 hx, Option.bind_some, if_neg (by rw [nI_ltI (by omega) (by omega)]; omega), if_neg (gle25 (by omega)), if_pos (ggN (by omega) (by decide)), gbarr hok hx hT.2.2.2.2.2.2.1 (by omega), Option.bind_some, nI_clamp (by omega), hT.2.2.2.2.2.2.1 j (by omega), if_pos (by rw [lg_cmp_eq]; exact hp'), nI_1]
    exact ⟨_, rfl, rfl⟩
  · rintro _ rfl
    unfold zf_X8_alike_l10
    rw [gX2free hok.1 hx, Option.bind_some, if_pos (by rw [nI_ltI (by omega) (by omega)]; omega)]
    exact ⟨_, rfl, rfl⟩
