/-! count, between -/
theorem gfr2 (j : Nat) : gFr (2 * j) = j := by unfold gFr; omega
theorem gct2 {f st : Nat → Bool} (he : ∀ j, f (2 * j) = st j) (ho : ∀ j, f (2 * j + 1) = false) (n : Nat) : gct f (2 * n) = gct st n := by
  induction n with
  | zero => rfl
  | succ n ih =>
    rw [show 2 * (n + 1) = 2 * n + 1 + 1 from by omega, gctS, gctS, gctS, ih, he, ho]
    simp
theorem gstones {g : gG} (hw : gWf g) {d : zGD} (hx : gRX g d) : zf_J13_bitCount_95d88 d.2.2.2.2.1 = some (nI (gct g.2.2.2 25)) := by
  rw [gbc]
  congr 2
  show gct (fun i => gbt d.2.2.2.2.1 i) (2 * 32) = _
  have e : gct (fun i => gbt d.2.2.2.2.1 i) (2 * 32) = gct (fun i => decide (i % 2 = 0) && g.2.2.2 (gFr i)) (2 * 32) := gct_cong fun i hi => (hx.2.2.1 i hi).2.2
  rw [e, gct2 (st := g.2.2.2) (fun j => by rw [gfr2, show decide (2 * j % 2 = 0) = true from by simp]; rfl) (fun j => by rw [show decide ((2 * j + 1) % 2 = 0) = false from decide_eq_false (by omega)]; rfl) 32]
  exact gct_stop 32 (fun i hi => gTh_st hw hi) (by omega)
theorem gstM {g : gG} {cs : Nat → Int32} (h : ∀ k, k < 25 → cs k = gbI (g.2.2.2 k)) : zit (fun d : Int32 × Int32 => zf_X9_count_l9 cs d.1 d.2) zfu ((0 : Int32), (0 : Int32)) = some (nI (gct g.2.2.2 25)) := by
  have e := gitr (f := fun d : Int32 × Int32 => zf_X9_count_l9 cs d.1 d.2) (fun j => (nI (gct g.2.2.2 j), nI j)) 25 (n := zfu) (b := nI (gct g.2.2.2 25)) (gfu (by decide)) ?_ ?_
  · rw [← e]
    rfl
  · intro j hj
    dsimp only
    unfold zf_X9_count_l9 zf_X9_count_30
    rw [if_neg (show ¬ (25 : Int32) ≤ nI j from gle50 (a := 25) (by decide) (by omega) hj), if_pos (ggN hj (by decide)), nI_clamp (by omega), h j hj, gctS, nI_1]
    cases g.2.2.2 j with
    | false =>
      rw [if_pos (by decide), show (0 : Int32) = nI 0 from rfl, nI_add]
      rfl
    | true =>
      rw [if_neg (by decide), show (1 : Int32) = nI 1 from rfl, nI_add]
      rfl
  · dsimp only
    unfold zf_X9_count_l9
    rw [if_pos (by decide)]
theorem gmanyBy {g : gG} (hw : gWf g) {fc fr : Int32} {ct cs : Nat → Int32} (h : gRM g fc fr ct cs) {w : Nat} (hw2 : w ≤ 2) : zf_X9_manyBy fc fr ct cs (nI w) = some (nI (gMany g w)) := by
  unfold zf_X9_manyBy
  rw [h.1, h.2.1]
  have e := gitr (f := fun d : Int32 × Int32 => zf_X9_manyBy_l4 (nI g.1) (nI g.2.1) ct cs (nI w) d.1 d.2) (fun j => (nI (gct (gIs g w) j), nI j)) 50 (n := zfu) (b := nI (gMany g w)) (gfu (by decide)) ?_ ?_
  · rw [show ((0 : Int32), (0 : Int32)) = (nI (gct (gIs g w) 0), nI 0) from rfl, e]
    rfl
  · intro j hj
    dsimp only
    unfold zf_X9_manyBy_l4 zf_X9_isPipe zf_X9_how
    rw [if_neg (show ¬ (50 : Int32) ≤ nI j from gle50 (a := 50) (by decide) (by omega) hj), gThere hj hw.1 hw.2.1, Option.bind_some, gbIb, if_pos rfl, Option.bind_some, gctS]
    unfold gIs zf_X9_manyBy_32 zf_X9_manyBy_33
    rw [nI_1]
    cases ht : gTh j g.1 g.2.1 with
    | false =>
      rw [if_pos (by decide), show (0 : Int32) = nI 0 from rfl, nI_add]
      rfl
    | true =>
      rw [if_neg (by decide), gHowBy hw h ht, Option.bind_some, Option.bind_some]
      have h2 := gHow2 hw j
      rw [show (0 : Int32) = nI 0 from rfl, show (1 : Int32) = nI 1 from rfl]
      simp only [nI_eq (show gHow g j < 2 ^ 31 by omega) (show w < 2 ^ 31 by omega), nI_add]
      by_cases h0 : gHow g j = w
      · simp [h0]
      · simp [h0]
  · dsimp only
    unfold zf_X9_manyBy_l4
    rw [if_pos (by decide)]
    rfl
theorem gP46_ok : gP46 gInv := by
  intro xi xu fg xh xk ac LG G mi mh mk h x1
  obtain ⟨g, past, h1, h2, h3, h4, h5, h6, h7⟩ := h
  obtain ⟨hok, hg, hx, hm⟩ := id h3
  obtain ⟨b1, b2, b3, b4⟩ := id h4
  obtain ⟨n, a1, a2, a3, a4⟩ := id h2
  unfold zf_X8_count zf_X9_count
  rw [gstM hm.2.2.2, Option.bind_some, gX2free hok.1 hx, gcnb hok.1 (h := 1) (fun i hi => (hx.2.2.2 i hi).1), gcnb hok.1 (h := 2) (fun i hi => (hx.2.2.2 i hi).2.1), gstones hok.1 hx]
  rw [show zf_X9_manyBy (mi 7) (mi 8) (mh 4) (mh 5) 0 = some (nI (gMany g 0)) from gmanyBy hok.1 hm (w := 0) (by decide), show zf_X9_manyBy (mi 7) (mi 8) (mh 4) (mh 5) 1 = some (nI (gMany g 1)) from gmanyBy hok.1 hm (w := 1) (by decide), show zf_X9_manyBy (mi 7) (mi 8) (mh 4) (mh 5) 2 = some (nI (gMany g 2)) from gmanyBy hok.1 hm (w := 2) (by decide)]
  simp only [Option.bind_some]
  rw [hm.1, hm.2.1, hx.1, hx.2.1, b2, b3, a2, a3]
  have fin : ∀ v : Int32, ∃ (out : Int32) (outM : Int32 × Int32), some v = some out ∧ some (v, (0 : Int32)) = some outM ∧ outM.1 = out ∧ gInv xi xu fg xh xk ac LG G (gset mi 0 outM.2) mh mk := fun v => ⟨v, (v, 0), rfl, rfl, rfl, g, past, h1, h2, h3, h4, h5, h6, h7⟩
  by_cases c0 : x1 = 0
  · simp only [c0, if_true]; exact fin _
  by_cases c1 : x1 = 1
  · simp only [c1, if_true]; exact fin _
  by_cases c2 : x1 = 2
  · simp only [c2, if_true]; exact fin _
  by_cases c3 : x1 = 3
  · simp only [c3, if_true]; exact fin _
  by_cases c4 : x1 = 4
  · simp only [c4, if_true]; exact fin _
  by_cases c5 : x1 = 5
  · simp only [c5, if_true]; exact fin _
  by_cases c6 : x1 = 6
  · simp only [c6, if_true]; exact fin _
  by_cases c7 : x1 = 7
  · simp only [c7, if_true]; exact fin _
  simp only [c0, c1, c2, c3, c4, c5, c6, c7, if_false]
  exact fin _
/-- a place between four cells: how the pipe of the dual is -/
theorem gP24_ok : gP24 gInv := by
  intro xi xu fg xh xk ac LG G mi mh mk h x1 x2 x3 hb
  obtain ⟨g, past, h1, h2, h3, h4, h5, h6, h7⟩ := h
  obtain ⟨hok, hg, hx, hm⟩ := id h3
  have hc := hok.1.1
  have hr := hok.1.2.1
  have e1 := gsub2 ⟨g.2.1, by omega⟩ hr.1
  simp only at e1
  have ec : (nI g.1).toInt = (g.1 : Int) := nI_toInt (by omega)
  have bad : ∃ (out : Int32 ⊕ Nat) (outM : Int32 × Int32), some (Sum.inr 1 : Int32 ⊕ Nat) = some out ∧ some ((0 : Int32), (1 : Int32)) = some outM ∧ ((∃ o, out = .inl o ∧ outM.1 = o ∧ outM.2 = 0 ∧ gInv xi xu fg xh xk ac LG G (gset mi 0 outM.2) mh mk) ∨ (∃ z, out = .inr z ∧ ((z = 1 ∧ outM.2 = 1)) ∧ gInv xi xu fg xh xk ac LG G (gset mi 0 outM.2) mh mk)) := ⟨_, _, rfl, rfl, Or.inr ⟨_, rfl, ⟨rfl, rfl⟩, g, past, h1, h2, h3, h4, h5, h6, h7⟩⟩
  have good : ∀ v : Int32, ∃ (out : Int32 ⊕ Nat) (outM : Int32 × Int32), some (Sum.inl v : Int32 ⊕ Nat) = some out ∧ some (v, (0 : Int32)) = some outM ∧ ((∃ o, out = .inl o ∧ outM.1 = o ∧ outM.2 = 0 ∧ gInv xi xu fg xh xk ac LG G (gset mi 0 outM.2) mh mk) ∨ (∃ z, out = .inr z ∧ ((z = 1 ∧ outM.2 = 1)) ∧ gInv xi xu fg xh xk ac LG G (gset mi 0 outM.2) mh mk)) := fun v => ⟨_, _, rfl, rfl, Or.inl ⟨_, rfl, rfl, rfl, g, past, h1, h2, h3, h4, h5, h6, h7⟩⟩
  have pipe : ∀ p, gTh p g.1 g.2.1 = true → ∃ (out : Int32 ⊕ Nat) (outM : Int32 × Int32), zf_X8_between_134 (G fg) (nI p) = some out ∧ zf_X9_between_129 0 (mh 4) (mh 5) (nI p) = some outM ∧ ((∃ o, out = .inl o ∧ outM.1 = o ∧ outM.2 = 0 ∧ gInv xi xu fg xh xk ac LG G (gset mi 0 outM.2) mh mk) ∨ (∃ z, out = .inr z ∧ ((z = 1 ∧ outM.2 = 1)) ∧ gInv xi xu fg xh xk ac LG G (gset mi 0 outM.2) mh mk)) := by
    intro p hp
    unfold zf_X8_between_134 zf_X9_between_129 zf_X9_how
    rw [gstat hok.1 hx hp, gHowBy hok.1 hm hp, Option.bind_some, Option.bind_some, Option.bind_some]
    have q2 := gHow2 hok.1 p
    rcases (show gHow g p = 0 ∨ gHow g p = 1 ∨ gHow g p = 2 by omega) with e | e | e <;> rw [e]
    · exact good 0
    · exact good 2
    · exact good 1
  have m0 : zf_X9_between_55 (nI g.1) (mh 4) (mh 5) x1 x2 x3 = some (0, 1) := rfl
  have m8 : ∀ s, zf_X8_between_37 x1 x2 x3 (G fg) s = if s = 0 then some (.inr 1) else (if x3 = 0 then (if x1 = nI g.2.1 - 2 then some (.inr 1) else zf_X8_between_86 x1 x2 x3 (G fg)) else (if x2 = nI g.1 then some (.inr 1) else zf_X8_between_86 x1 x2 x3 (G fg))) := by
    intro s
    unfold zf_X8_between_37 zf_X8_between_75
    rw [hx.1, hx.2.1]
  unfold zf_X8_between zf_X9_between zf_X8_between_36
  rw [hm.1, hm.2.1, m8, m8, gIn, Option.bind_some, hx.1, hx.2.1]
  rw [if_pos rfl]
  by_cases c0 : x1 < 0
  · rw [if_pos c0, if_pos c0, if_pos rfl, m0]
    exact bad
  rw [if_neg c0, if_neg c0]
  by_cases c1 : nI g.2.1 - 2 < x1
  · rw [if_pos c1, if_neg (Int32.not_le.mpr c1), if_pos rfl, m0]
    exact bad
  rw [if_neg c1, if_pos (Int32.not_lt.mp c1), if_neg (show ¬ (1 : Int32) = 0 by decide), gIn, Option.bind_some]
  by_cases c2 : x2 < 0
  · rw [if_pos c2, if_pos c2, if_pos rfl, m0]
    exact bad
  rw [if_neg c2, if_neg c2]
  by_cases c3 : nI g.1 < x2
  · rw [if_pos c3, if_neg (Int32.not_le.mpr c3), if_pos rfl, m0]
    exact bad
  rw [if_neg c3, if_pos (Int32.not_lt.mp c3), if_neg (show ¬ (1 : Int32) = 0 by decide), if_neg (show ¬ (1 : Int32) = 0 by decide)]
  obtain ⟨Y, hY, rfl⟩ := nI_of c0
  obtain ⟨X, hX, rfl⟩ := nI_of c2
  rw [Int32.lt_iff_toInt_lt, e1.2, nI_toInt hY] at c1
  rw [Int32.lt_iff_toInt_lt, ec, nI_toInt hX] at c3
  unfold zf_X8_between_86 zf_X9_between_51 zf_X9_between_56 zf_X9_between_69 zf_X8_between_107 zf_X9_between_99
  rw [hx.1, if_neg (show ¬ (1 : Int32) = 0 by decide), if_pos (show (0 : Int32) ≤ 0 by decide)]
  rcases hb with rfl | rfl
  · simp only [if_true]
    by_cases d1 : nI Y = nI g.2.1 - 2
    · have d2 : nI g.2.1 - 2 ≤ nI Y := by rw [d1]; exact Int32.le_refl _
      rw [if_pos d1, if_pos d2, m0]
      exact bad
    · have d2 : ¬ nI g.2.1 - 2 ≤ nI Y := by
        intro d2
        refine d1 (Int32.toInt_inj.mp ?_)
        rw [Int32.le_iff_toInt_le] at d2
        rw [e1.2, nI_toInt hY] at d2 ⊢
        omega
      have d3 : Y + 2 < g.2.1 := by
        rw [Int32.le_iff_toInt_le, e1.2, nI_toInt hY] at d2
        omega
      rw [if_neg d1, if_neg d2]
      by_cases d4 : nI X = 0
      · rw [if_pos d4, if_pos d4]
        exact good 2
      · rw [if_neg d4, if_neg d4]
        by_cases d5 : nI X = nI g.1
        · rw [if_pos d5, if_pos d5]
          exact good 2
        · rw [if_neg d5, if_neg d5]
          have x0 : X ≠ 0 := fun h => d4 (by rw [h]; rfl)
          have x5 : X ≠ g.1 := fun h => d5 (by rw [h])
          obtain ⟨Z, rfl⟩ : ∃ Z, X = Z + 1 := ⟨X - 1, by omega⟩
          rw [nI_pred, nI_1, gnum0, Option.bind_some, show (10 : Int32) = nI 10 from rfl, show (2 : Int32) = nI 2 from rfl, gmul, gmul, nI_add]
          refine pipe (10 * (Y + 1) + 2 * Z) ?_
          unfold gTh
          rw [if_neg (by omega)]
          simp
          omega
  · simp only [show ¬ (1 : Int32) = 0 by decide, if_false]
    by_cases d1 : nI X = nI g.1
    · rw [if_pos d1, if_pos (by rw [d1]; exact Int32.le_refl _), m0]
      exact bad
    · have x5 : X ≠ g.1 := fun h => d1 (by rw [h])
      have d2 : ¬ nI g.1 ≤ nI X := by
        rw [nI_leI (by omega) hX]
        omega
      rw [if_neg d1, if_neg d2, gnum1, Option.bind_some, show (10 : Int32) = nI 10 from rfl, show (2 : Int32) = nI 2 from rfl, gmul, gmul, nI_add, nI_1]
      refine pipe (10 * Y + 2 * X + 1) ?_
      unfold gTh
      rw [if_pos (by omega)]
      simp
      omega
