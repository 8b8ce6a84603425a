/-! the easy cases -/
theorem gP3_ok : gP3 gInv := by
  intro xi xu fg xh xk ac LG G mi mh mk h
  obtain ⟨g, past, h1, h2, h3, h4, h5, h6, h7⟩ := h
  obtain ⟨n, a1, a2, a3, a4, a5⟩ := id h1
  exact ⟨xi 6, (mi 4, 0), rfl, rfl, a4.symm, g, past, h1, h2, h3, h4, h5, h6, h7⟩
theorem gnI {x : Int32} {n : Nat} (hn : n < 2 ^ 31) (h0 : ¬ x < 0) (h1 : x ≤ nI n) : ∃ j, j ≤ n ∧ x = nI j := by
  obtain ⟨j, hj, rfl⟩ := nI_of h0
  exact ⟨j, (nI_leI hj hn).mp h1, rfl⟩
theorem gP1_ok : gP1 gInv := by
  intro xi xu fg xh xk ac LG G mi mh mk h x1
  obtain ⟨g, past, h1, h2, h3, h4, h5, h6, h7⟩ := h
  obtain ⟨n, a1, a2, a3, a4, a5⟩ := id h1
  unfold zf_X8_end zf_X9_end
  rw [a2, a3]
  by_cases c0 : x1 < 0
  · rw [if_pos c0, if_pos c0]
    exact ⟨_, _, rfl, rfl, rfl, g, past, ⟨n, a1, rfl, rfl, a4, a5⟩, h2, h3, h4, h5, h6, h7⟩
  · rw [if_neg c0, if_neg c0]
    by_cases c1 : x1 ≤ nI n
    · rw [if_pos c1, if_pos c1]
      obtain ⟨j, hj, rfl⟩ := gnI (by omega) c0 c1
      exact ⟨_, _, rfl, rfl, rfl, g, past, ⟨j, by omega, rfl, rfl, a4, fun i hi => a5 i (by omega)⟩, h2, h3, h4, h5, h6, h7⟩
    · rw [if_neg c1, if_neg c1]
      exact ⟨_, _, rfl, rfl, rfl, g, past, ⟨n, a1, rfl, rfl, a4, a5⟩, h2, h3, h4, h5, h6, h7⟩
theorem gIn (v lo hi : Int32) : zf_X9_isIn v lo hi = some (if v < lo then 0 else if v ≤ hi then 1 else 0) := by
  unfold zf_X9_isIn
  by_cases c0 : v < lo
  · simp [c0]
  · by_cases c1 : v ≤ hi
    · simp [c0, c1]
    · simp [c0, c1]
theorem gle1 (n : Nat) (hn : n < 2 ^ 31) (x : Int32) (h0 : ¬ x < 0) : x ≤ nI n - 1 ↔ ¬ nI n ≤ x := by
  obtain ⟨j, hj, rfl⟩ := nI_of h0
  have e : (nI n - 1).toInt = (n : Int) - 1 := by
    rw [Int32.toInt_sub, nI_toInt hn, show (1 : Int32).toInt = 1 from rfl]
    exact Int.bmod_eq_of_le (by omega) (by omega)
  rw [Int32.le_iff_toInt_le, Int32.le_iff_toInt_le, e, nI_toInt hj, nI_toInt hn]
  omega
theorem gP45_ok : gP45 gInv := by
  intro xi xu fg xh xk ac LG G mi mh mk h x1
  obtain ⟨g, past, h1, h2, h3, h4, h5, h6, h7⟩ := h
  obtain ⟨n, a1, a2, a3, a4⟩ := id h2
  unfold zf_X8_octet zf_X9_octet
  rw [a2, a3, gIn, Option.bind_some]
  by_cases c0 : x1 < 0
  · rw [if_pos c0, if_pos c0, if_pos rfl]
    exact ⟨_, _, rfl, rfl, rfl, g, past, h1, h2, h3, h4, h5, h6, h7⟩
  · rw [if_neg c0, if_neg c0]
    simp only [gle1 n (by omega) x1 c0]
    by_cases c1 : nI n ≤ x1
    · rw [if_pos c1, if_neg (not_not_intro c1), if_pos rfl]
      exact ⟨_, _, rfl, rfl, rfl, g, past, h1, h2, h3, h4, h5, h6, h7⟩
    · rw [if_neg c1, if_pos c1]
      obtain ⟨j, hj, rfl⟩ := nI_of c0
      have hjn : j < n := by rw [nI_leI (by omega) hj] at c1; omega
      have c2 : ¬ (90 : Int32) ≤ nI j := by
        rw [show (90 : Int32) = nI 90 from rfl, nI_leI (by decide) hj]
        omega
      rw [if_neg c2, if_neg (show ¬ (1 : Int32) = 0 by decide), if_pos (ggN (by omega) (by decide)), if_pos (ggN (by omega) (by decide)), nI_clamp hj, a4 j hjn]
      exact ⟨_, _, rfl, rfl, rfl, g, past, h1, h2, h3, h4, h5, h6, h7⟩
theorem gltI {c : Nat} {x : Int32} (hc : c < 2 ^ 31) (h0 : ¬ x < 0) (h1 : ¬ nI c ≤ x) : ∃ X, X < c ∧ x = nI X := by
  obtain ⟨j, hj, rfl⟩ := nI_of h0
  rw [nI_leI hc hj] at h1
  exact ⟨j, by omega, rfl⟩
/-- is there such a cell? -/
theorem gcell {c r : Nat} (hc : 1 ≤ c ∧ c ≤ 5) (hr : 1 ≤ r ∧ r ≤ 5) (x y : Int32) : (∃ X Y, X < c ∧ Y < r ∧ x = nI X ∧ y = nI Y ∧ zf_X2_hasCell (nI c) (nI r) x y = some 1 ∧ zf_X9_isCell (nI c) (nI r) x y = some 1) ∨ (zf_X2_hasCell (nI c) (nI r) x y = some 0 ∧ zf_X9_isCell (nI c) (nI r) x y = some 0 ∧ (x < 0 ∨ nI c ≤ x ∨ y < 0 ∨ nI r ≤ y)) := by
  unfold zf_X2_hasCell zf_X9_isCell
  simp only [gIn, Option.bind_some]
  by_cases a0 : x < 0
  · right
    simp [a0]
  · have e1 := gle1 c (by omega) x a0
    by_cases a1 : nI c ≤ x
    · right
      simp [a0, a1, e1]
    · by_cases b0 : y < 0
      · right
        simp [a0, a1, b0, e1]
      · have e2 := gle1 r (by omega) y b0
        by_cases b1 : nI r ≤ y
        · right
          simp [a0, a1, b0, b1, e1, e2]
        · left
          obtain ⟨X, hX, eX⟩ := gltI (by omega) a0 a1
          obtain ⟨Y, hY, eY⟩ := gltI (by omega) b0 b1
          refine ⟨X, Y, hX, hY, eX, eY, ?_, ?_⟩ <;> simp [a0, a1, b0, b1, e1, e2]
theorem gpipeT : ∀ (c r X Y : Fin 5) (d : Fin 2), X.val ≤ c.val → Y.val ≤ r.val → zf_X2_hasPipe (nI X.val) (nI Y.val) (nI d.val) (nI (c.val + 1)) (nI (r.val + 1)) = some (gbI (gTh (10 * Y.val + 2 * X.val + d.val) (c.val + 1) (r.val + 1))) ∧ zf_X2_numberOf (nI X.val) (nI Y.val) (nI d.val) = some (nI (10 * Y.val + 2 * X.val + d.val)) ∧ 10 * Y.val + 2 * X.val + d.val < 50 := by decide +kernel
theorem gsub2 : ∀ c : Fin 6, 1 ≤ c.val → (nI c.val - 1).toInt = (c.val : Int) - 1 ∧ (nI c.val - 2).toInt = (c.val : Int) - 2 := by decide +kernel
theorem gnopipe {c r : Nat} (hc : 1 ≤ c ∧ c ≤ 5) (hr : 1 ≤ r ∧ r ≤ 5) (x y d : Int32) (h : x < 0 ∨ nI c ≤ x ∨ y < 0 ∨ nI r ≤ y) : zf_X2_hasPipe x y d (nI c) (nI r) = some 0 := by
  have e1 := gsub2 ⟨c, by omega⟩ hc.1
  have e2 := gsub2 ⟨r, by omega⟩ hr.1
  simp only at e1 e2
  unfold zf_X2_hasPipe zf_X2_hasPipe_13 zf_X2_hasPipe_30
  simp only [Int32.lt_iff_toInt_lt, Int32.le_iff_toInt_le, e1.1, e1.2, e2.1, e2.2, nI_toInt (show c < 2 ^ 31 by omega), nI_toInt (show r < 2 ^ 31 by omega), Int32.toInt_zero] at h ⊢
  by_cases hd : d = 0
  · simp only [hd, if_true]
    by_cases q1 : x.toInt < 0
    · simp [q1]
    · by_cases q2 : (c : Int) - 2 < x.toInt
      · simp [q1, q2]
      · by_cases q3 : y.toInt < 0
        · simp [q1, q2, q3]
        · have q4 : (r : Int) - 1 < y.toInt := by omega
          simp [q1, q2, q3, q4]
  · simp only [hd, if_false]
    by_cases q1 : x.toInt < 0
    · simp [q1]
    · by_cases q2 : (c : Int) - 1 < x.toInt
      · simp [q1, q2]
      · by_cases q3 : y.toInt < 0
        · simp [q1, q2, q3]
        · have q4 : (r : Int) - 2 < y.toInt := by omega
          simp [q1, q2, q3, q4]
/-- is there such a pipe? -/
theorem gpipe {g : gG} (hw : gWf g) {d : zGD} (hx : gRX g d) (x y b : Int32) (hb : b = 0 ∨ b = 1) : (∃ p, gTh p g.1 g.2.1 = true ∧ p < 50 ∧ zf_X8_demandPipe x y b d = some (.inl (nI p)) ∧ zf_X9_pipeAt (nI g.1) (nI g.2.1) x y b = some (nI p)) ∨ (zf_X8_demandPipe x y b d = some (.inr 1) ∧ zf_X9_pipeAt (nI g.1) (nI g.2.1) x y b = some (-1)) := by
  unfold zf_X8_demandPipe zf_X9_pipeAt
  rw [hx.1, hx.2.1]
  rcases gcell hw.1 hw.2.1 x y with ⟨X, Y, hX, hY, rfl, rfl, h1, h2⟩ | ⟨h1, h2, h3⟩
  · obtain ⟨D, hD, rfl⟩ : ∃ D, D < 2 ∧ b = nI D := by
      rcases hb with rfl | rfl
      · exact ⟨0, by decide, rfl⟩
      · exact ⟨1, by decide, rfl⟩
    have hc := hw.1
    have hr := hw.2.1
    obtain ⟨t1, t2, t3⟩ := gpipeT ⟨g.1 - 1, by omega⟩ ⟨g.2.1 - 1, by omega⟩ ⟨X, by omega⟩ ⟨Y, by omega⟩ ⟨D, hD⟩ (by show X ≤ g.1 - 1; omega) (by show Y ≤ g.2.1 - 1; omega)
    simp only [Nat.sub_add_cancel hc.1, Nat.sub_add_cancel hr.1] at t1 t2 t3
    rw [t1, t2, h2, Option.bind_some, Option.bind_some, Option.bind_some]
    have key : (if nI D = 0 then zf_X9_pipeAt_28 (nI g.1) (nI g.2.1) (((10 : Int32) * nI Y) + ((2 : Int32) * nI X)) (0 : Int32) else zf_X9_pipeAt_28 (nI g.1) (nI g.2.1) (((10 : Int32) * nI Y) + ((2 : Int32) * nI X)) (1 : Int32)) = zf_X9_pipeAt_28 (nI g.1) (nI g.2.1) (nI (10 * Y + 2 * X)) (nI D) := by
      have e : ((10 : Int32) * nI Y) + ((2 : Int32) * nI X) = nI (10 * Y + 2 * X) := by
        rw [show (10 : Int32) = nI 10 from rfl, show (2 : Int32) = nI 2 from rfl, gmul, gmul, nI_add]
      rw [e]
      rcases (show D = 0 ∨ D = 1 by omega) with rfl | rfl
      · rw [if_pos (by decide)]; rfl
      · rw [if_neg (by decide)]; rfl
    rw [if_neg (show ¬ (1 : Int32) = 0 by decide), key]
    unfold zf_X9_pipeAt_28 zf_X9_isPipe
    rw [nI_add, gThere t3 hc hr, Option.bind_some]
    cases ht : gTh (10 * Y + 2 * X + D) g.1 g.2.1 with
    | true =>
      left
      exact ⟨_, ht, t3, rfl, rfl⟩
    | false =>
      right
      exact ⟨rfl, rfl⟩
  · right
    rw [gnopipe hw.1 hw.2.1 x y b h3, h2]
    exact ⟨rfl, rfl⟩
theorem gstat {g : gG} (hw : gWf g) {d : zGD} (hx : gRX g d) {p : Nat} (hp : gTh p g.1 g.2.1 = true) : zf_X2_statusOf d.2.2.2.2.2.1 d.2.2.2.2.2.2.1 (nI p) = some (nI (gHow g p)) := by
  have h50 := gTh50 hw.2.1.2 hp
  obtain ⟨b1, b2, -⟩ := hx.2.2.2 p (by omega)
  rw [hp, Bool.true_and] at b1 b2
  have h2 := gHow2 hw p
  unfold zf_X2_statusOf zf_X2_statusBy
  simp only [gbt_test _ (show p < 64 by omega), b1, b2]
  rcases (show gHow g p = 0 ∨ gHow g p = 1 ∨ gHow g p = 2 by omega) with e | e | e <;> rw [e] <;> rfl
theorem gP4_ok : gP4 gInv := by
  intro xi xu fg xh xk ac LG G mi mh mk h x1 x2 x3 hb
  obtain ⟨g, past, h1, h2, h3, h4, h5, h6, h7⟩ := h
  obtain ⟨hok, hg, hx, hm⟩ := id h3
  unfold zf_X8_pipe zf_X9_pipe
  rw [hm.1, hm.2.1]
  rcases gpipe hok.1 hx x1 x2 x3 hb with ⟨p, hp, h50, e1, e2⟩ | ⟨e1, e2⟩
  · rw [e1, e2, Option.bind_some, Option.bind_some]
    have hn : ¬ nI p = -1 := by
      rw [← Int32.toInt_inj, nI_toInt (by omega)]
      show ¬ (p : Int) = -1
      omega
    rw [if_neg hn]
    unfold zf_X9_pipe_21 zf_X9_how
    rw [if_pos (by decide), gHowBy hok.1 hm hp]
    simp only [Sum.elim_inl, gstat hok.1 hx hp, Option.bind_some]
    exact ⟨_, _, rfl, rfl, Or.inl ⟨_, rfl, rfl, rfl, g, past, h1, h2, h3, h4, h5, h6, h7⟩⟩
  · rw [e1, e2, Option.bind_some, Option.bind_some, if_pos rfl]
    unfold zf_X9_pipe_21
    rw [if_neg (by decide)]
    exact ⟨_, _, rfl, rfl, Or.inr ⟨_, rfl, ⟨rfl, rfl⟩, g, past, h1, h2, h3, h4, h5, h6, h7⟩⟩
