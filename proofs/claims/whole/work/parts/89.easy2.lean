/-! more easy cases: stone, choices, count, undo -/
theorem gstone {g : gG} (hw : gWf g) {d : zGD} (hx : gRX g d) {X Y : Nat} (hX : X < g.1) (hY : Y < g.2.1) : zf_X2_isStone d.2.2.2.2.1 (nI (10 * Y + 2 * X)) = some (gbI (g.2.2.2 (5 * Y + X))) := by
  have h1 := hw.1
  have h2 := hw.2.1
  obtain ⟨-, -, b⟩ := hx.2.2.1 (10 * Y + 2 * X) (by omega)
  have e : gFr (10 * Y + 2 * X) = 5 * Y + X := by unfold gFr; omega
  rw [e, show decide ((10 * Y + 2 * X) % 2 = 0) = true from by simp; omega, Bool.true_and] at b
  unfold zf_X2_isStone
  simp only [gbt_test _ (show 10 * Y + 2 * X < 64 by omega), b]
  cases g.2.2.2 (5 * Y + X) <;> rfl
theorem gnum0 (X Y : Nat) : zf_X2_numberOf (nI X) (nI Y) 0 = some (nI (10 * Y + 2 * X)) := by
  unfold zf_X2_numberOf
  rw [if_pos rfl, show (10 : Int32) = nI 10 from rfl, show (2 : Int32) = nI 2 from rfl, gmul, gmul, nI_add, show (0 : Int32) = nI 0 from rfl, nI_add]
  rfl
theorem gnum1 (X Y : Nat) : zf_X2_numberOf (nI X) (nI Y) 1 = some (nI (10 * Y + 2 * X + 1)) := by
  unfold zf_X2_numberOf
  rw [if_neg (by decide), show (10 : Int32) = nI 10 from rfl, show (2 : Int32) = nI 2 from rfl, gmul, gmul, nI_add, show (1 : Int32) = nI 1 from rfl, nI_add]
theorem gbIb (b : Bool) : zbit (gbI b) = true := by cases b <;> decide
theorem gP5_ok : gP5 gInv := by
  intro xi xu fg xh xk ac LG G mi mh mk h x1 x2
  obtain ⟨g, past, h1, h2, h3, h4, h5, h6, h7⟩ := h
  obtain ⟨hok, hg, hx, hm⟩ := id h3
  unfold zf_X8_stone zf_X9_stone zf_X8_demandCell
  rw [hm.1, hm.2.1, hx.1, hx.2.1]
  have q1 := hok.1.1
  have q2 := hok.1.2.1
  rcases gcell hok.1.1 hok.1.2.1 x1 x2 with ⟨X, Y, hX, hY, rfl, rfl, e1, e2⟩ | ⟨e1, e2, -⟩
  · rw [e1, e2, Option.bind_some, Option.bind_some, if_neg (by decide), if_neg (by decide), gnum0, Option.bind_some]
    unfold zf_X9_stone_15
    have e : ((5 : Int32) * nI Y) + nI X = nI (5 * Y + X) := by
      rw [show (5 : Int32) = nI 5 from rfl, gmul, nI_add]
    rw [e, if_pos rfl, if_pos (ggN (by omega) (by decide)), nI_clamp (by omega), hm.2.2.2 _ (by omega)]
    simp only [Option.bind_some, Sum.elim_inl, gstone hok.1 hx hX hY, gbIb, if_true, gbI0]
    refine ⟨_, (gbI (g.2.2.2 (5 * Y + X)), 0), rfl, ?_, Or.inl ⟨_, rfl, rfl, rfl, g, past, h1, h2, h3, h4, h5, h6, h7⟩⟩
    cases g.2.2.2 (5 * Y + X) <;> rfl
  · rw [e1, e2, Option.bind_some, Option.bind_some, if_pos rfl, if_pos rfl]
    unfold zf_X9_stone_15
    rw [if_neg (by decide)]
    exact ⟨_, _, rfl, rfl, Or.inr ⟨_, rfl, ⟨rfl, rfl⟩, g, past, h1, h2, h3, h4, h5, h6, h7⟩⟩
def gch (n k : Nat) : Int64 := (zf_X8_choose (nI n) (nI k)).getD 0
theorem gchT : ∀ n : Fin 25, ∀ k : Fin 25, (zf_X8_choose (nI n.val) (nI k.val)).isSome = true := by decide +kernel
theorem gchE : zf_X9_choose = zf_X8_choose := rfl
theorem gchS {n k : Nat} (hn : n ≤ 24) (hk : k ≤ 24) : zf_X8_choose (nI n) (nI k) = some (gch n k) := by
  obtain ⟨v, hv⟩ := Option.isSome_iff_exists.mp (gchT ⟨n, by omega⟩ ⟨k, by omega⟩)
  unfold gch
  rw [show zf_X8_choose (nI n) (nI k) = some v from hv]
  rfl
theorem gch' {n : Nat} (hn : n ≤ 24) (x : Int32) : ∃ v, zf_X8_choose (nI n) x = some v := by
  by_cases c0 : x < 0
  · exact ⟨0, by unfold zf_X8_choose; rw [if_pos c0]⟩
  · by_cases c1 : x ≤ nI n
    · obtain ⟨j, hj, rfl⟩ := gnI (by omega) c0 c1
      exact ⟨_, gchS hn (by omega)⟩
    · exact ⟨0, by unfold zf_X8_choose; rw [if_neg c0, if_neg c1]⟩
theorem gP13_ok : gP13 gInv := by
  intro xi xu fg xh xk ac LG G mi mh mk h x1
  obtain ⟨g, past, h1, h2, h3, h4, h5, h6, h7⟩ := h
  obtain ⟨hok, hg, hx, hm⟩ := id h3
  unfold zf_X8_choices zf_X9_choices
  rw [gX2free hok.1 hx, gX9free hok.1 hm, gchE, Option.bind_some, Option.bind_some]
  obtain ⟨v, hv⟩ := gch' hok.2 x1
  rw [hv]
  exact ⟨_, _, rfl, rfl, rfl, g, past, h1, h2, h3, h4, h5, h6, h7⟩
/-- a row copied from another, up to n -/
def gcp (dst src : Nat → Int32) (b n : Nat) : Nat → Int32 := fun q => if q < n then src (b + q) else dst q
theorem gcpS (dst src : Nat → Int32) (b j : Nat) : upd (gcp dst src b j) j (src (b + j)) = gcp dst src b (j + 1) := by
  funext q
  unfold upd gcp
  by_cases h : q = j
  · subst h
    rw [if_pos rfl, if_pos (by omega)]
  · rw [if_neg h]
    by_cases h2 : q < j
    · rw [if_pos h2, if_pos (by omega)]
    · rw [if_neg h2, if_neg (by omega)]
theorem gcp0 (dst src : Nat → Int32) (b : Nat) : gcp dst src b 0 = dst := by
  funext q
  unfold gcp
  rw [if_neg (by omega)]
theorem gnar (b : Bool) : vp_nar .boolean (gbI b) = gbI b := by cases b <;> decide
theorem gle50 {a j : Nat} (ha : a < 2 ^ 31) (hj : j < 2 ^ 31) (h : j < a) : ¬ nI a ≤ nI j := by
  rw [nI_leI ha hj]
  omega
theorem gundoT (a : Nat) (ha : a < 16) (pt tl : Nat → Int32) : zit (fun d : Int32 × (Nat → Int32) => zf_X9_undo_l26 (nI a) pt d.1 d.2) zfu ((0 : Int32), tl) = some (gcp tl pt (50 * a) 50) := by
  have e := gitr (f := fun d : Int32 × (Nat → Int32) => zf_X9_undo_l26 (nI a) pt d.1 d.2) (fun j => (nI j, gcp tl pt (50 * a) j)) 50 (n := zfu) (b := gcp tl pt (50 * a) 50) (gfu (by decide)) ?_ ?_
  · rw [← e]
    simp only [gcp0]
    rfl
  · intro j hj
    dsimp only
    unfold zf_X9_undo_l26
    have c1 : ((50 : Int32) * nI a) + nI j = nI (50 * a + j) := by
      rw [show (50 : Int32) = nI 50 from rfl, gmul, nI_add]
    rw [c1, if_neg (show ¬ (50 : Int32) ≤ nI j from gle50 (a := 50) (by decide) (by omega) hj), if_pos (ggN (by omega) (by decide)), if_pos (ggN hj (by decide)), nI_clamp (by omega), nI_clamp (by omega), nI_1, gcpS]
  · dsimp only
    unfold zf_X9_undo_l26
    rw [if_pos (by decide)]
theorem gundoS (a : Nat) (ha : a < 16) (ps st : Nat → Int32) (hb : ∀ k, k < 25 → vp_nar .boolean (ps (25 * a + k)) = ps (25 * a + k)) : zit (fun d : Int32 × (Nat → Int32) => zf_X9_undo_l60 (nI a) ps d.1 d.2) zfu ((0 : Int32), st) = some (gcp st ps (25 * a) 25) := by
  have e := gitr (f := fun d : Int32 × (Nat → Int32) => zf_X9_undo_l60 (nI a) ps d.1 d.2) (fun j => (nI j, gcp st ps (25 * a) j)) 25 (n := zfu) (b := gcp st ps (25 * a) 25) (gfu (by decide)) ?_ ?_
  · rw [← e]
    simp only [gcp0]
    rfl
  · intro j hj
    dsimp only
    unfold zf_X9_undo_l60
    have c1 : ((25 : Int32) * nI a) + nI j = nI (25 * a + j) := by
      rw [show (25 : Int32) = nI 25 from rfl, gmul, nI_add]
    rw [c1, if_neg (show ¬ (25 : Int32) ≤ nI j from gle50 (a := 25) (by decide) (by omega) hj), if_pos (ggN (by omega) (by decide)), if_pos (ggN hj (by decide)), nI_clamp (by omega), nI_clamp (by omega), nI_1, hb j hj, gcpS]
  · dsimp only
    unfold zf_X9_undo_l60
    rw [if_pos (by decide)]
theorem gld0 {g : gG} {mn nb pl : Nat → Int32} {ws js : Nat → Int64} (h : ∀ i, i < 100000 → pl i = 0) : gLd g 0 mn nb pl ws js := ⟨h, Or.inl rfl, fun h => absurd h (by decide)⟩
theorem gP10_ok : gP10 gInv := by
  intro xi xu fg xh xk ac LG G mi mh mk h
  obtain ⟨g, past, h1, h2, h3, h4, h5, h6, h7⟩ := h
  obtain ⟨b1, b2, b3, b4⟩ := id h4
  unfold zf_X8_undo zf_X9_undo
  rw [b2, b3]
  by_cases c0 : past.length = 0
  · rw [c0, if_pos (by decide), if_pos (by decide)]
    rw [c0] at b2 b3
    exact ⟨_, _, rfl, rfl, rfl, g, past, h1, h2, h3, ⟨b1, by rw [c0]; rfl, by rw [c0]; rfl, b4⟩, h5, h6, h7⟩
  · obtain ⟨a, ea⟩ : ∃ a, past.length = a + 1 := ⟨past.length - 1, by omega⟩
    have hl : ∃ gl, past[a]? = some gl := ⟨past[a]'(by omega), List.getElem?_eq_getElem (by omega)⟩
    obtain ⟨gl, hgl⟩ := hl
    obtain ⟨f1, ⟨q, f2, f3, f4⟩, f5, f6, f7, f8⟩ := b4 a gl hgl
    have e1 : nI past.length - 1 = nI a := by rw [ea]; exact nI_pred a
    have n1 : ¬ nI past.length ≤ 0 := by
      rw [show (0 : Int32) = nI 0 from rfl, nI_leI (by omega) (by decide)]
      omega
    have n2 : nI past.length ≤ 16 := by
      rw [show (16 : Int32) = nI 16 from rfl, nI_leI (by omega) (by decide)]
      omega
    have n3 : ¬ nI past.length = 0 := by
      rw [show (0 : Int32) = nI 0 from rfl, nI_eq (by omega) (by decide)]
      omega
    have z : zgd (nI a) 16 = true := ggN (by omega) (by decide)
    rw [e1, if_neg n1, if_pos n2, if_neg n3, gundoT a (by omega), gundoS a (by omega) _ _ (fun k hk => by rw [f8 k hk]; exact gnar _)]
    simp only [z, if_true, Option.bind_some, nI_clamp (show a < 2 ^ 31 by omega), f3, Option.elim_some]
    refine ⟨_, _, rfl, rfl, rfl, gl, past.take a, h1, h2, ⟨f1, f2, f4, f5, f6, fun p hp => ?_, fun k hk => ?_⟩, ⟨?_, ?_, ?_, fun i g hi => ?_⟩, h5, gld0 h6.1, h7⟩
    · show gcp (mh 4) (mh 6) (50 * a) 50 p = _
      unfold gcp
      rw [if_pos hp, f7 p hp]
    · show gcp (mh 5) (mh 7) (25 * a) 25 k = _
      unfold gcp
      rw [if_pos hk, f8 k hk]
    · rw [List.length_take]
      omega
    · show nI a = _
      rw [List.length_take, ea, Nat.min_eq_left (by omega)]
    · show nI a = _
      rw [List.length_take, ea, Nat.min_eq_left (by omega)]
    · refine b4 i g ?_
      rw [List.getElem?_take] at hi
      by_cases hia : i < a
      · rwa [if_pos hia] at hi
      · rw [if_neg hia] at hi
        cases hi
