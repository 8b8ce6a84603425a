/-! feed -/
/-- byte t of an int, the highest first -/
def gby (x : Int32) (t : Nat) : Int32 := zushr x (nI (24 - 8 * t)) &&& 255
theorem gbyM : ∀ t : Fin 4, ((24 : Int32) - (8 : Int32) * (zrem (nI t.val) (4 : Int32))) = nI (24 - 8 * t.val) := by decide +kernel
theorem gbyR (x : Int32) (t : Nat) (ht : t < 4) : zshr x (nI (24 - 8 * t)) &&& 255 = gby x t := by
  unfold gby zshr zushr
  rw [← Int32.toBitVec_inj]
  have key : ∀ s : Nat, s ≤ 24 → ((x >>> (nI s &&& 31)) &&& 255).toBitVec = ((x.toUInt32 >>> ((nI s).toUInt32 &&& Int32.toUInt32 31)).toInt32 &&& 255).toBitVec := by
    intro s hs
    have k1 : ∀ s : Fin 25, ((nI s.val &&& 31).toBitVec.smod 32).toNat = s.val := by decide +kernel
    have k2 : ∀ s : Fin 25, ((nI s.val).toUInt32 &&& Int32.toUInt32 31) = UInt32.ofNat s.val := by decide +kernel
    rw [Int32.toBitVec_and, Int32.toBitVec_and]
    have a1 : (x >>> (nI s &&& 31)).toBitVec = x.toBitVec.sshiftRight s := by
      rw [Int32.toBitVec_shiftRight, BitVec.sshiftRight_eq', k1 ⟨s, by omega⟩]
    have a2 : (x.toUInt32 >>> ((nI s).toUInt32 &&& Int32.toUInt32 31)).toInt32.toBitVec = x.toBitVec >>> s := by
      rw [show ((nI s).toUInt32 &&& Int32.toUInt32 31) = UInt32.ofNat s from k2 ⟨s, by omega⟩]
      show (x.toUInt32 >>> UInt32.ofNat s).toBitVec = _
      rw [UInt32.toBitVec_shiftRight]
      apply BitVec.eq_of_toNat_eq
      simp [Nat.mod_eq_of_lt (show s < 32 by omega)]
    rw [a1, a2]
    apply BitVec.eq_of_getLsbD_eq
    intro i hi
    rw [BitVec.getLsbD_and, BitVec.getLsbD_and, BitVec.getLsbD_sshiftRight, BitVec.getLsbD_ushiftRight]
    by_cases h8 : i < 8
    · simp [show ¬ 32 ≤ i by omega, show s + i < 32 by omega]
    · have z : (255 : Int32).toBitVec.getLsbD i = false := by
        have k3 : ∀ i : Fin 32, 8 ≤ i.val → (255 : Int32).toBitVec.getLsbD i.val = false := by decide
        exact k3 ⟨i, hi⟩ (by simp only; omega)
      rw [z, Bool.and_false, Bool.and_false]
  exact key (24 - 8 * t) (by omega)
theorem gbyB (x : Int32) (t : Nat) : ∃ z, z < 256 ∧ gby x t = nI z := by
  unfold gby
  generalize zushr x (nI (24 - 8 * t)) = v
  refine ⟨v.toBitVec.toNat % 256, by omega, ?_⟩
  rw [← Int32.toBitVec_inj]
  apply BitVec.eq_of_toNat_eq
  rw [Int32.toBitVec_and, BitVec.toNat_and, show (255 : Int32).toBitVec.toNat = 2 ^ 8 - 1 from rfl, Nat.and_two_pow_sub_one_eq_mod]
  show _ = (BitVec.ofNat 32 (v.toBitVec.toNat % 256)).toNat
  rw [BitVec.toNat_ofNat]
  omega
/-- bytes put behind the first n: j of them -/
def gput (bs : Nat → Int32) (n : Nat) (f : Nat → Int32) (j : Nat) : Nat → Int32 := fun q => if n ≤ q ∧ q < n + j then f (q - n) else bs q
theorem gput0 (bs : Nat → Int32) (n : Nat) (f : Nat → Int32) : gput bs n f 0 = bs := by
  funext q
  unfold gput
  rw [if_neg (by omega)]
theorem gputS (bs : Nat → Int32) (n : Nat) (f : Nat → Int32) (j : Nat) : upd (gput bs n f j) (n + j) (f j) = gput bs n f (j + 1) := by
  funext q
  unfold upd gput
  by_cases h : q = n + j
  · subst h
    rw [if_pos rfl, if_pos (by omega), Nat.add_sub_cancel_left]
  · rw [if_neg h]
    by_cases h2 : n ≤ q ∧ q < n + j
    · rw [if_pos h2, if_pos (by omega)]
    · rw [if_neg h2, if_neg (by omega)]
theorem gapp (x : Int32) (bs : Nat → Int32) (n : Nat) (hn : n + 4 ≤ 400) : zf_X6_append (nI n) bs x = some (nI (n + 4), gput bs n (gby x) 4) := by
  unfold zf_X6_append
  have e := gitr (f := fun d : Int32 × Int32 × (Nat → Int32) => zf_X6_append_l3 x d.1 d.2.1 d.2.2) (fun j => (nI 24 - nI (8 * j), nI (n + j), gput bs n (gby x) j)) 4 (n := zfu) (b := (nI (n + 4), gput bs n (gby x) 4)) (gfu (by decide)) ?_ ?_
  · have e0 : ((24 : Int32), nI n, bs) = (nI 24 - nI (8 * 0), nI (n + 0), gput bs n (gby x) 0) := by rw [gput0]; rfl
    rw [e0, e]
    rfl
  · intro j hj
    dsimp only
    unfold zf_X6_append_l3 zf_X6_append_45
    have d1 : nI 24 - nI (8 * j) = nI (24 - 8 * j) := gsub (by omega)
    have d2 : nI (24 - 8 * j) + (-8 : Int32) = nI 24 - nI (8 * (j + 1)) := by
      have k : ∀ j : Fin 4, nI (24 - 8 * j.val) + (-8 : Int32) = nI 24 - nI (8 * (j.val + 1)) := by decide +kernel
      exact k ⟨j, hj⟩
    have d3 : ¬ nI (24 - 8 * j) < 0 := nI_pos (by omega)
    rw [d1, d2, if_neg d3, if_neg (show ¬ (400 : Int32) ≤ nI (n + j) from gle50 (a := 400) (by decide) (by omega) (by omega)), if_pos (ggN (by omega) (by decide)), nI_clamp (by omega), nI_1, ← gputS]
    rfl
  · dsimp only
    unfold zf_X6_append_l3
    rw [if_pos (by decide)]
def gby5 (a b c d e : Int32) (t : Nat) : Int32 := gby (if t < 4 then a else if t < 8 then b else if t < 12 then c else if t < 16 then d else e) (t % 4)
theorem gfeedM (a b c d e : Int32) (tp : Nat → Int32) (n : Nat) (hn : n + 20 ≤ 400) : zit (fun q : Int32 × Int32 × (Nat → Int32) => zf_X9_feed_l23 a b c d e q.1 q.2.1 q.2.2) zfu ((0 : Int32), nI n, tp) = some (nI (n + 20), gput tp n (gby5 a b c d e) 20) := by
  have h := gitr (f := fun q : Int32 × Int32 × (Nat → Int32) => zf_X9_feed_l23 a b c d e q.1 q.2.1 q.2.2) (fun j => (nI j, nI (n + j), gput tp n (gby5 a b c d e) j)) 20 (n := zfu) (b := (nI (n + 20), gput tp n (gby5 a b c d e) 20)) (gfu (by decide)) ?_ ?_
  · rw [← h]
    simp only [gput0]
    rfl
  · intro j hj
    dsimp only
    have k : ∀ j : Fin 20, (24 : Int32) - (8 : Int32) * (zrem (nI j.val) (4 : Int32)) = nI (24 - 8 * (j.val % 4)) := by decide +kernel
    have f : ∀ s : Int32, (zshr s ((24 : Int32) - ((8 : Int32) * (zrem (nI j) (4 : Int32)))) &&& 255) = gby s (j % 4) := by
      intro s
      rw [show (24 : Int32) - (8 : Int32) * (zrem (nI j) (4 : Int32)) = nI (24 - 8 * (j % 4)) from k ⟨j, hj⟩]
      exact gbyR s (j % 4) (by omega)
    have g : ∀ s : Int32, gby5 a b c d e j = gby s (j % 4) → zf_X9_feed_76 (nI (n + j)) (gput tp n (gby5 a b c d e) j) (nI j) s = some (.inl (nI (j + 1), nI (n + (j + 1)), gput tp n (gby5 a b c d e) (j + 1))) := by
      intro s hs
      unfold zf_X9_feed_76
      rw [if_pos (ggN (by omega) (by decide)), f, ← hs, nI_clamp (by omega), nI_1, nI_1, gputS]
      rfl
    unfold zf_X9_feed_l23
    rw [if_neg (show ¬ (20 : Int32) ≤ nI j from gle50 (a := 20) (by decide) (by omega) hj)]
    have c4 : (4 : Int32) ≤ nI j ↔ 4 ≤ j := nI_leI (a := 4) (by decide) (by omega)
    have c8 : (8 : Int32) ≤ nI j ↔ 8 ≤ j := nI_leI (a := 8) (by decide) (by omega)
    have c12 : (12 : Int32) ≤ nI j ↔ 12 ≤ j := nI_leI (a := 12) (by decide) (by omega)
    have c16 : (16 : Int32) ≤ nI j ↔ 16 ≤ j := nI_leI (a := 16) (by decide) (by omega)
    simp only [c4, c8, c12, c16]
    by_cases q4 : 4 ≤ j
    · rw [if_pos q4]
      by_cases q8 : 8 ≤ j
      · rw [if_pos q8]
        by_cases q12 : 12 ≤ j
        · rw [if_pos q12]
          by_cases q16 : 16 ≤ j
          · rw [if_pos q16]
            exact g e (by unfold gby5; rw [if_neg (by omega), if_neg (by omega), if_neg (by omega), if_neg (by omega)])
          · rw [if_neg q16]
            exact g d (by unfold gby5; rw [if_neg (by omega), if_neg (by omega), if_neg (by omega), if_pos (by omega)])
        · rw [if_neg q12]
          exact g c (by unfold gby5; rw [if_neg (by omega), if_neg (by omega), if_pos (by omega)])
      · rw [if_neg q8]
        exact g b (by unfold gby5; rw [if_neg (by omega), if_pos (by omega)])
    · rw [if_neg q4]
      exact g a (by unfold gby5; rw [if_pos (by omega)])
  · dsimp only
    unfold zf_X9_feed_l23
    rw [if_pos (by decide)]
theorem gput5 (a b c d e : Int32) (bs tp : Nat → Int32) (n : Nat) (h : ∀ i, i < n → bs i = tp i) (i : Nat) (hi : i < n + 20) : gput (gput (gput (gput (gput bs n (gby a) 4) (n + 4) (gby b) 4) (n + 4 + 4) (gby c) 4) (n + 4 + 4 + 4) (gby d) 4) (n + 4 + 4 + 4 + 4) (gby e) 4 i = gput tp n (gby5 a b c d e) 20 i := by
  unfold gput
  by_cases h0 : i < n
  · rw [if_neg (by omega), if_neg (by omega), if_neg (by omega), if_neg (by omega), if_neg (by omega), if_neg (by omega), h i h0]
  · obtain ⟨t, rfl⟩ : ∃ t, i = n + t := ⟨i - n, by omega⟩
    rw [if_pos (show n ≤ n + t ∧ n + t < n + 20 by omega), Nat.add_sub_cancel_left]
    unfold gby5
    by_cases q16 : 16 ≤ t
    · rw [if_pos (by omega), if_neg (by omega), if_neg (by omega), if_neg (by omega), if_neg (by omega)]
      congr 1
      omega
    · rw [if_neg (by omega)]
      by_cases q12 : 12 ≤ t
      · rw [if_pos (by omega), if_neg (by omega), if_neg (by omega), if_neg (by omega), if_pos (by omega)]
        congr 1
        omega
      · rw [if_neg (by omega)]
        by_cases q8 : 8 ≤ t
        · rw [if_pos (by omega), if_neg (by omega), if_neg (by omega), if_pos (by omega)]
          congr 1
          omega
        · rw [if_neg (by omega)]
          by_cases q4 : 4 ≤ t
          · rw [if_pos (by omega), if_neg (by omega), if_pos (by omega)]
            congr 1
            omega
          · rw [if_neg (by omega), if_pos (by omega), if_pos (by omega)]
            congr 1
            omega
theorem gP0_ok : gP0 gInv := by
  intro xi xu fg xh xk ac LG G mi mh mk h x1 x2 x3 x4 x5
  obtain ⟨g, past, h1, h2, h3, h4, h5, h6, h7⟩ := h
  obtain ⟨n, a1, a2, a3, a4, a5⟩ := id h1
  unfold zf_X8_feed zf_X9_feed
  rw [a2, a3, show (20 : Int32) = nI 20 from rfl, nI_add, show (400 : Int32) = nI 400 from rfl]
  simp only [nI_leI (show n + 20 < 2 ^ 31 by omega) (show 400 < 2 ^ 31 by decide)]
  by_cases c0 : n + 20 ≤ 400
  · rw [if_pos c0, if_pos c0, gapp x1 _ n (by omega), Option.bind_some, gapp x2 _ (n + 4) (by omega), Option.bind_some, gapp x3 _ (n + 4 + 4) (by omega), Option.bind_some, gapp x4 _ (n + 4 + 4 + 4) (by omega), Option.bind_some, gapp x5 _ (n + 4 + 4 + 4 + 4) (by omega), Option.bind_some, gfeedM x1 x2 x3 x4 x5 (mh 0) n c0, Option.bind_some]
    refine ⟨_, _, rfl, rfl, rfl, g, past, ⟨n + 20, c0, rfl, rfl, a4, fun i hi => ?_⟩, h2, h3, h4, h5, h6, h7⟩
    have e := gput5 x1 x2 x3 x4 x5 (xh 0) (mh 0) n (fun i hi => (a5 i hi).1) i hi
    refine ⟨e, ?_⟩
    show ∃ z, z < 256 ∧ gput (gput (gput (gput (gput (xh 0) n (gby x1) 4) (n + 4) (gby x2) 4) (n + 4 + 4) (gby x3) 4) (n + 4 + 4 + 4) (gby x4) 4) (n + 4 + 4 + 4 + 4) (gby x5) 4 i = nI z
    rw [e]
    unfold gput
    by_cases h0 : n ≤ i ∧ i < n + 20
    · rw [if_pos h0]
      exact gbyB _ _
    · rw [if_neg h0, ← (a5 i (by omega)).1]
      exact (a5 i (by omega)).2
  · rw [if_neg c0, if_neg c0]
    exact ⟨_, _, rfl, rfl, rfl, g, past, ⟨n, a1, rfl, rfl, a4, a5⟩, h2, h3, h4, h5, h6, h7⟩
