/-! all rows laid -/
theorem gorB : ∀ (a : Fin 32) (x : Fin 5), (nI a.val ||| zshl (1 : Int32) (nI x.val)) = nI (a.val ||| 2 ^ x.val) ∧ (nI a.val ||| (0 : Int32)) = nI a.val ∧ a.val ||| 2 ^ x.val < 32 := by decide +kernel
theorem gwp_bit (c s : Nat) : ∀ n i, (gwp c s n).testBit i = (decide (i < n) && decide (gLb c s i = 0)) := by
  intro n
  induction n with
  | zero => intro i; show (0 : Nat).testBit i = _; rw [Nat.zero_testBit]; simp
  | succ n ih =>
    intro i
    show (if gLb c s n = 0 then gwp c s n ||| 2 ^ n else gwp c s n).testBit i = _
    by_cases e : i = n
    · subst e
      by_cases q : gLb c s i = 0
      · rw [if_pos q, Nat.testBit_or, Nat.testBit_two_pow_self]; simp [q]
      · rw [if_neg q, ih]; simp [q]
    · have e2 : decide (i < n + 1) = decide (i < n) := decide_eq_decide.mpr (by omega)
      by_cases q : gLb c s n = 0
      · rw [if_pos q, Nat.testBit_or, ih, Nat.testBit_two_pow_of_ne (fun k => e k.symm), Bool.or_false, e2]
      · rw [if_neg q, ih, e2]
theorem gWs_bit {c s : Nat} (hc : c ≤ 5) (hs : s < gSz c) (i : Nat) : (gWs c s).testBit i = (decide (i < c) && decide (gLb c s i = 0)) := by
  have h := List.all_eq_true.mp (gwpT ⟨c, by omega⟩) s (List.mem_range.mpr hs)
  rw [Bool.and_eq_true] at h
  have e : gwp c s c = gWs c s := of_decide_eq_true h.1
  rw [← e, gwp_bit]
theorem gwetS {g : gG} (hw : gWf g) {row s : Nat} (hs : s < gSz g.1) (hg : gGood g row s) : zf_X9_wetSet (nI g.1) (nI (gNum g row s g.1)) = some (nI (gWs g.1 s)) := by
  have hc := hw.1
  obtain ⟨d1, d2, d3⟩ := gDigE hw hs hg
  have lt := gDig10 hw hs hg
  unfold zf_X9_wetSet
  have hH := gitH (f := fun d : Int32 × Int32 × Int32 => zf_X9_wetSet_l12 d.1 d.2.1 d.2.2) (fun j d => ∃ a, a < 32 ∧ d.1 = nI a ∧ (∀ i, a.testBit i = (decide (g.1 - j ≤ i) && decide (i < g.1) && decide (gLb g.1 s i = 0))) ∧ d.2.1 = nI (gNum g row s g.1 / 10 ^ j) ∧ d.2.2 = nI (g.1 - j) - 1) (fun d => d = nI (gWs g.1 s)) g.1 (n := zfu) (gfu (by omega)) (a := ((0 : Int32), nI (gNum g row s g.1), nI g.1 - 1)) ⟨0, by decide, rfl, fun i => by
    rw [Nat.zero_testBit]
    by_cases q : i < g.1
    · rw [decide_eq_false (show ¬ g.1 - 0 ≤ i by omega)]; rfl
    · rw [decide_eq_false q, Bool.and_false]; rfl, by rw [Nat.pow_zero, Nat.div_one], rfl⟩ ?_ ?_
  · obtain ⟨b, e, h⟩ := hH
    rw [e, Option.bind_some, h]
  · rintro j ⟨x, y, z⟩ hj ⟨a, ha, h1, h2, h3, h4⟩
    dsimp only at h1 h3 h4 ⊢
    subst h1 h3 h4
    unfold zf_X9_wetSet_l12 zf_X9_wetSet_33
    have hb : gNum g row s g.1 / 10 ^ j < 100000 := Nat.lt_of_le_of_lt (Nat.div_le_self _ _) lt
    have dg : gNum g row s g.1 / 10 ^ j % 10 = gDig g row s (g.1 - 1 - j) := by rw [gNum_nv]; exact gNv_dg (fun x hx => d3 x hx) j hj
    have ob := gorB ⟨a, ha⟩ ⟨g.1 - j - 1, by omega⟩
    dsimp only at ob
    rw [show (1 : Int32) = nI 1 from rfl, gsub (by omega), if_neg (by rw [show (0 : Int32) = nI 0 from rfl, nI_ltI (by omega) (by decide)]; omega), show (10 : Int32) = nI 10 from rfl, grem (by omega) (by decide), gdiv (by omega) (by decide), dg]
    have d0 := d1.1 (g.1 - 1 - j) (by omega)
    have d9 := d3 (g.1 - 1 - j) (by omega)
    have tl : nI (g.1 - j - 1) + -nI 1 = nI (g.1 - (j + 1)) - nI 1 := by rw [show g.1 - j - 1 = g.1 - (j + 1) by omega, Int32.sub_eq_add_neg]
    have nx : gNum g row s g.1 / 10 ^ j / 10 = gNum g row s g.1 / 10 ^ (j + 1) := by rw [Nat.pow_succ, Nat.div_div_eq_div_mul]
    rw [tl, nx]
    by_cases q : gDig g row s (g.1 - 1 - j) = 0
    · rw [if_pos (by rw [q]; rfl), show zshl (nI 1) (nI (g.1 - j - 1)) = zshl (1 : Int32) (nI (g.1 - j - 1)) from rfl, ob.1]
      refine ⟨_, rfl, _, ob.2.2, rfl, fun i => ?_, rfl, rfl⟩
      rw [Nat.testBit_or, h2]
      by_cases e : i = g.1 - j - 1
      · subst e
        rw [Nat.testBit_two_pow_self, Bool.or_true, decide_eq_true (by omega), decide_eq_true (by omega), decide_eq_true (by rw [show g.1 - j - 1 = g.1 - 1 - j by omega]; exact d0.mpr q)]; rfl
      · rw [Nat.testBit_two_pow_of_ne (fun k => e k.symm), Bool.or_false, decide_eq_decide.mpr (show g.1 - j ≤ i ↔ g.1 - (j + 1) ≤ i by omega)]
    · rw [if_neg (by rw [show (0 : Int32) = nI 0 from rfl, nI_eq (by omega) (by decide)]; exact q), ob.2.1]
      refine ⟨_, rfl, a, ha, rfl, fun i => ?_, rfl, rfl⟩
      rw [h2]
      by_cases e : i = g.1 - j - 1
      · subst e
        rw [decide_eq_false (show ¬ g.1 - j ≤ g.1 - j - 1 by omega), decide_eq_false (show ¬ gLb g.1 s (g.1 - j - 1) = 0 by rw [show g.1 - j - 1 = g.1 - 1 - j by omega]; exact fun k => q (d0.mp k)), Bool.and_false, Bool.and_false]
      · rw [decide_eq_decide.mpr (show g.1 - j ≤ i ↔ g.1 - (j + 1) ≤ i by omega)]
  · rintro ⟨x, y, z⟩ ⟨a, ha, h1, h2, h3, h4⟩
    dsimp only at h1 h3 h4 ⊢
    subst h1 h3 h4
    unfold zf_X9_wetSet_l12
    rw [Nat.sub_self, if_pos (by decide)]
    refine ⟨_, rfl, ?_⟩
    congr 1
    refine Nat.eq_of_testBit_eq (fun i => ?_)
    rw [h2, gWs_bit hc.2 hs, Nat.sub_self, decide_eq_true (Nat.zero_le i), Bool.true_and]
theorem gSts_good {g : gG} (hok : gOk g) {row : Nat} (hr : row < g.2.1) {s : Nat} (h : s ∈ gSts g row) : s < gSz g.1 ∧ gGood g row s := by
  obtain ⟨h1, h2⟩ := gSts_mem.mp h
  obtain ⟨k, hk⟩ := (gTot_pos hok hr).mp h2
  exact ⟨h1, ggood hok.1 row hr s k h1 hk⟩
/-- a sum over the states of a row that some choice leads to -/
theorem gSts_sum {g : gG} (hok : gOk g) {row : Nat} (hr : row < g.2.1) (F : Nat → Nat) (hF : ∀ s, (∀ k, gW g row s k = 0) → F s = 0) : gSum (fun i => F ((gSts g row).getD i 0)) (gSts g row).length = gSum F (gSz g.1) := by
  unfold gSts
  rw [gSum_filter]
  refine gSum_cong (fun s _ => ?_)
  by_cases q : 0 < gTot g row s
  · rw [if_pos (decide_eq_true q)]
  · rw [if_neg (by rw [decide_eq_false q]; decide), hF s (gW_z hok hr q)]
theorem gjoins9 {g : gG} (hok : gOk g) {mn nb : Nat → Int32} {wy : Nat → Int64} (hL : gRowL g (g.2.1 - 1) mn nb wy) {k : Nat} (hk : k < 25) (jn : Nat → Int64) (j0 : jn k = 0) : ∃ jn', zit (fun d : Int32 × (Nat → Int64) => zf_X9_lays_l62 (nI g.1) (nI g.2.1) mn nb wy (nI (300 * (g.2.1 - 1))) (nI k) d.1 d.2) zfu ((0 : Int32), jn) = some jn' ∧ jn' k = lN (gJ g k) ∧ ∀ q, q ≠ k → jn' q = jn q := by
  have hw := hok.1
  have hr5 := hw.2.1
  have hlen := gSts_len hw (g.2.1 - 1)
  have hr : g.2.1 - 1 < g.2.1 := by omega
  have eJ : gJ g k = gSum (fun i => (fun s => if gWs g.1 s = 0 then 0 else gW g (g.2.1 - 1) s k) ((gSts g (g.2.1 - 1)).getD i 0)) (gSts g (g.2.1 - 1)).length := by
    rw [gSts_sum hok hr (fun s => if gWs g.1 s = 0 then 0 else gW g (g.2.1 - 1) s k) (fun s hs => by rw [hs]; by_cases q : gWs g.1 s = 0 <;> simp [q])]
    rfl
  have z5 : zgd (nI g.2.1 - 1) 5 = true := by rw [show (1 : Int32) = nI 1 from rfl, gsub (by omega)]; exact ggN (by omega) (by decide)
  have hH := gitH (f := fun d : Int32 × (Nat → Int64) => zf_X9_lays_l62 (nI g.1) (nI g.2.1) mn nb wy (nI (300 * (g.2.1 - 1))) (nI k) d.1 d.2) (fun j d => d.1 = nI j ∧ d.2 k = lN (gSum (fun i => (fun s => if gWs g.1 s = 0 then 0 else gW g (g.2.1 - 1) s k) ((gSts g (g.2.1 - 1)).getD i 0)) j) ∧ ∀ q, q ≠ k → d.2 q = jn q) (fun d => d k = lN (gJ g k) ∧ ∀ q, q ≠ k → d q = jn q) (gSts g (g.2.1 - 1)).length (n := zfu) (gfu (by omega)) (a := ((0 : Int32), jn)) ⟨rfl, j0, fun _ _ => rfl⟩ ?_ ?_
  · exact hH
  · rintro j ⟨x, w⟩ hj ⟨rfl, h1, h2⟩
    dsimp only at h1 h2 ⊢
    have hj' : (gSts g (g.2.1 - 1))[j]? = some ((gSts g (g.2.1 - 1)).getD j 0) := by rw [List.getD_eq_getElem?_getD, List.getElem?_eq_getElem hj]; rfl
    obtain ⟨a1, a2⟩ := hL.2 j _ hj'
    obtain ⟨b1, b2⟩ := gSts_good hok hr (List.mem_of_getElem? hj')
    unfold zf_X9_lays_l62
    rw [if_pos z5, show (1 : Int32) = nI 1 from rfl, gsub (by omega), nI_clamp (by omega), hL.1, if_neg (gle50 (by omega) (by omega) hj), if_pos (ggN hk (by decide)), nI_add, if_pos (ggN (by omega) (by decide)), nI_clamp (by omega), a1, gwetS hw b1 b2, Option.bind_some, nI_clamp (by omega), h1]
    have w32 : gWs g.1 ((gSts g (g.2.1 - 1)).getD j 0) < 32 := by
      have h := List.all_eq_true.mp (gwpT ⟨g.1, by have := hw.1; omega⟩) _ (List.mem_range.mpr b1)
      rw [Bool.and_eq_true] at h
      have e : gwp g.1 _ g.1 = gWs g.1 _ := of_decide_eq_true h.1
      rw [← e]
      exact of_decide_eq_true (List.all_eq_true.mp h.2 g.1 (List.mem_range.mpr (by have := hw.1; omega)))
    have stp : ∀ v, v = lN (if gWs g.1 ((gSts g (g.2.1 - 1)).getD j 0) = 0 then 0 else gW g (g.2.1 - 1) ((gSts g (g.2.1 - 1)).getD j 0) k) → ∃ a', zf_X9_lays_116 w (nI j) (nI k) (lN (gSum (fun i => (fun s => if gWs g.1 s = 0 then 0 else gW g (g.2.1 - 1) s k) ((gSts g (g.2.1 - 1)).getD i 0)) j)) v = some (.inl a') ∧ a'.1 = nI (j + 1) ∧ a'.2 k = lN (gSum (fun i => (fun s => if gWs g.1 s = 0 then 0 else gW g (g.2.1 - 1) s k) ((gSts g (g.2.1 - 1)).getD i 0)) (j + 1)) ∧ ∀ q, q ≠ k → a'.2 q = jn q := by
      intro v hv
      unfold zf_X9_lays_116
      rw [if_pos (ggN hk (by decide)), nI_clamp (by omega), hv, lN_add, nI_1]
      refine ⟨_, rfl, rfl, guLS, fun q hq => ?_⟩
      dsimp only
      rw [guLN hq]; exact h2 q hq
    have kk : (25 : Int32) * nI (300 * (g.2.1 - 1) + j) + nI k = nI (25 * (300 * (g.2.1 - 1) + j) + k) := by rw [show (25 : Int32) = nI 25 from rfl, gmul, nI_add]
    by_cases q : gWs g.1 ((gSts g (g.2.1 - 1)).getD j 0) = 0
    · rw [if_pos (by rw [q]; rfl)]
      exact stp 0 (by rw [if_pos q]; rfl)
    · rw [if_neg (by rw [show (0 : Int32) = nI 0 from rfl, nI_eq (by omega) (by decide)]; exact q), kk, if_pos (ggN (by omega) (by decide)), nI_clamp (by omega)]
      exact stp _ (by rw [if_neg q, a2 k hk])
  · rintro ⟨x, w⟩ ⟨rfl, h1, h2⟩
    dsimp only at h1 h2 ⊢
    unfold zf_X9_lays_l62
    rw [if_pos z5, show (1 : Int32) = nI 1 from rfl, gsub (by omega), nI_clamp (by omega), hL.1, if_pos (Int32.le_refl _)]
    exact ⟨_, rfl, by rw [eJ]; exact h1, h2⟩
theorem glays {g : gG} (hok : gOk g) {fc fr : Int32} {ct cs : Nat → Int32} (hM : gRM g fc fr ct cs) {il : Int32} {mn nb pl : Nat → Int32} {wy jn : Nat → Int64} (hL : gLd g il mn nb pl wy jn) (lb ol io fo gv : Nat → Int32) : ∃ mn' nb' wy' pl' lb' ol' io' fo' jn' gv', zf_X9_lays fc fr il ct cs mn nb wy pl lb ol io fo jn gv = some ((1 : Int32), mn', nb', wy', pl', lb', ol', io', fo', jn', gv') ∧ gLd g 1 mn' nb' pl' wy' jn' := by
  have hw := hok.1
  have hr5 := hw.2.1
  unfold zf_X9_lays
  rcases hL.2.1 with h0 | h1
  · rw [if_pos h0]
    have hH := gitH (f := fun d : Int32 × (Nat → Int32) × (Nat → Int32) × (Nat → Int64) × (Nat → Int32) × (Nat → Int32) × (Nat → Int32) × (Nat → Int32) × (Nat → Int32) × (Nat → Int32) => zf_X9_lays_l15 fc fr ct cs d.1 d.2.1 d.2.2.1 d.2.2.2.1 d.2.2.2.2.1 d.2.2.2.2.2.1 d.2.2.2.2.2.2.1 d.2.2.2.2.2.2.2.1 d.2.2.2.2.2.2.2.2.1 d.2.2.2.2.2.2.2.2.2) (fun j d => d.1 = nI j ∧ (∀ i, i < 100000 → d.2.2.2.2.1 i = 0) ∧ ∀ y, y < j → gRowL g y d.2.1 d.2.2.1 d.2.2.2.1) (fun d => (∀ i, i < 100000 → d.2.2.2.1 i = 0) ∧ ∀ y, y < g.2.1 → gRowL g y d.1 d.2.1 d.2.2.1) g.2.1 (n := zfu) (gfu (by omega)) (a := ((0 : Int32), mn, nb, wy, pl, lb, ol, io, fo, gv)) ⟨rfl, hL.1, fun y hy => by omega⟩ ?_ ?_
    · obtain ⟨⟨mn', nb', wy', pl', lb', ol', io', fo', gv'⟩, e, k1, k2⟩ := hH
      dsimp only at k1 k2
      rw [e, Option.bind_some]
      dsimp only
      have hJ := gitH (f := fun d : Int32 × (Nat → Int64) => zf_X9_lays_l47 fc fr mn' nb' wy' ((300 : Int32) * (fr - (1 : Int32))) d.1 d.2) (fun j d => d.1 = nI j ∧ ∀ k, k < j → d.2 k = lN (gJ g k)) (fun d => ∀ k, k < 25 → d k = lN (gJ g k)) 25 (n := zfu) (gfu (by omega)) (a := ((0 : Int32), jn)) ⟨rfl, fun k h => by omega⟩ ?_ ?_
      · obtain ⟨jn', e2, k3⟩ := hJ
        rw [e2, Option.bind_some]
        exact ⟨_, _, _, _, _, _, _, _, _, _, rfl, k1, Or.inr rfl, fun _ => ⟨k3, k2⟩⟩
      · rintro j ⟨x, w⟩ hj ⟨rfl, h⟩
        dsimp only at h ⊢
        unfold zf_X9_lays_l47
        have kk : (300 : Int32) * (fr - 1) = nI (300 * (g.2.1 - 1)) := by rw [hM.2.1, show (1 : Int32) = nI 1 from rfl, gsub (by omega), show (300 : Int32) = nI 300 from rfl, gmul]
        obtain ⟨jn', e2, j1, j2⟩ := gjoins9 hok (k2 (g.2.1 - 1) (by omega)) hj (vp_updL w j 0) guLS
        rw [if_neg (by rw [show (25 : Int32) = nI 25 from rfl, nI_leI (by omega) (by omega)]; omega), if_pos (ggN hj (by decide)), nI_clamp (by omega), kk, hM.1, hM.2.1, e2, Option.bind_some, nI_1]
        refine ⟨_, rfl, rfl, fun k hk => ?_⟩
        dsimp only
        by_cases e3 : k = j
        · rw [e3]; exact j1
        · rw [j2 k e3, guLN e3]; exact h k (by omega)
      · rintro ⟨x, w⟩ ⟨rfl, h⟩
        dsimp only at h ⊢
        unfold zf_X9_lays_l47
        rw [if_pos (by decide)]
        exact ⟨_, rfl, h⟩
    · rintro j ⟨x, mn1, nb1, wy1, pl1, lb1, ol1, io1, fo1, gv1⟩ hj ⟨rfl, h1, h2⟩
      dsimp only at h1 h2 ⊢
      unfold zf_X9_lays_l15
      obtain ⟨mn2, nb2, wy2, pl2, lb2, ol2, io2, fo2, gv2, e, p1, p2⟩ := glayRow hok hM hj h1 h2 lb1 ol1 io1 fo1 gv1
      rw [if_neg (by rw [hM.2.1]; exact gle50 (by omega) (by omega) hj), e, Option.bind_some, nI_1]
      exact ⟨_, rfl, rfl, p1, p2⟩
    · rintro ⟨x, mn1, nb1, wy1, pl1, lb1, ol1, io1, fo1, gv1⟩ ⟨rfl, h1, h2⟩
      dsimp only at h1 h2 ⊢
      unfold zf_X9_lays_l15
      rw [hM.2.1, if_pos (Int32.le_refl _)]
      exact ⟨_, rfl, h1, h2⟩
  · rw [h1, if_neg (by decide)]
    refine ⟨_, _, _, _, _, _, _, _, _, _, rfl, hL.1, Or.inr rfl, fun _ => hL.2.2 h1⟩
