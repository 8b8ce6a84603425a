/-! parted, likeliest -/
theorem gle6 {j : Nat} (h : j < 6) : ¬ (6 : Int32) ≤ nI j := gle50 (a := 6) (by decide) (by omega) h
theorem gle24 {j : Nat} (h : j < 24) : ¬ (24 : Int32) ≤ nI j := gle50 (a := 24) (by decide) (by omega) h
theorem gle25 {j : Nat} (h : j < 25) : ¬ (25 : Int32) ≤ nI j := gle50 (a := 25) (by decide) (by omega) h
theorem gl50 {j : Nat} (h : j < 50) : ¬ (50 : Int32) ≤ nI j := gle50 (a := 50) (by decide) (by omega) h
theorem gle200 {j : Nat} (h : j < 200) : ¬ (200 : Int32) ≤ nI j := gle50 (a := 200) (by decide) (by omega) h
def gMx (f : Nat → Nat) : Nat → Nat
  | 0 => 0
  | n + 1 => max (gMx f n) (f n)
theorem gMx_le {f : Nat → Nat} {n m : Nat} : gMx f n ≤ m ↔ ∀ i, i < n → f i ≤ m := by
  induction n with
  | zero => exact ⟨fun _ i hi => absurd hi (by omega), fun _ => Nat.zero_le _⟩
  | succ n ih =>
    show max (gMx f n) (f n) ≤ m ↔ _
    rw [Nat.max_le, ih]
    constructor
    · rintro ⟨a, b⟩ i hi
      by_cases e : i = n
      · rw [e]; exact b
      · exact a i (by omega)
    · intro h
      exact ⟨fun i hi => h i (by omega), h n (by omega)⟩
theorem gMx_mem {f : Nat → Nat} {n i : Nat} (h : i < n) : f i ≤ gMx f n := gMx_le.mp (Nat.le_refl _) i h
theorem gMx_cong {f f' : Nat → Nat} {n : Nat} (h : ∀ i, i < n → f i = f' i) : gMx f n = gMx f' n := by
  refine Nat.le_antisymm (gMx_le.mpr fun i hi => ?_) (gMx_le.mpr fun i hi => ?_)
  · rw [h i hi]; exact gMx_mem hi
  · rw [← h i hi]; exact gMx_mem hi
def gD0 (d : Nat → Nat) (x : Nat) : Nat := if d x = 9 then 0 else d x
theorem gETr : ∀ c : Fin 6, ∀ m : Fin 32, (gT c.val).all (fun k => !gGd c.val m.val.testBit k || Nat.beq (gMx (gLk k) c.val) (gct m.val.testBit c.val + gMx (gD0 (gDg c.val m.val.testBit k)) c.val)) = true := by decide +kernel
theorem gMxE {g : gG} (hw : gWf g) {row s : Nat} (hs : s < gSz g.1) (h : gGood g row s) : gMx (gLb g.1 s) g.1 = gct (gSt g row) g.1 + gMx (gD0 (gDig g row s)) g.1 := by
  have hc := hw.1.2
  obtain ⟨m, hm, hb⟩ := gmask (gSt g row)
  have hb' : ∀ y, y < g.1 → m.testBit y = gSt g row y := fun y hy => hb y (by omega)
  have gd : gGd g.1 (gSt g row) (gCd g.1 s) = true := h
  rw [← gGd_c hb'] at gd
  have t := List.all_eq_true.mp (gETr ⟨g.1, by omega⟩ ⟨m, hm⟩) (gCd g.1 s) (gmemT hs)
  dsimp only at t
  rw [gd, Bool.not_true, Bool.false_or] at t
  have q := gbeqI.mp t
  rw [gct_cong hb', gMx_cong (f := gD0 (gDg g.1 m.testBit (gCd g.1 s))) (f' := gD0 (gDig g row s)) (fun x hx => by unfold gD0; rw [gDg_c hb' _ hx]; rfl)] at q
  exact q
theorem ggreatC {g : gG} (hw : gWf g) {cd : Nat → Int32} (hcd : ∀ s, s < gSz g.1 → cd s = nI (gCd g.1 s)) {s : Nat} (hs : s < gSz g.1) : zf_X4_greatest (nI g.1) cd (nI s) = some (nI (gMx (gLb g.1 s) g.1)) := by
  have hc := hw.1
  have hz := gSzle hw.1.2
  unfold zf_X4_greatest zf_X4_greatestBefore
  rw [if_pos (ggN (by omega) (by decide)), nI_clamp (by omega), hcd s hs]
  have e := gitr (f := fun d : Int32 × Int32 => zf_X4_greatestBefore_l4 (nI (gCd g.1 s)) (nI g.1) d.1 d.2) (fun j => (nI (gMx (gLb g.1 s) j), nI j)) g.1 (n := zfu) (b := nI (gMx (gLb g.1 s) g.1)) (gfu (by omega)) ?_ ?_
  · rw [show ((0 : Int32), (0 : Int32)) = (nI (gMx (gLb g.1 s) 0), nI 0) from rfl, e]
    rfl
  · intro j hj
    obtain ⟨l1, l2⟩ := gLbE hw.1.2 hs hj
    have m8 : gMx (gLb g.1 s) j ≤ 8 := gMx_le.mpr fun i hi => Nat.le_of_lt (gLbE hw.1.2 hs (by omega)).2
    dsimp only
    unfold zf_X4_greatestBefore_l4
    rw [if_neg (gle50 (by omega) (by omega) hj), l1, Option.bind_some, nI_1]
    show _ = some (Sum.inl (nI (max (gMx (gLb g.1 s) j) (gLb g.1 s j)), nI (j + 1)))
    by_cases q : gMx (gLb g.1 s) j < gLb g.1 s j
    · rw [if_pos ((nI_ltI (by omega) (by omega)).mpr q), Nat.max_eq_right (Nat.le_of_lt q)]
    · rw [if_neg (fun h => q ((nI_ltI (by omega) (by omega)).mp h)), Nat.max_eq_left (by omega)]
  · dsimp only
    unfold zf_X4_greatestBefore_l4
    rw [if_pos (Int32.le_refl _)]
theorem ggreatM {g : gG} (hw : gWf g) {row s : Nat} (hs : s < gSz g.1) (h : gGood g row s) : zf_X9_greatest (nI (gNum g row s g.1)) = some (nI (gMx (gD0 (gDig g row s)) g.1)) := by
  have hc := hw.1
  have lt := gDig10 hw hs h
  obtain ⟨-, -, d3⟩ := gDigE hw hs h
  have dg : ∀ j, j < g.1 → gNum g row s g.1 / 10 ^ j % 10 = gDig g row s (g.1 - 1 - j) := fun j hj => by
    have := gdigR hw hs h (x := g.1 - 1 - j) (by omega)
    rw [show g.1 - 1 - (g.1 - 1 - j) = j by omega] at this
    exact this
  have nz : gNum g row s g.1 / 10 ^ g.1 = 0 := by
    rw [gNum_nv]
    exact Nat.div_eq_of_lt (gNv_lt fun x hx => d3 x hx)
  have R : ∀ j, j ≤ g.1 → gNum g row s g.1 / 10 ^ j = 0 → gMx (fun i => gD0 (gDig g row s) (g.1 - 1 - i)) j = gMx (gD0 (gDig g row s)) g.1 := by
    intro j hj hz
    refine Nat.le_antisymm (gMx_le.mpr fun i hi => gMx_mem (by omega)) (gMx_le.mpr fun x hx => ?_)
    by_cases q : g.1 - 1 - x < j
    · have := gMx_mem (f := fun i => gD0 (gDig g row s) (g.1 - 1 - i)) q
      rw [show g.1 - 1 - (g.1 - 1 - x) = x by omega] at this
      exact this
    · have e0 : gNum g row s g.1 / 10 ^ (g.1 - 1 - x) = 0 := by
        rw [show g.1 - 1 - x = j + (g.1 - 1 - x - j) by omega, Nat.pow_add, ← Nat.div_div_eq_div_mul, hz, Nat.zero_div]
      have e1 := dg (g.1 - 1 - x) (by omega)
      rw [e0, show g.1 - 1 - (g.1 - 1 - x) = x by omega] at e1
      have e2 : gD0 (gDig g row s) x = 0 := by unfold gD0; rw [← e1]; rfl
      rw [e2]
      exact Nat.zero_le _
  unfold zf_X9_greatest
  have hW := gitW (f := fun d : Int32 × Int32 => zf_X9_greatest_l4 d.1 d.2) (fun a => ∃ j, j ≤ g.1 ∧ a = (nI (gMx (fun i => gD0 (gDig g row s) (g.1 - 1 - i)) j), nI (gNum g row s g.1 / 10 ^ j))) (fun a => a.2.toNatClampNeg) (fun b => b = nI (gMx (gD0 (gDig g row s)) g.1)) ?_ zfu ((0 : Int32), nI (gNum g row s g.1)) ⟨0, Nat.zero_le _, by rw [Nat.pow_zero, Nat.div_one]; rfl⟩ (by
    show (nI (gNum g row s g.1)).toNatClampNeg < zfu
    rw [nI_clamp (by omega)]
    exact gfu (by omega))
  · obtain ⟨b, e, rfl⟩ := hW
    rw [e]
    rfl
  · rintro a ⟨j, hj, rfl⟩
    have hb : gNum g row s g.1 / 10 ^ j < 100000 := Nat.lt_of_le_of_lt (Nat.div_le_self _ _) lt
    dsimp only
    unfold zf_X9_greatest_l4 zf_X9_greatest_32 zf_X9_greatest_33
    by_cases z : gNum g row s g.1 / 10 ^ j = 0
    · right
      rw [z, if_pos (show nI 0 ≤ (0 : Int32) by decide)]
      exact ⟨_, rfl, by rw [R j hj z]⟩
    · left
      have j1 : j < g.1 := by
        by_cases q : j = g.1
        · rw [q] at z; exact absurd nz z
        · omega
      have d9 := d3 (g.1 - 1 - j) (by omega)
      have mle : gMx (fun i => gD0 (gDig g row s) (g.1 - 1 - i)) j ≤ 9 := gMx_le.mpr fun i hi => by
        show gD0 (gDig g row s) (g.1 - 1 - i) ≤ 9
        unfold gD0
        by_cases q : gDig g row s (g.1 - 1 - i) = 9
        · rw [if_pos q]; omega
        · rw [if_neg q]; exact d3 _ (by omega)
      rw [if_neg (nI_nle (Nat.pos_of_ne_zero z) (by omega)), show (10 : Int32) = nI 10 from rfl, grem (by omega) (by decide), gdiv (by omega) (by decide), dg j j1, Nat.div_div_eq_div_mul, ← Nat.pow_succ]
      have nx : gMx (fun i => gD0 (gDig g row s) (g.1 - 1 - i)) (j + 1) = max (gMx (fun i => gD0 (gDig g row s) (g.1 - 1 - i)) j) (gD0 (gDig g row s) (g.1 - 1 - j)) := rfl
      have dec : (nI (gNum g row s g.1 / 10 ^ (j + 1))).toNatClampNeg < (nI (gNum g row s g.1 / 10 ^ j)).toNatClampNeg := by
        have l2 : gNum g row s g.1 / 10 ^ (j + 1) < gNum g row s g.1 / 10 ^ j := by
          rw [Nat.pow_succ, ← Nat.div_div_eq_div_mul]
          exact Nat.div_lt_self (Nat.pos_of_ne_zero z) (by decide)
        rw [nI_clamp (by omega), nI_clamp (by omega)]
        exact l2
      have fin : ∀ v, v = nI (max (gMx (fun i => gD0 (gDig g row s) (g.1 - 1 - i)) j) (gD0 (gDig g row s) (g.1 - 1 - j))) → ∃ a', some (Sum.inl (v, nI (gNum g row s g.1 / 10 ^ (j + 1))) : (Int32 × Int32) ⊕ Int32) = some (Sum.inl a') ∧ (∃ j, j ≤ g.1 ∧ a' = (nI (gMx (fun i => gD0 (gDig g row s) (g.1 - 1 - i)) j), nI (gNum g row s g.1 / 10 ^ j))) ∧ a'.2.toNatClampNeg < (nI (gNum g row s g.1 / 10 ^ j)).toNatClampNeg := fun v hv => ⟨_, rfl, ⟨j + 1, by omega, by rw [hv, nx]⟩, dec⟩
      by_cases q : gDig g row s (g.1 - 1 - j) = 9
      · rw [if_pos (by rw [q]; rfl)]
        exact fin _ (by unfold gD0; rw [if_pos q, Nat.max_eq_left (Nat.zero_le _)])
      · rw [if_neg (by rw [show (9 : Int32) = nI 9 from rfl, nI_eq (by omega) (by decide)]; exact q)]
        have e0 : gD0 (gDig g row s) (g.1 - 1 - j) = gDig g row s (g.1 - 1 - j) := by unfold gD0; rw [if_neg q]
        by_cases r : gDig g row s (g.1 - 1 - j) ≤ gMx (fun i => gD0 (gDig g row s) (g.1 - 1 - i)) j
        · rw [if_pos ((nI_leI (by omega) (by omega)).mpr r)]
          exact fin _ (by rw [e0, Nat.max_eq_left r])
        · rw [if_neg (fun h => r ((nI_leI (by omega) (by omega)).mp h))]
          exact fin _ (by rw [e0, Nat.max_eq_right (by omega)])
theorem gallW {wy : Nat → Int64} {K : Nat} {W : Nat → Nat} (hK : K < 1500) (h : ∀ k, k < 25 → wy (25 * K + k) = lN (W k)) : zf_X9_allWays wy (nI K) = some (lN (gSum W 25)) := by
  unfold zf_X9_allWays
  rw [gsumL (f := fun d : Int64 × Int32 => zf_X9_allWays_l5 wy (nI K) d.1 d.2) W 25 (by decide) (fun j v hj => ?_) (fun v => ?_)]
  · rfl
  · dsimp only
    unfold zf_X9_allWays_l5
    rw [if_neg (gle25 hj), show (25 : Int32) = nI 25 from rfl, gmul, nI_add, if_pos (ggN (by omega) (by decide)), nI_clamp (by omega), h j hj, nI_1]
  · dsimp only
    unfold zf_X9_allWays_l5
    rw [if_pos (by decide)]
theorem gct_win (f : Nat → Bool) (a n : Nat) : ∀ m, a + n ≤ m → gct (fun j => decide (a ≤ j) && decide (j < a + n) && f j) m = gct (fun x => f (a + x)) n := by
  have low : ∀ b, b ≤ a → gct (fun j => decide (a ≤ j) && decide (j < a + n) && f j) b = 0 := by
    intro b
    induction b with
    | zero => intro _; rfl
    | succ b ih =>
      intro hb
      rw [gctS, ih (by omega), decide_eq_false (show ¬ a ≤ b by omega)]
      rfl
  have mid : ∀ q, q ≤ n → gct (fun j => decide (a ≤ j) && decide (j < a + n) && f j) (a + q) = gct (fun x => f (a + x)) q := by
    intro q
    induction q with
    | zero => intro _; rw [Nat.add_zero, low a (Nat.le_refl _)]; rfl
    | succ q ih =>
      intro hq
      rw [← Nat.add_assoc, gctS, gctS, ih (by omega), decide_eq_true (show a ≤ a + q by omega), decide_eq_true (show a + q < a + n by omega)]
      rfl
  intro m hm
  rw [← mid n (Nat.le_refl _)]
  exact gct_stop m (fun i hi => by rw [decide_eq_false (show ¬ i < a + n by omega), Bool.and_false]; rfl) hm
theorem gct_cut {f : Nat → Bool} {a b : Nat} (hab : a ≤ b) (h : ∀ i, a ≤ i → i < b → f i = false) : gct f b = gct f a := by
  obtain ⟨k, rfl⟩ : ∃ k, b = a + k := ⟨b - a, by omega⟩
  clear hab
  induction k with
  | zero => rfl
  | succ k ih => rw [← Nat.add_assoc, gctS, ih (fun i h1 h2 => h i h1 (by omega)), h (a + k) (by omega) (by omega)]; rfl
theorem g341 : ∀ j : Fin 64, gbt 341 j.val = (decide (j.val < 10) && decide (j.val % 2 = 0)) := by decide +kernel
theorem gstIn {g : gG} (hw : gWf g) {d : zGD} (hx : gRX g d) {row : Nat} (hr : row < g.2.1) : zf_X2_stonesIn d.2.2.2.2.1 (nI row) = some (nI (gct (gSt g row) g.1)) := by
  have hr5 := hw.2.1.2
  have hc := hw.1
  unfold zf_X2_stonesIn
  rw [show (10 : Int32) = nI 10 from rfl, gmul, gbc, Option.bind_some]
  congr 2
  have e : gcn (d.2.2.2.2.1 &&& zlshl 341 (nI (10 * row))) = gct (fun i => decide (i % 2 = 0) && (decide (5 * row ≤ i / 2) && decide (i / 2 < 5 * row + 5) && g.2.2.2 (i / 2))) (2 * 32) := by
    refine gct_cong (fun i hi => ?_)
    rw [gbt_and, (hx.2.2.1 i (by omega)).2.2, gbt_shl 341 i (show 10 * row < 64 by omega), decide_eq_true (show i < 64 by omega), Bool.true_and]
    by_cases ev : i % 2 = 0
    · rw [decide_eq_true ev, Bool.true_and, Bool.true_and, show gFr i = i / 2 by unfold gFr; omega]
      by_cases a : 10 * row ≤ i
      · have t := g341 ⟨i - 10 * row, by omega⟩
        dsimp only at t
        rw [decide_eq_true a, Bool.true_and, t, decide_eq_true (show (i - 10 * row) % 2 = 0 by omega), Bool.and_true, decide_eq_true (show 5 * row ≤ i / 2 by omega), Bool.true_and, decide_eq_decide.mpr (show i - 10 * row < 10 ↔ i / 2 < 5 * row + 5 by omega), Bool.and_comm]
      · rw [decide_eq_false a, decide_eq_false (show ¬ 5 * row ≤ i / 2 by omega)]
        simp
    · rw [decide_eq_false ev]
      simp
  rw [e, gct2 (st := fun j => decide (5 * row ≤ j) && decide (j < 5 * row + 5) && g.2.2.2 j) (fun j => by rw [show 2 * j / 2 = j by omega, show decide (2 * j % 2 = 0) = true from by simp]; rfl) (fun j => by rw [show decide ((2 * j + 1) % 2 = 0) = false from decide_eq_false (by omega)]; rfl) 32, gct_win g.2.2.2 (5 * row) 5 32 (by omega)]
  exact gct_cut hc.2 (fun x h1 h2 => by
    cases hh : g.2.2.2 (5 * row + x) with
    | false => rfl
    | true =>
      have := hw.2.2.2 _ hh
      omega)
theorem gTot_z {g : gG} {row s : Nat} (h : ∀ k, gW g row s k = 0) : gTot g row s = 0 := gSum_z fun k _ => h k
theorem gSts_of {g : gG} {row s : Nat} (hs : s < gSz g.1) (h : gTot g row s ≠ 0) : s ∈ gSts g row := gSts_mem.mpr ⟨hs, by omega⟩
def gPaF (g : gG) (row : Nat) (x : Int32) (s : Nat) : Nat := if nI (gMx (gD0 (gDig g row s)) g.1) = x then gTot g row s else 0
theorem gpartM {g : gG} (hok : gOk g) {M : gD9} (m1 : M.1 = 1) (m2 : gLdD g M) {row : Nat} (hr : row < g.2.1) (x2 : Int32) : zit (fun d : Int64 × Int32 => zf_X9_parted_l35 M.2.1 M.2.2.1 M.2.2.2.1 (nI row) x2 d.1 d.2) zfu ((0 : Int64), (0 : Int32)) = some (lN (gSum (gPaF g row x2) (gSz g.1))) := by
  have hw := hok.1
  have hr5 := hw.2.1
  have hlen := gSts_len hw row
  have hL := gLdR m1 m2 hr
  rw [← gSts_sum hok hr (gPaF g row x2) (fun s hs => by unfold gPaF; rw [gTot_z hs]; exact ite_self 0)]
  refine gsumL _ _ (by omega) (fun j v hj => ?_) (fun v => ?_)
  · obtain ⟨a1, a2⟩ := hL.2 j _ (ggetD hj)
    obtain ⟨b1, b2⟩ := gSts_good hok hr (List.mem_of_getElem? (ggetD hj))
    dsimp only
    unfold zf_X9_parted_l35 zf_X9_parted_83
    rw [if_pos (ggN (by omega) (by decide)), nI_clamp (by omega), hL.1, if_neg (gle50 (by omega) (by omega) hj), show (300 : Int32) = nI 300 from rfl, gmul, nI_add, if_pos (ggN (by omega) (by decide)), nI_clamp (by omega), a1, ggreatM hw b1 b2, Option.bind_some, gallW (by omega) a2, Option.bind_some, nI_1]
    unfold gPaF
    by_cases q : nI (gMx (gD0 (gDig g row ((gSts g row).getD j 0))) g.1) = x2
    · rw [if_pos q, if_pos q]
      rfl
    · rw [if_neg q, if_neg q]
      rfl
  · dsimp only
    unfold zf_X9_parted_l35
    rw [if_pos (ggN (by omega) (by decide)), nI_clamp (by omega), hL.1, if_pos (Int32.le_refl _)]
theorem gpartC {g : gG} (hok : gOk g) {cn tt : Nat → Int64} {fd : Nat → Int32} {jn : Nat → Int64} (hF : gFl g cn tt fd jn) {cd : Nat → Int32} (hcd : ∀ s, s < gSz g.1 → cd s = nI (gCd g.1 s)) {row : Nat} (hr : row < g.2.1) (x2 : Int32) : zit (fun e : Int64 × Int32 => zf_X8_parted_l26 (nI g.1) (nI (gSz g.1)) 5 cd tt 660 (nI row) x2 (nI (gct (gSt g row) g.1)) e.1 e.2) zfu ((0 : Int64), (0 : Int32)) = some (lN (gSum (gPaF g row x2) (gSz g.1))) := by
  have hw := hok.1
  have hr5 := hw.2.1
  have hz := gSzle hw.1.2
  refine gsumL _ _ (by omega) (fun j v hj => ?_) (fun v => ?_)
  · dsimp only
    unfold zf_X8_parted_l26 zf_X8_parted_66
    rw [if_neg (gle50 (by omega) (by omega) hj), ggreatC hw hcd hj, Option.bind_some, gtotalOf hw hF hr hj, Option.bind_some, nI_1]
    unfold gPaF
    by_cases z : gTot g row j = 0
    · rw [z, ite_self, show lN 0 = (0 : Int64) from rfl, Int64.add_zero, ite_self]
    · have gd := (gSts_good hok hr (gSts_of hj z)).2
      have e := gMxE hw hj gd
      rw [gsub (show gct (gSt g row) g.1 ≤ gMx (gLb g.1 j) g.1 by omega), show gMx (gLb g.1 j) g.1 - gct (gSt g row) g.1 = gMx (gD0 (gDig g row j)) g.1 by omega]
      by_cases q : nI (gMx (gD0 (gDig g row j)) g.1) = x2
      · rw [if_pos q, if_pos q]
      · rw [if_neg q, if_neg q, show lN 0 = (0 : Int64) from rfl, Int64.add_zero]
  · dsimp only
    unfold zf_X8_parted_l26
    rw [if_pos (Int32.le_refl _)]
theorem gP19_ok : gP19 gInv := by
  intro xi xu fg xh xk ac LG G mi mh mk h x1 x2
  obtain ⟨g, past, h1, h2, h3, h4, h5, h6, h7⟩ := h
  obtain ⟨hok, hg, hx, hm⟩ := id h3
  have b5 : xi 11 = 5 := h5.2.1
  unfold zf_X8_parted zf_X9_parted
  rcases gdrow hok.1 hx x1 with ⟨Y, hY, rfl, e1, e2⟩ | ⟨e1, e2⟩
  · rw [← hm.2.1] at e2
    obtain ⟨M, eM, m1, m2⟩ := glaysD hok hm (mi 10, mh 12, mh 13, mk 0, mh 14, mh 15, mh 16, mh 10, mh 17, mk 1, mh 18) h6
    dsimp only at eM
    obtain ⟨T, eT, hT, cT⟩ := gcountD hok hg hx h5
    have eC := gpartC hok hT.2.2.2.2.2.2 hT.2.2.2.2.1 hY x2
    rw [← hT.2.2.1, ← hT.1] at eC
    rw [e1, e2, Option.bind_some, Option.bind_some, if_neg (show ¬ (1 : Int32) = 0 by decide)]
    dsimp only [Sum.elim_inl]
    unfold zf_X9_parted_14
    rw [if_pos (show (0 : Int32) ≤ 0 by decide), eM, Option.bind_some, eT, Option.bind_some, b5, gstIn hok.1 hx hY, Option.bind_some, eC, Option.bind_some, gpartM hok m1 m2 hY x2, Option.bind_some]
    exact ⟨_, _, rfl, rfl, Or.inl ⟨_, rfl, rfl, rfl, g, past, h1, h2, h3, h4, cT, m2, h7⟩⟩
  · rw [← hm.2.1] at e2
    rw [e1, e2, Option.bind_some, Option.bind_some, if_pos rfl]
    dsimp only [Sum.elim_inr]
    unfold zf_X9_parted_14
    rw [if_neg (show ¬ (1 : Int32) ≤ 0 by decide)]
    exact ⟨_, _, rfl, rfl, Or.inr ⟨_, rfl, ⟨rfl, rfl⟩, g, past, h1, h2, h3, h4, gCcS h5, h6, h7⟩⟩
/-- the first of the greatest, going through a list -/
def gBst (t : Nat → Nat) : Nat → Nat × Nat
  | 0 => (0, 0)
  | n + 1 => if (gBst t n).1 < t n then (t n, n) else gBst t n
theorem gBst_le {t : Nat → Nat} {b n : Nat} (h : ∀ i, i < n → t i ≤ b) : (gBst t n).1 ≤ b ∧ (gBst t n).2 ≤ n ∧ (0 < n → (gBst t n).2 < n) := by
  induction n with
  | zero => exact ⟨Nat.zero_le _, Nat.le_refl _, fun h => absurd h (by omega)⟩
  | succ n ih =>
    obtain ⟨a, b, c⟩ := ih fun i hi => h i (by omega)
    have hn := h n (by omega)
    show (if (gBst t n).1 < t n then (t n, n) else gBst t n).1 ≤ _ ∧ (if (gBst t n).1 < t n then (t n, n) else gBst t n).2 ≤ _ ∧ (_ → (if (gBst t n).1 < t n then (t n, n) else gBst t n).2 < _)
    by_cases q : (gBst t n).1 < t n
    · rw [if_pos q]; exact ⟨hn, Nat.le_succ n, fun _ => Nat.lt_succ_self n⟩
    · rw [if_neg q]
      exact ⟨a, by omega, fun _ => by omega⟩
theorem gBst_t {t : Nat → Nat} {n : Nat} (h0 : 0 < t 0) : 0 < n → (gBst t n).1 = t (gBst t n).2 := by
  induction n with
  | zero => intro h; omega
  | succ n ih =>
    intro _
    show (if (gBst t n).1 < t n then (t n, n) else gBst t n).1 = t (if (gBst t n).1 < t n then (t n, n) else gBst t n).2
    by_cases q : (gBst t n).1 < t n
    · rw [if_pos q]
    · rw [if_neg q]
      by_cases z : n = 0
      · subst z
        exact absurd h0 q
      · exact ih (by omega)
def gTl (g : gG) (row i : Nat) : Nat := gTot g row ((gSts g row).getD i 0)
theorem gTl_le {g : gG} (hok : gOk g) {row : Nat} (hr : row < g.2.1) {i : Nat} (hi : i < (gSts g row).length) : gTl g row i ≤ 2 ^ 24 ∧ 0 < gTl g row i := by
  obtain ⟨a, b⟩ := gSts_mem.mp (List.mem_of_getElem? (ggetD hi))
  exact ⟨gTot_le hok hr a, b⟩
theorem gSts_ne {g : gG} (hok : gOk g) {row : Nat} (hr : row < g.2.1) : 0 < (gSts g row).length := by
  refine Nat.pos_of_ne_zero (fun h => ?_)
  have e : gSum (gTot g row) (gSz g.1) = 2 ^ gFs g (gEnd g row) := gTt_all hok.1 (gEnd_le hok.1 hr) (gFs24 hok (gEnd_le hok.1 hr))
  have z : gSum (gTot g row) (gSz g.1) = 0 := gSum_z fun s hs => by
    by_cases q : gTot g row s = 0
    · exact q
    · have := gSts_of hs q
      rw [List.eq_nil_of_length_eq_zero h] at this
      cases this
  have p : 0 < 2 ^ gFs g (gEnd g row) := Nat.pow_pos (by decide)
  omega
theorem glikC {g : gG} (hok : gOk g) {cn tt : Nat → Int64} {fd : Nat → Int32} {jn : Nat → Int64} (hF : gFl g cn tt fd jn) {row : Nat} (hr : row < g.2.1) : zit (fun d : Int64 × Int32 × Int32 × Int32 => zf_X8_likeliest_l22 (nI (gSz g.1)) 5 tt 660 (nI row) d.1 d.2.1 d.2.2.1 d.2.2.2) zfu ((0 : Int64), (0 : Int32), (0 : Int32), (0 : Int32)) = some (lN (gBst (gTl g row) (gSts g row).length).1, nI (gBst (gTl g row) (gSts g row).length).2) := by
  have hw := hok.1
  have hz := gSzle hw.1.2
  have e := gitr (f := fun d : Int64 × Int32 × Int32 × Int32 => zf_X8_likeliest_l22 (nI (gSz g.1)) 5 tt 660 (nI row) d.1 d.2.1 d.2.2.1 d.2.2.2) (fun j => (lN (gBst (gTl g row) (gct (gPt g row) j)).1, nI (gBst (gTl g row) (gct (gPt g row) j)).2, nI (gct (gPt g row) j), nI j)) (gSz g.1) (n := zfu) (b := (lN (gBst (gTl g row) (gSts g row).length).1, nI (gBst (gTl g row) (gSts g row).length).2)) (gfu (by omega)) ?_ ?_
  · exact e
  · intro j hj
    have t24 := gTot_le hok hr hj
    have cl := gct_mono (gPt g row) (show j ≤ gSz g.1 by omega)
    rw [← gSts_len'] at cl
    have hb := gBst_le (t := gTl g row) (b := 2 ^ 24) (n := gct (gPt g row) j) (fun i hi => (gTl_le hok hr (by omega)).1)
    dsimp only
    unfold zf_X8_likeliest_l22
    rw [if_neg (gle50 (by omega) (by omega) hj), gtotalOf hw hF hr hj, Option.bind_some]
    unfold zf_X8_likeliest_59 zf_X8_likeliest_69
    rw [nI_1, nI_1, gctS]
    by_cases q : gTot g row j = 0
    · rw [q, show gPt g row j = false from decide_eq_false (by omega), if_pos (by rw [lg_cmp_le, lN_le (by decide) (by omega)]; exact Nat.zero_le _), if_pos ((glpos (by decide)).mpr rfl)]
      rfl
    · have pj : gPt g row j = true := decide_eq_true (by omega)
      have li : (gSts g row)[gct (gPt g row) j]? = some j := (gfilG (gPt g row) (gSz g.1)).mpr ⟨hj, pj, rfl⟩
      have tj : gTl g row (gct (gPt g row) j) = gTot g row j := by unfold gTl; rw [List.getD_eq_getElem?_getD, li]; rfl
      rw [pj, if_pos rfl, if_neg (fun h => q ((glpos (by omega)).mp h)), if_neg (fun h => q ((glpos (by omega)).mp h))]
      have nx : gBst (gTl g row) (gct (gPt g row) j + 1) = if (gBst (gTl g row) (gct (gPt g row) j)).1 < gTot g row j then (gTot g row j, gct (gPt g row) j) else gBst (gTl g row) (gct (gPt g row) j) := by rw [← tj]; rfl
      rw [nx]
      by_cases p : (gBst (gTl g row) (gct (gPt g row) j)).1 < gTot g row j
      · rw [if_neg (by rw [lg_cmp_le, lN_le (by omega) (by omega)]; omega), if_pos p]
      · rw [if_pos (by rw [lg_cmp_le, lN_le (by omega) (by omega)]; omega), if_neg p]
  · dsimp only
    unfold zf_X8_likeliest_l22
    rw [if_pos (Int32.le_refl _)]
    rfl
theorem glikM {g : gG} (hok : gOk g) {M : gD9} (m1 : M.1 = 1) (m2 : gLdD g M) {row : Nat} (hr : row < g.2.1) : zit (fun d : Int32 × Int32 => zf_X9_likeliest_l35 M.2.1 M.2.2.2.1 (nI row) d.1 d.2) zfu ((0 : Int32), (1 : Int32)) = some (nI (gBst (gTl g row) (gSts g row).length).2) := by
  have hw := hok.1
  have hr5 := hw.2.1
  have hlen := gSts_len hw row
  have hne := gSts_ne hok hr
  have hL := gLdR m1 m2 hr
  have aw : ∀ i, i < (gSts g row).length → zf_X9_allWays M.2.2.2.1 (nI (300 * row + i)) = some (lN (gTl g row i)) := fun i hi => gallW (by omega) ((hL.2 i _ (ggetD hi)).2)
  have t0 := (gTl_le hok hr hne).2
  have e := gitr (f := fun d : Int32 × Int32 => zf_X9_likeliest_l35 M.2.1 M.2.2.2.1 (nI row) d.1 d.2) (fun j => (nI (gBst (gTl g row) (j + 1)).2, nI (j + 1))) ((gSts g row).length - 1) (n := zfu) (b := nI (gBst (gTl g row) (gSts g row).length).2) (gfu (by omega)) ?_ ?_
  · rw [← e]
    have : (gBst (gTl g row) (0 + 1)).2 = 0 := by
      show (if (0 : Nat) < gTl g row 0 then (gTl g row 0, 0) else (0, 0)).2 = 0
      rw [if_pos t0]
    rw [this]
    rfl
  · intro j hj
    have hb := gBst_le (t := gTl g row) (b := 2 ^ 24) (n := j + 1) (fun i hi => (gTl_le hok hr (by omega)).1)
    have ht := gBst_t (t := gTl g row) (n := j + 1) t0 (by omega)
    have t1 := (gTl_le hok hr (show j + 1 < (gSts g row).length by omega)).1
    dsimp only
    unfold zf_X9_likeliest_l35 zf_X9_likeliest_76
    rw [if_pos (ggN (by omega) (by decide)), nI_clamp (by omega), hL.1, if_neg (gle50 (by omega) (by omega) (show j + 1 < (gSts g row).length by omega)), show (300 : Int32) = nI 300 from rfl, gmul, nI_add, nI_add, aw (j + 1) (by omega), Option.bind_some, aw _ (by have := hb.2.2 (by omega); omega), Option.bind_some, nI_1, ← ht]
    have nx : gBst (gTl g row) (j + 1 + 1) = if (gBst (gTl g row) (j + 1)).1 < gTl g row (j + 1) then (gTl g row (j + 1), j + 1) else gBst (gTl g row) (j + 1) := rfl
    rw [nx]
    by_cases p : (gBst (gTl g row) (j + 1)).1 < gTl g row (j + 1)
    · rw [if_neg (by rw [lg_cmp_le, lN_le (by omega) (by omega)]; omega), if_pos p]
    · rw [if_pos (by rw [lg_cmp_le, lN_le (by omega) (by omega)]; omega), if_neg p]
  · dsimp only
    unfold zf_X9_likeliest_l35
    rw [if_pos (ggN (by omega) (by decide)), nI_clamp (by omega), hL.1, Nat.sub_add_cancel hne, if_pos (Int32.le_refl _)]
theorem gP23_ok : gP23 gInv := by
  intro xi xu fg xh xk ac LG G mi mh mk h x1 x2 hb2
  obtain ⟨g, past, h1, h2, h3, h4, h5, h6, h7⟩ := h
  obtain ⟨hok, hg, hx, hm⟩ := id h3
  have b5 : xi 11 = 5 := h5.2.1
  have hr5 := hok.1.2.1
  unfold zf_X8_likeliest zf_X9_likeliest
  rcases gdrow hok.1 hx x1 with ⟨Y, hY, rfl, e1, e2⟩ | ⟨e1, e2⟩
  · rw [← hm.2.1] at e2
    obtain ⟨M, eM, m1, m2⟩ := glaysD hok hm (mi 10, mh 12, mh 13, mk 0, mh 14, mh 15, mh 16, mh 10, mh 17, mk 1, mh 18) h6
    dsimp only at eM
    obtain ⟨T, eT, hT, cT⟩ := gcountD hok hg hx h5
    have eC := glikC hok hT.2.2.2.2.2.2 hY
    rw [← hT.2.2.1] at eC
    have hlen := gSts_len hok.1 Y
    have hne := gSts_ne hok hY
    have hb := gBst_le (t := gTl g Y) (b := 2 ^ 24) (n := (gSts g Y).length) (fun i hi => (gTl_le hok hY hi).1)
    have hl := hb.2.2 hne
    have aw : zf_X9_allWays M.2.2.2.1 (nI (300 * Y + (gBst (gTl g Y) (gSts g Y).length).2)) = some (lN (gBst (gTl g Y) (gSts g Y).length).1) := by
      rw [gBst_t (gTl_le hok hY hne).2 hne]
      exact gallW (by omega) (((gLdR m1 m2 hY).2 _ _ (ggetD hl)).2)
    rw [e1, e2, Option.bind_some, Option.bind_some, if_neg (show ¬ (1 : Int32) = 0 by decide)]
    dsimp only [Sum.elim_inl]
    unfold zf_X9_likeliest_14
    rw [if_pos (show (0 : Int32) ≤ 0 by decide), eM, Option.bind_some, eT, Option.bind_some, b5, eC, Option.bind_some, glikM hok m1 m2 hY, Option.bind_some, show (300 : Int32) = nI 300 from rfl, gmul, nI_add, aw, Option.bind_some]
    rcases hb2 with rfl | rfl
    · rw [if_pos rfl, if_pos rfl]
      exact ⟨_, _, rfl, rfl, Or.inl ⟨_, rfl, rfl, rfl, g, past, h1, h2, h3, h4, cT, m2, h7⟩⟩
    · rw [if_neg (show ¬ (1 : Int32) = 0 by decide), if_neg (show ¬ (1 : Int32) = 0 by decide)]
      exact ⟨_, _, rfl, rfl, Or.inl ⟨_, rfl, rfl, rfl, g, past, h1, h2, h3, h4, cT, m2, h7⟩⟩
  · rw [← hm.2.1] at e2
    rw [e1, e2, Option.bind_some, Option.bind_some, if_pos rfl]
    dsimp only [Sum.elim_inr]
    unfold zf_X9_likeliest_14
    rw [if_neg (show ¬ (1 : Int32) ≤ 0 by decide)]
    exact ⟨_, _, rfl, rfl, Or.inr ⟨_, rfl, ⟨rfl, rfl⟩, g, past, h1, h2, h3, h4, gCcS h5, h6, h7⟩⟩
