/-! the lattice: moves, steps, fit -/
theorem gMvE {c s x : Nat} (hc : c ≤ 5) (hs : s < gSz c) (hx : x < c) : (zf_X4_cutOff (nI c) (nI (gCd c s)) (nI x) = some (nI (gCd c (gMv c x s))) ∧ gMv c x s < gSz c) ∧ (0 < x → zf_X4_joined (nI c) (nI (gCd c s)) (nI x) = some (nI (gCd c (gMv c (4 + x) s))) ∧ gMv c (4 + x) s < gSz c) := by
  have h1 := List.all_eq_true.mp (gMvT ⟨c, by omega⟩) s (List.mem_range.mpr hs)
  have h2 := List.all_eq_true.mp h1 x (List.mem_range.mpr hx)
  rw [Bool.and_eq_true] at h2
  refine ⟨of_decide_eq_true h2.1, fun h0 => ?_⟩
  have h3 := h2.2
  rw [Bool.or_eq_true] at h3
  rcases h3 with h | h
  · have := of_decide_eq_true h
    omega
  · exact of_decide_eq_true h
theorem gCd15 {c s : Nat} (hc : c ≤ 5) (hs : s < gSz c) : gCd c s < 2 ^ 31 := by
  have h := List.all_eq_true.mp (gSz132 ⟨c, by omega⟩).2 (gCd c s) (by
    unfold gCd
    rw [List.getD_eq_getElem?_getD, List.getElem?_eq_getElem hs]
    exact List.getElem_mem hs)
  have := of_decide_eq_true h
  omega
theorem gidxE {c t : Nat} (hc : c ≤ 5) (ht : t < gSz c) {codes : Nat → Int32} (hcd : ∀ s, s < gSz c → codes s = nI (gCd c s)) : zf_X4_indexOf (nI (gSz c)) codes (nI (gCd c t)) = some (nI t) := by
  refine gidx (cd := gCd c) (gSzle hc) ht (fun i j hij hj => ?_) (fun i hi => ⟨hcd i hi, gCd15 hc hi⟩)
  have h1 := List.all_eq_true.mp (gMono ⟨c, by omega⟩) j (List.mem_range.mpr hj)
  exact of_decide_eq_true (List.all_eq_true.mp h1 i (List.mem_range.mpr hij))
/-- is this place of the table of moves made, with all states before s, and of s the cells before x? -/
def gdn (c s x q : Nat) : Bool := (decide (q / 132 < c) && (decide (q % 132 < s) || (decide (q % 132 = s) && decide (q / 132 < x)))) || (decide (5 ≤ q / 132) && decide (q / 132 - 4 < c) && (decide (q % 132 < s) || (decide (q % 132 = s) && decide (q / 132 - 4 < x))))
def gmk (c : Nat) (w : Nat → Int32) (s x : Nat) : Nat → Int32 := fun q => if gdn c s x q then nI (gMv c (q / 132) (q % 132)) else w q
theorem gdnS {c s x q : Nat} (hc : c ≤ 5) (hs : s < 132) (hx : x < c) : gdn c s (x + 1) q = (gdn c s x q || decide (q = x * 132 + s) || (decide (0 < x) && decide (q = (4 + x) * 132 + s))) := by
  rw [Bool.eq_iff_iff]
  unfold gdn
  simp only [Bool.or_eq_true, Bool.and_eq_true, decide_eq_true_eq]
  omega
theorem gmkS {c s x : Nat} (w : Nat → Int32) (hc : c ≤ 5) (hs : s < 132) (hx : x < c) : gmk c w s (x + 1) = if x = 0 then upd (gmk c w s x) (x * 132 + s) (nI (gMv c x s)) else upd (upd (gmk c w s x) (x * 132 + s) (nI (gMv c x s))) ((4 + x) * 132 + s) (nI (gMv c (4 + x) s)) := by
  funext q
  have h := gdnS (q := q) hc hs hx
  by_cases x0 : x = 0
  · rw [if_pos x0]
    unfold gmk upd
    rw [h]
    by_cases h1 : q = x * 132 + s
    · rw [if_pos h1, if_pos (by simp [h1])]
      congr 2 <;> omega
    · rw [if_neg h1]
      have : (gdn c s x q || decide (q = x * 132 + s) || (decide (0 < x) && decide (q = (4 + x) * 132 + s))) = gdn c s x q := by
        rw [decide_eq_false h1, show decide (0 < x) = false from decide_eq_false (by omega), Bool.or_false, Bool.false_and, Bool.or_false]
      rw [this]
  · rw [if_neg x0]
    unfold gmk upd
    rw [h]
    by_cases h2 : q = (4 + x) * 132 + s
    · rw [if_pos h2, if_pos (by simp [h2]; omega)]
      congr 2 <;> omega
    · rw [if_neg h2]
      by_cases h1 : q = x * 132 + s
      · rw [if_pos h1, if_pos (by simp [h1])]
        congr 2 <;> omega
      · rw [if_neg h1]
        have : (gdn c s x q || decide (q = x * 132 + s) || (decide (0 < x) && decide (q = (4 + x) * 132 + s))) = gdn c s x q := by simp [h1, h2]
        rw [this]
theorem gmkN {c s : Nat} (w : Nat → Int32) (hc : c ≤ 5) : gmk c w s c = gmk c w (s + 1) 0 := by
  funext q
  unfold gmk
  have : gdn c s c q = gdn c (s + 1) 0 q := by
    rw [Bool.eq_iff_iff]
    unfold gdn
    simp only [Bool.or_eq_true, Bool.and_eq_true, decide_eq_true_eq]
    omega
  rw [this]
theorem gmk0 (c : Nat) (w : Nat → Int32) : gmk c w 0 0 = w := by
  funext q
  unfold gmk
  have : gdn c 0 0 q = false := by
    rw [← Bool.not_eq_true]
    unfold gdn
    simp only [Bool.or_eq_true, Bool.and_eq_true, decide_eq_true_eq]
    omega
  rw [this]
  rfl
theorem gmoves {c : Nat} (hc : 1 ≤ c ∧ c ≤ 5) {codes : Nat → Int32} (hcd : ∀ s, s < gSz c → codes s = nI (gCd c s)) (w : Nat → Int32) : zf_X4_makeMoves (nI c) (nI (gSz c)) codes w = some (gmk c w (gSz c) 0) := by
  have hz := gSzle hc.2
  unfold zf_X4_makeMoves
  have e := gitr (f := fun d : Int32 × (Nat → Int32) => zf_X4_makeMoves_l2 (nI c) (nI (gSz c)) codes d.1 d.2) (fun s => (nI s, gmk c w s 0)) (gSz c) (n := zfu) (b := gmk c w (gSz c) 0) (gfu (by omega)) ?_ ?_
  · rw [show ((0 : Int32), w) = (nI 0, gmk c w 0 0) from by rw [gmk0]; rfl, e]
    rfl
  · intro s hs
    dsimp only
    unfold zf_X4_makeMoves_l2
    rw [if_neg (gle50 (by omega) (by omega) hs), nI_1]
    have z : zgd (nI s) 132 = true := ggN (by omega) (by decide)
    have e2 := gitr (f := fun d : Int32 × (Nat → Int32) => zf_X4_makeMoves_l12 (nI c) (nI (gSz c)) codes (nI s) d.1 d.2) (fun x => (nI x, gmk c w s x)) c (n := zfu) (b := gmk c w s c) (gfu (by omega)) ?_ ?_
    · rw [show ((0 : Int32), gmk c w s 0) = (nI 0, gmk c w s 0) from rfl, e2, gmkN w hc.2]
      rfl
    · intro x hx
      dsimp only
      unfold zf_X4_makeMoves_l12 zf_X4_makeMoves_81 zf_X4_rightSlot
      obtain ⟨⟨m1, m2⟩, m3⟩ := gMvE hc.2 hs hx
      have k1 : nI x * 132 + nI s = nI (x * 132 + s) := by rw [show (132 : Int32) = nI 132 from rfl, gmul, nI_add]
      have k2 : (4 + nI x) * 132 + nI s = nI ((4 + x) * 132 + s) := by rw [show (4 : Int32) = nI 4 from rfl, show (132 : Int32) = nI 132 from rfl, nI_add, gmul, nI_add]
      rw [if_neg (gle50 (by omega) (by omega) hx), if_pos z, nI_clamp (by omega), hcd s hs, m1, Option.bind_some, gidxE hc.2 m2 hcd, Option.bind_some, k1, if_pos (ggN (by omega) (by decide)), nI_clamp (by omega), nI_1, gmkS w hc.2 (by omega) hx]
      simp only [Option.bind_some, z, if_true, k2]
      by_cases x0 : x = 0
      · rw [if_pos x0, if_pos (by rw [x0]; decide)]
      · have c0 : ¬ nI x ≤ 0 := by
          rw [show (0 : Int32) = nI 0 from rfl, nI_leI (by omega) (by decide)]
          omega
        obtain ⟨m4, m5⟩ := m3 (by omega)
        rw [if_neg x0, if_neg c0, m4, Option.bind_some, gidxE hc.2 m5 hcd, Option.bind_some, if_pos (ggN (by omega) (by decide)), nI_clamp (by omega)]
    · dsimp only
      unfold zf_X4_makeMoves_l12
      rw [if_pos (Int32.le_refl _)]
  · dsimp only
    unfold zf_X4_makeMoves_l2
    rw [if_pos (Int32.le_refl _)]
theorem gmk_at {c s x : Nat} (w : Nat → Int32) (hc : c ≤ 5) (hx : x < c) (hs : s < gSz c) : gmk c w (gSz c) 0 (x * 132 + s) = nI (gMv c x s) ∧ (0 < x → gmk c w (gSz c) 0 ((4 + x) * 132 + s) = nI (gMv c (4 + x) s)) := by
  have hz := gSzle hc
  have d1 : (x * 132 + s) / 132 = x := by omega
  have d2 : (x * 132 + s) % 132 = s := by omega
  have d3 : ((4 + x) * 132 + s) / 132 = 4 + x := by omega
  have d4 : ((4 + x) * 132 + s) % 132 = s := by omega
  unfold gmk
  rw [d1, d2, d3, d4]
  constructor
  · rw [if_pos]
    unfold gdn
    rw [d1, d2]
    simp only [Bool.or_eq_true, Bool.and_eq_true, decide_eq_true_eq]
    omega
  · intro h0
    rw [if_pos]
    unfold gdn
    rw [d3, d4]
    simp only [Bool.or_eq_true, Bool.and_eq_true, decide_eq_true_eq]
    omega
/-- the steps of a cell, of a row up to a cell, of rows up to a row -/
def gsc (y x : Nat) : List (Nat × Nat) := (if 0 < y then [(10 * (y - 1) + 2 * x + 1, x)] else []) ++ (if 0 < x then [(10 * y + 2 * (x - 1), 4 + x)] else [])
def gsr (y n : Nat) : List (Nat × Nat) := (List.range n).flatMap (gsc y)
def gsy (c y : Nat) : List (Nat × Nat) := (List.range y).flatMap (fun y => gsr y c)
theorem gsrS (y n : Nat) : gsr y (n + 1) = gsr y n ++ gsc y n := by
  unfold gsr
  rw [List.range_succ, List.flatMap_append]
  simp
theorem gsyS (c y : Nat) : gsy c (y + 1) = gsy c y ++ gsr y c := by
  unfold gsy
  rw [List.range_succ, List.flatMap_append]
  simp
theorem gsyE (c r : Nat) : gsy c r = gSteps c r := rfl
theorem gsyT : ∀ (c : Fin 6) (y : Fin 6), 1 ≤ c.val → (gsy c.val y.val).length = gRS c.val y.val ∧ gRS c.val y.val ≤ 40 := by decide +kernel
def gpr (L : List (Nat × Nat)) : List Int32 := L.map (fun q => nI q.1)
def gsl (L : List (Nat × Nat)) : List Int32 := L.map (fun q => nI q.2)
theorem gaddS (L : List (Nat × Nat)) (a b : Nat) (sp ss : Nat → Int32) (h : L.length < 40) : zf_X4_addStep (nI L.length) (gls sp (gpr L)) (gls ss (gsl L)) (nI a) (nI b) = some (nI (L ++ [(a, b)]).length, gls sp (gpr (L ++ [(a, b)])), gls ss (gsl (L ++ [(a, b)]))) := by
  unfold zf_X4_addStep
  have e1 := glsS sp (gpr L) (nI a)
  have e2 := glsS ss (gsl L) (nI b)
  have l1 : (gpr L).length = L.length := by unfold gpr; rw [List.length_map]
  have l2 : (gsl L).length = L.length := by unfold gsl; rw [List.length_map]
  rw [l1] at e1
  rw [l2] at e2
  rw [if_neg (show ¬ (40 : Int32) ≤ nI L.length from gle50 (a := 40) (by decide) (by omega) h), if_pos (ggN h (by decide)), if_pos (ggN h (by decide)), nI_clamp (by omega), e1, e2, nI_1]
  unfold gpr gsl
  rw [List.map_append, List.map_append, List.length_append]
  rfl
theorem gstepR {c y : Nat} (hc : 1 ≤ c ∧ c ≤ 5) (hy : y < 5) (P : List (Nat × Nat)) (hP : (P ++ gsr y c).length ≤ 40) (sp ss : Nat → Int32) : zit (fun d : Int32 × Int32 × (Nat → Int32) × (Nat → Int32) => zf_X4_makeSteps_l27 (nI c) (nI y) d.1 d.2.1 d.2.2.1 d.2.2.2) zfu ((0 : Int32), nI P.length, gls sp (gpr P), gls ss (gsl P)) = some (nI (P ++ gsr y c).length, gls sp (gpr (P ++ gsr y c)), gls ss (gsl (P ++ gsr y c))) := by
  have e := gitr (f := fun d : Int32 × Int32 × (Nat → Int32) × (Nat → Int32) => zf_X4_makeSteps_l27 (nI c) (nI y) d.1 d.2.1 d.2.2.1 d.2.2.2) (fun x => (nI x, nI (P ++ gsr y x).length, gls sp (gpr (P ++ gsr y x)), gls ss (gsl (P ++ gsr y x)))) c (n := zfu) (b := (nI (P ++ gsr y c).length, gls sp (gpr (P ++ gsr y c)), gls ss (gsl (P ++ gsr y c)))) (gfu (by omega)) ?_ ?_
  · rw [← e]
    simp only [show gsr y 0 = [] from rfl, List.append_nil]
    rfl
  · intro x hx
    dsimp only
    have hlen : (P ++ gsr y (x + 1)).length ≤ 40 := by
      have mono : ∀ k, x + 1 + k ≤ c → (gsr y (x + 1)).length ≤ (gsr y (x + 1 + k)).length := by
        intro k
        induction k with
        | zero => intro _; exact Nat.le_refl _
        | succ k ih =>
          intro hk
          rw [← Nat.add_assoc, gsrS y (x + 1 + k), List.length_append]
          have := ih (by omega)
          omega
      have := mono (c - (x + 1)) (by omega)
      rw [show x + 1 + (c - (x + 1)) = c from by omega] at this
      rw [List.length_append] at hP ⊢
      omega
    rw [gsrS] at hlen ⊢
    rw [← List.append_assoc] at hlen ⊢
    generalize P ++ gsr y x = Q at hlen ⊢
    rw [List.length_append] at hlen
    have h52 : ∀ (Q : List (Nat × Nat)), (Q ++ (if 0 < x then [(10 * y + 2 * (x - 1), 4 + x)] else [])).length ≤ 40 → zf_X4_makeSteps_52 (nI Q.length) (gls sp (gpr Q)) (gls ss (gsl Q)) (nI y) (nI x) = some (.inl (nI (x + 1), nI (Q ++ (if 0 < x then [(10 * y + 2 * (x - 1), 4 + x)] else [])).length, gls sp (gpr (Q ++ (if 0 < x then [(10 * y + 2 * (x - 1), 4 + x)] else []))), gls ss (gsl (Q ++ (if 0 < x then [(10 * y + 2 * (x - 1), 4 + x)] else []))))) := by
      intro Q hQ
      unfold zf_X4_makeSteps_52 zf_X4_makeSteps_72 zf_X4_rightSlot
      rw [nI_1]
      by_cases x0 : 0 < x
      · rw [if_pos x0] at hQ ⊢
        rw [List.length_append, List.length_singleton] at hQ
        have c0 : ¬ nI x ≤ 0 := by
          rw [show (0 : Int32) = nI 0 from rfl, nI_leI (by omega) (by decide)]
          omega
        rw [if_neg c0, show nI x - 1 = nI (x - 1) from by rw [show (1 : Int32) = nI 1 from rfl]; exact gsub (by omega), gnum0, Option.bind_some, Option.bind_some, show (4 : Int32) + nI x = nI (4 + x) from nI_add 4 x, gaddS _ _ _ _ _ (by omega)]
        rfl
      · rw [if_neg x0, List.append_nil, if_pos (by rw [show x = 0 from by omega]; decide)]
    unfold zf_X4_makeSteps_l27 gsc
    rw [if_neg (gle50 (by omega) (by omega) hx)]
    unfold gsc at hlen
    rw [List.length_append] at hlen
    by_cases y0 : 0 < y
    · rw [if_pos y0] at hlen ⊢
      rw [List.length_singleton] at hlen
      have c0 : ¬ nI y ≤ 0 := by
        rw [show (0 : Int32) = nI 0 from rfl, nI_leI (by omega) (by decide)]
        omega
      rw [if_neg c0, show nI y - 1 = nI (y - 1) from by rw [show (1 : Int32) = nI 1 from rfl]; exact gsub (by omega), gnum1, Option.bind_some, gaddS _ _ _ _ _ (by omega), Option.bind_some, ← List.append_assoc]
      exact h52 _ (by rw [List.length_append, List.length_append, List.length_singleton]; omega)
    · rw [if_neg y0, if_pos (by rw [show y = 0 from by omega]; decide), List.nil_append]
      exact h52 Q (by rw [List.length_append]; rw [if_neg y0] at hlen; simpa using hlen)
  · dsimp only
    unfold zf_X4_makeSteps_l27
    rw [if_pos (Int32.le_refl _)]
theorem gsteps {c r : Nat} (hc : 1 ≤ c ∧ c ≤ 5) (hr : 1 ≤ r ∧ r ≤ 5) (sp ss rs : Nat → Int32) : zf_X4_makeSteps (nI c) (nI r) sp ss rs = some (nI (gRS c r), gls sp (gpr (gSteps c r)), gls ss (gsl (gSteps c r)), gput rs 0 (fun y => nI (gRS c y)) (r + 1)) := by
  unfold zf_X4_makeSteps
  have hT : ∀ y, y ≤ 5 → (gsy c y).length = gRS c y ∧ gRS c y ≤ 40 := fun y hy => gsyT ⟨c, by omega⟩ ⟨y, by omega⟩ hc.1
  have e := gitr (f := fun d : Int32 × Int32 × (Nat → Int32) × (Nat → Int32) × (Nat → Int32) => zf_X4_makeSteps_l7 (nI c) (nI r) d.1 d.2.1 d.2.2.1 d.2.2.2.1 d.2.2.2.2) (fun y => (nI y, nI (gsy c y).length, gls sp (gpr (gsy c y)), gls ss (gsl (gsy c y)), gput rs 0 (fun y => nI (gRS c y)) y)) r (n := zfu) (b := (nI (gsy c r).length, gls sp (gpr (gsy c r)), gls ss (gsl (gsy c r)), gput rs 0 (fun y => nI (gRS c y)) r)) (gfu (by omega)) ?_ ?_
  · rw [show ((0 : Int32), (0 : Int32), sp, ss, rs) = (nI 0, nI (gsy c 0).length, gls sp (gpr (gsy c 0)), gls ss (gsl (gsy c 0)), gput rs 0 (fun y => nI (gRS c y)) 0) from by rw [gput0, show gsy c 0 = [] from rfl, show gpr [] = [] from rfl, show gsl [] = [] from rfl, gls0, gls0]; rfl, e, Option.bind_some, if_pos (ggN (by omega) (by decide)), nI_clamp (by omega)]
    dsimp only
    rw [(hT r hr.2).1, ← gput0S, gsyE]
  · intro y hy
    dsimp only
    unfold zf_X4_makeSteps_l7
    have hP : (gsy c y ++ gsr y c).length ≤ 40 := by
      rw [← gsyS, (hT (y + 1) (by omega)).1]
      exact (hT (y + 1) (by omega)).2
    rw [if_neg (gle50 (by omega) (by omega) hy), if_pos (ggN (by omega) (by decide)), gstepR hc (by omega) _ hP, Option.bind_some, nI_1, nI_clamp (by omega), ← gsyS, (hT y (by omega)).1, ← gput0S]
  · dsimp only
    unfold zf_X4_makeSteps_l7
    rw [if_pos (Int32.le_refl _)]
theorem gadds {c : Nat} (hc : 1 ≤ c ∧ c ≤ 5) (codes lg : Nat → Int32) (h0 : codes 0 = 0) : ∃ codes' lg', zit (fun d : Int32 × Int32 × (Nat → Int32) × (Nat → Int32) => zf_X4_fit_l44 (nI c) d.1 d.2.1 d.2.2.1 d.2.2.2) zfu ((0 : Int32), (1 : Int32), codes, lg) = some (nI (gSz c), codes', lg') ∧ ∀ s, s < gSz c → codes' s = nI (gCd c s) := by
  have step : ∀ x, x ≤ c → ∃ codes' lg', (∀ s, s < (gLv x).length → codes' s = nI ((gLv x).getD s 0)) ∧ ∀ n b, c - x < n → zit (fun d : Int32 × Int32 × (Nat → Int32) × (Nat → Int32) => zf_X4_fit_l44 (nI c) d.1 d.2.1 d.2.2.1 d.2.2.2) n (nI x, nI (gLv x).length, codes', lg') = some b → zit (fun d : Int32 × Int32 × (Nat → Int32) × (Nat → Int32) => zf_X4_fit_l44 (nI c) d.1 d.2.1 d.2.2.1 d.2.2.2) (n + x) ((0 : Int32), (1 : Int32), codes, lg) = some b := by
    intro x
    induction x with
    | zero =>
      intro _
      refine ⟨codes, lg, fun s hs => ?_, fun n b hn h => h⟩
      have : s = 0 := by
        have : (gLv 0).length = 1 := rfl
        omega
      subst this
      exact h0
    | succ x ih =>
      intro hx
      obtain ⟨cd1, lg1, h1, h2⟩ := ih (by omega)
      obtain ⟨cd2, lg2, h3, h4⟩ := gadd (x := x) (by omega) h1 lg1
      refine ⟨cd2, lg2, h4, fun n b hn h => ?_⟩
      rw [show n + (x + 1) = (n + 1) + x from by omega]
      refine h2 (n + 1) b (by omega) ?_
      unfold zit
      have e : zf_X4_fit_l44 (nI c) (nI x) (nI (gLv x).length) cd1 lg1 = some (.inl (nI (x + 1), nI (gLv (x + 1)).length, cd2, lg2)) := by
        unfold zf_X4_fit_l44
        rw [if_neg (gle50 (by omega) (by omega) (by omega)), h3, Option.bind_some, nI_1]
      show ((zf_X4_fit_l44 (nI c) (nI x) (nI (gLv x).length) cd1 lg1).bind _) = _
      rw [e]
      exact h
  obtain ⟨cd1, lg1, h1, h2⟩ := step c (Nat.le_refl _)
  have hl : gLv c = gT c := by unfold gLv; rw [if_neg (by omega)]
  refine ⟨cd1, lg1, ?_, fun s hs => ?_⟩
  · have := h2 (zfu - c) (nI (gSz c), cd1, lg1) (by unfold zfu; omega) (by
      obtain ⟨k, hk⟩ : ∃ k, zfu - c = k + 1 := ⟨zfu - c - 1, by unfold zfu; omega⟩
      rw [hk]
      unfold zit
      show ((zf_X4_fit_l44 (nI c) (nI c) (nI (gLv c).length) cd1 lg1).bind _) = _
      unfold zf_X4_fit_l44
      rw [if_pos (Int32.le_refl _), hl]
      rfl)
    rw [show zfu - c + c = zfu from by unfold zfu; omega] at this
    exact this
  · have := h1 s (by rw [hl]; exact hs)
    rw [hl] at this
    exact this
theorem gls_at (w : Nat → Int32) (L : List Int32) {i : Nat} (h : i < L.length) : gls w L i = L.getD i 0 := if_pos h
/-- the lattice is made for a grid's size -/
theorem gfit {lc lr lz ls : Int32} {cd wt mv sp ss rs lg : Nat → Int32} (h : gLt lc lr lz ls cd wt mv sp ss rs) {c r : Nat} (hc : 1 ≤ c ∧ c ≤ 5) (hr : 1 ≤ r ∧ r ≤ 5) : ∃ cd' wt' mv' sp' ss' rs' lg', zf_X4_fit lc lr lz ls cd wt mv sp ss rs lg (nI c) (nI r) = some (nI c, nI r, nI (gSz c), nI (gRS c r), cd', wt', mv', sp', ss', rs', lg') ∧ (∀ s, s < gSz c → cd' s = nI (gCd c s) ∧ wt' s = nI (gWs c s)) ∧ (∀ x s, x < c → s < gSz c → mv' (x * 132 + s) = nI (gMv c x s) ∧ (0 < x → mv' ((4 + x) * 132 + s) = nI (gMv c (4 + x) s))) ∧ (∀ i, i < gRS c r → sp' i = nI ((gSteps c r).getD i (0, 0)).1 ∧ ss' i = nI ((gSteps c r).getD i (0, 0)).2) ∧ ∀ y, y ≤ r → rs' y = nI (gRS c y) := by
  have hz := gSzle hc.2
  have hlen : (gSteps c r).length = gRS c r := (gsyT ⟨c, by omega⟩ ⟨r, by omega⟩ hc.1).1
  have st1 : ∀ i, i < gRS c r → gls sp (gpr (gSteps c r)) i = nI ((gSteps c r).getD i (0, 0)).1 ∧ gls ss (gsl (gSteps c r)) i = nI ((gSteps c r).getD i (0, 0)).2 := by
    intro i hi
    have hi2 : i < (gSteps c r).length := by omega
    rw [gls_at _ _ (by unfold gpr; rw [List.length_map]; exact hi2), gls_at _ _ (by unfold gsl; rw [List.length_map]; exact hi2)]
    unfold gpr gsl
    rw [List.getD_eq_getElem?_getD, List.getD_eq_getElem?_getD, List.getD_eq_getElem?_getD, List.getElem?_map, List.getElem?_map, List.getElem?_eq_getElem hi2]
    exact ⟨rfl, rfl⟩
  have st2 : ∀ y, y ≤ r → gput rs 0 (fun y => nI (gRS c y)) (r + 1) y = nI (gRS c y) := by
    intro y hy
    unfold gput
    rw [if_pos (by omega), Nat.sub_zero]
  have new : ∀ lz0 cd0 wt0 mv0 lg0, lz0 = nI (gSz c) → zf_X4_fit_71 (nI c) lz0 cd0 wt0 mv0 sp ss rs lg0 (nI r) = some (nI c, nI r, nI (gSz c), nI (gRS c r), cd0, wt0, mv0, gls sp (gpr (gSteps c r)), gls ss (gsl (gSteps c r)), gput rs 0 (fun y => nI (gRS c y)) (r + 1), lg0) := by
    intro lz0 cd0 wt0 mv0 lg0 e
    unfold zf_X4_fit_71
    rw [gsteps hc hr, e]
    rfl
  have fresh : lc ≠ nI c → ∃ cd' wt' mv' sp' ss' rs' lg', zf_X4_fit_17 lc lz cd wt mv sp ss rs lg (nI c) (nI r) = some (nI c, nI r, nI (gSz c), nI (gRS c r), cd', wt', mv', sp', ss', rs', lg') ∧ (∀ s, s < gSz c → cd' s = nI (gCd c s) ∧ wt' s = nI (gWs c s)) ∧ (∀ x s, x < c → s < gSz c → mv' (x * 132 + s) = nI (gMv c x s) ∧ (0 < x → mv' ((4 + x) * 132 + s) = nI (gMv c (4 + x) s))) ∧ (∀ i, i < gRS c r → sp' i = nI ((gSteps c r).getD i (0, 0)).1 ∧ ss' i = nI ((gSteps c r).getD i (0, 0)).2) ∧ ∀ y, y ≤ r → rs' y = nI (gRS c y) := by
    intro hne
    unfold zf_X4_fit_17
    obtain ⟨cd', lg', e1, e2⟩ := gadds hc (upd cd 0 0) lg gupS
    rw [if_neg hne, if_pos (by decide), show (0 : Int32).toNatClampNeg = 0 from rfl, e1, Option.bind_some]
    dsimp only
    rw [gwet hc e2, Option.bind_some, gmoves hc e2, Option.bind_some, new _ _ _ _ _ rfl]
    refine ⟨_, _, _, _, _, _, _, rfl, fun s hs => ⟨e2 s hs, ?_⟩, fun x s hx hs => gmk_at mv hc.2 hx hs, st1, st2⟩
    unfold gput
    rw [if_pos (by omega), Nat.sub_zero]
  unfold zf_X4_fit
  rcases h with ⟨z1, z2⟩ | ⟨c0, r0, hc0, hr0, q1, q2, q3, q4, q5, q6, q7, q8⟩
  · have hne : lc ≠ nI c := by
      rw [z1, show (0 : Int32) = nI 0 from rfl, Ne, nI_eq (by decide) (by omega)]
      omega
    rw [if_neg hne]
    exact fresh hne
  · by_cases e : c0 = c
    · subst e
      rw [if_pos q1]
      by_cases e2 : r0 = r
      · subst e2
        rw [if_pos q2, q1, q2, q3, q4]
        exact ⟨_, _, _, _, _, _, _, rfl, q5, q6, q7, q8⟩
      · rw [if_neg (by rw [q2, nI_eq (by omega) (by omega)]; exact e2)]
        unfold zf_X4_fit_17
        rw [if_pos q1, q1, new _ _ _ _ _ q3]
        exact ⟨_, _, _, _, _, _, _, rfl, q5, q6, st1, st2⟩
    · have hne : lc ≠ nI c := by
        rw [q1, Ne, nI_eq (by omega) (by omega)]
        exact e
      rw [if_neg hne]
      exact fresh hne
