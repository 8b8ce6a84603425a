/-! the number that a row's labels are named by -/
theorem gFi_cong {n : Nat} : ∀ {L L' : Nat → Nat} {v v' : Nat}, (∀ i, i < n → (L i = v ↔ L' i = v')) → gFi L v n = gFi L' v' n := by
  induction n with
  | zero => intro L L' v v' h; rfl
  | succ n ih =>
    intro L L' v v' h
    show (if L 0 = v then 0 else 1 + gFi (fun x => L (x + 1)) v n) = (if L' 0 = v' then 0 else 1 + gFi (fun x => L' (x + 1)) v' n)
    rw [ih (fun i hi => h (i + 1) (by omega))]
    by_cases q : L 0 = v
    · rw [if_pos q, if_pos ((h 0 (by omega)).mp q)]
    · rw [if_neg q, if_neg (fun k => q ((h 0 (by omega)).mpr k))]
theorem gFi_le {n : Nat} : ∀ (L : Nat → Nat) (v : Nat), gFi L v n ≤ n := by
  induction n with
  | zero => intro L v; exact Nat.le_refl 0
  | succ n ih =>
    intro L v
    show (if L 0 = v then 0 else 1 + gFi (fun x => L (x + 1)) v n) ≤ n + 1
    have := ih (fun x => L (x + 1)) v
    by_cases q : L 0 = v
    · rw [if_pos q]; omega
    · rw [if_neg q]; omega
/-- at the first place the label stands, and at none before -/
theorem gFi_at {n : Nat} : ∀ (L : Nat → Nat) (v : Nat), gFi L v n < n → L (gFi L v n) = v := by
  induction n with
  | zero => intro L v h; omega
  | succ n ih =>
    intro L v
    show (if L 0 = v then 0 else 1 + gFi (fun x => L (x + 1)) v n) < n + 1 → L (if L 0 = v then 0 else 1 + gFi (fun x => L (x + 1)) v n) = v
    by_cases q : L 0 = v
    · rw [if_pos q]; exact fun _ => q
    · rw [if_neg q]
      intro h
      have := ih (fun x => L (x + 1)) v (by omega)
      rw [Nat.add_comm 1]
      exact this
theorem gFi_no {n : Nat} : ∀ (L : Nat → Nat) (v : Nat) (i : Nat), i < gFi L v n → L i ≠ v := by
  induction n with
  | zero => intro L v i h; exact absurd h (Nat.not_lt_zero i)
  | succ n ih =>
    intro L v i
    show i < (if L 0 = v then 0 else 1 + gFi (fun x => L (x + 1)) v n) → L i ≠ v
    by_cases q : L 0 = v
    · rw [if_pos q]; intro h; omega
    · rw [if_neg q]
      intro h
      cases i with
      | zero => exact q
      | succ i => exact ih (fun x => L (x + 1)) v i (by omega)
theorem gFi_un {L : Nat → Nat} {v n i : Nat} (hi : i ≤ n) (h1 : i = n ∨ L i = v) (h2 : ∀ j, j < i → L j ≠ v) : gFi L v n = i := by
  rcases Nat.lt_trichotomy (gFi L v n) i with q | q | q
  · exact absurd (gFi_at L v (by omega)) (h2 _ q)
  · exact q
  · have := gFi_le (n := n) L v
    rcases h1 with h1 | h1
    · omega
    · exact absurd h1 (gFi_no L v i q)
def gSame (c : Nat) (L L' : Nat → Nat) : Prop := ∀ x y, x < c → y < c → (L x = L y ↔ L' x = L' y) ∧ (L x = 0 ↔ L' x = 0) ∧ (L x = 9 ↔ L' x = 9)
theorem gFrs_cong {c : Nat} {L L' : Nat → Nat} (h : gSame c L L') {x : Nat} (hx : x < c) : gFrs L x = gFrs L' x := by
  unfold gFrs
  rw [gFi_cong (L := L) (L' := L') (v := L x) (v' := L' x) (fun i hi => (h i x (by omega) hx).1)]
  have h1 := (h x x hx hx).2.1
  have h2 := (h x x hx hx).2.2
  rw [decide_eq_decide.mpr (not_congr h1), decide_eq_decide.mpr (not_congr h2)]
theorem gNd_cong {c : Nat} {L L' : Nat → Nat} (h : gSame c L L') {x : Nat} (hx : x < c) : gNd L x = gNd L' x := by
  unfold gNd
  have h1 := (h x x hx hx).2.1
  have h2 := (h x x hx hx).2.2
  have e := gFi_cong (n := x) (L := L) (L' := L') (v := L x) (v' := L' x) (fun i hi => (h i x (by omega) hx).1)
  have l := gFi_le (n := x) L' (L' x)
  rw [e, gct_cong (f := gFrs L) (f' := gFrs L') (fun i hi => gFrs_cong h (by omega))]
  by_cases q1 : L x = 0
  · rw [if_pos q1, if_pos (h1.mp q1)]
  · rw [if_neg q1, if_neg (fun k => q1 (h1.mpr k))]
    by_cases q2 : L x = 9
    · rw [if_pos q2, if_pos (h2.mp q2)]
    · rw [if_neg q2, if_neg (fun k => q2 (h2.mpr k))]
theorem gNd_9 {L : Nat → Nat} {x : Nat} (hx : x < 5) : gNd L x ≤ 9 := by
  unfold gNd
  by_cases q1 : L x = 0
  · rw [if_pos q1]; omega
  · rw [if_neg q1]
    by_cases q2 : L x = 9
    · rw [if_pos q2]; omega
    · rw [if_neg q2]
      have := gct_le (gFrs L) (gFi L (L x) x + 1)
      have := gFi_le (n := x) L (L x)
      omega
/-- a row's number by its digits -/
def gNv (d : Nat → Nat) : Nat → Nat
  | 0 => 0
  | n + 1 => 10 * gNv d n + d n
theorem gNv_cong {d d' : Nat → Nat} {n : Nat} (h : ∀ x, x < n → d x = d' x) : gNv d n = gNv d' n := by
  induction n with
  | zero => rfl
  | succ n ih =>
    show 10 * gNv d n + d n = 10 * gNv d' n + d' n
    rw [ih (fun x hx => h x (by omega)), h n (by omega)]
theorem gNv_lt {d : Nat → Nat} {n : Nat} (h : ∀ x, x < n → d x ≤ 9) : gNv d n < 10 ^ n := by
  induction n with
  | zero => exact Nat.one_pos
  | succ n ih =>
    show 10 * gNv d n + d n < 10 ^ (n + 1)
    have h1 := ih (fun x hx => h x (by omega))
    have h2 := h n (by omega)
    rw [Nat.pow_succ]
    omega
theorem gNum_nv (g : gG) (row s n : Nat) : gNum g row s n = gNv (gDig g row s) n := by
  induction n with
  | zero => rfl
  | succ n ih =>
    show 10 * gNum g row s n + gDig g row s n = 10 * gNv (gDig g row s) n + gDig g row s n
    rw [ih]
theorem gfirst {c : Nat} (hc : c ≤ 5) {lb : Nat → Int32} {L : Nat → Nat} (hL : ∀ x, x < c → lb x = nI (L x) ∧ L x < 100) {x : Nat} (hx : x < c) : zit (fun d : Int32 × Int32 => zf_X9_named_l30 lb (nI (L x)) d.1 d.2) zfu (nI x, nI x - 1) = some (nI (gFi L (L x) x)) := by
  have F : ∀ j, j < x → (x - (j + 1) + gFi (fun i => L (i + (x - (j + 1)))) (L x) (j + 1)) = if L (x - (j + 1)) = L x then x - (j + 1) else x - j + gFi (fun i => L (i + (x - j))) (L x) j := by
    intro j hj
    show (x - (j + 1) + if L (0 + (x - (j + 1))) = L x then 0 else 1 + gFi (fun i => L (i + 1 + (x - (j + 1)))) (L x) j) = _
    rw [Nat.zero_add]
    have e : (fun i => L (i + 1 + (x - (j + 1)))) = fun i => L (i + (x - j)) := by
      funext i
      rw [show i + 1 + (x - (j + 1)) = i + (x - j) by omega]
    rw [e]
    by_cases q : L (x - (j + 1)) = L x
    · rw [if_pos q, if_pos q]; rfl
    · rw [if_neg q, if_neg q]; omega
  have h := gitr (f := fun d : Int32 × Int32 => zf_X9_named_l30 lb (nI (L x)) d.1 d.2) (fun j => (nI (x - j + gFi (fun i => L (i + (x - j))) (L x) j), nI (x - j) - 1)) x (n := zfu) (b := nI (gFi L (L x) x)) (gfu (by omega)) ?_ ?_
  · exact h
  · intro j hj
    dsimp only
    have hx' := hL (x - (j + 1)) (by omega)
    unfold zf_X9_named_l30 zf_X9_named_54
    rw [F j hj, show (1 : Int32) = nI 1 from rfl, gsub (by omega), show x - j - 1 = x - (j + 1) by omega]
    rw [if_neg (by rw [show (0 : Int32) = nI 0 from rfl, nI_ltI (by omega) (by decide)]; omega), if_pos (ggN (by omega) (by decide)), nI_clamp (by omega), hx'.1]
    rw [Int32.sub_eq_add_neg]
    simp only [nI_eq (show L (x - (j + 1)) < 2 ^ 31 by omega) (show L x < 2 ^ 31 by have := (hL x hx).2; omega)]
    by_cases q : L (x - (j + 1)) = L x
    · rw [if_pos q, if_pos q]
    · rw [if_neg q, if_neg q]
  · dsimp only
    unfold zf_X9_named_l30
    rw [Nat.sub_self, Nat.zero_add]
    exact if_pos (by decide)
theorem gnamed {c : Nat} (hc : c ≤ 5) {lb gv : Nat → Int32} {L : Nat → Nat} (hL : ∀ x, x < c → lb x = nI (L x) ∧ L x < 100) : ∃ gv', zf_X9_named (nI c) lb gv = some (nI (gNv (gNd L) c), gv') := by
  unfold zf_X9_named
  have hH := gitH (f := fun d : Int32 × Int32 × Int32 × (Nat → Int32) => zf_X9_named_l6 (nI c) lb d.1 d.2.1 d.2.2.1 d.2.2.2) (fun j q => q.1 = nI (gNv (gNd L) j) ∧ q.2.1 = nI (gct (gFrs L) j) ∧ q.2.2.1 = nI j ∧ ∀ i, i < j → q.2.2.2 i = nI (gNd L i)) (fun q => q.1 = nI (gNv (gNd L) c)) c (n := zfu) (gfu (by omega)) (a := ((0 : Int32), (0 : Int32), (0 : Int32), gv)) ⟨rfl, rfl, rfl, fun i h => by omega⟩ ?_ ?_
  · obtain ⟨q, e, h⟩ := hH
    rw [e, Option.bind_some]
    exact ⟨q.2, by rw [← h]⟩
  · rintro j ⟨a, nx, x, l1⟩ hj ⟨h1, h2, h3, h⟩
    dsimp only at h1 h2 h3 h ⊢
    subst h1 h2 h3
    have hLj := hL j hj
    have z5 : zgd (nI j) 5 = true := ggN (by omega) (by decide)
    have fl := gFi_le (n := j) L (L j)
    have z6 : zgd (nI (gFi L (L j) j)) 5 = true := ggN (by omega) (by decide)
    have hL9 : L j < 2 ^ 31 := by omega
    -- what is written
    have stp : ∀ nx v, nx = nI (gct (gFrs L) (j + 1)) → v = nI (gNd L j) → ∃ a', zf_X9_named_138 l1 (nI (gNv (gNd L) j)) nx (nI j) (nI j) v = some (.inl a') ∧ a'.1 = nI (gNv (gNd L) (j + 1)) ∧ a'.2.1 = nI (gct (gFrs L) (j + 1)) ∧ a'.2.2.1 = nI (j + 1) ∧ ∀ i, i < j + 1 → a'.2.2.2 i = nI (gNd L i) := by
      intro nx v e1 e2
      unfold zf_X9_named_138
      rw [if_pos z5, if_pos z5, nI_clamp (by omega), gupS, e2, e1]
      refine ⟨_, rfl, ?_, rfl, ?_, fun i hi => ?_⟩
      · show (10 : Int32) * nI (gNv (gNd L) j) + nI (gNd L j) = nI (10 * gNv (gNd L) j + gNd L j)
        rw [show (10 : Int32) = nI 10 from rfl, gmul, nI_add]
      · show nI j + 1 = nI (j + 1)
        rw [show (1 : Int32) = nI 1 from rfl, nI_add]
      · dsimp only
        by_cases e : i = j
        · rw [e, gupS]
        · rw [gupN e]; exact h i (by omega)
    unfold zf_X9_named_l6
    rw [if_neg (gle50 (by omega) (by omega) hj), if_pos z5, nI_clamp (by omega), hLj.1, gfirst hc hL hj, Option.bind_some]
    simp only [show (0 : Int32) = nI 0 from rfl, show (9 : Int32) = nI 9 from rfl, nI_eq hL9 (show 0 < 2 ^ 31 by decide), nI_eq hL9 (show 9 < 2 ^ 31 by decide), nI_eq (show gFi L (L j) j < 2 ^ 31 by omega) (show j < 2 ^ 31 by omega)]
    have cS : gct (gFrs L) (j + 1) = gct (gFrs L) j + if gFrs L j then 1 else 0 := gctS _ _
    by_cases q1 : L j = 0
    · rw [if_pos q1]
      unfold zf_X9_named_84 zf_X9_named_85 zf_X9_named_98 zf_X9_named_117
      rw [if_pos rfl, q1, if_pos rfl]
      refine stp _ _ ?_ ?_
      · have : gFrs L j = false := by unfold gFrs; rw [q1]; rfl
        rw [cS, this]
        show nI _ + nI 0 = _
        rw [nI_add]; rfl
      · unfold gNd; rw [if_pos q1]
    · rw [if_neg q1]
      by_cases q2 : L j = 9
      · rw [if_pos q2]
        unfold zf_X9_named_84 zf_X9_named_85 zf_X9_named_98 zf_X9_named_117
        rw [if_pos rfl, q2, if_neg (by decide), if_pos rfl]
        refine stp _ _ ?_ ?_
        · have : gFrs L j = false := by unfold gFrs; rw [q2]; rfl
          rw [cS, this]
          show nI _ + nI 0 = _
          rw [nI_add]; rfl
        · unfold gNd; rw [if_neg q1, if_pos q2]
      · rw [if_neg q2]
        have n0 : ¬ nI (L j) = 0 := by rw [show (0 : Int32) = nI 0 from rfl, nI_eq hL9 (by decide)]; exact q1
        have n9 : ¬ nI (L j) = 9 := by rw [show (9 : Int32) = nI 9 from rfl, nI_eq hL9 (by decide)]; exact q2
        by_cases q3 : gFi L (L j) j = j
        · rw [if_pos q3]
          unfold zf_X9_named_85 zf_X9_named_98
          rw [if_neg (by decide), if_neg n0, if_neg n9, if_neg (by decide)]
          have fr : gFrs L j = true := by unfold gFrs; rw [decide_eq_true q1, decide_eq_true q2, decide_eq_true q3]; rfl
          have e : nI (gct (gFrs L) j) + 1 = nI (gct (gFrs L) (j + 1)) := by
            rw [cS, fr, show (1 : Int32) = nI 1 from rfl, nI_add]; rfl
          rw [e]
          refine stp _ _ rfl ?_
          unfold gNd; rw [if_neg q1, if_neg q2, q3]
        · rw [if_neg q3]
          unfold zf_X9_named_84 zf_X9_named_85 zf_X9_named_98
          rw [if_pos rfl, if_neg n0, if_neg n9, if_pos rfl, if_pos z6, nI_clamp (by omega), h _ (by omega)]
          have fr : gFrs L j = false := by unfold gFrs; rw [decide_eq_false q3]; exact Bool.and_false _
          refine stp _ _ ?_ ?_
          · rw [cS, fr]
            show nI _ + nI 0 = _
            rw [nI_add]; rfl
          · have fa := gFi_at (n := j) L (L j) (by omega)
            have ff : gFi L (L j) (gFi L (L j) j) = gFi L (L j) j := gFi_un (Nat.le_refl _) (Or.inl rfl) (fun i hi => gFi_no L (L j) i hi)
            unfold gNd
            rw [fa, ff]
  · rintro ⟨a, nx, x, l1⟩ ⟨h1, h2, h3, h⟩
    dsimp only at h1 h2 h3 h ⊢
    subst h3
    unfold zf_X9_named_l6
    rw [if_pos (Int32.le_refl _)]
    exact ⟨_, rfl, h1⟩
theorem gGd_c {c : Nat} {st st' : Nat → Bool} (h : ∀ x, x < c → st x = st' x) (k : Nat) : gGd c st k = gGd c st' k := by
  unfold gGd
  rw [Bool.eq_iff_iff, List.all_eq_true, List.all_eq_true]
  constructor
  · intro q x hx; rw [← h x (List.mem_range.mp hx)]; exact q x hx
  · intro q x hx; rw [h x (List.mem_range.mp hx)]; exact q x hx
theorem gDg_c {c : Nat} {st st' : Nat → Bool} (h : ∀ x, x < c → st x = st' x) (k : Nat) {x : Nat} (hx : x < c) : gDg c st k x = gDg c st' k x := by
  unfold gDg
  rw [h x hx, gct_cong (f := fun z => st z && decide (gLk k z < gLk k x)) (f' := fun z => st' z && decide (gLk k z < gLk k x)) (fun i hi => by rw [h i hi])]
/-- stones of a row -/
def gSt (g : gG) (row x : Nat) : Bool := g.2.2.2 (5 * row + x)
theorem gDgE (g : gG) (row s x : Nat) : gDig g row s x = gDg g.1 (gSt g row) (gCd g.1 s) x := rfl
theorem gGdE {g : gG} {row s : Nat} {M : Nat → Nat} (h : gE g.1 s M) (h9 : ∀ x, x < g.1 → (M x = 9 ↔ g.2.2.2 (5 * row + x) = true)) : gGd g.1 (gSt g row) (gCd g.1 s) = true := by
  refine List.all_eq_true.mpr (fun x hx => ?_)
  have hx := List.mem_range.mp hx
  cases q : gSt g row x with
  | false => rfl
  | true =>
    have m9 := (h9 x hx).mpr q
    show (!Nat.beq (gLb g.1 s x) 0 && (List.range g.1).all fun y => Nat.beq x y || !Nat.beq (gLb g.1 s x) (gLb g.1 s y)) = true
    rw [Bool.and_eq_true, Bool.not_eq_true', ← Bool.not_eq_true, gbeqI]
    refine ⟨?_, List.all_eq_true.mpr (fun y hy => ?_)⟩
    · rw [h.1 x hx, m9]; decide
    · have hy := List.mem_range.mp hy
      rw [Bool.or_eq_true, Bool.not_eq_true', ← Bool.not_eq_true, gbeqI, gbeqI, h.2 x y hx hy]
      by_cases e : x = y
      · exact Or.inl e
      · right
        rintro (k | k)
        · exact e k
        · exact k.2 m9
theorem gmemT {c s : Nat} (hs : s < gSz c) : gCd c s ∈ gT c := by
  unfold gCd
  rw [List.getD_eq_getElem?_getD, List.getElem?_eq_getElem hs]
  exact List.getElem_mem hs
theorem gNdE {g : gG} (hw : gWf g) {row s : Nat} (hs : s < gSz g.1) {M : Nat → Nat} (h : gE g.1 s M) (h9 : ∀ x, x < g.1 → (M x = 9 ↔ g.2.2.2 (5 * row + x) = true)) {x : Nat} (hx : x < g.1) : gNd M x = gDig g row s x := by
  have hc := hw.1.2
  obtain ⟨m, hm, hb⟩ := gmask (gSt g row)
  have hb' : ∀ y, y < g.1 → m.testBit y = gSt g row y := fun y hy => hb y (by omega)
  have gd := gGdE h h9
  rw [← gGd_c hb'] at gd
  have t := List.all_eq_true.mp (gETd ⟨g.1, by omega⟩ ⟨m, hm⟩) (gCd g.1 s) (gmemT hs)
  dsimp only at t
  rw [gd, Bool.not_true, Bool.false_or] at t
  have t := gbeqI.mp (List.all_eq_true.mp t x (List.mem_range.mpr hx))
  rw [gDgE, ← gDg_c hb' _ hx, ← t]
  refine gNd_cong ?_ hx
  have l8 : ∀ y, y < g.1 → gLk (gCd g.1 s) y < 8 := fun y hy => (gLbE hc hs hy).2
  intro y z hy hz
  have ly : gLst m.testBit (gCd g.1 s) y = if gSt g row y then 9 else gLk (gCd g.1 s) y := by unfold gLst; rw [hb' y hy]
  have lz : gLst m.testBit (gCd g.1 s) z = if gSt g row z then 9 else gLk (gCd g.1 s) z := by unfold gLst; rw [hb' z hz]
  have hE := h.2 y z hy hz
  have h0 := h.1 y hy
  have e1 : gLb g.1 s y = gLk (gCd g.1 s) y := rfl
  have e2 : gLb g.1 s z = gLk (gCd g.1 s) z := rfl
  rw [e1, e2] at hE
  rw [e1] at h0
  have k1 := l8 y hy
  have k2 := l8 z hz
  have y9 := h9 y hy
  have z9 := h9 z hz
  rw [ly, lz]
  cases q1 : gSt g row y with
  | true =>
    have m1 := y9.mpr q1
    rw [if_pos rfl]
    cases q2 : gSt g row z with
    | true =>
      have m2 := z9.mpr q2
      rw [if_pos rfl]
      omega
    | false =>
      have m2 : ¬ M z = 9 := fun k => by have := z9.mp k; unfold gSt at q2; rw [q2] at this; cases this
      rw [if_neg (by decide)]
      omega
  | false =>
    have m1 : ¬ M y = 9 := fun k => by have := y9.mp k; unfold gSt at q1; rw [q1] at this; cases this
    rw [if_neg (by decide)]
    cases q2 : gSt g row z with
    | true =>
      have m2 := z9.mpr q2
      rw [if_pos rfl]
      omega
    | false =>
      rw [if_neg (by decide)]
      by_cases e : y = z
      · subst e; omega
      · omega
theorem gNumE {g : gG} (hw : gWf g) {row s : Nat} (hs : s < gSz g.1) {M : Nat → Nat} (h : gE g.1 s M) (h9 : ∀ x, x < g.1 → (M x = 9 ↔ g.2.2.2 (5 * row + x) = true)) : gNv (gNd M) g.1 = gNum g row s g.1 := by
  rw [gNum_nv]
  exact gNv_cong (fun x hx => gNdE hw hs h h9 hx)
