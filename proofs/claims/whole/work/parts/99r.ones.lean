/-! the free pipes of a row; places put back; states put in order -/
theorem gisP {p c r : Nat} (hp : p < 50) (hc : 1 ≤ c ∧ c ≤ 5) (hr : 1 ≤ r ∧ r ≤ 5) : zf_X9_isPipe (nI c) (nI r) (nI p) = some (gbI (gTh p c r)) := by
  unfold zf_X9_isPipe
  rw [gThere hp hc hr, Option.bind_some]
  cases gTh p c r <;> rfl
theorem ghow {g : gG} (hw : gWf g) {fc fr : Int32} {ct cs : Nat → Int32} (h : gRM g fc fr ct cs) {p : Nat} (hp : gTh p g.1 g.2.1 = true) : zf_X9_how ct cs (nI p) = some (nI (gHow g p)) := by
  unfold zf_X9_how
  rw [gHowBy hw h hp, Option.bind_some]
def gFof (g : gG) (P : List Nat) : List Nat := P.filter (fun p => decide (gHow g p = 0))
def gOne (g : gG) (P : List Nat) (x2 : Int32) (io fo : Nat → Int32) : Prop := x2 = nI (gFof g P).length ∧ (∀ i p, (gFof g P)[i]? = some p → fo i = nI p) ∧ ∀ p ∈ P, io p = gbI (gO0 g p)
theorem gone1 {g : gG} (hw : gWf g) {fc fr : Int32} {ct cs : Nat → Int32} (hM : gRM g fc fr ct cs) {P : List Nat} (hP : P.length < 9) {x2 x4 : Int32} {io fo : Nat → Int32} (h : gOne g P x2 io fo) {p : Nat} (hp : gTh p g.1 g.2.1 = true) : ∃ x2' io' fo', zf_X9_laysRow_49 fc fr ct cs io fo x2 x4 (nI p) = some (.inl (x2', x4 + 1, io', fo')) ∧ gOne g (P ++ [p]) x2' io' fo' := by
  obtain ⟨h1, h2, h3⟩ := h
  have hp50 := gTh50 hw.2.1.2 hp
  have hl : (gFof g P).length ≤ P.length := List.length_filter_le _ _
  have h2' := gHow2 hw p
  have how := ghow hw hM hp
  have stp : ∀ v, vp_nar .boolean v = gbI (gO0 g p) → ∃ x2' io' fo', zf_X9_laysRow_89 ct cs io fo x2 x4 (nI p) (nI p) v = some (.inl (x2', x4 + 1, io', fo')) ∧ gOne g (P ++ [p]) x2' io' fo' := by
    intro v hv
    unfold zf_X9_laysRow_89 zf_X9_laysRow_113
    rw [if_pos (ggN hp50 (by decide)), how, Option.bind_some, hv, h1, nI_clamp (by omega)]
    have io3 : ∀ q ∈ P ++ [p], upd io p (gbI (gO0 g p)) q = gbI (gO0 g q) := by
      intro q hq
      by_cases e : q = p
      · rw [e, gupS]
      · rw [gupN e]
        rcases List.mem_append.mp hq with hq | hq
        · exact h3 q hq
        · exact absurd (List.mem_singleton.mp hq) e
    by_cases f0 : gHow g p = 0
    · have eF : gFof g (P ++ [p]) = gFof g P ++ [p] := by unfold gFof; rw [List.filter_append, List.filter_cons, if_pos (decide_eq_true f0)]; rfl
      rw [if_pos (by rw [f0]; rfl), if_pos (ggN (by omega) (by decide)), nI_clamp (by omega), nI_1]
      refine ⟨_, _, _, rfl, ?_, ?_, io3⟩
      · rw [eF, List.length_append]; rfl
      · intro i q hq
        rw [eF] at hq
        by_cases e : i = (gFof g P).length
        · rw [e, List.getElem?_append_right (Nat.le_refl _), Nat.sub_self] at hq
          rw [e, gupS, Option.some.inj hq]
        · have hil : i < (gFof g P).length := by
            have := (List.getElem?_eq_some_iff.mp hq).1
            rw [List.length_append, List.length_singleton] at this
            omega
          rw [List.getElem?_append_left hil] at hq
          rw [gupN e]
          exact h2 i q hq
    · have eF : gFof g (P ++ [p]) = gFof g P := by unfold gFof; rw [List.filter_append, List.filter_cons, if_neg (by rw [decide_eq_false f0]; decide)]; exact List.append_nil _
      rw [if_neg (by rw [show (0 : Int32) = nI 0 from rfl, nI_eq (by omega) (by decide)]; exact f0)]
      refine ⟨_, _, _, rfl, ?_, ?_, io3⟩
      · rw [eF]
      · rw [eF]; exact h2
  unfold zf_X9_laysRow_49
  rw [if_neg (by rw [show (0 : Int32) = nI 0 from rfl, nI_ltI (by omega) (by decide)]; omega), hM.1, hM.2.1, gisP hp50 hw.1 hw.2.1, Option.bind_some, hp, if_neg (by decide), how, Option.bind_some]
  by_cases f1 : gHow g p = 1
  · rw [if_pos (by rw [f1]; rfl)]
    exact stp 1 (by unfold gO0; rw [decide_eq_true f1]; decide)
  · rw [if_neg (by rw [show (1 : Int32) = nI 1 from rfl, nI_eq (by omega) (by decide)]; exact f1)]
    exact stp 0 (by unfold gO0; rw [decide_eq_false f1]; decide)
def gpp0 (c row x : Nat) : List Nat := if x + 1 < c then [10 * row + 2 * x] else []
def gpp1 (row x : Nat) : List Nat := if 0 < row then [10 * (row - 1) + 2 * x + 1] else []
def gppx (c row n : Nat) : List Nat := (List.range n).flatMap (fun x => gpp0 c row x ++ gpp1 row x)
theorem gppxS (c row n : Nat) : gppx c row (n + 1) = gppx c row n ++ gpp0 c row n ++ gpp1 row n := by
  unfold gppx
  rw [List.range_succ, List.flatMap_append, List.append_assoc]
  show _ ++ List.flatMap _ [n] = _
  rw [List.flatMap_cons, List.flatMap_nil, List.append_nil]
theorem gppE (c row : Nat) : gppx c row c = gpl c row := rfl
theorem gppl : ∀ (c row : Fin 6), (List.range c.val).all (fun x => decide ((gppx c.val row.val x ++ gpp0 c.val row.val x ++ gpp1 row.val x).length ≤ 9)) = true := by decide +kernel
theorem gneg : ∀ x : Fin 5, ((10 : Int32) * (nI 0 - 1) + (2 : Int32) * nI x.val + 1) < 0 := by decide +kernel
theorem gnoP : ∀ (c r row : Fin 6), 1 ≤ c.val → row.val < r.val → gTh (10 * row.val + 2 * (c.val - 1)) c.val r.val = false := by decide +kernel
theorem gone15 {g : gG} (hw : gWf g) {fc fr : Int32} {ct cs : Nat → Int32} (hM : gRM g fc fr ct cs) {row x : Nat} (hr : row < g.2.1) (hx : x < g.1) {x2 : Int32} {io fo : Nat → Int32} (h : gOne g (gppx g.1 row x) x2 io fo) : ∃ x2' io' fo', zit (fun d : Int32 × Int32 × (Nat → Int32) × (Nat → Int32) => zf_X9_laysRow_l15 fc fr ct cs (nI row) (nI x) d.1 d.2.1 d.2.2.1 d.2.2.2) zfu (x2, (0 : Int32), io, fo) = some (x2', io', fo') ∧ gOne g (gppx g.1 row (x + 1)) x2' io' fo' := by
  have hc := hw.1
  have hr5 := hw.2.1
  have l9 := of_decide_eq_true (List.all_eq_true.mp (gppl ⟨g.1, by omega⟩ ⟨row, by omega⟩) x (List.mem_range.mpr hx))
  dsimp only at l9
  rw [List.length_append, List.length_append] at l9
  have A : ∃ x2' io' fo', zf_X9_laysRow_l15 fc fr ct cs (nI row) (nI x) x2 (0 : Int32) io fo = some (.inl (x2', (1 : Int32), io', fo')) ∧ gOne g (gppx g.1 row x ++ gpp0 g.1 row x) x2' io' fo' := by
    have kk : (10 : Int32) * nI row + (2 : Int32) * nI x = nI (10 * row + 2 * x) := by rw [show (10 : Int32) = nI 10 from rfl, show (2 : Int32) = nI 2 from rfl, gmul, gmul, nI_add]
    unfold zf_X9_laysRow_l15
    rw [if_neg (by decide), if_pos rfl, kk]
    unfold gpp0 at l9 ⊢
    by_cases q : x + 1 < g.1
    · rw [if_pos q] at l9 ⊢
      have tp : gTh (10 * row + 2 * x) g.1 g.2.1 = true := by
        unfold gTh
        rw [decide_eq_true (by omega), decide_eq_true (by omega), if_neg (by omega), decide_eq_true (by omega)]; rfl
      exact gone1 hw hM (by rw [List.length_singleton] at l9; omega) h tp
    · rw [if_neg q, List.append_nil]
      have e : x = g.1 - 1 := by omega
      have tf := gnoP ⟨g.1, by omega⟩ ⟨g.2.1, by omega⟩ ⟨row, by omega⟩ hc.1 hr
      dsimp only at tf
      rw [← e] at tf
      unfold zf_X9_laysRow_49 zf_X9_laysRow_113
      rw [if_neg (by rw [show (0 : Int32) = nI 0 from rfl, nI_ltI (by omega) (by decide)]; omega), hM.1, hM.2.1, gisP (by omega) hc hr5, Option.bind_some, tf, if_pos (show gbI false = 0 from rfl)]
      exact ⟨_, _, _, rfl, h⟩
  obtain ⟨y2, io1, fo1, a1, a2⟩ := A
  have Bq : ∃ x2' io' fo', zf_X9_laysRow_l15 fc fr ct cs (nI row) (nI x) y2 (1 : Int32) io1 fo1 = some (.inl (x2', (2 : Int32), io', fo')) ∧ gOne g (gppx g.1 row (x + 1)) x2' io' fo' := by
    unfold zf_X9_laysRow_l15
    rw [if_neg (by decide), if_neg (by decide), gppxS]
    unfold gpp1 at l9 ⊢
    by_cases q : 0 < row
    · rw [if_pos q] at l9 ⊢
      have kk : (10 : Int32) * (nI row - 1) + (2 : Int32) * nI x + 1 = nI (10 * (row - 1) + 2 * x + 1) := by rw [show (1 : Int32) = nI 1 from rfl, gsub (by omega), show (10 : Int32) = nI 10 from rfl, show (2 : Int32) = nI 2 from rfl, gmul, gmul, nI_add, nI_add]
      rw [kk]
      have tp : gTh (10 * (row - 1) + 2 * x + 1) g.1 g.2.1 = true := by
        unfold gTh
        rw [decide_eq_true (by omega), decide_eq_true (by omega), if_pos (by omega), decide_eq_true (by omega)]; rfl
      exact gone1 hw hM (by rw [List.length_singleton] at l9; rw [List.length_append]; omega) a2 tp
    · rw [if_neg q, List.append_nil]
      have e : row = 0 := by omega
      rw [e]
      unfold zf_X9_laysRow_49 zf_X9_laysRow_113
      rw [if_pos (gneg ⟨x, by omega⟩)]
      rw [e] at a2
      exact ⟨_, _, _, rfl, a2⟩
  obtain ⟨z2, io2, fo2, b1, b2⟩ := Bq
  refine ⟨z2, io2, fo2, ?_, b2⟩
  have := gitr (f := fun d : Int32 × Int32 × (Nat → Int32) × (Nat → Int32) => zf_X9_laysRow_l15 fc fr ct cs (nI row) (nI x) d.1 d.2.1 d.2.2.1 d.2.2.2) (fun j => if j = 0 then (x2, (0 : Int32), io, fo) else if j = 1 then (y2, (1 : Int32), io1, fo1) else (z2, (2 : Int32), io2, fo2)) 2 (n := zfu) (b := (z2, io2, fo2)) (gfu (by omega)) ?_ ?_
  · exact this
  · intro j hj
    by_cases j0 : j = 0
    · rw [j0]; exact a1
    · rw [show j = 1 by omega]; exact b1
  · show zf_X9_laysRow_l15 fc fr ct cs (nI row) (nI x) z2 (2 : Int32) io2 fo2 = _
    unfold zf_X9_laysRow_l15
    rw [if_pos (by decide)]
theorem gones {g : gG} (hw : gWf g) {fc fr : Int32} {ct cs : Nat → Int32} (hM : gRM g fc fr ct cs) {row : Nat} (hr : row < g.2.1) (io fo : Nat → Int32) : ∃ n io' fo' f, zit (fun d : Int32 × Int32 × (Nat → Int32) × (Nat → Int32) => zf_X9_laysRow_l4 fc fr ct cs (nI row) d.1 d.2.1 d.2.2.1 d.2.2.2) zfu ((0 : Int32), (0 : Int32), io, fo) = some (nI n, io', fo') ∧ gRdy g row f n fo' ∧ gTold g row io' := by
  have hc := hw.1
  have hr5 := hw.2.1
  have hH := gitH (f := fun d : Int32 × Int32 × (Nat → Int32) × (Nat → Int32) => zf_X9_laysRow_l4 fc fr ct cs (nI row) d.1 d.2.1 d.2.2.1 d.2.2.2) (fun j d => d.2.1 = nI j ∧ gOne g (gppx g.1 row j) d.1 d.2.2.1 d.2.2.2) (fun d => gOne g (gpl g.1 row) d.1 d.2.1 d.2.2) g.1 (n := zfu) (gfu (by omega)) (a := ((0 : Int32), (0 : Int32), io, fo)) ⟨rfl, rfl, fun i p h => (by cases h), fun p h => absurd h (List.not_mem_nil)⟩ ?_ ?_
  · obtain ⟨⟨n0, io', fo'⟩, e, h1, h2, h3⟩ := hH
    dsimp only at h1 h2 h3
    subst h1
    obtain ⟨-, -, -, -, hp, -⟩ := gRwE hw hr
    have len : (gFof g (gpl g.1 row)).length ≤ 9 := by
      refine Nat.le_trans (List.length_filter_le _ _) ?_
      have l9 := of_decide_eq_true (List.all_eq_true.mp (gppl ⟨g.1, by omega⟩ ⟨row, by omega⟩) (g.1 - 1) (List.mem_range.mpr (by show g.1 - 1 < g.1; omega)))
      dsimp only at l9
      rw [← gppxS, show g.1 - 1 + 1 = g.1 by omega, gppE] at l9
      exact l9
    refine ⟨(gFof g (gpl g.1 row)).length, io', fo', fun i => (gFof g (gpl g.1 row)).getD i 0, e, ⟨len, ?_, fun i hi => ?_⟩, fun p hp _ => h3 p hp⟩
    · have : (List.range (gFof g (gpl g.1 row)).length).map (fun i => (gFof g (gpl g.1 row)).getD i 0) = gFof g (gpl g.1 row) := by
        apply List.ext_getElem
        · rw [List.length_map, List.length_range]
        · intro i h1 h2
          rw [List.getElem_map, List.getElem_range, List.getD_eq_getElem?_getD, List.getElem?_eq_getElem h2]
          rfl
      rw [this]
      exact (hp.symm).filter _
    · refine h2 i _ ?_
      dsimp only
      rw [List.getElem?_eq_getElem hi, List.getD_eq_getElem?_getD, List.getElem?_eq_getElem hi]
      rfl
  · rintro j ⟨x2, x, io1, fo1⟩ hj ⟨h1, h2⟩
    dsimp only at h1 h2 ⊢
    subst h1
    unfold zf_X9_laysRow_l4
    obtain ⟨y2, io2, fo2, a1, a2⟩ := gone15 hw hM hr hj h2
    rw [hM.1] at a1 ⊢
    rw [if_neg (gle50 (by omega) (by omega) hj), a1, Option.bind_some, nI_1]
    exact ⟨_, rfl, rfl, a2⟩
  · rintro ⟨x2, x, io1, fo1⟩ ⟨h1, h2⟩
    dsimp only at h1 h2 ⊢
    subst h1
    unfold zf_X9_laysRow_l4
    rw [hM.1, if_pos (Int32.le_refl _)]
    exact ⟨_, rfl, h2⟩
/-- the places put back -/
theorem gback {g : gG} (hw : gWf g) {row : Nat} (hr : row < 5) {Ls : List Nat} {cnt : Nat → Nat → Nat} {mn0 nb0 : Nat → Int32} {wy0 : Nat → Int64} {mn nb : Nat → Int32} {wy : Nat → Int64} {pl : Nat → Int32} (h : gPr g row Ls cnt mn0 nb0 wy0 mn nb wy pl) : ∃ pl', zit (fun d : Int32 × (Nat → Int32) => zf_X9_laysRow_l335 mn nb (nI row) d.1 d.2) zfu ((0 : Int32), pl) = some pl' ∧ ∀ i, i < 100000 → pl' i = 0 := by
  have hl := gPr_len hw h
  obtain ⟨h1, h2, h3, h4, h5, h6, h7, h8, h9⟩ := h
  have z5 : zgd (nI row) 5 = true := ggN hr (by decide)
  have hH := gitH (f := fun d : Int32 × (Nat → Int32) => zf_X9_laysRow_l335 mn nb (nI row) d.1 d.2) (fun j d => d.1 = nI j ∧ ∀ i, i < 100000 → (∀ k u, j ≤ k → Ls[k]? = some u → gNum g row u g.1 ≠ i) → d.2 i = 0) (fun d => ∀ i, i < 100000 → d i = 0) Ls.length (n := zfu) (gfu (by omega)) (a := ((0 : Int32), pl)) ⟨rfl, fun i hi k => h5 i hi (fun u hu => by obtain ⟨j, hj⟩ := List.mem_iff_getElem?.mp hu; exact k j u (Nat.zero_le _) hj)⟩ ?_ ?_
  · exact hH
  · rintro j ⟨x, w⟩ hj ⟨rfl, k⟩
    dsimp only at k ⊢
    unfold zf_X9_laysRow_l335
    have hju : Ls[j]? = some Ls[j] := List.getElem?_eq_getElem hj
    obtain ⟨a1, a2, a3⟩ := h4 j _ hju
    have hm := h2 _ (List.getElem_mem hj)
    have hn := gDig10 hw hm.1 hm.2
    have kk : (300 : Int32) * nI row + nI j = nI (300 * row + j) := by rw [show (300 : Int32) = nI 300 from rfl, gmul, nI_add]
    rw [if_pos z5, nI_clamp (by omega), h3, if_neg (gle50 (by omega) (by omega) hj), kk, if_pos (ggN (by omega) (by decide)), nI_clamp (by omega), a1, if_pos (ggN hn (by decide)), nI_clamp (by omega), nI_1]
    refine ⟨_, rfl, rfl, fun i hi q => ?_⟩
    dsimp only
    by_cases e : i = gNum g row Ls[j] g.1
    · rw [e, gupS]
    · rw [gupN e]
      refine k i hi (fun k' u hk hu => ?_)
      by_cases e2 : k' = j
      · rw [e2, hju] at hu
        rw [← Option.some.inj hu]
        exact fun k => e k.symm
      · exact q k' u (by omega) hu
  · rintro ⟨x, w⟩ ⟨rfl, k⟩
    dsimp only at k ⊢
    unfold zf_X9_laysRow_l335
    rw [if_pos z5, nI_clamp (by omega), h3, if_pos (Int32.le_refl _)]
    refine ⟨_, rfl, fun i hi => k i hi (fun k' u hk hu => ?_)⟩
    have := (List.getElem?_eq_some_iff.mp hu).1
    omega
