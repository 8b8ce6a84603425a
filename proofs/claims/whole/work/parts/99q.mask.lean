/-! the reference's loops over masks and over the states of the row above -/
theorem gbitT : ∀ (m : Fin 512) (k : Fin 9), ((zshr (nI m.val) (nI k.val)) &&& (1 : Int32)) = nI (if m.val.testBit k.val then 1 else 0) := by decide +kernel
theorem gshl9 : ∀ n : Fin 10, zshl (1 : Int32) (nI n.val) = nI (2 ^ n.val) := by decide +kernel
theorem gct_le9 (f : Nat → Bool) {n : Nat} (h : n ≤ 9) : gct f n < 25 := Nat.lt_of_le_of_lt (gct_le f n) (by omega)
theorem gbits {fo : Nat → Nat} {n mask : Nat} (hn : n ≤ 9) (hm : mask < 2 ^ n) (hfo : ∀ i, i < n → fo i < 50) {fr : Nat → Int32} (hfr : ∀ i, i < n → fr i = nI (fo i)) (io : Nat → Int32) : ∃ io', zit (fun d : Int32 × Int32 × (Nat → Int32) => zf_X9_laysRow_l250 fr (nI n) (nI mask) d.1 d.2.1 d.2.2) zfu ((0 : Int32), (0 : Int32), io) = some (nI (gct mask.testBit n), io') ∧ ∀ p (op : Nat → Bool), ((∀ i, i < n → fo i ≠ p) → io p = gbI (op p)) → io' p = gbI (gOm fo mask op n p) := by
  have hm5 : mask < 512 := Nat.lt_of_lt_of_le hm (Nat.pow_le_pow_right (by decide) hn)
  have hH := gitH (f := fun d : Int32 × Int32 × (Nat → Int32) => zf_X9_laysRow_l250 fr (nI n) (nI mask) d.1 d.2.1 d.2.2) (fun j q => q.1 = nI (gct mask.testBit j) ∧ q.2.1 = nI j ∧ ∀ p (op : Nat → Bool), ((∀ i, i < j → fo i ≠ p) → io p = gbI (op p)) → q.2.2 p = gbI (gOm fo mask op j p)) (fun q => q.1 = nI (gct mask.testBit n) ∧ ∀ p (op : Nat → Bool), ((∀ i, i < n → fo i ≠ p) → io p = gbI (op p)) → q.2 p = gbI (gOm fo mask op n p)) n (n := zfu) (gfu (by omega)) (a := ((0 : Int32), (0 : Int32), io)) ⟨rfl, rfl, fun p op h => h (fun i hi => by omega)⟩ ?_ ?_
  · obtain ⟨q, e, h1, h2⟩ := hH
    exact ⟨q.2, by rw [e, ← h1], h2⟩
  · rintro j ⟨a, x, w⟩ hj ⟨h1, h2, h3⟩
    dsimp only at h1 h2 h3 ⊢
    subst h1 h2
    unfold zf_X9_laysRow_l250
    have bt := gbitT ⟨mask, hm5⟩ ⟨j, by omega⟩
    dsimp only at bt
    rw [if_neg (gle50 (by omega) (by omega) hj), if_pos (ggN (by omega) (by decide)), bt, nI_clamp (by omega), hfr j hj]
    have stp : ∀ v, vp_nar .boolean v = gbI (mask.testBit j) → ∃ a', zf_X9_laysRow_283 w (nI mask) (nI (gct mask.testBit j)) (nI j) (nI (fo j)) v = some (.inl a') ∧ a'.1 = nI (gct mask.testBit (j + 1)) ∧ a'.2.1 = nI (j + 1) ∧ ∀ p (op : Nat → Bool), ((∀ i, i < j + 1 → fo i ≠ p) → io p = gbI (op p)) → a'.2.2 p = gbI (gOm fo mask op (j + 1) p) := by
      intro v hv
      unfold zf_X9_laysRow_283
      have := hfo j hj
      rw [if_pos (ggN this (by decide)), bt, hv, nI_clamp (by omega), nI_add, nI_1]
      refine ⟨_, rfl, ?_, rfl, fun p op hp => ?_⟩
      · dsimp only
        rw [gctS]
      · dsimp only
        show _ = gbI (if p = fo j then mask.testBit j else gOm fo mask op j p)
        by_cases e : p = fo j
        · rw [e, gupS, if_pos rfl]
        · rw [gupN e, if_neg e]
          exact h3 p op (fun k => hp (fun i hi => by
            by_cases e2 : i = j
            · rw [e2]; exact fun k => e k.symm
            · exact k i (by omega)))
    cases hb : mask.testBit j with
    | true =>
      rw [if_pos (by decide)]
      exact stp 1 (by rw [hb]; decide)
    | false =>
      rw [if_neg (by decide)]
      exact stp 0 (by rw [hb]; decide)
  · rintro ⟨a, x, w⟩ ⟨h1, h2, h3⟩
    dsimp only at h1 h2 h3 ⊢
    subst h1 h2
    unfold zf_X9_laysRow_l250
    rw [if_pos (Int32.le_refl _)]
    exact ⟨_, rfl, rfl, h3⟩
theorem gplR {c row x : Nat} (hx : x + 1 < c) : 10 * row + 2 * x ∈ gpl c row := by
  refine List.mem_flatMap.mpr ⟨x, List.mem_range.mpr (by omega), List.mem_append_left _ ?_⟩
  rw [if_pos hx]; exact List.mem_singleton.mpr rfl
theorem gplD {c row x : Nat} (h0 : 0 < row) (hx : x < c) : 10 * (row - 1) + 2 * x + 1 ∈ gpl c row := by
  refine List.mem_flatMap.mpr ⟨x, List.mem_range.mpr hx, List.mem_append_right _ ?_⟩
  rw [if_pos h0]; exact List.mem_singleton.mpr rfl
theorem gOld100 (g : gG) (row s x : Nat) : gOld g row s x < 100 := by
  unfold gOld
  by_cases r0 : row = 0
  · rw [if_pos r0]; decide
  · rw [if_neg r0]
    unfold gDig gLb
    by_cases q : g.2.2.2 (5 * (row - 1) + x) = true
    · rw [if_pos q]; decide
    · rw [if_neg q]; omega
/-- what stands ready when a row is laid: its free pipes, what is told of the rest -/
def gRdy (g : gG) (row : Nat) (fo : Nat → Nat) (n : Nat) (fr : Nat → Int32) : Prop := n ≤ 9 ∧ ((List.range n).map fo).Perm (gFrL g (gsr row g.1)) ∧ ∀ i, i < n → fr i = nI (fo i)
def gTold (g : gG) (row : Nat) (io : Nat → Int32) : Prop := ∀ p ∈ gpl g.1 row, gHow g p ≠ 0 → io p = gbI (gO0 g p)
theorem gfo_iff {g : gG} (hw : gWf g) {row : Nat} (hr : row < g.2.1) {fo : Nat → Nat} {n : Nat} {fr : Nat → Int32} (h : gRdy g row fo n fr) : (∀ i, i < n → gHow g (fo i) = 0 ∧ fo i < 50 ∧ fo i ∈ gpl g.1 row) ∧ ∀ p ∈ gpl g.1 row, gHow g p = 0 → ∃ i, i < n ∧ fo i = p := by
  obtain ⟨-, -, -, -, hp, ht⟩ := gRwE hw hr
  constructor
  · intro i hi
    have m := h.2.1.subset (List.mem_map.mpr ⟨i, List.mem_range.mpr hi, rfl⟩)
    have m2 := List.mem_filter.mp m
    have m3 := hp.subset m2.1
    exact ⟨of_decide_eq_true m2.2, gTh50 hw.2.1.2 (ht _ m3), m3⟩
  · intro p m h0
    have m2 : p ∈ gFrL g (gsr row g.1) := List.mem_filter.mpr ⟨hp.symm.subset m, decide_eq_true h0⟩
    obtain ⟨i, hi, e⟩ := List.mem_map.mp (h.2.1.symm.subset m2)
    exact ⟨i, List.mem_range.mp hi, e⟩
/-- one mask -/
theorem gmask1 {g : gG} (hw : gWf g) {row : Nat} (hr : row < g.2.1) {fo : Nat → Nat} {n : Nat} {fr : Nat → Int32} (hR : gRdy g row fo n fr) {s : Nat} (hs : gSrc g row s) {ol cs : Nat → Int32} (hol : ∀ x, x < g.1 → ol x = nI (gOld g row s x)) (hcs : ∀ k, k < 25 → cs k = gbI (g.2.2.2 k)) {mask : Nat} (hm : mask < 2 ^ n) {Ls : List Nat} {cnt : Nat → Nat → Nat} {mn0 nb0 : Nat → Int32} {wy0 : Nat → Int64} {mn nb : Nat → Int32} {wy : Nat → Int64} {pl : Nat → Int32} (h : gPr g row Ls cnt mn0 nb0 wy0 mn nb wy pl) {frm : Int32} {D : Nat → Nat} (hF : gFrom row wy0 frm D) {io : Nat → Int32} (ht : gTold g row io) (lb gv : Nat → Int32) : ∃ mn' nb' wy' pl' lb' io' gv', zf_X9_laysRow_l236 (nI g.1) cs ol fr (nI row) (nI n) frm (nI mask) mn nb wy pl lb io gv = some (.inl (nI (mask + 1), mn', nb', wy', pl', lb', io', gv')) ∧ gPr g row (if gU1 g row fo n s mask ∈ Ls then Ls else Ls ++ [gU1 g row fo n s mask]) (fun v k => cnt v k + gFd v k D (gU1 g row fo n s mask) (gct mask.testBit n)) mn0 nb0 wy0 mn' nb' wy' pl' ∧ gTold g row io' := by
  have hc := hw.1
  have hr5 := hw.2.1.2
  obtain ⟨fi, fe⟩ := gfo_iff hw hr hR
  obtain ⟨k1, k2, k3⟩ := gstep hw hs (fun i hi => (fi i hi).1) mask
  have hsh := gshl9 ⟨n, by have := hR.1; omega⟩
  dsimp only at hsh
  have hm5 : mask < 512 := Nat.lt_of_lt_of_le hm (Nat.pow_le_pow_right (by decide) hR.1)
  have h2n : 2 ^ n ≤ 2 ^ 9 := Nat.pow_le_pow_right (by decide) hR.1
  obtain ⟨io', b1, b2⟩ := gbits hR.1 hm (fun i hi => (fi i hi).2.1) hR.2.2 io
  have opE : ∀ p ∈ gpl g.1 row, io' p = gbI (gOm fo mask (gO0 g) n p) := by
    intro p hp
    refine b2 p (gO0 g) (fun hne => ht p hp (fun h0 => ?_))
    obtain ⟨i, hi, e⟩ := fe p hp h0
    exact hne i hi e
  obtain ⟨lb', l1, l2⟩ := glab hw hr hcs (lb := lb) (ol := ol) (io := io') (op := gOm fo mask (gO0 g) n) (old := gOld g row s) (gOld100 g row s) hol (fun h0 x hx => opE _ (gplD h0 hx)) (fun x hx => opE _ (gplR hx))
  obtain ⟨gv', n1⟩ := gnamed hc.2 (lb := lb') (gv := gv) (L := gLs g row (gOm fo mask (gO0 g) n) (gOld g row s) (g.1 - 1)) (fun x hx => ⟨l2 x hx, gLs_100 (gOld100 g row s) _ (by omega) x (by omega)⟩)
  obtain ⟨mn', nb', wy', pl', a1, a2⟩ := gadds9 hw (by omega) h k1 k2 hF (gct_le9 mask.testBit hR.1)
  unfold zf_X9_laysRow_l236
  rw [hsh, if_neg (by rw [nI_leI (by omega) (by omega)]; omega), b1, Option.bind_some]
  dsimp only
  rw [l1, Option.bind_some, n1, Option.bind_some, k3]
  dsimp only
  rw [a1, Option.bind_some, nI_1]
  refine ⟨_, _, _, _, _, _, _, rfl, a2, fun p hp h0 => ?_⟩
  rw [opE p hp]
  have : ∀ j, j ≤ n → gOm fo mask (gO0 g) j p = gO0 g p := by
    intro j
    induction j with
    | zero => intro _; rfl
    | succ j ih =>
      intro hj
      show (if p = fo j then mask.testBit j else gOm fo mask (gO0 g) j p) = gO0 g p
      rw [if_neg (fun e => h0 (by rw [e]; exact (fi j (by omega)).1)), ih (by omega)]
  rw [this n (Nat.le_refl _)]
/-- all masks of one source -/
theorem gmasks {g : gG} (hw : gWf g) {row : Nat} (hr : row < g.2.1) {fo : Nat → Nat} {n : Nat} {fr : Nat → Int32} (hR : gRdy g row fo n fr) {s : Nat} (hs : gSrc g row s) {ol cs : Nat → Int32} (hol : ∀ x, x < g.1 → ol x = nI (gOld g row s x)) (hcs : ∀ k, k < 25 → cs k = gbI (g.2.2.2 k)) {Ls : List Nat} {cnt : Nat → Nat → Nat} {mn0 nb0 : Nat → Int32} {wy0 : Nat → Int64} {mn nb : Nat → Int32} {wy : Nat → Int64} {pl : Nat → Int32} (h : gPr g row Ls cnt mn0 nb0 wy0 mn nb wy pl) {frm : Int32} {D : Nat → Nat} (hF : gFrom row wy0 frm D) {io : Nat → Int32} (ht : gTold g row io) (lb gv : Nat → Int32) : ∃ mn' nb' wy' pl' lb' io' gv' Ls', zit (fun d : Int32 × (Nat → Int32) × (Nat → Int32) × (Nat → Int64) × (Nat → Int32) × (Nat → Int32) × (Nat → Int32) × (Nat → Int32) => zf_X9_laysRow_l236 (nI g.1) cs ol fr (nI row) (nI n) frm d.1 d.2.1 d.2.2.1 d.2.2.2.1 d.2.2.2.2.1 d.2.2.2.2.2.1 d.2.2.2.2.2.2.1 d.2.2.2.2.2.2.2) zfu ((0 : Int32), mn, nb, wy, pl, lb, io, gv) = some (mn', nb', wy', pl', lb', io', gv') ∧ gPr g row Ls' (fun v k => cnt v k + gSum (fun mask => gFd v k D (gU1 g row fo n s mask) (gct mask.testBit n)) (2 ^ n)) mn0 nb0 wy0 mn' nb' wy' pl' ∧ gTold g row io' ∧ ∀ v, v ∈ Ls' ↔ (v ∈ Ls ∨ ∃ mask, mask < 2 ^ n ∧ gU1 g row fo n s mask = v) := by
  have h2n : 2 ^ n ≤ 2 ^ 9 := Nat.pow_le_pow_right (by decide) hR.1
  have hsh := gshl9 ⟨n, by have := hR.1; omega⟩
  dsimp only at hsh
  have hH := gitH (f := fun d : Int32 × (Nat → Int32) × (Nat → Int32) × (Nat → Int64) × (Nat → Int32) × (Nat → Int32) × (Nat → Int32) × (Nat → Int32) => zf_X9_laysRow_l236 (nI g.1) cs ol fr (nI row) (nI n) frm d.1 d.2.1 d.2.2.1 d.2.2.2.1 d.2.2.2.2.1 d.2.2.2.2.2.1 d.2.2.2.2.2.2.1 d.2.2.2.2.2.2.2) (fun j d => d.1 = nI j ∧ ∃ Ls', gPr g row Ls' (fun v k => cnt v k + gSum (fun mask => gFd v k D (gU1 g row fo n s mask) (gct mask.testBit n)) j) mn0 nb0 wy0 d.2.1 d.2.2.1 d.2.2.2.1 d.2.2.2.2.1 ∧ gTold g row d.2.2.2.2.2.2.1 ∧ ∀ v, v ∈ Ls' ↔ (v ∈ Ls ∨ ∃ mask, mask < j ∧ gU1 g row fo n s mask = v)) (fun d => ∃ Ls', gPr g row Ls' (fun v k => cnt v k + gSum (fun mask => gFd v k D (gU1 g row fo n s mask) (gct mask.testBit n)) (2 ^ n)) mn0 nb0 wy0 d.1 d.2.1 d.2.2.1 d.2.2.2.1 ∧ gTold g row d.2.2.2.2.2.1 ∧ ∀ v, v ∈ Ls' ↔ (v ∈ Ls ∨ ∃ mask, mask < 2 ^ n ∧ gU1 g row fo n s mask = v)) (2 ^ n) (n := zfu) (gfu (by omega)) (a := ((0 : Int32), mn, nb, wy, pl, lb, io, gv)) ⟨rfl, Ls, h, ht, fun v => ⟨Or.inl, fun k => k.elim id (fun ⟨_, k, _⟩ => by omega)⟩⟩ ?_ ?_
  · obtain ⟨⟨mn', nb', wy', pl', lb', io', gv'⟩, e, Ls', k1, k2, k3⟩ := hH
    exact ⟨mn', nb', wy', pl', lb', io', gv', Ls', e, k1, k2, k3⟩
  · rintro j ⟨x, mn1, nb1, wy1, pl1, lb1, io1, gv1⟩ hj ⟨rfl, Ls1, k1, k2, k3⟩
    dsimp only at k1 k2 k3 ⊢
    obtain ⟨mn', nb', wy', pl', lb', io', gv', e, p1, p2⟩ := gmask1 hw hr hR hs hol hcs hj k1 hF k2 lb1 gv1
    refine ⟨_, e, rfl, (if gU1 g row fo n s j ∈ Ls1 then Ls1 else Ls1 ++ [gU1 g row fo n s j]), ?_, p2, fun v => ?_⟩
    · have e2 : (fun v k => cnt v k + gSum (fun mask => gFd v k D (gU1 g row fo n s mask) (gct mask.testBit n)) (j + 1)) = fun v k => cnt v k + gSum (fun mask => gFd v k D (gU1 g row fo n s mask) (gct mask.testBit n)) j + gFd v k D (gU1 g row fo n s j) (gct j.testBit n) := by
        funext v k
        exact (Nat.add_assoc _ _ _).symm
      rw [e2]
      exact p1
    · have mem : v ∈ (if gU1 g row fo n s j ∈ Ls1 then Ls1 else Ls1 ++ [gU1 g row fo n s j]) ↔ (v ∈ Ls1 ∨ v = gU1 g row fo n s j) := by
        by_cases q : gU1 g row fo n s j ∈ Ls1
        · rw [if_pos q]
          exact ⟨Or.inl, fun k => k.elim id (fun k => by rw [k]; exact q)⟩
        · rw [if_neg q, List.mem_append, List.mem_singleton]
      rw [mem, k3 v]
      constructor
      · rintro ((k | ⟨mask, k, k'⟩) | k)
        · exact Or.inl k
        · exact Or.inr ⟨mask, by omega, k'⟩
        · exact Or.inr ⟨j, by omega, k.symm⟩
      · rintro (k | ⟨mask, k, k'⟩)
        · exact Or.inl (Or.inl k)
        · by_cases e3 : mask = j
          · exact Or.inr (by rw [← e3, k'])
          · exact Or.inl (Or.inr ⟨mask, by omega, k'⟩)
  · rintro ⟨x, mn1, nb1, wy1, pl1, lb1, io1, gv1⟩ ⟨rfl, Ls1, k1, k2, k3⟩
    dsimp only at k1 k2 k3 ⊢
    unfold zf_X9_laysRow_l236
    rw [hsh, if_pos (Int32.le_refl _)]
    exact ⟨_, rfl, Ls1, k1, k2, k3⟩
/-- the states of the row above, one after another -/
def gSrcs (g : gG) (row B : Nat) (src : Nat → Nat) (D : Nat → Nat → Nat) (nb0 : Nat → Int32) (wy0 : Nat → Int64) : Prop := B ≤ 132 ∧ ∀ i, i < B → gSrc g row (src i) ∧ (row = 0 → ∀ k, D i k = if k = 0 then 1 else 0) ∧ (0 < row → nb0 (300 * (row - 1) + i) = nI (gNum g (row - 1) (src i) g.1) ∧ ∀ k, k < 25 → wy0 (25 * (300 * (row - 1) + i) + k) = lN (D i k))
theorem gNv0 (n : Nat) : gNv (fun _ => 0) n = 0 := by
  induction n with
  | zero => rfl
  | succ n ih => show 10 * gNv (fun _ => 0) n + 0 = 0; rw [ih]
theorem gsrc1 {g : gG} (hw : gWf g) {row : Nat} (hr : row < g.2.1) {fo : Nat → Nat} {n : Nat} {fr : Nat → Int32} (hR : gRdy g row fo n fr) {B : Nat} {src : Nat → Nat} {D : Nat → Nat → Nat} {mn0 nb0 : Nat → Int32} {wy0 : Nat → Int64} (hS : gSrcs g row B src D nb0 wy0) {cs : Nat → Int32} (hcs : ∀ k, k < 25 → cs k = gbI (g.2.2.2 k)) {i : Nat} (hi : i < B) {Ls : List Nat} {cnt : Nat → Nat → Nat} {mn nb : Nat → Int32} {wy : Nat → Int64} {pl : Nat → Int32} (h : gPr g row Ls cnt mn0 nb0 wy0 mn nb wy pl) {io : Nat → Int32} (ht : gTold g row io) (lb ol gv : Nat → Int32) : ∃ mn' nb' wy' pl' lb' ol' io' gv' Ls', zf_X9_laysRow_l152 (nI g.1) cs fr (nI row) (nI n) (nI B) (nI i) mn nb wy pl lb ol io gv = some (.inl (nI (i + 1), mn', nb', wy', pl', lb', ol', io', gv')) ∧ gPr g row Ls' (fun v k => cnt v k + gSum (fun mask => gFd v k (D i) (gU1 g row fo n (src i) mask) (gct mask.testBit n)) (2 ^ n)) mn0 nb0 wy0 mn' nb' wy' pl' ∧ gTold g row io' ∧ ∀ v, v ∈ Ls' ↔ (v ∈ Ls ∨ ∃ mask, mask < 2 ^ n ∧ gU1 g row fo n (src i) mask = v) := by
  have hr5 := hw.2.1.2
  have hc := hw.1
  obtain ⟨hB, hS⟩ := hS
  obtain ⟨s1, s2, s3⟩ := hS i hi
  have K : ∀ frm s0, gFrom row wy0 frm (D i) → s0 = nI (gNv (gOld g row (src i)) g.1) → (∀ x, x < g.1 → gOld g row (src i) x ≤ 9) → ∃ mn' nb' wy' pl' lb' ol' io' gv' Ls', zf_X9_laysRow_193 (nI g.1) cs mn nb wy pl lb ol io fr gv (nI row) (nI n) (nI i) frm s0 = some (.inl (nI (i + 1), mn', nb', wy', pl', lb', ol', io', gv')) ∧ gPr g row Ls' (fun v k => cnt v k + gSum (fun mask => gFd v k (D i) (gU1 g row fo n (src i) mask) (gct mask.testBit n)) (2 ^ n)) mn0 nb0 wy0 mn' nb' wy' pl' ∧ gTold g row io' ∧ ∀ v, v ∈ Ls' ↔ (v ∈ Ls ∨ ∃ mask, mask < 2 ^ n ∧ gU1 g row fo n (src i) mask = v) := by
    intro frm s0 hF hs0 h9
    unfold zf_X9_laysRow_193
    obtain ⟨ol', o1, o2⟩ := gold hc.2 h9 ol
    rw [hs0, o1, Option.bind_some]
    obtain ⟨mn', nb', wy', pl', lb', io', gv', Ls', m1, m2, m3, m4⟩ := gmasks hw hr hR s1 o2 hcs h hF ht lb gv
    rw [m1, Option.bind_some, nI_1]
    exact ⟨mn', nb', wy', pl', lb', ol', io', gv', Ls', rfl, m2, m3, m4⟩
  unfold zf_X9_laysRow_l152 zf_X9_laysRow_176
  rw [if_neg (gle50 (by omega) (by omega) hi)]
  by_cases r0 : row = 0
  · rw [if_pos (by rw [r0]; rfl), if_pos (by rw [r0]; rfl)]
    have e0 : gOld g row (src i) = fun _ => 0 := by unfold gOld; rw [if_pos r0]
    refine K (-1) 0 (Or.inl ⟨rfl, s2 r0⟩) ?_ ?_
    · rw [e0, gNv0]; rfl
    · intro x hx; rw [e0]; exact Nat.zero_le 9
  · have rn : ¬ nI row = 0 := by rw [show (0 : Int32) = nI 0 from rfl, nI_eq (by omega) (by decide)]; exact r0
    have kk : (300 : Int32) * (nI row - 1) + nI i = nI (300 * (row - 1) + i) := by rw [show (1 : Int32) = nI 1 from rfl, gsub (by omega), show (300 : Int32) = nI 300 from rfl, gmul, nI_add]
    obtain ⟨t1, t2⟩ := s3 (by omega)
    have e0 : gOld g row (src i) = gDig g (row - 1) (src i) := by unfold gOld; rw [if_neg r0]
    unfold gSrc at s1
    rw [if_neg r0] at s1
    rw [if_neg rn, kk, if_neg rn, if_pos (ggN (by omega) (by decide)), nI_clamp (by omega), h.2.2.2.2.2.2.2.1 _ (by omega), t1]
    refine K _ _ (Or.inr ⟨_, rfl, by omega, by omega, t2⟩) ?_ ?_
    · rw [e0, ← gNum_nv]
    · rw [e0]; exact (gDigE hw s1.1 s1.2).2.2
theorem gsrcs {g : gG} (hw : gWf g) {row : Nat} (hr : row < g.2.1) {fo : Nat → Nat} {n : Nat} {fr : Nat → Int32} (hR : gRdy g row fo n fr) {B : Nat} {src : Nat → Nat} {D : Nat → Nat → Nat} {mn0 nb0 : Nat → Int32} {wy0 : Nat → Int64} (hS : gSrcs g row B src D nb0 wy0) {cs : Nat → Int32} (hcs : ∀ k, k < 25 → cs k = gbI (g.2.2.2 k)) {mn nb : Nat → Int32} {wy : Nat → Int64} {pl : Nat → Int32} (h : gPr g row [] (fun _ _ => 0) mn0 nb0 wy0 mn nb wy pl) {io : Nat → Int32} (ht : gTold g row io) (lb ol gv : Nat → Int32) : ∃ mn' nb' wy' pl' lb' ol' io' gv' Ls', zit (fun d : Int32 × (Nat → Int32) × (Nat → Int32) × (Nat → Int64) × (Nat → Int32) × (Nat → Int32) × (Nat → Int32) × (Nat → Int32) × (Nat → Int32) => zf_X9_laysRow_l152 (nI g.1) cs fr (nI row) (nI n) (nI B) d.1 d.2.1 d.2.2.1 d.2.2.2.1 d.2.2.2.2.1 d.2.2.2.2.2.1 d.2.2.2.2.2.2.1 d.2.2.2.2.2.2.2.1 d.2.2.2.2.2.2.2.2) zfu ((0 : Int32), mn, nb, wy, pl, lb, ol, io, gv) = some (mn', nb', wy', pl', lb', ol', io', gv') ∧ gPr g row Ls' (fun v k => gSum (fun i => gSum (fun mask => gFd v k (D i) (gU1 g row fo n (src i) mask) (gct mask.testBit n)) (2 ^ n)) B) mn0 nb0 wy0 mn' nb' wy' pl' ∧ ∀ v, v ∈ Ls' ↔ ∃ i mask, i < B ∧ mask < 2 ^ n ∧ gU1 g row fo n (src i) mask = v := by
  have hB := hS.1
  have hH := gitH (f := fun d : Int32 × (Nat → Int32) × (Nat → Int32) × (Nat → Int64) × (Nat → Int32) × (Nat → Int32) × (Nat → Int32) × (Nat → Int32) × (Nat → Int32) => zf_X9_laysRow_l152 (nI g.1) cs fr (nI row) (nI n) (nI B) d.1 d.2.1 d.2.2.1 d.2.2.2.1 d.2.2.2.2.1 d.2.2.2.2.2.1 d.2.2.2.2.2.2.1 d.2.2.2.2.2.2.2.1 d.2.2.2.2.2.2.2.2) (fun j d => d.1 = nI j ∧ ∃ Ls', gPr g row Ls' (fun v k => gSum (fun i => gSum (fun mask => gFd v k (D i) (gU1 g row fo n (src i) mask) (gct mask.testBit n)) (2 ^ n)) j) mn0 nb0 wy0 d.2.1 d.2.2.1 d.2.2.2.1 d.2.2.2.2.1 ∧ gTold g row d.2.2.2.2.2.2.2.1 ∧ ∀ v, v ∈ Ls' ↔ ∃ i mask, i < j ∧ mask < 2 ^ n ∧ gU1 g row fo n (src i) mask = v) (fun d => ∃ Ls', gPr g row Ls' (fun v k => gSum (fun i => gSum (fun mask => gFd v k (D i) (gU1 g row fo n (src i) mask) (gct mask.testBit n)) (2 ^ n)) B) mn0 nb0 wy0 d.1 d.2.1 d.2.2.1 d.2.2.2.1 ∧ ∀ v, v ∈ Ls' ↔ ∃ i mask, i < B ∧ mask < 2 ^ n ∧ gU1 g row fo n (src i) mask = v) B (n := zfu) (gfu (by omega)) (a := ((0 : Int32), mn, nb, wy, pl, lb, ol, io, gv)) ⟨rfl, [], h, ht, fun v => ⟨fun k => absurd k (List.not_mem_nil), fun ⟨_, _, k, _⟩ => by omega⟩⟩ ?_ ?_
  · obtain ⟨⟨mn', nb', wy', pl', lb', ol', io', gv'⟩, e, Ls', k1, k3⟩ := hH
    exact ⟨mn', nb', wy', pl', lb', ol', io', gv', Ls', e, k1, k3⟩
  · rintro j ⟨x, mn1, nb1, wy1, pl1, lb1, ol1, io1, gv1⟩ hj ⟨rfl, Ls1, k1, k2, k3⟩
    dsimp only at k1 k2 k3 ⊢
    obtain ⟨mn', nb', wy', pl', lb', ol', io', gv', Ls', e, p1, p2, p3⟩ := gsrc1 hw hr hR hS hcs hj k1 k2 lb1 ol1 gv1
    refine ⟨_, e, rfl, Ls', p1, p2, fun v => ?_⟩
    rw [p3 v, k3 v]
    constructor
    · rintro (⟨i, mask, a, b⟩ | ⟨mask, b⟩)
      · exact ⟨i, mask, by omega, b⟩
      · exact ⟨j, mask, by omega, b⟩
    · rintro ⟨i, mask, a, b⟩
      by_cases e3 : i = j
      · rw [e3] at b; exact Or.inr ⟨mask, b⟩
      · exact Or.inl ⟨i, mask, by omega, b⟩
  · rintro ⟨x, mn1, nb1, wy1, pl1, lb1, ol1, io1, gv1⟩ ⟨rfl, Ls1, k1, k2, k3⟩
    dsimp only at k1 k2 k3 ⊢
    unfold zf_X9_laysRow_l152
    rw [if_pos (Int32.le_refl _)]
    exact ⟨_, rfl, Ls1, k1, k3⟩
