/-! deciders: the loops of the class -/
def gRw3 (sz : Nat) (w : Nat → Int64) (W : Nat → Nat) : Prop := ∀ s, s < sz → w s = lN (W s)
/-- what a walk over the states of a grid needs of a slot -/
def gMvA (g : gG) (mvA : Nat → Int32) (slot : Nat) : Prop := slot < 9 ∧ gVs g.1 slot = true ∧ ∀ s, s < gSz g.1 → mvA (slot * 132 + s) = nI (gMv g.1 slot s)
theorem gmvAt {g : gG} (hw : gWf g) {mvA : Nat → Int32} {slot : Nat} (h : gMvA g mvA slot) {s : Nat} (hs : s < gSz g.1) : zf_X4_moved mvA (nI slot) (nI s) = some (nI (gMv g.1 slot s)) ∧ gMv g.1 slot s < gSz g.1 ∧ gMv g.1 slot (gMv g.1 slot s) = gMv g.1 slot s := by
  have hz := gSzle hw.1.2
  have i := gMvI' hw.1.2 h.2.1 hs
  exact ⟨gmvd (by omega) h.1 (h.2.2 s hs), i.2, i.1⟩
theorem gspread {g : gG} (hw : gWf g) {mvA : Nat → Int32} {slot : Nat} (h : gMvA g mvA slot) (u v : Nat) {w : Nat → Int64} {W : Nat → Nat} (hW : gRw3 (gSz g.1) w W) : ∃ w', zf_X0_spread (nI (gSz g.1)) w mvA (nI slot) (lN u) (lN v) = some w' ∧ gRw3 (gSz g.1) w' (fun s => u * gInto g slot s W + v * W s) := by
  have hz := gSzle hw.1.2
  unfold zf_X0_spread
  let mv := gMv g.1 slot
  let A : Nat → Nat := fun s => if mv s = s then W s * (u + v) else W s
  have h1 := gitH (f := fun d : Int32 × (Nat → Int64) => zf_X0_spread_l3 (nI (gSz g.1)) mvA (nI slot) (lN u) (lN v) d.1 d.2) (fun j d => d.1 = nI j ∧ ∀ s, s < gSz g.1 → d.2 s = lN (if s < j then A s else W s)) (fun d => gRw3 (gSz g.1) d A) (gSz g.1) (n := zfu) (gfu (by omega)) (a := ((0 : Int32), w)) ⟨rfl, fun s hs => by rw [if_neg (by omega)]; exact hW s hs⟩ ?_ ?_
  · obtain ⟨w1, e1, hA⟩ := h1
    have h2 := gitH (f := fun d : Int32 × (Nat → Int64) => zf_X0_spread_l53 (nI (gSz g.1)) mvA (nI slot) (lN u) (lN v) d.1 d.2) (fun j d => d.1 = nI j ∧ ∀ s, s < gSz g.1 → d.2 s = lN (gnD mv A (fun s => W s * u) (fun s => W s * v) j s)) (fun d => gRw3 (gSz g.1) d (gnD mv A (fun s => W s * u) (fun s => W s * v) (gSz g.1))) (gSz g.1) (n := zfu) (gfu (by omega)) (a := ((0 : Int32), w1)) ⟨rfl, fun s hs => by rw [gnD0]; exact hA s hs⟩ ?_ ?_
    · obtain ⟨w2, e2, hB⟩ := h2
      rw [e1, Option.bind_some, e2, Option.bind_some]
      refine ⟨w2, rfl, fun s hs => ?_⟩
      rw [hB s hs]
      congr 1
      by_cases q : gMv g.1 slot s = s
      · show (if mv s = s then A s + gSum (fun r => if mv r = s ∧ r ≠ s then W r * u else 0) (gSz g.1) else _) = u * gInto g slot s W + v * W s
        have i := gInto_un hw h.2.1 W hs q
        rw [if_pos q, show A s = W s * (u + v) from if_pos q, i, gSum_cong (f' := fun r => u * (if gMv g.1 slot r = s ∧ r ≠ s then W r else 0)) (fun r _ => by
          by_cases z : gMv g.1 slot r = s ∧ r ≠ s
          · rw [if_pos z, if_pos z, Nat.mul_comm]
          · rw [if_neg z, if_neg z, Nat.mul_zero]), gSum_mul, Nat.mul_add, Nat.mul_add, Nat.mul_comm (W s) u, Nat.mul_comm (W s) v]
        omega
      · show (if mv s = s then _ else if s < gSz g.1 then W s * v else _) = u * gInto g slot s W + v * W s
        rw [if_neg q, if_pos hs, gInto_mv hw h.2.1 W hs q, Nat.mul_zero, Nat.zero_add, Nat.mul_comm]
    · rintro j ⟨x, w⟩ hj ⟨rfl, hk⟩
      dsimp only at hk ⊢
      obtain ⟨m1, m2, m3⟩ := gmvAt hw h hj
      unfold zf_X0_spread_l53 zf_X0_spread_115
      rw [if_neg (gle50 (by omega) (by omega) hj), m1, Option.bind_some, nI_1]
      by_cases q : gMv g.1 slot j = j
      · rw [if_pos (by rw [q])]
        exact ⟨_, rfl, rfl, fun s hs => by dsimp only; rw [hk s hs, gnDs q]⟩
      · rw [if_neg (by rw [nI_eq (by omega) (by omega)]; exact q)]
        simp only [if_pos (ggN (show gMv g.1 slot j < 132 by omega) (show 132 < 2 ^ 31 by decide)), if_pos (ggN (show j < 132 by omega) (show 132 < 2 ^ 31 by decide)), nI_clamp (show gMv g.1 slot j < 2 ^ 31 by omega), nI_clamp (show j < 2 ^ 31 by omega)]
        refine ⟨_, rfl, rfl, fun s hs => ?_⟩
        dsimp only
        have dj : gnD mv A (fun s => W s * u) (fun s => W s * v) j j = W j := by
          rw [gnDj q]; exact if_neg q
        have wj := hk j hj
        rw [dj] at wj
        rw [gnDm (mv := mv) q m3 s]
        by_cases s1 : s = j
        · rw [s1, guLS, guLN (fun e => q e.symm), wj, lN_mul, if_neg (fun e => q e.symm), if_pos rfl]
        · rw [guLN s1]
          by_cases s2 : s = gMv g.1 slot j
          · rw [s2, guLS, hk _ m2, wj, lN_mul, lN_add, if_pos rfl]
          · rw [guLN s2, hk s hs, if_neg s2, if_neg s1]
    · rintro ⟨x, w⟩ ⟨rfl, hk⟩
      dsimp only at hk ⊢
      unfold zf_X0_spread_l53
      rw [if_pos (Int32.le_refl _)]
      exact ⟨_, rfl, hk⟩
  · rintro j ⟨x, w⟩ hj ⟨rfl, hk⟩
    dsimp only at hk ⊢
    obtain ⟨m1, m2, m3⟩ := gmvAt hw h hj
    have z : zgd (nI j) 132 = true := ggN (by omega) (by decide)
    unfold zf_X0_spread_l3 zf_X0_spread_44
    rw [if_neg (gle50 (by omega) (by omega) hj), m1, Option.bind_some, nI_1]
    have wj := hk j hj
    rw [if_neg (Nat.lt_irrefl j)] at wj
    by_cases q : gMv g.1 slot j = j
    · rw [if_pos (by rw [q]), if_pos z, if_pos z, nI_clamp (by omega)]
      refine ⟨_, rfl, rfl, fun s hs => ?_⟩
      dsimp only
      by_cases s1 : s = j
      · rw [s1, guLS, wj, lN_add, lN_mul, if_pos (by omega), show A j = W j * (u + v) from if_pos q]
      · rw [guLN s1, hk s hs]
        by_cases s2 : s < j
        · rw [if_pos s2, if_pos (by omega)]
        · rw [if_neg s2, if_neg (by omega)]
    · rw [if_neg (by rw [nI_eq (by omega) (by omega)]; exact q)]
      refine ⟨_, rfl, rfl, fun s hs => ?_⟩
      dsimp only
      rw [hk s hs]
      by_cases s1 : s = j
      · rw [s1, if_neg (Nat.lt_irrefl j), if_pos (by omega), show A j = W j from if_neg q]
      · by_cases s2 : s < j
        · rw [if_pos s2, if_pos (by omega)]
        · rw [if_neg s2, if_neg (by omega)]
  · rintro ⟨x, w⟩ ⟨rfl, hk⟩
    dsimp only at hk ⊢
    unfold zf_X0_spread_l3
    rw [if_pos (Int32.le_refl _)]
    exact ⟨_, rfl, fun s hs => by rw [hk s hs, if_pos hs]⟩
theorem ggather {g : gG} (hw : gWf g) {mvA : Nat → Int32} {slot : Nat} (h : gMvA g mvA slot) (u v : Nat) {w : Nat → Int64} {W : Nat → Nat} (hW : gRw3 (gSz g.1) w W) : ∃ w', zf_X0_gather (nI (gSz g.1)) w mvA (nI slot) (lN u) (lN v) = some w' ∧ gRw3 (gSz g.1) w' (fun s => u * W (gMv g.1 slot s) + v * W s) := by
  have hz := gSzle hw.1.2
  unfold zf_X0_gather
  let mv := gMv g.1 slot
  let A : Nat → Nat := fun s => if mv s = s then W s else u * W (mv s) + v * W s
  have h1 := gitH (f := fun d : Int32 × (Nat → Int64) => zf_X0_gather_l3 (nI (gSz g.1)) mvA (nI slot) (lN u) (lN v) d.1 d.2) (fun j d => d.1 = nI j ∧ ∀ s, s < gSz g.1 → d.2 s = lN (if s < j then A s else W s)) (fun d => gRw3 (gSz g.1) d A) (gSz g.1) (n := zfu) (gfu (by omega)) (a := ((0 : Int32), w)) ⟨rfl, fun s hs => by rw [if_neg (by omega)]; exact hW s hs⟩ ?_ ?_
  · obtain ⟨w1, e1, hA⟩ := h1
    have h2 := gitH (f := fun d : Int32 × (Nat → Int64) => zf_X0_gather_l70 (nI (gSz g.1)) mvA (nI slot) (lN u) (lN v) d.1 d.2) (fun j d => d.1 = nI j ∧ ∀ s, s < gSz g.1 → d.2 s = lN (if s < j then u * W (mv s) + v * W s else A s)) (fun d => gRw3 (gSz g.1) d (fun s => u * W (gMv g.1 slot s) + v * W s)) (gSz g.1) (n := zfu) (gfu (by omega)) (a := ((0 : Int32), w1)) ⟨rfl, fun s hs => by rw [if_neg (by omega)]; exact hA s hs⟩ ?_ ?_
    · obtain ⟨w2, e2, hB⟩ := h2
      rw [e1, Option.bind_some, e2, Option.bind_some]
      exact ⟨w2, rfl, hB⟩
    · rintro j ⟨x, w⟩ hj ⟨rfl, hk⟩
      dsimp only at hk ⊢
      obtain ⟨m1, m2, m3⟩ := gmvAt hw h hj
      have z : zgd (nI j) 132 = true := ggN (by omega) (by decide)
      unfold zf_X0_gather_l70 zf_X0_gather_111
      rw [if_neg (gle50 (by omega) (by omega) hj), m1, Option.bind_some, nI_1]
      have wj := hk j hj
      rw [if_neg (Nat.lt_irrefl j)] at wj
      by_cases q : gMv g.1 slot j = j
      · rw [if_pos (by rw [q]), if_pos z, if_pos z, nI_clamp (by omega)]
        refine ⟨_, rfl, rfl, fun s hs => ?_⟩
        dsimp only
        by_cases s1 : s = j
        · rw [s1, guLS, wj, lN_add, lN_mul, if_pos (by omega), show A j = W j from if_pos q, show mv j = j from q, Nat.mul_add, Nat.mul_comm (W j) u, Nat.mul_comm (W j) v]
        · rw [guLN s1, hk s hs]
          by_cases s2 : s < j
          · rw [if_pos s2, if_pos (by omega)]
          · rw [if_neg s2, if_neg (by omega)]
      · rw [if_neg (by rw [nI_eq (by omega) (by omega)]; exact q)]
        refine ⟨_, rfl, rfl, fun s hs => ?_⟩
        dsimp only
        rw [hk s hs]
        by_cases s1 : s = j
        · rw [s1, if_neg (Nat.lt_irrefl j), if_pos (by omega), show A j = u * W (mv j) + v * W j from if_neg q]
        · by_cases s2 : s < j
          · rw [if_pos s2, if_pos (by omega)]
          · rw [if_neg s2, if_neg (by omega)]
    · rintro ⟨x, w⟩ ⟨rfl, hk⟩
      dsimp only at hk ⊢
      unfold zf_X0_gather_l70
      rw [if_pos (Int32.le_refl _)]
      exact ⟨_, rfl, fun s hs => by rw [hk s hs, if_pos hs]⟩
  · rintro j ⟨x, w⟩ hj ⟨rfl, hk⟩
    dsimp only at hk ⊢
    obtain ⟨m1, m2, m3⟩ := gmvAt hw h hj
    have z : zgd (nI j) 132 = true := ggN (by omega) (by decide)
    have z' : zgd (nI (gMv g.1 slot j)) 132 = true := ggN (by omega) (by decide)
    unfold zf_X0_gather_l3 zf_X0_gather_61
    rw [if_neg (gle50 (by omega) (by omega) hj), m1, Option.bind_some, nI_1]
    have wj := hk j hj
    rw [if_neg (Nat.lt_irrefl j)] at wj
    by_cases q : gMv g.1 slot j = j
    · rw [if_pos (by rw [q])]
      refine ⟨_, rfl, rfl, fun s hs => ?_⟩
      dsimp only
      rw [hk s hs]
      by_cases s1 : s = j
      · rw [s1, if_neg (Nat.lt_irrefl j), if_pos (by omega), show A j = W j from if_pos q]
      · by_cases s2 : s < j
        · rw [if_pos s2, if_pos (by omega)]
        · rw [if_neg s2, if_neg (by omega)]
    · have wm : w (gMv g.1 slot j) = lN (W (gMv g.1 slot j)) := by
        rw [hk _ m2, show A (gMv g.1 slot j) = W (gMv g.1 slot j) from if_pos m3, ite_self]
      rw [if_neg (by rw [nI_eq (by omega) (by omega)]; exact q), if_pos z, if_pos z', if_pos z, nI_clamp (by omega), nI_clamp (by omega)]
      refine ⟨_, rfl, rfl, fun s hs => ?_⟩
      dsimp only
      by_cases s1 : s = j
      · rw [s1, guLS, wj, wm, lN_mul, lN_mul, lN_add, if_pos (by omega), show A j = u * W (mv j) + v * W j from if_neg q, Nat.add_comm, Nat.mul_comm u, Nat.mul_comm v]
      · rw [guLN s1, hk s hs]
        by_cases s2 : s < j
        · rw [if_pos s2, if_pos (by omega)]
        · rw [if_neg s2, if_neg (by omega)]
  · rintro ⟨x, w⟩ ⟨rfl, hk⟩
    dsimp only at hk ⊢
    unfold zf_X0_gather_l3
    rw [if_pos (Int32.le_refl _)]
    exact ⟨_, rfl, fun s hs => by rw [hk s hs, if_pos hs]⟩
/-- a loop that adds longs up -/
theorem gsumI {f : Int64 × Int32 → Option ((Int64 × Int32) ⊕ Int64)} (F : Nat → Int64) (m : Nat) (hm : m < 1000000) (hs : ∀ j v, j < m → f (v, nI j) = some (.inl (v + F j, nI (j + 1)))) (hb : ∀ v, f (v, nI m) = some (.inr v)) : zit f zfu ((0 : Int64), (0 : Int32)) = some (gSuL F m) := by
  have e := gitr (f := f) (fun j => (gSuL F j, nI j)) m (n := zfu) (b := gSuL F m) (gfu hm) ?_ ?_
  · exact e
  · intro j hj
    rw [hs j _ hj]
    rfl
  · exact hb _
theorem gsubadd (x y z w : Int64) : x - y + (z - w) = (x + z) - (y + w) := by
  rw [Int64.sub_eq_add_neg, Int64.sub_eq_add_neg, Int64.sub_eq_add_neg, Int64.neg_add, Int64.sub_eq_add_neg, Int64.add_assoc, Int64.add_assoc, ← Int64.add_assoc (-y), Int64.add_comm (-y) z, Int64.add_assoc]
theorem gSuL_sub (X Y : Nat → Nat) (n : Nat) : gSuL (fun k => lN (X k) - lN (Y k)) n = lN (gSum X n) - lN (gSum Y n) := by
  induction n with
  | zero => exact (Int64.sub_self _).symm
  | succ n ih =>
    show gSuL (fun k => lN (X k) - lN (Y k)) n + (lN (X n) - lN (Y n)) = lN (gSum X n + X n) - lN (gSum Y n + Y n)
    rw [ih, gsubadd, lN_add, lN_add]
theorem gSuL_cong {f f' : Nat → Int64} {n : Nat} (h : ∀ i, i < n → f i = f' i) : gSuL f n = gSuL f' n := by
  induction n with
  | zero => rfl
  | succ n ih =>
    show gSuL f n + f n = gSuL f' n + f' n
    rw [ih fun i hi => h i (by omega), h n (by omega)]
theorem gdecC {g : gG} (hw : gWf g) {mvA : Nat → Int32} {slot : Nat} (h : gMvA g mvA slot) {w ah : Nat → Int64} {W A : Nat → Nat} {f : Nat} (hf : f < 24) (hW : gRw3 (gSz g.1) w W) (hA : ∀ s, s < gSz g.1 → ah (f * 132 + s) = lN (A s)) (b : Bool) : zf_X0_decided (nI (gSz g.1)) ah w mvA (nI slot) (nI (f * 132)) (gbI b) = some (if b then lN (gSum (fun s => A s * W (gMv g.1 slot s)) (gSz g.1)) - lN (gSum (fun s => A s * W s) (gSz g.1)) else lN (gSum (fun s => A s * W s) (gSz g.1)) - lN (gSum (fun s => A s * W (gMv g.1 slot s)) (gSz g.1))) := by
  have hz := gSzle hw.1.2
  unfold zf_X0_decided
  rw [gsumI (f := fun d : Int64 × Int32 => zf_X0_decided_l6 (nI (gSz g.1)) ah w mvA (nI slot) (nI (f * 132)) (gbI b) d.1 d.2) (fun s => if b then lN (A s * W (gMv g.1 slot s)) - lN (A s * W s) else lN (A s * W s) - lN (A s * W (gMv g.1 slot s))) (gSz g.1) (by omega) (fun j v hj => ?_) (fun v => ?_), Option.bind_some]
  · cases b with
    | true =>
      rw [if_pos rfl, ← gSuL_sub]
      congr 1
    | false =>
      rw [if_neg (by decide), ← gSuL_sub]
      congr 1
  · obtain ⟨m1, m2, m3⟩ := gmvAt hw h hj
    dsimp only
    unfold zf_X0_decided_l6 zf_X0_decided_66
    rw [if_neg (gle50 (by omega) (by omega) hj), m1, Option.bind_some, if_pos (ggN (by omega) (by decide)), if_pos (ggN (by omega) (by decide)), nI_add, if_pos (ggN (by omega) (by decide)), nI_clamp (by omega), nI_clamp (by omega), nI_clamp (by omega), hW _ m2, hW j hj, hA j hj, nI_1]
    cases b with
    | true => rw [if_neg (by decide), if_pos rfl, Int64.mul_sub, lN_mul, lN_mul]
    | false => rw [if_pos (show gbI false = 0 from rfl), if_neg (by decide), Int64.neg_sub, Int64.mul_sub, lN_mul, lN_mul]
  · dsimp only
    unfold zf_X0_decided_l6
    rw [if_pos (Int32.le_refl _)]
