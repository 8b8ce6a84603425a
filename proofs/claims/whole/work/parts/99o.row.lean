/-! a row: the class's counting by the choices of its free pipes; good states -/
def gpl (c row : Nat) : List Nat := (List.range c).flatMap (fun x => (if x + 1 < c then [10 * row + 2 * x] else []) ++ (if 0 < row then [10 * (row - 1) + 2 * x + 1] else []))
theorem gRwT : ∀ (c r : Fin 6), 1 ≤ c.val → (List.range r.val).all (fun row => decide (((gSteps c.val r.val).drop (gRS c.val row)).take (gsr row c.val).length = gsr row c.val) && decide (gRS c.val (row + 1) = gRS c.val row + (gsr row c.val).length) && decide (((gsr row c.val).map (fun q => q.1)).Nodup) && (gsr row c.val).all (fun q => gVs c.val q.2) && (((gsr row c.val).map (fun q => q.1)).isPerm (gpl c.val row)) && (gpl c.val row).all (fun p => gTh p c.val r.val)) = true := by decide +kernel
theorem gRwE {g : gG} (hw : gWf g) {row : Nat} (hr : row < g.2.1) : (∀ j q, (gsr row g.1)[j]? = some q → gStep g (gRS g.1 row + j) = q) ∧ gRS g.1 (row + 1) = gRS g.1 row + (gsr row g.1).length ∧ ((gsr row g.1).map (fun q => q.1)).Nodup ∧ (∀ q ∈ gsr row g.1, gVs g.1 q.2 = true) ∧ ((gsr row g.1).map (fun q => q.1)).Perm (gpl g.1 row) ∧ ∀ p ∈ gpl g.1 row, gTh p g.1 g.2.1 = true := by
  have h := List.all_eq_true.mp (gRwT ⟨g.1, by have := hw.1.2; omega⟩ ⟨g.2.1, by have := hw.2.1.2; omega⟩ hw.1.1) row (List.mem_range.mpr hr)
  simp only [Bool.and_eq_true, decide_eq_true_eq] at h
  obtain ⟨⟨⟨⟨⟨h1, h2⟩, h3⟩, h4⟩, h5⟩, h6⟩ := h
  refine ⟨fun j q hq => ?_, h2, h3, List.all_eq_true.mp h4, List.isPerm_iff.mp h5, List.all_eq_true.mp h6⟩
  have hj : j < (gsr row g.1).length := (List.getElem?_eq_some_iff.mp hq).1
  rw [← h1, List.getElem?_take_of_lt hj, List.getElem?_drop] at hq
  unfold gStep
  rw [List.getD_eq_getElem?_getD, hq]
  rfl
theorem gRn_app (g : gG) (P Q : List (Nat × Nat)) (op : Nat → Bool) : ∀ s, gRn g (P ++ Q) op s = gRn g Q op (gRn g P op s) := by
  induction P with
  | nil => intro s; rfl
  | cons q P ih => intro s; exact ih _
theorem gRn_rw (g : gG) (row : Nat) (op : Nat → Bool) (s : Nat) : ∀ n, gRn g (gsr row n) op s = gRw g.1 row op s n := by
  intro n
  induction n with
  | zero => rfl
  | succ n ih =>
    rw [gsrS, gRn_app, ih]
    unfold gsc
    rw [gRn_app]
    have d : gRn g (if 0 < row then [(10 * (row - 1) + 2 * n + 1, n)] else []) op (gRw g.1 row op s n) = if 0 < row ∧ op (10 * (row - 1) + 2 * n + 1) = false then gMv g.1 n (gRw g.1 row op s n) else gRw g.1 row op s n := by
      by_cases h : 0 < row
      · rw [if_pos h]
        show gMi g (10 * (row - 1) + 2 * n + 1, n) (op (10 * (row - 1) + 2 * n + 1)) (gRw g.1 row op s n) = _
        unfold gMi
        dsimp only
        rw [decide_eq_false (by omega)]
        cases op (10 * (row - 1) + 2 * n + 1) with
        | false => rw [if_pos rfl, if_pos ⟨h, rfl⟩]
        | true => rw [if_neg (by decide), if_neg (fun k => by cases k.2)]
      · rw [if_neg h, if_neg (fun k => h k.1)]; rfl
    rw [d]
    generalize hA : (if 0 < row ∧ op (10 * (row - 1) + 2 * n + 1) = false then gMv g.1 n (gRw g.1 row op s n) else gRw g.1 row op s n) = A
    have e3 : gRw g.1 row op s (n + 1) = if 0 < n ∧ op (10 * row + 2 * (n - 1)) = true then gMv g.1 (4 + n) A else A := by rw [← hA]; rfl
    rw [e3]
    by_cases h : 0 < n
    · rw [if_pos h]
      show gMi g (10 * row + 2 * (n - 1), 4 + n) (op (10 * row + 2 * (n - 1))) _ = _
      unfold gMi
      dsimp only
      rw [decide_eq_true (show (10 * row + 2 * (n - 1)) % 2 = 0 by omega)]
      cases op (10 * row + 2 * (n - 1)) with
      | true => rw [if_pos rfl, if_pos ⟨h, rfl⟩]
      | false => rw [if_neg (by decide), if_neg (fun k => by cases k.2)]
    · rw [if_neg h, if_neg (fun k => h k.1)]; rfl
/-- what is told open -/
def gO0 (g : gG) (p : Nat) : Bool := decide (gHow g p = 1)
def gU1 (g : gG) (row : Nat) (fo : Nat → Nat) (n s mask : Nat) : Nat := gRw g.1 row (gOm fo mask (gO0 g) n) s g.1
theorem growSum {g : gG} (hw : gWf g) {row : Nat} (hr : row < g.2.1) {fo : Nat → Nat} {n : Nat} (hf : ((List.range n).map fo).Perm (gFrL g (gsr row g.1))) {t : Nat} (ht : t < gSz g.1) (k : Nat) : gW g row t k = gSum (fun s => gSum (fun mask => gFd t k (gC g (gRS g.1 row) s) (gU1 g row fo n s mask) (gct mask.testBit n)) (2 ^ n)) (gSz g.1) := by
  obtain ⟨h1, h2, h3, h4, -, -⟩ := gRwE hw hr
  show gC g (gRS g.1 (row + 1)) t k = _
  rw [h2, gC_cl g (gsr row g.1) _ h1, gCl_at hw _ t k ht _ h4]
  refine gSum_cong (fun s _ => ?_)
  rw [gAt_al g _ _ (gO0 g) s 0 h3 (fun q _ _ => rfl), ← gAl_perm hf, ← gAl_mask]
  refine gSum_cong (fun mask _ => ?_)
  rw [Nat.zero_add]
  unfold gU1
  rw [gRn_rw]
theorem gfoL (g : gG) (row : Nat) : ((List.range (gFrL g (gsr row g.1)).length).map (fun i => (gFrL g (gsr row g.1)).getD i 0)).Perm (gFrL g (gsr row g.1)) := by
  have : (List.range (gFrL g (gsr row g.1)).length).map (fun i => (gFrL g (gsr row g.1)).getD i 0) = gFrL g (gsr row g.1) := by
    apply List.ext_getElem
    · rw [List.length_map, List.length_range]
    · intro i h1 h2
      rw [List.getElem_map, List.getElem_range, List.getD_eq_getElem?_getD, List.getElem?_eq_getElem h2]
      rfl
  rw [this]
theorem gfo0 {g : gG} {row n : Nat} {fo : Nat → Nat} (hf : ((List.range n).map fo).Perm (gFrL g (gsr row g.1))) {i : Nat} (hi : i < n) : gHow g (fo i) = 0 := by
  have h := hf.subset (List.mem_map.mpr ⟨i, List.mem_range.mpr hi, rfl⟩)
  exact of_decide_eq_true (List.mem_filter.mp h).2
theorem gOm_how {g : gG} {fo : Nat → Nat} {mask n : Nat} (h : ∀ i, i < n → gHow g (fo i) = 0) {p : Nat} (hp : gOm fo mask (gO0 g) n p = true) : gHow g p ≠ 2 := by
  induction n with
  | zero => have : gHow g p = 1 := of_decide_eq_true hp; omega
  | succ n ih =>
    have hp : (if p = fo n then mask.testBit n else gOm fo mask (gO0 g) n p) = true := hp
    by_cases e : p = fo n
    · rw [e, h n (by omega)]; omega
    · rw [if_neg e] at hp
      exact ih (fun i hi => h i (by omega)) hp
theorem gHow_st {g : gG} {p : Nat} (h : gHow g p ≠ 2) : g.2.2.2 (gFr p) = false ∧ g.2.2.2 (gTo p) = false := by
  unfold gHow at h
  cases h1 : g.2.2.2 (gFr p) with
  | true => rw [h1, Bool.true_or, if_pos rfl] at h; exact absurd rfl h
  | false =>
    cases h2 : g.2.2.2 (gTo p) with
    | true => rw [h1, h2, if_pos (by decide)] at h; exact absurd rfl h
    | false => exact ⟨rfl, rfl⟩
theorem gops {g : gG} (hw : gWf g) {row : Nat} {op : Nat → Bool} (h : ∀ p, op p = true → gHow g p ≠ 2) : gOps g row op := by
  have hc := hw.1.2
  refine ⟨fun x hx hp => ?_, fun h0 x hx hp => ?_⟩
  · have := gHow_st (h _ hp)
    rw [show gFr (10 * row + 2 * x) = 5 * row + x by unfold gFr; omega, show gTo (10 * row + 2 * x) = 5 * row + (x + 1) by unfold gTo gFr; rw [if_neg (by omega)]; omega] at this
    exact this
  · have := gHow_st (h _ hp)
    rw [show gFr (10 * (row - 1) + 2 * x + 1) = 5 * (row - 1) + x by unfold gFr; omega, show gTo (10 * (row - 1) + 2 * x + 1) = 5 * row + x by unfold gTo gFr; rw [if_pos (by omega)]; omega] at this
    exact this
theorem gETs : ∀ c : Fin 6, 1 ≤ c.val → ∀ m : Fin 32, (List.range c.val).all (fun x => (Nat.beq (gLk (gScm c.val m.val) x) 0 == !m.val.testBit x) && (List.range c.val).all (fun y => Nat.beq (gLk (gScm c.val m.val) x) (gLk (gScm c.val m.val) y) == (Nat.beq x y || (!m.val.testBit x && !m.val.testBit y)))) = true := by decide +kernel
theorem gS0E {g : gG} (hw : gWf g) (op : Nat → Bool) (old : Nat → Nat) : gE g.1 (gS0 g) (gL0 g 0 op old) := by
  have hc := hw.1
  obtain ⟨m, hm, hb⟩ := gmask g.2.2.2
  have e : gCd g.1 (gS0 g) = gScm g.1 m := by
    rw [(gS0_lt hw).2]
    exact gSc_cong (g := g) (g' := (g.1, 1, fun _ => 0, fun k => m.testBit k)) rfl (fun k hk => (hb k hk).symm) hc.2 g.1 1 0 (Nat.le_refl _)
  have L : ∀ x, x < g.1 → gL0 g 0 op old x = if m.testBit x then 9 else 0 := by
    intro x hx
    unfold gL0
    rw [show 5 * 0 + x = x by omega, hb x (by omega)]
    by_cases q : g.2.2.2 x = true
    · rw [if_pos q, if_pos q]
    · rw [if_neg q, if_neg q, if_pos rfl]
  have T := gETs ⟨g.1, by omega⟩ hc.1 ⟨m, hm⟩
  refine ⟨fun x hx => ?_, fun x y hx hy => ?_⟩
  · have t := List.all_eq_true.mp T x (List.mem_range.mpr hx)
    rw [Bool.and_eq_true] at t
    have t := eq_of_beq t.1
    show gLk (gCd g.1 (gS0 g)) x = 0 ↔ _
    rw [e, ← gbeqI, t, L x hx]
    cases m.testBit x <;> simp
  · have t := List.all_eq_true.mp T x (List.mem_range.mpr hx)
    rw [Bool.and_eq_true] at t
    have t := eq_of_beq (List.all_eq_true.mp t.2 y (List.mem_range.mpr hy))
    show gLk (gCd g.1 (gS0 g)) x = gLk (gCd g.1 (gS0 g)) y ↔ _
    rw [e, ← gbeqI, t, L x hx, L y hy]
    by_cases q : x = y
    · subst q
      rw [Nat.beq_refl]; simp
    · have : Nat.beq x y = false := by rw [← Bool.not_eq_true, gbeqI]; exact q
      rw [this]
      cases m.testBit x <;> cases m.testBit y <;> simp [q]
/-- a source of a row: the top's state, or a good state of the row above -/
def gSrc (g : gG) (row s : Nat) : Prop := if row = 0 then s = gS0 g else s < gSz g.1 ∧ gGood g (row - 1) s
def gOld (g : gG) (row s : Nat) : Nat → Nat := if row = 0 then fun _ => 0 else gDig g (row - 1) s
theorem gstep {g : gG} (hw : gWf g) {row s : Nat} (hs : gSrc g row s) {fo : Nat → Nat} {n : Nat} (hf : ∀ i, i < n → gHow g (fo i) = 0) (mask : Nat) : gU1 g row fo n s mask < gSz g.1 ∧ gGood g row (gU1 g row fo n s mask) ∧ gNv (gNd (gLs g row (gOm fo mask (gO0 g) n) (gOld g row s) (g.1 - 1))) g.1 = gNum g row (gU1 g row fo n s mask) g.1 := by
  have hop : gOps g row (gOm fo mask (gO0 g) n) := gops hw (fun p hp => gOm_how hf hp)
  unfold gSrc at hs
  have K : s < gSz g.1 ∧ (0 < row → ∀ x, x < g.1 → gOld g row s x < 10 ∧ (gOld g row s x = 9 → g.2.2.2 (5 * (row - 1) + x) = true)) ∧ gE g.1 s (if row = 0 then gL0 g row (gOm fo mask (gO0 g) n) (gOld g row s) else gOld g row s) := by
    by_cases r0 : row = 0
    · rw [if_pos r0] at hs
      rw [if_pos r0, hs, r0]
      exact ⟨(gS0_lt hw).1, fun h => by omega, gS0E hw _ _⟩
    · rw [if_neg r0] at hs
      rw [if_neg r0]
      have hd := gDigE hw hs.1 hs.2
      unfold gOld
      rw [if_neg r0]
      exact ⟨hs.1, fun _ x hx => ⟨by have := hd.2.2 x hx; omega, (hd.2.1 x hx).mp⟩, hd.1⟩
  obtain ⟨k1, k2, k3⟩ := gsimE hw K.1 hop K.2.1 K.2.2
  exact ⟨k1, gGdE k2 k3, gNumE hw k1 k2 k3⟩
theorem gSum_pos {f : Nat → Nat} {n : Nat} (h : gSum f n ≠ 0) : ∃ i, i < n ∧ f i ≠ 0 := by
  induction n with
  | zero => exact absurd rfl h
  | succ n ih =>
    by_cases q : f n = 0
    · have h : gSum f n + f n ≠ 0 := h
      obtain ⟨i, hi, k⟩ := ih (by omega)
      exact ⟨i, by omega, k⟩
    · exact ⟨n, by omega, q⟩
theorem gRS0 {c : Nat} : gRS c 0 = 0 := rfl
theorem gsrcC {g : gG} {row s k : Nat} (ih : 0 < row → ∀ s k, s < gSz g.1 → gW g (row - 1) s k ≠ 0 → gGood g (row - 1) s) (hs : s < gSz g.1) (h : gC g (gRS g.1 row) s k ≠ 0) : gSrc g row s := by
  unfold gSrc
  by_cases r0 : row = 0
  · rw [if_pos r0]
    rw [r0, gRS0] at h
    have h : (if s = gS0 g ∧ k = 0 then 1 else 0) ≠ 0 := h
    by_cases q : s = gS0 g ∧ k = 0
    · exact q.1
    · rw [if_neg q] at h; exact absurd rfl h
  · rw [if_neg r0]
    refine ⟨hs, ih (by omega) s k hs ?_⟩
    unfold gW gEnd
    rw [show row - 1 + 1 = row by omega]
    exact h
theorem ggood {g : gG} (hw : gWf g) : ∀ row, row < g.2.1 → ∀ t k, t < gSz g.1 → gW g row t k ≠ 0 → gGood g row t := by
  intro row
  induction row with
  | zero =>
    intro hr t k ht h
    rw [growSum hw hr (gfoL g 0) ht] at h
    obtain ⟨s, hs, h⟩ := gSum_pos h
    obtain ⟨mask, hm, h⟩ := gSum_pos h
    unfold gFd at h
    by_cases q : gU1 g 0 (fun i => (gFrL g (gsr 0 g.1)).getD i 0) (gFrL g (gsr 0 g.1)).length s mask = t ∧ gct mask.testBit (gFrL g (gsr 0 g.1)).length ≤ k
    · rw [if_pos q] at h
      rw [← q.1]
      exact (gstep hw (gsrcC (fun h => by omega) hs h) (fun i hi => gfo0 (gfoL g 0) hi) mask).2.1
    · rw [if_neg q] at h; exact absurd rfl h
  | succ row ih =>
    intro hr t k ht h
    rw [growSum hw hr (gfoL g (row + 1)) ht] at h
    obtain ⟨s, hs, h⟩ := gSum_pos h
    obtain ⟨mask, hm, h⟩ := gSum_pos h
    unfold gFd at h
    by_cases q : gU1 g (row + 1) (fun i => (gFrL g (gsr (row + 1) g.1)).getD i 0) (gFrL g (gsr (row + 1) g.1)).length s mask = t ∧ gct mask.testBit (gFrL g (gsr (row + 1) g.1)).length ≤ k
    · rw [if_pos q] at h
      rw [← q.1]
      exact (gstep hw (gsrcC (row := row + 1) (fun _ s k hs h => ih (by omega) s k hs h) hs h) (fun i hi => gfo0 (gfoL g (row + 1)) hi) mask).2.1
    · rw [if_neg q] at h; exact absurd rfl h
