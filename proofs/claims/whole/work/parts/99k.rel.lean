/-! the labels of the reference against the states of the class -/
def gE (c s : Nat) (M : Nat → Nat) : Prop := (∀ x, x < c → (gLb c s x = 0 ↔ M x = 0)) ∧ ∀ x y, x < c → y < c → (gLb c s x = gLb c s y ↔ (x = y ∨ (M x = M y ∧ M x ≠ 9)))
theorem gbeqI {a b : Nat} : Nat.beq a b = true ↔ a = b := ⟨Nat.eq_of_beq_eq_true, fun h => by rw [h]; exact Nat.beq_refl b⟩
theorem gcutE {c s x : Nat} (hc : c ≤ 5) (hs : s < gSz c) (hx : x < c) {y z : Nat} (hy : y < c) (hz : z < c) : (gLb c (gMv c x s) y = 0 ↔ y ≠ x ∧ gLb c s y = 0) ∧ (gLb c (gMv c x s) y = gLb c (gMv c x s) z ↔ (y = z ∨ (y ≠ x ∧ z ≠ x ∧ gLb c s y = gLb c s z))) := by
  have h := gETc ⟨c, by omega⟩
  have h1 := List.all_eq_true.mp h s (List.mem_range.mpr hs)
  have h2 := List.all_eq_true.mp h1 x (List.mem_range.mpr hx)
  have h3 := List.all_eq_true.mp h2 y (List.mem_range.mpr hy)
  have h4 := List.all_eq_true.mp h3 z (List.mem_range.mpr hz)
  rw [Bool.and_eq_true] at h4
  obtain ⟨e1, e2⟩ := h4
  have e1 := eq_of_beq e1
  have e2 := eq_of_beq e2
  constructor
  · show gCd c (gMv c x s) / 8 ^ (4 - y) % 8 = 0 ↔ y ≠ x ∧ gCd c s / 8 ^ (4 - y) % 8 = 0
    rw [← gbeqI, e1, Bool.and_eq_true, Bool.not_eq_true', gbeqI, ← Bool.not_eq_true, gbeqI]
  · show gCd c (gMv c x s) / 8 ^ (4 - y) % 8 = gCd c (gMv c x s) / 8 ^ (4 - z) % 8 ↔ y = z ∨ (y ≠ x ∧ z ≠ x ∧ gCd c s / 8 ^ (4 - y) % 8 = gCd c s / 8 ^ (4 - z) % 8)
    rw [← gbeqI, e2]
    simp only [Bool.or_eq_true, Bool.and_eq_true, Bool.not_eq_true', ← Bool.not_eq_true, gbeqI, and_assoc]
theorem gEinI {c s x y : Nat} : gEin (gCd c s) x y = true ↔ (gLb c s y = gLb c s (x - 1) ∨ gLb c s y = gLb c s x) := by
  unfold gEin gLb
  rw [Bool.or_eq_true, gbeqI, gbeqI]
theorem gjoinE {c s x : Nat} (hc : c ≤ 5) (hs : s < gSz c) (h0 : 0 < x) (hx : x < c) {y z : Nat} (hy : y < c) (hz : z < c) : (gLb c (gMv c (4 + x) s) y = 0 ↔ gLb c s y = 0 ∨ ((gLb c s y = gLb c s (x - 1) ∨ gLb c s y = gLb c s x) ∧ (gLb c s (x - 1) = 0 ∨ gLb c s x = 0))) ∧ (gLb c (gMv c (4 + x) s) y = gLb c (gMv c (4 + x) s) z ↔ (gLb c s y = gLb c s z ∨ ((gLb c s y = gLb c s (x - 1) ∨ gLb c s y = gLb c s x) ∧ (gLb c s z = gLb c s (x - 1) ∨ gLb c s z = gLb c s x)))) := by
  have h := gETj ⟨c, by omega⟩
  have h1 := List.all_eq_true.mp h s (List.mem_range.mpr hs)
  have h2 := List.all_eq_true.mp h1 x (List.mem_range.mpr hx)
  rw [Bool.or_eq_true, gbeqI] at h2
  have h2 := h2.resolve_left (by omega)
  have h3 := List.all_eq_true.mp h2 y (List.mem_range.mpr hy)
  have h4 := List.all_eq_true.mp h3 z (List.mem_range.mpr hz)
  rw [Bool.and_eq_true] at h4
  obtain ⟨e1, e2⟩ := h4
  have e1 := eq_of_beq e1
  have e2 := eq_of_beq e2
  constructor
  · rw [← gEinI]
    show gCd c (gMv c (4 + x) s) / 8 ^ (4 - y) % 8 = 0 ↔ gCd c s / 8 ^ (4 - y) % 8 = 0 ∨ (gEin (gCd c s) x y = true ∧ (gCd c s / 8 ^ (4 - (x - 1)) % 8 = 0 ∨ gCd c s / 8 ^ (4 - x) % 8 = 0))
    rw [← gbeqI, e1]
    simp only [Bool.or_eq_true, Bool.and_eq_true, gbeqI]
  · rw [← gEinI, ← gEinI]
    show gCd c (gMv c (4 + x) s) / 8 ^ (4 - y) % 8 = gCd c (gMv c (4 + x) s) / 8 ^ (4 - z) % 8 ↔ gCd c s / 8 ^ (4 - y) % 8 = gCd c s / 8 ^ (4 - z) % 8 ∨ (gEin (gCd c s) x y = true ∧ gEin (gCd c s) x z = true)
    rw [← gbeqI, e2]
    simp only [Bool.or_eq_true, Bool.and_eq_true, gbeqI]
theorem gE_cut {c s x v : Nat} {M M' : Nat → Nat} (hc : c ≤ 5) (hs : s < gSz c) (hx : x < c) (h : gE c s M) (h0 : v ≠ 0) (hv : v = 9 ∨ ∀ y, y < c → y ≠ x → M y ≠ v) (hM : ∀ y, y < c → M' y = if y = x then v else M y) : gE c (gMv c x s) M' := by
  constructor
  · intro y hy
    rw [(gcutE hc hs hx hy hy).1, h.1 y hy, hM y hy]
    by_cases e : y = x
    · rw [if_pos e]
      exact ⟨fun q => absurd e q.1, fun q => absurd q h0⟩
    · rw [if_neg e]
      exact ⟨fun q => q.2, fun q => ⟨e, q⟩⟩
  · intro y z hy hz
    rw [(gcutE hc hs hx hy hz).2, h.2 y z hy hz, hM y hy, hM z hz]
    by_cases e : y = x
    · rw [if_pos e]
      by_cases e' : z = x
      · exact ⟨fun _ => Or.inl (e.trans e'.symm), fun _ => Or.inl (e.trans e'.symm)⟩
      · rw [if_neg e']
        constructor
        · rintro (q | q)
          · exact Or.inl q
          · exact absurd e q.1
        · rintro (q | ⟨q1, q2⟩)
          · exact Or.inl q
          · rcases hv with hv | hv
            · exact absurd hv q2
            · exact absurd q1.symm (hv z hz e')
    · rw [if_neg e]
      by_cases e' : z = x
      · rw [if_pos e']
        constructor
        · rintro (q | q)
          · exact Or.inl q
          · exact absurd e' q.2.1
        · rintro (q | ⟨q1, q2⟩)
          · exact Or.inl q
          · rcases hv with hv | hv
            · exact absurd (q1.trans hv) q2
            · exact absurd q1 (hv y hy e)
      · rw [if_neg e']
        constructor
        · rintro (q | q)
          · exact Or.inl q
          · rcases q.2.2 with q | q
            · exact Or.inl q
            · exact Or.inr q
        · rintro (q | q)
          · exact Or.inl q
          · exact Or.inr ⟨e, e', Or.inr q⟩
theorem gE_join {c s x : Nat} {M M' : Nat → Nat} (hc : c ≤ 5) (hs : s < gSz c) (hp : 0 < x) (hx : x < c) (h : gE c s M) (ha : M (x - 1) ≠ 9) (hb : M x ≠ 9) (hM : ∀ y, y < c → M' y = gJl M (M (x - 1)) (M x) y) : gE c (gMv c (4 + x) s) M' := by
  have k1 : ∀ y, y < c → (gLb c s y = gLb c s (x - 1) ↔ M y = M (x - 1)) := by
    intro y hy
    rw [h.2 y (x - 1) hy (by omega)]
    constructor
    · rintro (q | q)
      · rw [q]
      · exact q.1
    · intro q
      exact Or.inr ⟨q, by rw [q]; exact ha⟩
  have k2 : ∀ y, y < c → (gLb c s y = gLb c s x ↔ M y = M x) := by
    intro y hy
    rw [h.2 y x hy (by omega)]
    constructor
    · rintro (q | q)
      · rw [q]
      · exact q.1
    · intro q
      exact Or.inr ⟨q, by rw [q]; exact hb⟩
  constructor
  · intro y hy
    rw [(gjoinE hc hs hp hx hy hy).1, k1 y hy, k2 y hy, h.1 y hy, h.1 (x - 1) (by omega), h.1 x hx, hM y hy]
    unfold gJl
    by_cases q : M y = max (M (x - 1)) (M x)
    · rw [if_pos q]; omega
    · rw [if_neg q]; omega
  · intro y z hy hz
    rw [(gjoinE hc hs hp hx hy hz).2, k1 y hy, k2 y hy, k1 z hz, k2 z hz, h.2 y z hy hz, hM y hy, hM z hz]
    unfold gJl
    by_cases e : y = z
    · subst e
      exact ⟨fun _ => Or.inl rfl, fun _ => Or.inl (Or.inl rfl)⟩
    · by_cases q : M y = max (M (x - 1)) (M x)
      · rw [if_pos q]
        by_cases q' : M z = max (M (x - 1)) (M x)
        · rw [if_pos q']; omega
        · rw [if_neg q']; omega
      · rw [if_neg q]
        by_cases q' : M z = max (M (x - 1)) (M x)
        · rw [if_pos q']; omega
        · rw [if_neg q']; omega
/-- what the joins of a row make of a label -/
def gSig (g : gG) (row : Nat) (op : Nat → Bool) (old : Nat → Nat) : Nat → Nat → Nat
  | 0, v => v
  | n + 1, v => if op (10 * row + 2 * n) then (if gSig g row op old n v = max (gSig g row op old n (gL0 g row op old n)) (gSig g row op old n (gL0 g row op old (n + 1))) then min (gSig g row op old n (gL0 g row op old n)) (gSig g row op old n (gL0 g row op old (n + 1))) else gSig g row op old n v) else gSig g row op old n v
theorem gLs_sg (g : gG) (row : Nat) (op : Nat → Bool) (old : Nat → Nat) (n : Nat) : ∀ y, gLs g row op old n y = gSig g row op old n (gL0 g row op old y) := by
  induction n with
  | zero => intro y; rfl
  | succ n ih =>
    intro y
    show (if op (10 * row + 2 * n) then gJl (gLs g row op old n) (gLs g row op old n n) (gLs g row op old n (n + 1)) else gLs g row op old n) y = (if op (10 * row + 2 * n) then (if gSig g row op old n (gL0 g row op old y) = max (gSig g row op old n (gL0 g row op old n)) (gSig g row op old n (gL0 g row op old (n + 1))) then min (gSig g row op old n (gL0 g row op old n)) (gSig g row op old n (gL0 g row op old (n + 1))) else gSig g row op old n (gL0 g row op old y)) else gSig g row op old n (gL0 g row op old y))
    by_cases q : op (10 * row + 2 * n) = true
    · rw [if_pos q, if_pos q]
      unfold gJl
      rw [ih, ih, ih]
    · rw [if_neg q, if_neg q, ih]
/-- a row passed by what is open -/
def gRw (c row : Nat) (op : Nat → Bool) (s : Nat) : Nat → Nat
  | 0 => s
  | n + 1 => if 0 < n ∧ op (10 * row + 2 * (n - 1)) = true then gMv c (4 + n) (if 0 < row ∧ op (10 * (row - 1) + 2 * n + 1) = false then gMv c n (gRw c row op s n) else gRw c row op s n) else if 0 < row ∧ op (10 * (row - 1) + 2 * n + 1) = false then gMv c n (gRw c row op s n) else gRw c row op s n
/-- open pipes lie beside no stone -/
def gOps (g : gG) (row : Nat) (op : Nat → Bool) : Prop := (∀ x, x + 1 < g.1 → op (10 * row + 2 * x) = true → g.2.2.2 (5 * row + x) = false ∧ g.2.2.2 (5 * row + (x + 1)) = false) ∧ (0 < row → ∀ x, x < g.1 → op (10 * (row - 1) + 2 * x + 1) = true → g.2.2.2 (5 * (row - 1) + x) = false ∧ g.2.2.2 (5 * row + x) = false)
theorem gSig_le (g : gG) (row : Nat) (op : Nat → Bool) (old : Nat → Nat) (n : Nat) : ∀ v, gSig g row op old n v ≤ v := by
  induction n with
  | zero => intro v; exact Nat.le_refl v
  | succ n ih =>
    intro v
    have h := ih v
    show (if op (10 * row + 2 * n) then (if gSig g row op old n v = max (gSig g row op old n (gL0 g row op old n)) (gSig g row op old n (gL0 g row op old (n + 1))) then min (gSig g row op old n (gL0 g row op old n)) (gSig g row op old n (gL0 g row op old (n + 1))) else gSig g row op old n v) else gSig g row op old n v) ≤ v
    by_cases q : op (10 * row + 2 * n) = true
    · rw [if_pos q]
      by_cases q2 : gSig g row op old n v = max (gSig g row op old n (gL0 g row op old n)) (gSig g row op old n (gL0 g row op old (n + 1)))
      · rw [if_pos q2]; omega
      · rw [if_neg q2]; exact h
    · rw [if_neg q]; exact h
theorem gL0_le {g : gG} {row : Nat} {op : Nat → Bool} {old : Nat → Nat} {c : Nat} (ho : 0 < row → ∀ x, x < c → old x < 10) {x : Nat} (hx : x < c) : gL0 g row op old x ≤ 10 + x := by
  unfold gL0
  by_cases q1 : g.2.2.2 (5 * row + x) = true
  · rw [if_pos q1]; omega
  · rw [if_neg q1]
    by_cases q2 : row = 0
    · rw [if_pos q2]; omega
    · rw [if_neg q2]
      by_cases q3 : op (10 * (row - 1) + 2 * x + 1) = true
      · rw [if_pos q3]
        have := ho (by omega) x hx
        omega
      · rw [if_neg q3]; exact Nat.le_refl _
theorem gSig_ge {g : gG} {row : Nat} {op : Nat → Bool} {old : Nat → Nat} {c : Nat} (ho : 0 < row → ∀ x, x < c → old x < 10) (n : Nat) (hn : n < c) : ∀ v, 11 + n ≤ v ∨ n = 0 → gSig g row op old n v = v := by
  induction n with
  | zero => intro v _; rfl
  | succ n ih =>
    intro v hv
    have hv : 12 + n ≤ v := by omega
    have h := ih (by omega) v (Or.inl (by omega))
    show (if op (10 * row + 2 * n) then (if gSig g row op old n v = max (gSig g row op old n (gL0 g row op old n)) (gSig g row op old n (gL0 g row op old (n + 1))) then min (gSig g row op old n (gL0 g row op old n)) (gSig g row op old n (gL0 g row op old (n + 1))) else gSig g row op old n v) else gSig g row op old n v) = v
    have l1 := gSig_le g row op old n (gL0 g row op old n)
    have l2 := gSig_le g row op old n (gL0 g row op old (n + 1))
    have l3 := gL0_le (g := g) (op := op) ho (show n < c by omega)
    have l4 := gL0_le (g := g) (op := op) ho (show n + 1 < c by omega)
    by_cases q : op (10 * row + 2 * n) = true
    · rw [if_pos q, if_neg (by omega)]; exact h
    · rw [if_neg q]; exact h
theorem gL0_9 {g : gG} {row : Nat} {op : Nat → Bool} {old : Nat → Nat} (hop : gOps g row op) (ho : 0 < row → ∀ x, x < g.1 → old x = 9 → g.2.2.2 (5 * (row - 1) + x) = true) {x : Nat} (hx : x < g.1) : gL0 g row op old x = 9 ↔ g.2.2.2 (5 * row + x) = true := by
  unfold gL0
  by_cases q1 : g.2.2.2 (5 * row + x) = true
  · rw [if_pos q1]
    exact ⟨fun _ => q1, fun _ => rfl⟩
  · rw [if_neg q1]
    refine ⟨fun h => ?_, fun h => absurd h q1⟩
    by_cases q2 : row = 0
    · rw [if_pos q2] at h; omega
    · rw [if_neg q2] at h
      by_cases q3 : op (10 * (row - 1) + 2 * x + 1) = true
      · rw [if_pos q3] at h
        have := ho (by omega) x hx h
        rw [(hop.2 (by omega) x hx q3).1] at this
        cases this
      · rw [if_neg q3] at h; omega
theorem gSig_9 {g : gG} {row : Nat} {op : Nat → Bool} {old : Nat → Nat} (hop : gOps g row op) (ho : 0 < row → ∀ x, x < g.1 → old x = 9 → g.2.2.2 (5 * (row - 1) + x) = true) (n : Nat) (hn : n < g.1) : ∀ v, gSig g row op old n v = 9 ↔ v = 9 := by
  induction n with
  | zero => intro v; exact Iff.rfl
  | succ n ih =>
    intro v
    have ih := ih (by omega)
    show (if op (10 * row + 2 * n) then (if gSig g row op old n v = max (gSig g row op old n (gL0 g row op old n)) (gSig g row op old n (gL0 g row op old (n + 1))) then min (gSig g row op old n (gL0 g row op old n)) (gSig g row op old n (gL0 g row op old (n + 1))) else gSig g row op old n v) else gSig g row op old n v) = 9 ↔ v = 9
    by_cases q : op (10 * row + 2 * n) = true
    · rw [if_pos q]
      obtain ⟨s1, s2⟩ := hop.1 n hn q
      have n1 : gSig g row op old n (gL0 g row op old n) ≠ 9 := by
        rw [Ne, ih, gL0_9 hop ho (by omega), s1]; decide
      have n2 : gSig g row op old n (gL0 g row op old (n + 1)) ≠ 9 := by
        rw [Ne, ih, gL0_9 hop ho (by omega), s2]; decide
      have h := ih v
      by_cases q2 : gSig g row op old n v = max (gSig g row op old n (gL0 g row op old n)) (gSig g row op old n (gL0 g row op old (n + 1)))
      · rw [if_pos q2, ← h]; omega
      · rw [if_neg q2]; exact h
    · rw [if_neg q]; exact ih v
theorem gsim {g : gG} (hw : gWf g) {row : Nat} {op : Nat → Bool} {old : Nat → Nat} {s : Nat} (hs : s < gSz g.1) (hop : gOps g row op) (ho : 0 < row → ∀ x, x < g.1 → old x < 10 ∧ (old x = 9 → g.2.2.2 (5 * (row - 1) + x) = true)) (h : gE g.1 s (if row = 0 then gL0 g row op old else old)) (n : Nat) (hn : n ≤ g.1) : gRw g.1 row op s n < gSz g.1 ∧ gE g.1 (gRw g.1 row op s n) (fun y => gSig g row op old (n - 1) (if y < n then gL0 g row op old y else (if row = 0 then gL0 g row op old else old) y)) := by
  have hc := hw.1.2
  have ho1 : 0 < row → ∀ x, x < g.1 → old x < 10 := fun q x hx => (ho q x hx).1
  have ho2 : 0 < row → ∀ x, x < g.1 → old x = 9 → g.2.2.2 (5 * (row - 1) + x) = true := fun q x hx => (ho q x hx).2
  induction n with
  | zero => exact ⟨hs, h⟩
  | succ n ih =>
    obtain ⟨i1, i2⟩ := ih (by omega)
    -- the way down
    have D : ∃ s2, s2 = (if 0 < row ∧ op (10 * (row - 1) + 2 * n + 1) = false then gMv g.1 n (gRw g.1 row op s n) else gRw g.1 row op s n) ∧ s2 < gSz g.1 ∧ gE g.1 s2 (fun y => gSig g row op old (n - 1) (if y < n + 1 then gL0 g row op old y else (if row = 0 then gL0 g row op old else old) y)) := by
      refine ⟨_, rfl, ?_⟩
      by_cases q : 0 < row ∧ op (10 * (row - 1) + 2 * n + 1) = false
      · rw [if_pos q]
        have hv : gL0 g row op old n = 9 ∨ gL0 g row op old n = 10 + n := by
          unfold gL0
          by_cases q1 : g.2.2.2 (5 * row + n) = true
          · rw [if_pos q1]; exact Or.inl rfl
          · rw [if_neg q1, if_neg (by omega), if_neg (by rw [q.2]; decide)]; exact Or.inr rfl
        refine ⟨(gMvE hc i1 (by omega)).1.2, gE_cut hc i1 (show n < g.1 by omega) i2 (v := gSig g row op old (n - 1) (gL0 g row op old n)) ?_ ?_ ?_⟩
        · rcases hv with hv | hv
          · have := (gSig_9 hop ho2 (n - 1) (by omega) (gL0 g row op old n)).mpr hv
            omega
          · rw [hv, gSig_ge ho1 (n - 1) (by omega) _ (by omega)]; omega
        · rcases hv with hv | hv
          · exact Or.inl ((gSig_9 hop ho2 (n - 1) (by omega) (gL0 g row op old n)).mpr hv)
          · right
            intro y hy hyn
            rw [hv, gSig_ge ho1 (n - 1) (by omega) (10 + n) (by omega)]
            have l := gSig_le g row op old (n - 1) (if y < n then gL0 g row op old y else (if row = 0 then gL0 g row op old else old) y)
            have l2 : (if y < n then gL0 g row op old y else (if row = 0 then gL0 g row op old else old) y) < 10 + n := by
              by_cases qy : y < n
              · rw [if_pos qy]
                have := gL0_le (g := g) (op := op) ho1 hy
                omega
              · rw [if_neg qy, if_neg (by omega)]
                have := ho1 q.1 y hy
                omega
            omega
        · intro y hy
          by_cases e : y = n
          · rw [if_pos e, e, if_pos (by omega)]
          · rw [if_neg e]
            by_cases qy : y < n
            · rw [if_pos qy, if_pos (by omega)]
            · rw [if_neg qy, if_neg (by omega)]
      · rw [if_neg q]
        refine ⟨i1, ?_⟩
        have : (fun y => gSig g row op old (n - 1) (if y < n + 1 then gL0 g row op old y else (if row = 0 then gL0 g row op old else old) y)) = (fun y => gSig g row op old (n - 1) (if y < n then gL0 g row op old y else (if row = 0 then gL0 g row op old else old) y)) := by
          funext y
          by_cases e : y = n
          · rw [e, if_pos (by omega), if_neg (by omega)]
            by_cases r0 : row = 0
            · rw [if_pos r0]
            · rw [if_neg r0]
              have hd : op (10 * (row - 1) + 2 * n + 1) = true := by
                cases hq : op (10 * (row - 1) + 2 * n + 1) with
                | true => rfl
                | false => exact absurd ⟨by omega, hq⟩ q
              have e2 : gL0 g row op old n = old n := by
                unfold gL0
                rw [(hop.2 (by omega) n (by omega) hd).2, if_neg (by decide), if_neg r0, if_pos hd]
              rw [e2]
          · by_cases qy : y < n
            · rw [if_pos qy, if_pos (by omega)]
            · rw [if_neg qy, if_neg (by omega)]
        rw [this]
        exact i2
    obtain ⟨s2, e2, j1, j2⟩ := D
    show (if 0 < n ∧ op (10 * row + 2 * (n - 1)) = true then gMv g.1 (4 + n) (if 0 < row ∧ op (10 * (row - 1) + 2 * n + 1) = false then gMv g.1 n (gRw g.1 row op s n) else gRw g.1 row op s n) else if 0 < row ∧ op (10 * (row - 1) + 2 * n + 1) = false then gMv g.1 n (gRw g.1 row op s n) else gRw g.1 row op s n) < gSz g.1 ∧ gE g.1 (if 0 < n ∧ op (10 * row + 2 * (n - 1)) = true then gMv g.1 (4 + n) (if 0 < row ∧ op (10 * (row - 1) + 2 * n + 1) = false then gMv g.1 n (gRw g.1 row op s n) else gRw g.1 row op s n) else if 0 < row ∧ op (10 * (row - 1) + 2 * n + 1) = false then gMv g.1 n (gRw g.1 row op s n) else gRw g.1 row op s n) _
    rw [← e2]
    cases n with
    | zero =>
      rw [if_neg (by omega)]
      exact ⟨j1, j2⟩
    | succ m =>
      show (if 0 < m + 1 ∧ op (10 * row + 2 * m) = true then gMv g.1 (4 + (m + 1)) s2 else s2) < gSz g.1 ∧ gE g.1 (if 0 < m + 1 ∧ op (10 * row + 2 * m) = true then gMv g.1 (4 + (m + 1)) s2 else s2) (fun y => gSig g row op old (m + 1) (if y < m + 1 + 1 then gL0 g row op old y else (if row = 0 then gL0 g row op old else old) y))
      have j2 : gE g.1 s2 (fun y => gSig g row op old m (if y < m + 1 + 1 then gL0 g row op old y else (if row = 0 then gL0 g row op old else old) y)) := j2
      by_cases q : op (10 * row + 2 * m) = true
      · rw [if_pos ⟨by omega, q⟩]
        obtain ⟨s1, s3⟩ := hop.1 m (by omega) q
        refine ⟨((gMvE hc j1 (show m + 1 < g.1 by omega)).2 (by omega)).2, gE_join hc j1 (by omega) (by omega) j2 ?_ ?_ ?_⟩
        · show gSig g row op old m (if m < m + 1 + 1 then gL0 g row op old m else _) ≠ 9
          rw [if_pos (by omega), Ne, gSig_9 hop ho2 m (by omega), gL0_9 hop ho2 (by omega), s1]; decide
        · show gSig g row op old m (if m + 1 < m + 1 + 1 then gL0 g row op old (m + 1) else _) ≠ 9
          rw [if_pos (by omega), Ne, gSig_9 hop ho2 m (by omega), gL0_9 hop ho2 (by omega), s3]; decide
        · intro y hy
          show (if op (10 * row + 2 * m) then (if gSig g row op old m (if y < m + 1 + 1 then gL0 g row op old y else (if row = 0 then gL0 g row op old else old) y) = max (gSig g row op old m (gL0 g row op old m)) (gSig g row op old m (gL0 g row op old (m + 1))) then min (gSig g row op old m (gL0 g row op old m)) (gSig g row op old m (gL0 g row op old (m + 1))) else gSig g row op old m (if y < m + 1 + 1 then gL0 g row op old y else (if row = 0 then gL0 g row op old else old) y)) else gSig g row op old m (if y < m + 1 + 1 then gL0 g row op old y else (if row = 0 then gL0 g row op old else old) y)) = _
          rw [if_pos q]
          unfold gJl
          rw [show m + 1 - 1 = m from rfl, if_pos (show m < m + 1 + 1 by omega), if_pos (show m + 1 < m + 1 + 1 by omega)]
      · rw [if_neg (fun k => q k.2)]
        refine ⟨j1, ?_⟩
        have : (fun y => gSig g row op old (m + 1) (if y < m + 1 + 1 then gL0 g row op old y else (if row = 0 then gL0 g row op old else old) y)) = (fun y => gSig g row op old m (if y < m + 1 + 1 then gL0 g row op old y else (if row = 0 then gL0 g row op old else old) y)) := by
          funext y
          exact if_neg q
        rw [this]
        exact j2
theorem gsimE {g : gG} (hw : gWf g) {row : Nat} {op : Nat → Bool} {old : Nat → Nat} {s : Nat} (hs : s < gSz g.1) (hop : gOps g row op) (ho : 0 < row → ∀ x, x < g.1 → old x < 10 ∧ (old x = 9 → g.2.2.2 (5 * (row - 1) + x) = true)) (h : gE g.1 s (if row = 0 then gL0 g row op old else old)) : gRw g.1 row op s g.1 < gSz g.1 ∧ gE g.1 (gRw g.1 row op s g.1) (gLs g row op old (g.1 - 1)) ∧ ∀ x, x < g.1 → (gLs g row op old (g.1 - 1) x = 9 ↔ g.2.2.2 (5 * row + x) = true) := by
  obtain ⟨h1, h2⟩ := gsim hw hs hop ho h g.1 (Nat.le_refl _)
  have ho2 : 0 < row → ∀ x, x < g.1 → old x = 9 → g.2.2.2 (5 * (row - 1) + x) = true := fun q x hx => (ho q x hx).2
  have hc := hw.1.1
  refine ⟨h1, ?_, fun x hx => ?_⟩
  · have e : ∀ y, y < g.1 → gLs g row op old (g.1 - 1) y = gSig g row op old (g.1 - 1) (if y < g.1 then gL0 g row op old y else (if row = 0 then gL0 g row op old else old) y) := fun y hy => by rw [gLs_sg, if_pos hy]
    exact ⟨fun x hx => by rw [e x hx]; exact h2.1 x hx, fun x y hx hy => by rw [e x hx, e y hy]; exact h2.2 x y hx hy⟩
  · rw [gLs_sg, gSig_9 hop ho2 _ (by omega), gL0_9 hop ho2 hx]
