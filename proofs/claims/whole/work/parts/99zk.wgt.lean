/-! weights of states ahead of a pipe and behind it -/
def gMvs (g : gG) (i : Nat) : Bool := decide (gHow g (gStep g i).1 = (if (gStep g i).1 % 2 = 0 then 1 else 2))
/-- how much a move weighs, and staying -/
def gGo (a d p : Nat) : Nat := if p % 2 = 0 then a else d
def gSy (a d p : Nat) : Nat := if p % 2 = 0 then d else a
def gAw (g : gG) (a d : Nat) : Nat → Nat → Nat
  | 0, s => if s = gS0 g then 1 else 0
  | i + 1, s => if gHow g (gStep g i).1 = 0 then gGo a d (gStep g i).1 * gInto g (gStep g i).2 s (gAw g a d i) + gSy a d (gStep g i).1 * gAw g a d i s else if gMvs g i then gInto g (gStep g i).2 s (gAw g a d i) else gAw g a d i s
/-- behind the i-th step, n steps are left -/
def gBw (g : gG) (a d : Nat) : Nat → Nat → Nat
  | 0, s => if gWs g.1 s = 0 then 0 else 1
  | n + 1, s => if gHow g (gStep g (gRS g.1 g.2.1 - (n + 1))).1 = 0 then gGo a d (gStep g (gRS g.1 g.2.1 - (n + 1))).1 * gBw g a d n (gMv g.1 (gStep g (gRS g.1 g.2.1 - (n + 1))).2 s) + gSy a d (gStep g (gRS g.1 g.2.1 - (n + 1))).1 * gBw g a d n s else if gMvs g (gRS g.1 g.2.1 - (n + 1)) then gBw g a d n (gMv g.1 (gStep g (gRS g.1 g.2.1 - (n + 1))).2 s) else gBw g a d n s
def gBi (g : gG) (a d i : Nat) : Nat → Nat := gBw g a d (gRS g.1 g.2.1 - i)
theorem gBiS {g : gG} (a d : Nat) {i : Nat} (hi : i < gRS g.1 g.2.1) (s : Nat) : gBi g a d i s = if gHow g (gStep g i).1 = 0 then gGo a d (gStep g i).1 * gBi g a d (i + 1) (gMv g.1 (gStep g i).2 s) + gSy a d (gStep g i).1 * gBi g a d (i + 1) s else if gMvs g i then gBi g a d (i + 1) (gMv g.1 (gStep g i).2 s) else gBi g a d (i + 1) s := by
  unfold gBi
  obtain ⟨n, hn⟩ : ∃ n, gRS g.1 g.2.1 - i = n + 1 := ⟨gRS g.1 g.2.1 - i - 1, by omega⟩
  rw [hn, show gRS g.1 g.2.1 - (i + 1) = n by omega]
  show (if gHow g (gStep g (gRS g.1 g.2.1 - (n + 1))).1 = 0 then _ else _) = _
  rw [show gRS g.1 g.2.1 - (n + 1) = i by omega]
theorem gInto_dot {g : gG} (hw : gWf g) {slot : Nat} (hv : gVs g.1 slot = true) (A X : Nat → Nat) : gSum (fun s => gInto g slot s A * X s) (gSz g.1) = gSum (fun t => A t * X (gMv g.1 slot t)) (gSz g.1) := by
  have e : ∀ s, gInto g slot s A * X s = gSum (fun t => if gMv g.1 slot t = s then (fun s => A t * X s) s else 0) (gSz g.1) := by
    intro s
    unfold gInto
    rw [← gSum_mulr]
    refine gSum_cong fun t _ => ?_
    by_cases q : gMv g.1 slot t = s
    · rw [if_pos q, if_pos q]
    · rw [if_neg q, if_neg q, Nat.zero_mul]
  rw [gSum_cong (fun s _ => e s), gSum_swap]
  exact gSum_cong fun t ht => gSum_one (fun s => A t * X s) (gMvI' hw.1.2 hv ht).2
/-- ahead times behind is the same at each step -/
theorem gdot {g : gG} (hw : gWf g) (a d : Nat) {i : Nat} (hi : i < gRS g.1 g.2.1) : gSum (fun s => gAw g a d (i + 1) s * gBi g a d (i + 1) s) (gSz g.1) = gSum (fun s => gAw g a d i s * gBi g a d i s) (gSz g.1) := by
  obtain ⟨-, hv⟩ := gStE hw hi
  have eA : ∀ s, gAw g a d (i + 1) s = if gHow g (gStep g i).1 = 0 then gGo a d (gStep g i).1 * gInto g (gStep g i).2 s (gAw g a d i) + gSy a d (gStep g i).1 * gAw g a d i s else if gMvs g i then gInto g (gStep g i).2 s (gAw g a d i) else gAw g a d i s := fun s => rfl
  by_cases h0 : gHow g (gStep g i).1 = 0
  · rw [gSum_cong (f' := fun s => gGo a d (gStep g i).1 * (gInto g (gStep g i).2 s (gAw g a d i) * gBi g a d (i + 1) s) + gSy a d (gStep g i).1 * (gAw g a d i s * gBi g a d (i + 1) s)) (fun s _ => by rw [eA, if_pos h0, Nat.add_mul, Nat.mul_assoc, Nat.mul_assoc]), gSum_add, gSum_mul, gSum_mul, gInto_dot hw hv, ← gSum_mul, ← gSum_mul, ← gSum_add]
    refine gSum_cong fun s _ => ?_
    rw [gBiS a d hi, if_pos h0, Nat.mul_add]
    congr 1 <;> ac_rfl
  · by_cases hm : gMvs g i = true
    · rw [gSum_cong (f' := fun s => gInto g (gStep g i).2 s (gAw g a d i) * gBi g a d (i + 1) s) (fun s _ => by rw [eA, if_neg h0, if_pos hm]), gInto_dot hw hv]
      exact gSum_cong fun s _ => by rw [gBiS a d hi, if_neg h0, if_pos hm]
    · rw [gSum_cong (f' := fun s => gAw g a d i s * gBi g a d (i + 1) s) (fun s _ => by rw [eA, if_neg h0, if_neg hm])]
      exact gSum_cong fun s _ => by rw [gBiS a d hi, if_neg h0, if_neg hm]
theorem gdotN {g : gG} (hw : gWf g) (a d : Nat) {i : Nat} (hi : i ≤ gRS g.1 g.2.1) : gSum (fun s => gAw g a d i s * gBi g a d i s) (gSz g.1) = gSum (fun s => gAw g a d (gRS g.1 g.2.1) s * gBi g a d (gRS g.1 g.2.1) s) (gSz g.1) := by
  obtain ⟨n, hn⟩ : ∃ n, gRS g.1 g.2.1 = i + n := ⟨gRS g.1 g.2.1 - i, by omega⟩
  have key : ∀ m, m ≤ n → gSum (fun s => gAw g a d (i + m) s * gBi g a d (i + m) s) (gSz g.1) = gSum (fun s => gAw g a d i s * gBi g a d i s) (gSz g.1) := by
    intro m
    induction m with
    | zero => intro _; rfl
    | succ m ih =>
      intro hm
      rw [← ih (by omega), ← Nat.add_assoc]
      exact gdot hw a d (by omega)
  have := key n (Nat.le_refl _)
  rw [← hn] at this
  exact this.symm
theorem gInto_mul (g : gG) (slot s c : Nat) (f : Nat → Nat) : gInto g slot s (fun t => c * f t) = c * gInto g slot s f := by
  unfold gInto
  rw [← gSum_mul]
  refine gSum_cong fun t _ => ?_
  by_cases q : gMv g.1 slot t = s
  · rw [if_pos q, if_pos q]
  · rw [if_neg q, if_neg q, Nat.mul_zero]
/-- the weight of a state is that of the choices that lead to it -/
theorem gAw_E {g : gG} (a d : Nat) : ∀ i s, gAw g a d i s = gSum (fun k => gC g i s k * (a ^ k * d ^ (gFs g i - k))) (gFs g i + 1) := by
  intro i
  induction i with
  | zero =>
    intro s
    have e0 : gC g 0 s 0 = if s = gS0 g then 1 else 0 := by
      show (if s = gS0 g ∧ (0 : Nat) = 0 then 1 else 0) = _
      by_cases q : s = gS0 g
      · rw [if_pos q, if_pos ⟨q, rfl⟩]
      · rw [if_neg q, if_neg (fun h => q h.1)]
    rw [show gFs g 0 = 0 from rfl]
    show (if s = gS0 g then 1 else 0) = 0 + gC g 0 s 0 * (a ^ 0 * d ^ (0 - 0))
    rw [e0, Nat.sub_self, Nat.pow_zero, Nat.pow_zero, Nat.mul_one, Nat.zero_add]
  | succ i ih =>
    intro s
    have into : gInto g (gStep g i).2 s (gAw g a d i) = gSum (fun k => gInto g (gStep g i).2 s (fun t => gC g i t k) * (a ^ k * d ^ (gFs g i - k))) (gFs g i + 1) := by
      rw [show gAw g a d i = fun t => gSum (fun k => gC g i t k * (a ^ k * d ^ (gFs g i - k))) (gFs g i + 1) from funext ih, ← gIntoSum]
      refine gSum_cong fun k _ => ?_
      rw [Nat.mul_comm (gInto g (gStep g i).2 s fun t => gC g i t k), ← gInto_mul]
      congr 1
      funext t
      exact Nat.mul_comm _ _
    show (if gHow g (gStep g i).1 = 0 then _ else _) = _
    rw [gFsS]
    by_cases h0 : gHow g (gStep g i).1 = 0
    · rw [if_pos h0, if_pos h0, into, ih s]
      have shA : ∀ (X : Nat → Nat), a * gSum (fun k => X k * (a ^ k * d ^ (gFs g i - k))) (gFs g i + 1) = gSum (fun k => (if k = 0 then 0 else X (k - 1)) * (a ^ k * d ^ (gFs g i + 1 - k))) (gFs g i + 1 + 1) := by
        intro X
        rw [gSum_first (fun k => (if k = 0 then 0 else X (k - 1)) * (a ^ k * d ^ (gFs g i + 1 - k))), if_pos rfl, Nat.zero_mul, Nat.zero_add, ← gSum_mul]
        refine gSum_cong fun k _ => ?_
        rw [if_neg (by omega), Nat.add_sub_cancel, show gFs g i + 1 - (k + 1) = gFs g i - k by omega, Nat.pow_succ]
        ac_rfl
      have shD : ∀ (X : Nat → Nat), X (gFs g i + 1) = 0 → d * gSum (fun k => X k * (a ^ k * d ^ (gFs g i - k))) (gFs g i + 1) = gSum (fun k => X k * (a ^ k * d ^ (gFs g i + 1 - k))) (gFs g i + 1 + 1) := by
        intro X hX
        show _ = gSum (fun k => X k * (a ^ k * d ^ (gFs g i + 1 - k))) (gFs g i + 1) + X (gFs g i + 1) * _
        rw [hX, Nat.zero_mul, Nat.add_zero, ← gSum_mul]
        refine gSum_cong fun k hk => ?_
        rw [show gFs g i + 1 - k = gFs g i - k + 1 by omega, Nat.pow_succ]
        ac_rfl
      have z1 : gInto g (gStep g i).2 s (fun t => gC g i t (gFs g i + 1)) = 0 := gInto0 fun t => gC_far g i t _ (by omega)
      have z2 : gC g i s (gFs g i + 1) = 0 := gC_far g i s _ (by omega)
      by_cases ev : (gStep g i).1 % 2 = 0
      · rw [show gGo a d (gStep g i).1 = a from if_pos ev, show gSy a d (gStep g i).1 = d from if_pos ev, shA (fun k => gInto g (gStep g i).2 s (fun t => gC g i t k)), shD (fun k => gC g i s k) z2, ← gSum_add]
        refine gSum_cong fun k _ => ?_
        rw [gCS, if_pos h0, if_pos ev, Nat.add_mul]
      · rw [show gGo a d (gStep g i).1 = d from if_neg ev, show gSy a d (gStep g i).1 = a from if_neg ev, shA (fun k => gC g i s k), shD (fun k => gInto g (gStep g i).2 s (fun t => gC g i t k)) z1, ← gSum_add]
        refine gSum_cong fun k _ => ?_
        rw [gCS, if_pos h0, if_neg ev, Nat.add_mul]
    · have ez : gFs g i + (if gHow g (gStep g i).1 = 0 then 1 else 0) = gFs g i := by rw [if_neg h0]; rfl
      rw [if_neg h0, ez]
      by_cases hm : gMvs g i = true
      · rw [if_pos hm, into]
        refine gSum_cong fun k _ => ?_
        rw [gCS, if_neg h0, if_pos (of_decide_eq_true hm)]
      · rw [if_neg hm, ih s]
        refine gSum_cong fun k _ => ?_
        rw [gCS, if_neg h0, if_neg (fun h => hm (decide_eq_true h))]
theorem gdotU {g : gG} (hok : gOk g) (a d : Nat) {i : Nat} (hi : i ≤ gRS g.1 g.2.1) : gSum (fun s => gAw g a d i s * gBi g a d i s) (gSz g.1) = gUp g a d := by
  have hr := hok.1.2.1
  rw [gdotN hok.1 a d hi]
  have e : ∀ s, gAw g a d (gRS g.1 g.2.1) s * gBi g a d (gRS g.1 g.2.1) s = gSum (fun k => (if gWs g.1 s = 0 then 0 else gW g (g.2.1 - 1) s k) * (a ^ k * d ^ (gFree g - k))) (gFree g + 1) := by
    intro s
    have eb : gBi g a d (gRS g.1 g.2.1) s = if gWs g.1 s = 0 then 0 else 1 := by
      unfold gBi
      rw [Nat.sub_self]
      rfl
    have ew : ∀ k, gW g (g.2.1 - 1) s k = gC g (gRS g.1 g.2.1) s k := fun k => by
      show gC g (gRS g.1 (g.2.1 - 1 + 1)) s k = _
      rw [Nat.sub_add_cancel hr.1]
    rw [eb, gAw_E, gFs_all hok.1]
    by_cases q : gWs g.1 s = 0
    · rw [if_pos q, Nat.mul_zero, gSum_z (fun k _ => by rw [if_pos q, Nat.zero_mul])]
    · rw [if_neg q, Nat.mul_one]
      exact gSum_cong fun k _ => by rw [if_neg q, ew]
  rw [gSum_cong (fun s _ => e s), gSum_swap]
  unfold gUp
  refine gSum_cong fun k _ => ?_
  rw [gSum_mulr]
  rfl
/-- one state joins more than another -/
def gFin (c s t : Nat) : Prop := (∀ x y, x < c → y < c → gLb c s x = gLb c s y → gLb c t x = gLb c t y) ∧ ∀ x, x < c → gLb c s x = 0 → gLb c t x = 0
theorem gFin_refl (c s : Nat) : gFin c s s := ⟨fun _ _ _ _ h => h, fun _ _ h => h⟩
theorem gFin_cut {c s t x : Nat} (hc : c ≤ 5) (hs : s < gSz c) (ht : t < gSz c) (hx : x < c) (h : gFin c s t) : gFin c (gMv c x s) (gMv c x t) := by
  refine ⟨fun y z hy hz e => ?_, fun y hy e => ?_⟩
  · have a := (gcutE hc hs hx hy hz).2.mp e
    refine (gcutE hc ht hx hy hz).2.mpr ?_
    rcases a with a | ⟨a, b, e2⟩
    · exact Or.inl a
    · exact Or.inr ⟨a, b, h.1 y z hy hz e2⟩
  · have a := (gcutE hc hs hx hy hy).1.mp e
    exact (gcutE hc ht hx hy hy).1.mpr ⟨a.1, h.2 y hy a.2⟩
theorem gFin_cutL {c s x : Nat} (hc : c ≤ 5) (hs : s < gSz c) (hx : x < c) : gFin c (gMv c x s) s := by
  refine ⟨fun y z hy hz e => ?_, fun y hy e => ?_⟩
  · rcases (gcutE hc hs hx hy hz).2.mp e with a | ⟨-, -, e2⟩
    · rw [a]
    · exact e2
  · exact ((gcutE hc hs hx hy hy).1.mp e).2
theorem gFin_join {c s t x : Nat} (hc : c ≤ 5) (hs : s < gSz c) (ht : t < gSz c) (h0 : 0 < x) (hx : x < c) (h : gFin c s t) : gFin c (gMv c (4 + x) s) (gMv c (4 + x) t) := by
  have inn : ∀ y, y < c → (gLb c s y = gLb c s (x - 1) ∨ gLb c s y = gLb c s x) → (gLb c t y = gLb c t (x - 1) ∨ gLb c t y = gLb c t x) := by
    intro y hy a
    rcases a with a | a
    · exact Or.inl (h.1 y (x - 1) hy (by omega) a)
    · exact Or.inr (h.1 y x hy hx a)
  refine ⟨fun y z hy hz e => ?_, fun y hy e => ?_⟩
  · refine (gjoinE hc ht h0 hx hy hz).2.mpr ?_
    rcases (gjoinE hc hs h0 hx hy hz).2.mp e with a | ⟨a, b⟩
    · exact Or.inl (h.1 y z hy hz a)
    · exact Or.inr ⟨inn y hy a, inn z hz b⟩
  · refine (gjoinE hc ht h0 hx hy hy).1.mpr ?_
    rcases (gjoinE hc hs h0 hx hy hy).1.mp e with a | ⟨a, b⟩
    · exact Or.inl (h.2 y hy a)
    · refine Or.inr ⟨inn y hy a, ?_⟩
      rcases b with b | b
      · exact Or.inl (h.2 (x - 1) (by omega) b)
      · exact Or.inr (h.2 x hx b)
theorem gFin_joinL {c s x : Nat} (hc : c ≤ 5) (hs : s < gSz c) (h0 : 0 < x) (hx : x < c) : gFin c s (gMv c (4 + x) s) := by
  refine ⟨fun y z hy hz e => ?_, fun y hy e => ?_⟩
  · exact (gjoinE hc hs h0 hx hy hz).2.mpr (Or.inl e)
  · exact (gjoinE hc hs h0 hx hy hy).1.mpr (Or.inl e)
/-- a slot is a cut's or a join's -/
theorem gSl_cases {c slot : Nat} (hv : gVs c slot = true) : slot < c ∨ ∃ x, slot = 4 + x ∧ 0 < x ∧ x < c := by
  unfold gVs at hv
  rw [Bool.or_eq_true, Bool.and_eq_true] at hv
  rcases hv with h | ⟨h1, h2⟩
  · exact Or.inl (of_decide_eq_true h)
  · have a := of_decide_eq_true h1
    have b := of_decide_eq_true h2
    exact Or.inr ⟨slot - 4, by omega, by omega, b⟩
theorem gFin_mv {c slot s t : Nat} (hc : c ≤ 5) (hv : gVs c slot = true) (hs : s < gSz c) (ht : t < gSz c) (h : gFin c s t) : gFin c (gMv c slot s) (gMv c slot t) := by
  rcases gSl_cases hv with a | ⟨x, rfl, h0, hx⟩
  · exact gFin_cut hc hs ht a h
  · exact gFin_join hc hs ht h0 hx h
theorem gFin_wet {c s t : Nat} (hc : c ≤ 5) (hs : s < gSz c) (ht : t < gSz c) (h : gFin c s t) (hw : gWs c s ≠ 0) : gWs c t ≠ 0 := by
  intro e
  refine hw (Nat.eq_of_testBit_eq fun i => ?_)
  rw [Nat.zero_testBit, gWs_bit hc hs]
  have b := gWs_bit hc ht i
  rw [e, Nat.zero_testBit] at b
  by_cases q : i < c
  · rw [decide_eq_true q, Bool.true_and] at b ⊢
    refine decide_eq_false fun h0 => ?_
    have := h.2 i q h0
    rw [decide_eq_true this] at b
    cases b
  · rw [decide_eq_false q]; rfl
theorem gBw_mono {g : gG} (hw : gWf g) (a d : Nat) : ∀ n, n ≤ gRS g.1 g.2.1 → ∀ s t, s < gSz g.1 → t < gSz g.1 → gFin g.1 s t → gBw g a d n s ≤ gBw g a d n t := by
  intro n
  induction n with
  | zero =>
    intro _ s t hs ht h
    show (if gWs g.1 s = 0 then 0 else 1) ≤ (if gWs g.1 t = 0 then 0 else 1)
    by_cases q : gWs g.1 s = 0
    · rw [if_pos q]; exact Nat.zero_le _
    · rw [if_neg q, if_neg (gFin_wet hw.1.2 hs ht h q)]; exact Nat.le_refl _
  | succ n ih =>
    intro hn s t hs ht h
    obtain ⟨-, hv⟩ := gStE hw (show gRS g.1 g.2.1 - (n + 1) < gRS g.1 g.2.1 by omega)
    have ms := (gMvI' hw.1.2 hv hs).2
    have mt := (gMvI' hw.1.2 hv ht).2
    have i1 := ih (by omega) s t hs ht h
    have i2 := ih (by omega) _ _ ms mt (gFin_mv hw.1.2 hv hs ht h)
    show (if _ then _ else _) ≤ (if _ then _ else _)
    by_cases h0 : gHow g (gStep g (gRS g.1 g.2.1 - (n + 1))).1 = 0
    · rw [if_pos h0, if_pos h0]
      exact Nat.add_le_add (Nat.mul_le_mul_left _ i2) (Nat.mul_le_mul_left _ i1)
    · rw [if_neg h0, if_neg h0]
      by_cases hm : gMvs g (gRS g.1 g.2.1 - (n + 1)) = true
      · rw [if_pos hm, if_pos hm]; exact i2
      · rw [if_neg hm, if_neg hm]; exact i1
