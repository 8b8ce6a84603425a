/-! numbers of a row's states: they rise; digits; good states -/
def gGood (g : gG) (row s : Nat) : Prop := gGd g.1 (gSt g row) (gCd g.1 s) = true
theorem gETp : ∀ c : Fin 6, ∀ m : Fin 32, (gT c.val).all (fun k => !gGd c.val m.val.testBit k || (List.range c.val).all (fun x => (Nat.beq (gDg c.val m.val.testBit k x) 0 == Nat.beq (gLst m.val.testBit k x) 0) && (Nat.beq (gDg c.val m.val.testBit k x) 9 == m.val.testBit x) && Nat.ble (gDg c.val m.val.testBit k x) 9 && (List.range c.val).all (fun y => (Nat.beq (gDg c.val m.val.testBit k x) (gDg c.val m.val.testBit k y)) == (Nat.beq (gLst m.val.testBit k x) (gLst m.val.testBit k y))))) = true := by decide +kernel
theorem gAsc_pw : ∀ l : List Nat, gAsc l = true → l.Pairwise (· < ·) := by
  intro l
  induction l with
  | nil => intro _; exact List.Pairwise.nil
  | cons a l ih =>
    intro h
    cases l with
    | nil => exact List.Pairwise.cons (fun x hx => absurd hx (List.not_mem_nil)) List.Pairwise.nil
    | cons b l =>
      have h : (Nat.blt a b && gAsc (b :: l)) = true := h
      rw [Bool.and_eq_true] at h
      have p := ih h.2
      refine List.Pairwise.cons ?_ p
      have hb : a < b := Nat.le_of_ble_eq_true h.1
      intro x hx
      rcases List.mem_cons.mp hx with hx | hx
      · rw [hx]; exact hb
      · exact Nat.lt_trans hb (List.rel_of_pairwise_cons p hx)
theorem gNn_c {c : Nat} {st st' : Nat → Bool} (h : ∀ x, x < c → st x = st' x) (k : Nat) : ∀ n, n ≤ c → gNn c st k n = gNn c st' k n := by
  intro n
  induction n with
  | zero => intro _; rfl
  | succ n ih =>
    intro hn
    show 10 * gNn c st k n + gDg c st k n = 10 * gNn c st' k n + gDg c st' k n
    rw [ih (by omega), gDg_c h k (by omega)]
theorem gNumN (g : gG) (row s : Nat) : ∀ n, gNum g row s n = gNn g.1 (gSt g row) (gCd g.1 s) n := by
  intro n
  induction n with
  | zero => rfl
  | succ n ih =>
    show 10 * gNum g row s n + gDig g row s n = 10 * gNn g.1 (gSt g row) (gCd g.1 s) n + gDg g.1 (gSt g row) (gCd g.1 s) n
    rw [ih, gDgE]
theorem gNum_lt {g : gG} (hw : gWf g) {row s t : Nat} (hst : s < t) (ht : t < gSz g.1) (gs : gGood g row s) (gt : gGood g row t) : gNum g row s g.1 < gNum g row t g.1 := by
  have hc := hw.1.2
  obtain ⟨m, hm, hb⟩ := gmask (gSt g row)
  have hb' : ∀ y, y < g.1 → m.testBit y = gSt g row y := fun y hy => hb y (by omega)
  have p := gAsc_pw _ (gETm ⟨g.1, by omega⟩ ⟨m, hm⟩)
  dsimp only at p
  rw [List.pairwise_map, List.pairwise_filter, List.pairwise_iff_getElem] at p
  have hs : s < (gT g.1).length := Nat.lt_trans hst ht
  have ht' : t < (gT g.1).length := ht
  have e : ∀ i (hi : i < (gT g.1).length), (gT g.1)[i] = gCd g.1 i := by
    intro i hi
    unfold gCd
    rw [List.getD_eq_getElem?_getD, List.getElem?_eq_getElem hi]
    rfl
  have q := p s t hs ht' hst
  rw [e, e, gGd_c hb', gGd_c hb', gNn_c hb' _ _ (Nat.le_refl _), gNn_c hb' _ _ (Nat.le_refl _)] at q
  rw [gNumN, gNumN]
  exact q gs gt
theorem gNum_inj {g : gG} (hw : gWf g) {row s t : Nat} (hs : s < gSz g.1) (ht : t < gSz g.1) (gs : gGood g row s) (gt : gGood g row t) (h : gNum g row s g.1 = gNum g row t g.1) : s = t := by
  rcases Nat.lt_trichotomy s t with q | q | q
  · have := gNum_lt hw q ht gs gt; omega
  · exact q
  · have := gNum_lt hw q hs gt gs; omega
/-- the digits of a good state are labels of it -/
theorem gDigE {g : gG} (hw : gWf g) {row s : Nat} (hs : s < gSz g.1) (h : gGood g row s) : gE g.1 s (gDig g row s) ∧ (∀ x, x < g.1 → (gDig g row s x = 9 ↔ g.2.2.2 (5 * row + x) = true)) ∧ ∀ x, x < g.1 → gDig g row s x ≤ 9 := by
  have hc := hw.1.2
  obtain ⟨m, hm, hb⟩ := gmask (gSt g row)
  have hb' : ∀ y, y < g.1 → m.testBit y = gSt g row y := fun y hy => hb y (by omega)
  have gd : gGd g.1 (gSt g row) (gCd g.1 s) = true := h
  rw [← gGd_c hb'] at gd
  have t := List.all_eq_true.mp (gETp ⟨g.1, by omega⟩ ⟨m, hm⟩) (gCd g.1 s) (gmemT hs)
  dsimp only at t
  rw [gd, Bool.not_true, Bool.false_or] at t
  have T : ∀ x, x < g.1 → (gDig g row s x = 0 ↔ gLst (gSt g row) (gCd g.1 s) x = 0) ∧ (gDig g row s x = 9 ↔ gSt g row x = true) ∧ gDig g row s x ≤ 9 ∧ ∀ y, y < g.1 → (gDig g row s x = gDig g row s y ↔ gLst (gSt g row) (gCd g.1 s) x = gLst (gSt g row) (gCd g.1 s) y) := by
    intro x hx
    have q := List.all_eq_true.mp t x (List.mem_range.mpr hx)
    simp only [Bool.and_eq_true] at q
    obtain ⟨⟨⟨q1, q2⟩, q3⟩, q4⟩ := q
    have el : ∀ x, x < g.1 → gLst m.testBit (gCd g.1 s) x = gLst (gSt g row) (gCd g.1 s) x := fun x hx => by unfold gLst; rw [hb' x hx]
    have q1 := eq_of_beq q1
    have q2 := eq_of_beq q2
    rw [gDg_c hb' _ hx, ← gDgE] at q1 q2 q3
    rw [el x hx] at q1
    refine ⟨by rw [← gbeqI, q1, gbeqI], by rw [← gbeqI, q2, hb' x hx], Nat.le_of_ble_eq_true q3, fun y hy => ?_⟩
    have q5 := eq_of_beq (List.all_eq_true.mp q4 y (List.mem_range.mpr hy))
    rw [gDg_c hb' _ hx, gDg_c hb' _ hy, ← gDgE, ← gDgE, el x hx, el y hy] at q5
    rw [← gbeqI, q5, gbeqI]
  have l8 : ∀ y, y < g.1 → gLb g.1 s y < 8 := fun y hy => (gLbE hc hs hy).2
  -- stones are alone
  have al : ∀ x, x < g.1 → gSt g row x = true → gLb g.1 s x ≠ 0 ∧ ∀ y, y < g.1 → x ≠ y → gLb g.1 s x ≠ gLb g.1 s y := by
    intro x hx hq
    have := List.all_eq_true.mp (show gGd g.1 (gSt g row) (gCd g.1 s) = true from h) x (List.mem_range.mpr hx)
    rw [hq, Bool.not_true, Bool.false_or, Bool.and_eq_true, Bool.not_eq_true', ← Bool.not_eq_true, gbeqI] at this
    refine ⟨this.1, fun y hy e => ?_⟩
    have := List.all_eq_true.mp this.2 y (List.mem_range.mpr hy)
    rw [Bool.or_eq_true, Bool.not_eq_true', ← Bool.not_eq_true, gbeqI, gbeqI] at this
    exact this.resolve_left e
  have ls : ∀ x, gLst (gSt g row) (gCd g.1 s) x = if gSt g row x then 9 else gLb g.1 s x := fun x => rfl
  refine ⟨⟨fun x hx => ?_, fun x y hx hy => ?_⟩, fun x hx => (T x hx).2.1, fun x hx => (T x hx).2.2.1⟩
  · rw [(T x hx).1, ls]
    cases q : gSt g row x with
    | true => rw [if_pos rfl]; exact ⟨fun k => absurd k (al x hx q).1, fun k => by omega⟩
    | false => rw [if_neg (by decide)]
  · rw [(T x hx).2.2.2 y hy, ls, ls, Ne, (T x hx).2.1]
    have k1 := l8 x hx
    have k2 := l8 y hy
    by_cases e : x = y
    · subst e; exact ⟨fun _ => Or.inl rfl, fun _ => rfl⟩
    · cases q : gSt g row x with
      | true =>
        refine ⟨fun k => absurd k ((al x hx q).2 y hy e), ?_⟩
        rintro (k | k)
        · exact absurd k e
        · exact absurd rfl k.2
      | false =>
        rw [if_neg (by decide)]
        cases q2 : gSt g row y with
        | true =>
          rw [if_pos rfl]
          refine ⟨fun k => absurd k.symm ((al y hy q2).2 x hx (fun k => e k.symm)), ?_⟩
          rintro (k | k)
          · exact absurd k e
          · omega
        | false =>
          rw [if_neg (by decide)]
          exact ⟨fun k => Or.inr ⟨k, by decide⟩, fun k => k.elim (fun k => absurd k e) (fun k => k.1)⟩
theorem gDig10 {g : gG} (hw : gWf g) {row s : Nat} (hs : s < gSz g.1) (h : gGood g row s) : gNum g row s g.1 < 100000 := by
  rw [gNum_nv]
  have h1 := gNv_lt (d := gDig g row s) (n := g.1) (fun x hx => (gDigE hw hs h).2.2 x hx)
  exact Nat.lt_of_lt_of_le h1 (Nat.pow_le_pow_right (by decide) hw.1.2)
/-- digits read from a number -/
theorem gNv_dg {d : Nat → Nat} {n : Nat} (h : ∀ x, x < n → d x ≤ 9) (j : Nat) (hj : j < n) : gNv d n / 10 ^ j % 10 = d (n - 1 - j) := by
  induction n generalizing j with
  | zero => omega
  | succ n ih =>
    have hn := h n (by omega)
    show (10 * gNv d n + d n) / 10 ^ j % 10 = d (n + 1 - 1 - j)
    cases j with
    | zero =>
      rw [Nat.pow_zero, Nat.div_one, show n + 1 - 1 - 0 = n by omega]
      omega
    | succ j =>
      rw [Nat.pow_succ, Nat.mul_comm (10 ^ j) 10, ← Nat.div_div_eq_div_mul, show (10 * gNv d n + d n) / 10 = gNv d n by omega, ih (fun x hx => h x (by omega)) j (by omega)]
      rw [show n + 1 - 1 - (j + 1) = n - 1 - j by omega]
theorem gold {c : Nat} (hc : c ≤ 5) {d : Nat → Nat} (h : ∀ x, x < c → d x ≤ 9) (ol : Nat → Int32) : ∃ ol', zit (fun d : Int32 × Int32 × (Nat → Int32) => zf_X9_laysRow_l203 d.1 d.2.1 d.2.2) zfu (nI (gNv d c), nI c - 1, ol) = some ol' ∧ ∀ x, x < c → ol' x = nI (d x) := by
  have lt := Nat.lt_of_lt_of_le (gNv_lt h) (Nat.pow_le_pow_right (by decide) hc)
  have hH := gitH (f := fun d : Int32 × Int32 × (Nat → Int32) => zf_X9_laysRow_l203 d.1 d.2.1 d.2.2) (fun j q => q.1 = nI (gNv d c / 10 ^ j) ∧ q.2.1 = nI (c - j) - 1 ∧ ∀ x, c - j ≤ x → x < c → q.2.2 x = nI (d x)) (fun q => ∀ x, x < c → q x = nI (d x)) c (n := zfu) (gfu (by omega)) (a := (nI (gNv d c), nI c - 1, ol)) ⟨by rw [Nat.pow_zero, Nat.div_one], rfl, fun x h1 h2 => by omega⟩ ?_ ?_
  · obtain ⟨q, e, k⟩ := hH
    exact ⟨q, e, k⟩
  · rintro j ⟨a, x, l1⟩ hj ⟨h1, h2, h3⟩
    dsimp only at h1 h2 h3 ⊢
    subst h1 h2
    unfold zf_X9_laysRow_l203
    have hb : gNv d c / 10 ^ j < 100000 := Nat.lt_of_le_of_lt (Nat.div_le_self _ _) lt
    rw [show (1 : Int32) = nI 1 from rfl, gsub (by omega), if_neg (by rw [show (0 : Int32) = nI 0 from rfl, nI_ltI (by omega) (by decide)]; omega), if_pos (ggN (by omega) (by decide)), nI_clamp (by omega), show (10 : Int32) = nI 10 from rfl, grem (by omega) (by decide), gdiv (by omega) (by decide)]
    refine ⟨_, rfl, ?_, ?_, fun x k1 k2 => ?_⟩
    · dsimp only; rw [Nat.pow_succ, Nat.div_div_eq_div_mul]
    · dsimp only
      rw [show c - j - 1 = c - (j + 1) by omega, Int32.sub_eq_add_neg]
    · dsimp only
      by_cases e : x = c - j - 1
      · rw [e, gupS, gNv_dg h j hj, show c - 1 - j = c - j - 1 by omega]
      · rw [gupN e]; exact h3 x (by omega) k2
  · rintro ⟨a, x, l1⟩ ⟨h1, h2, h3⟩
    dsimp only at h1 h2 h3 ⊢
    subst h2
    unfold zf_X9_laysRow_l203
    rw [Nat.sub_self, if_pos (by decide)]
    exact ⟨_, rfl, fun x hx => h3 x (by omega) hx⟩
