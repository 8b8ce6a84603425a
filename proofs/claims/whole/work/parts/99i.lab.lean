/-! the reference's labels of a row -/
def gJl (L : Nat → Nat) (a b : Nat) : Nat → Nat := fun y => if L y = max a b then min a b else L y
def gL0 (g : gG) (row : Nat) (op : Nat → Bool) (old : Nat → Nat) : Nat → Nat := fun x => if g.2.2.2 (5 * row + x) then 9 else if row = 0 then 0 else if op (10 * (row - 1) + 2 * x + 1) then old x else 10 + x
def gLs (g : gG) (row : Nat) (op : Nat → Bool) (old : Nat → Nat) : Nat → Nat → Nat
  | 0 => gL0 g row op old
  | n + 1 => if op (10 * row + 2 * n) then gJl (gLs g row op old n) (gLs g row op old n n) (gLs g row op old n (n + 1)) else gLs g row op old n
theorem gJl_eq (L : Nat → Nat) (a : Nat) : gJl L a a = L := by
  funext y
  unfold gJl
  by_cases q : L y = max a a
  · rw [if_pos q, Nat.min_self]
    rw [Nat.max_self] at q
    exact q.symm
  · rw [if_neg q]
theorem gjoinL {c a b : Nat} (hc : c ≤ 5) (ha : a < 2 ^ 31) (hb : b < 2 ^ 31) {lb : Nat → Int32} {L : Nat → Nat} (hL : ∀ x, x < c → lb x = nI (L x) ∧ L x < 2 ^ 31) : ∃ lb', zf_X9_joinsLabels (nI c) lb (nI a) (nI b) = some lb' ∧ ∀ x, x < c → lb' x = nI (gJl L a b x) := by
  have key : ∀ lo hi, lo = min a b → hi = max a b → ∃ lb', zf_X9_joinsLabels_21 (nI c) lb (nI lo) (nI hi) = some lb' ∧ ∀ x, x < c → lb' x = nI (gJl L a b x) := by
    intro lo hi e1 e2
    unfold zf_X9_joinsLabels_21
    have hH := gitH (f := fun d : Int32 × (Nat → Int32) => zf_X9_joinsLabels_l26 (nI c) (nI lo) (nI hi) d.1 d.2) (fun j q => q.1 = nI j ∧ ∀ x, x < c → q.2 x = nI (if x < j then gJl L a b x else L x)) (fun q => ∀ x, x < c → q x = nI (gJl L a b x)) c (n := zfu) (gfu (by omega)) (a := ((0 : Int32), lb)) ⟨rfl, fun x hx => by rw [if_neg (by omega)]; exact (hL x hx).1⟩ ?_ ?_
    · obtain ⟨q, e, h⟩ := hH
      rw [e]
      exact ⟨q, rfl, h⟩
    · rintro j ⟨x, l1⟩ hj ⟨rfl, h⟩
      dsimp only at h ⊢
      unfold zf_X9_joinsLabels_l26 zf_X9_joinsLabels_64
      have z : zgd (nI j) 5 = true := ggN (by omega) (by decide)
      have hj1 := h j hj
      rw [if_neg (by omega)] at hj1
      rw [if_neg (gle50 (by omega) (by omega) hj)]
      simp only [z, if_true, nI_clamp (show j < 2 ^ 31 by omega), hj1]
      rw [nI_1]
      simp only [nI_eq (hL j hj).2 (show hi < 2 ^ 31 by omega)]
      have stp : ∀ v, v = nI (gJl L a b j) → ∀ x, x < c → upd l1 j v x = nI (if x < j + 1 then gJl L a b x else L x) := by
        intro v hv x hx
        by_cases e : x = j
        · rw [e, gupS, hv, if_pos (by omega)]
        · rw [gupN e, h x hx]
          by_cases q : x < j
          · rw [if_pos q, if_pos (by omega)]
          · rw [if_neg q, if_neg (by omega)]
      by_cases q : L j = hi
      · rw [if_pos q]
        exact ⟨_, rfl, rfl, stp _ (by unfold gJl; rw [if_pos (by omega), e1])⟩
      · rw [if_neg q]
        exact ⟨_, rfl, rfl, stp _ (by unfold gJl; rw [if_neg (by omega)])⟩
    · rintro ⟨x, l1⟩ ⟨rfl, h⟩
      dsimp only at h ⊢
      unfold zf_X9_joinsLabels_l26
      rw [if_pos (Int32.le_refl _)]
      exact ⟨_, rfl, fun x hx => by rw [h x hx, if_pos hx]⟩
  unfold zf_X9_joinsLabels zf_X9_joinsLabels_10
  simp only [nI_leI hb ha]
  by_cases h : b ≤ a
  · rw [if_pos h, if_pos h]
    exact key b a (by omega) (by omega)
  · rw [if_neg h, if_neg h]
    exact key a b (by omega) (by omega)
theorem gL0_lt {g : gG} {row : Nat} {op : Nat → Bool} {old : Nat → Nat} (ho : ∀ x, old x < 100) {x : Nat} (hx : x < 50) : gL0 g row op old x < 100 := by
  unfold gL0
  by_cases q1 : g.2.2.2 (5 * row + x) = true
  · rw [if_pos q1]; decide
  · rw [if_neg q1]
    by_cases q2 : row = 0
    · rw [if_pos q2]; decide
    · rw [if_neg q2]
      by_cases q3 : op (10 * (row - 1) + 2 * x + 1) = true
      · rw [if_pos q3]; exact ho x
      · rw [if_neg q3]; omega
theorem gLs_100 {g : gG} {row : Nat} {op : Nat → Bool} {old : Nat → Nat} (ho : ∀ x, old x < 100) (n : Nat) (hn : n < 50) : ∀ x, x < 50 → gLs g row op old n x < 100 := by
  induction n with
  | zero => intro x hx; exact gL0_lt ho hx
  | succ n ih =>
    intro x hx
    have ih := ih (by omega)
    show (if op (10 * row + 2 * n) then gJl (gLs g row op old n) (gLs g row op old n n) (gLs g row op old n (n + 1)) else gLs g row op old n) x < 100
    by_cases q : op (10 * row + 2 * n) = true
    · rw [if_pos q]
      unfold gJl
      have h1 := ih n (by omega)
      have h2 := ih (n + 1) (by omega)
      have h3 := ih x hx
      by_cases q2 : gLs g row op old n x = max (gLs g row op old n n) (gLs g row op old n (n + 1))
      · rw [if_pos q2]; omega
      · rw [if_neg q2]; exact h3
    · rw [if_neg q]
      exact ih x hx
theorem glab {g : gG} (hw : gWf g) {cs lb ol io : Nat → Int32} {row : Nat} (hr : row < g.2.1) (hcs : ∀ k, k < 25 → cs k = gbI (g.2.2.2 k)) {op : Nat → Bool} {old : Nat → Nat} (ho : ∀ x, old x < 100) (hol : ∀ x, x < g.1 → ol x = nI (old x)) (hd : 0 < row → ∀ x, x < g.1 → io (10 * (row - 1) + 2 * x + 1) = gbI (op (10 * (row - 1) + 2 * x + 1))) (hrt : ∀ x, x + 1 < g.1 → io (10 * row + 2 * x) = gbI (op (10 * row + 2 * x))) : ∃ lb', zf_X9_laysLabels (nI g.1) cs lb ol io (nI row) = some lb' ∧ ∀ x, x < g.1 → lb' x = nI (gLs g row op old (g.1 - 1) x) := by
  have hc := hw.1
  have hr5 := hw.2.1
  unfold zf_X9_laysLabels
  have h1 := gitH (f := fun d : Int32 × (Nat → Int32) => zf_X9_laysLabels_l2 (nI g.1) cs ol io (nI row) d.1 d.2) (fun j q => q.1 = nI j ∧ ∀ x, x < j → q.2 x = nI (gL0 g row op old x)) (fun q => ∀ x, x < g.1 → q x = nI (gL0 g row op old x)) g.1 (n := zfu) (gfu (by omega)) (a := ((0 : Int32), lb)) ⟨rfl, fun x hx => by omega⟩ ?_ ?_
  · obtain ⟨l1, e1, k1⟩ := h1
    rw [e1, Option.bind_some]
    have h2 := gitH (f := fun d : Int32 × (Nat → Int32) => zf_X9_laysLabels_l97 (nI g.1) io (nI row) d.1 d.2) (fun j q => q.1 = nI j ∧ ∀ x, x < g.1 → q.2 x = nI (gLs g row op old j x)) (fun q => ∀ x, x < g.1 → q x = nI (gLs g row op old (g.1 - 1) x)) (g.1 - 1) (n := zfu) (gfu (by omega)) (a := ((0 : Int32), l1)) ⟨rfl, k1⟩ ?_ ?_
    · obtain ⟨l2, e2, k2⟩ := h2
      rw [e2, Option.bind_some]
      exact ⟨l2, rfl, k2⟩
    · rintro j ⟨x, l2⟩ hj ⟨rfl, h⟩
      dsimp only at h ⊢
      unfold zf_X9_laysLabels_l97 zf_X9_laysLabels_158
      have kk : (10 : Int32) * nI row + (2 : Int32) * nI j = nI (10 * row + 2 * j) := by rw [show (10 : Int32) = nI 10 from rfl, show (2 : Int32) = nI 2 from rfl, gmul, gmul, nI_add]
      have z1 : zgd (nI j) 5 = true := ggN (by omega) (by decide)
      have z2 : zgd (nI (j + 1)) 5 = true := ggN (by omega) (by decide)
      have b1 := gLs_100 (g := g) (row := row) (op := op) ho j (by omega)
      rw [nI_1, kk, if_neg (gle50 (by omega) (by omega) (by omega)), if_pos (ggN (by omega) (by decide)), nI_clamp (by omega), hrt j (by omega)]
      simp only [z1, z2, if_true, nI_clamp (show j < 2 ^ 31 by omega), nI_clamp (show j + 1 < 2 ^ 31 by omega), h j (by omega), h (j + 1) (by omega), gbI0, nI_eq (show gLs g row op old j j < 2 ^ 31 from Nat.lt_trans (b1 j (by omega)) (by decide)) (show gLs g row op old j (j + 1) < 2 ^ 31 from Nat.lt_trans (b1 (j + 1) (by omega)) (by decide))]
      have eS : gLs g row op old (j + 1) = if op (10 * row + 2 * j) then gJl (gLs g row op old j) (gLs g row op old j j) (gLs g row op old j (j + 1)) else gLs g row op old j := rfl
      rw [eS]
      cases hop : op (10 * row + 2 * j) with
      | false =>
        rw [if_pos rfl]
        exact ⟨_, rfl, rfl, h⟩
      | true =>
        rw [if_neg (by decide)]
        by_cases eq : gLs g row op old j j = gLs g row op old j (j + 1)
        · rw [if_pos eq]
          refine ⟨_, rfl, rfl, ?_⟩
          show ∀ x, x < g.1 → l2 x = nI (gJl (gLs g row op old j) (gLs g row op old j j) (gLs g row op old j (j + 1)) x)
          rw [← eq, gJl_eq]
          exact h
        · rw [if_neg eq]
          obtain ⟨l3, e3, k3⟩ := gjoinL hc.2 (Nat.lt_trans (b1 j (by omega)) (by decide)) (Nat.lt_trans (b1 (j + 1) (by omega)) (by decide)) (fun x hx => ⟨h x hx, Nat.lt_trans (b1 x (by omega)) (by decide)⟩)
          rw [e3, Option.bind_some]
          exact ⟨_, rfl, rfl, k3⟩
    · rintro ⟨x, l2⟩ ⟨rfl, h⟩
      dsimp only at h ⊢
      unfold zf_X9_laysLabels_l97
      rw [nI_1, if_pos (by rw [nI_leI (by omega) (by omega)]; omega)]
      exact ⟨_, rfl, h⟩
  · rintro j ⟨x, l1⟩ hj ⟨rfl, h⟩
    dsimp only at h ⊢
    have z5 : zgd (nI j) 5 = true := ggN (by omega) (by decide)
    have k5 : (5 : Int32) * nI row + nI j = nI (5 * row + j) := by rw [show (5 : Int32) = nI 5 from rfl, gmul, nI_add]
    have stp : ∀ v, v = nI (gL0 g row op old j) → ∃ a', zf_X9_laysLabels_88 l1 (nI j) (nI j) v = some (.inl a') ∧ a'.1 = nI (j + 1) ∧ ∀ x, x < j + 1 → a'.2 x = nI (gL0 g row op old x) := by
      intro v hv
      unfold zf_X9_laysLabels_88
      rw [if_pos z5, nI_clamp (by omega), nI_1]
      refine ⟨_, rfl, rfl, fun x hx => ?_⟩
      dsimp only
      by_cases e : x = j
      · rw [e, gupS, hv]
      · rw [gupN e]; exact h x (by omega)
    have st39 : ∀ b : Bool, (0 < row → b = op (10 * (row - 1) + 2 * j + 1)) → ∃ a', zf_X9_laysLabels_39 cs l1 ol (nI row) (nI j) (gbI b) = some (.inl a') ∧ a'.1 = nI (j + 1) ∧ ∀ x, x < j + 1 → a'.2 x = nI (gL0 g row op old x) := by
      intro b hb
      unfold zf_X9_laysLabels_39
      rw [k5, if_pos (ggN (by omega) (by decide)), nI_clamp (by omega), hcs _ (by omega)]
      simp only [gbI0, z5, if_true, nI_clamp (show j < 2 ^ 31 by omega)]
      cases hs : g.2.2.2 (5 * row + j) with
      | true =>
        rw [if_neg (by decide)]
        exact stp 9 (by unfold gL0; rw [hs]; rfl)
      | false =>
        rw [if_pos rfl]
        by_cases r0 : row = 0
        · rw [if_pos (by rw [r0]; rfl)]
          exact stp 0 (by unfold gL0; rw [hs, if_neg (by decide), if_pos r0]; rfl)
        · rw [if_neg (by rw [show (0 : Int32) = nI 0 from rfl, nI_eq (by omega) (by decide)]; exact r0)]
          have hb' := hb (by omega)
          cases b with
          | false =>
            rw [if_pos rfl]
            exact stp _ (by unfold gL0; rw [hs, if_neg (by decide), if_neg r0, ← hb', if_neg (by decide), show (10 : Int32) = nI 10 from rfl, nI_add])
          | true =>
            rw [if_neg (by decide)]
            exact stp _ (by unfold gL0; rw [hs, if_neg (by decide), if_neg r0, ← hb', if_pos rfl, hol j hj])
    unfold zf_X9_laysLabels_l2 zf_X9_laysLabels_38
    rw [if_neg (gle50 (by omega) (by omega) hj)]
    by_cases r0 : row = 0
    · rw [if_pos (by rw [r0]; decide)]
      exact st39 false (fun q => by omega)
    · rw [if_neg (by rw [show (0 : Int32) = nI 0 from rfl, nI_leI (by omega) (by decide)]; omega)]
      have kk : (10 : Int32) * (nI row - 1) + (2 : Int32) * nI j + 1 = nI (10 * (row - 1) + 2 * j + 1) := by rw [show (1 : Int32) = nI 1 from rfl, gsub (by omega), show (10 : Int32) = nI 10 from rfl, show (2 : Int32) = nI 2 from rfl, gmul, gmul, nI_add, nI_add]
      rw [kk, if_pos (ggN (by omega) (by decide)), nI_clamp (by omega), hd (by omega) j hj]
      simp only [gbI0]
      cases hop : op (10 * (row - 1) + 2 * j + 1) with
      | false =>
        rw [if_pos rfl]
        exact st39 false (fun _ => hop.symm)
      | true =>
        rw [if_neg (by decide)]
        exact st39 true (fun _ => hop.symm)
  · rintro ⟨x, l1⟩ ⟨rfl, h⟩
    dsimp only at h ⊢
    unfold zf_X9_laysLabels_l2
    rw [if_pos (Int32.le_refl _)]
    exact ⟨_, rfl, h⟩
