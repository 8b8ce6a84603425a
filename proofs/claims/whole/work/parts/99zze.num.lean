/-! reading: numbers, pipes -/
theorem gmsk (X : Int64) {p : Nat} (hp : p < 64) : lg_cmp (X &&& (zlshl (1 : Int64) (nI p))) 0 = 0 ↔ gbt X p = false := by
  rw [lg_cmp_eq, gbt_0]
  constructor
  · intro h
    have e := h p hp
    rw [gbt_and, gbt_bit p hp, decide_eq_true rfl, Bool.and_true] at e
    exact e
  · intro h i hi
    rw [gbt_and, gbt_bit i hp]
    by_cases e : i = p
    · rw [e, h]; rfl
    · rw [decide_eq_false e, Bool.and_false]
theorem gisDM {bs tp : Nat → Int32} {L i : Nat} (hL : L ≤ 400) (ht : ∀ i, i < L → tp i = bs i) (hi : i ≤ L) : zf_X9_isDigit (nI L) tp (nI i) = some (gbI (decide (i < L) && gSn bs 48 57 i)) := by
  unfold zf_X9_isDigit
  by_cases q : i < L
  · have z : zgd (nI i) 400 = true := ggN (by omega) (by decide)
    rw [if_neg (gle50 (by omega) (by omega) q), if_pos z, if_pos z, nI_clamp (by omega), ht i q, decide_eq_true q, Bool.true_and]
    unfold gSn
    by_cases c1 : bs i < 48
    · rw [if_pos c1, decide_eq_true c1]; rfl
    · rw [if_neg c1, decide_eq_false c1]
      by_cases c2 : bs i ≤ 57
      · rw [if_neg (fun c => Int32.not_lt.mpr c2 c), decide_eq_true c2]; rfl
      · rw [if_pos (Int32.not_le.mp c2), decide_eq_false c2]; rfl
  · rw [if_pos (show nI L ≤ nI i by rw [show i = L by omega]; exact Int32.le_refl _), decide_eq_false q]
    rfl
theorem gnumB {bs tp : Nat → Int32} {L a : Nat} (hL : L ≤ 400) (hB : ∀ i, i < L → ∃ z, z < 256 ∧ bs i = nI z) (ht : ∀ i, i < L → tp i = bs i) (ha : a ≤ L) (lo hi ft : Int32) : (∃ v, zf_X6_takeNumber (nI L) (nI a) ft bs lo hi = some (v, nI (gSk bs L a + 1), nI (gSk bs L a), ft) ∧ zf_X9_digit (nI L) (nI a) (-1) tp lo hi = some (v, nI (gSk bs L a + 1), -1) ∧ ¬ v < lo ∧ v ≤ hi ∧ gSk bs L a < L) ∨ ∃ w, zf_X6_takeNumber (nI L) (nI a) ft bs lo hi = some (-1, w, nI (gSk bs L a), nI (gSk bs L a)) ∧ zf_X9_digit (nI L) (nI a) (-1) tp lo hi = some (lo, nI (gSk bs L a), nI (gSk bs L a)) := by
  obtain ⟨h1, h2, -⟩ := gSk_sp bs ha
  obtain ⟨e1, e2, e3, e4⟩ := gEs_sp bs 48 57 h2
  unfold zf_X6_takeNumber zf_X6_takeNumber_37 zf_X6_refuse zf_X9_digit zf_X9_digit_56 zf_X9_wrong
  simp only [gspanC hL ha, gheM hL ht ha, Option.bind_some, if_true]
  generalize gEs bs 48 57 L (gSk bs L a) = e at e1 e2 e3 e4 ⊢
  generalize gSk bs L a = s at h1 h2 e1 e3 ⊢
  have n1 : ¬ nI s = -1 := gn1 (by omega)
  have d60 : ∀ y : Int32, zf_X9_digit_60 (nI s) (nI s) lo y = some (lo, nI s, nI s) := by
    intro y
    unfold zf_X9_digit_60
    rw [if_neg n1]
  have bad : ¬ e - s = 1 → ¬ nI (e - s) = (1 : Int32) := fun q => by rw [show (1 : Int32) = nI 1 from rfl, nI_eq (by omega) (by decide)]; exact q
  simp only [d60]
  by_cases q : s < L
  · have hv : ¬ gHv bs L s = -1 := by
      unfold gHv
      rw [if_pos q]
      exact gbyte hB q
    have hvE : gHv bs L s = bs s := by unfold gHv; rw [if_pos q]
    simp only [gisDM hL ht (show s ≤ L by omega), gisDM hL ht (show s + 1 ≤ L by omega), nI_1, Option.bind_some, decide_eq_true q, Bool.true_and]
    rw [if_neg hv, hvE]
    cases d0 : gSn bs 48 57 s with
    | false =>
      have es : e = s := by
        by_cases c : e = s
        · exact c
        · have := e3 s (Nat.le_refl _) (by omega)
          rw [d0] at this
          cases this
      rw [if_neg (bad (by omega)), if_pos (show gbI false = 0 from rfl)]
      exact Or.inr ⟨_, rfl, rfl⟩
    | true =>
      have es : e ≠ s := by
        intro c
        have := e4 (by omega)
        rw [c, d0] at this
        cases this
      rw [if_neg (show ¬ gbI true = 0 by decide)]
      cases d1 : (decide (s + 1 < L) && gSn bs 48 57 (s + 1)) with
      | true =>
        rw [Bool.and_eq_true, decide_eq_true_eq] at d1
        have es1 : e ≠ s + 1 := by
          intro c
          have := e4 (by omega)
          rw [c, d1.2] at this
          cases this
        rw [if_neg (bad (by omega)), if_neg (show ¬ gbI true = 0 by decide)]
        exact Or.inr ⟨_, rfl, rfl⟩
      | false =>
        have es1 : e = s + 1 := by
          by_cases c : e = s + 1
          · exact c
          · have := e3 (s + 1) (by omega) (by omega)
            rw [this, decide_eq_true (show s + 1 < L by omega)] at d1
            cases d1
        rw [if_pos (show nI (e - s) = (1 : Int32) by rw [show e - s = 1 by omega]; rfl), if_pos (ggN (show s < 400 by omega) (by decide)), nI_clamp (by omega), if_pos (show gbI false = 0 from rfl), gIn, Option.bind_some, es1]
        by_cases c1 : bs s - 48 < lo
        · rw [if_pos c1, if_pos c1, if_pos rfl]
          exact Or.inr ⟨_, rfl, rfl⟩
        · rw [if_neg c1, if_neg c1]
          by_cases c2 : bs s - 48 ≤ hi
          · unfold zf_X9_digit_60
            rw [if_neg (fun c => Int32.not_lt.mpr c2 c), if_pos c2, if_neg (show ¬ (1 : Int32) = 0 by decide), if_pos rfl, nI_1]
            exact Or.inl ⟨_, rfl, rfl, c1, c2, q⟩
          · rw [if_pos (Int32.not_le.mp c2), if_neg c2, if_pos rfl]
            exact Or.inr ⟨_, rfl, rfl⟩
  · have hv : gHv bs L s = -1 := by unfold gHv; rw [if_neg q]
    rw [if_pos hv, if_neg (bad (by omega))]
    exact Or.inr ⟨_, rfl, rfl⟩
