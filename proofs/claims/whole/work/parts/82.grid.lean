/-! a grid as such, and how the class and the reference hold it -/
abbrev gG : Type := Nat × Nat × (Nat → Nat) × (Nat → Bool)
def gTh (p c r : Nat) : Bool := decide (p % 10 / 2 < c) && decide (p / 10 < r) && (if p % 2 = 1 then decide (p / 10 + 1 < r) else decide (p % 10 / 2 + 1 < c))
def gFr (p : Nat) : Nat := 5 * (p / 10) + p % 10 / 2
def gTo (p : Nat) : Nat := gFr p + (if p % 2 = 1 then 5 else 1)
def gHow (g : gG) (p : Nat) : Nat := if g.2.2.2 (gFr p) || g.2.2.2 (gTo p) then 2 else g.2.2.1 p
def gWf (g : gG) : Prop := (1 ≤ g.1 ∧ g.1 ≤ 5) ∧ (1 ≤ g.2.1 ∧ g.2.1 ≤ 5) ∧ (∀ p, g.2.2.1 p ≤ 2 ∧ (gTh p g.1 g.2.1 = false → g.2.2.1 p = 0)) ∧ ∀ k, g.2.2.2 k = true → k % 5 < g.1 ∧ k / 5 < g.2.1
def gbI (b : Bool) : Int32 := if b then 1 else 0
def gRM (g : gG) (fc fr : Int32) (ct cs : Nat → Int32) : Prop := fc = nI g.1 ∧ fr = nI g.2.1 ∧ (∀ p, p < 50 → ct p = nI (g.2.2.1 p)) ∧ ∀ k, k < 25 → cs k = gbI (g.2.2.2 k)
def gRT (g : gG) (to ts st : Int64) : Prop := ∀ i, i < 64 → gbt to i = decide (g.2.2.1 i = 1) ∧ gbt ts i = decide (g.2.2.1 i = 2) ∧ gbt st i = (decide (i % 2 = 0) && g.2.2.2 (gFr i))
def gRX (g : gG) (d : zGD) : Prop := d.1 = nI g.1 ∧ d.2.1 = nI g.2.1 ∧ gRT g d.2.2.1 d.2.2.2.1 d.2.2.2.2.1 ∧ ∀ i, i < 64 → gbt d.2.2.2.2.2.1 i = (gTh i g.1 g.2.1 && decide (gHow g i = 1)) ∧ gbt d.2.2.2.2.2.2.1 i = (gTh i g.1 g.2.1 && decide (gHow g i = 2)) ∧ gbt d.2.2.2.2.2.2.2 i = (gTh i g.1 g.2.1 && decide (gHow g i = 0))
theorem gTh50 {p c r : Nat} (hr : r ≤ 5) (h : gTh p c r = true) : p < 50 := by
  unfold gTh at h
  simp at h
  omega
theorem gTh_st {g : gG} (hw : gWf g) {k : Nat} (h : 25 ≤ k) : g.2.2.2 k = false := by
  cases hk : g.2.2.2 k with
  | false => rfl
  | true =>
    have := hw.2.2.2 k hk
    have h2 := hw.2.1.2
    omega
theorem gpipes : ∀ (c r : Fin 5), (zf_X2_pipesOf (nI (c.val + 1)) (nI (r.val + 1))).isSome = true ∧ ∀ i : Fin 64, gbt ((zf_X2_pipesOf (nI (c.val + 1)) (nI (r.val + 1))).getD 0) i.val = gTh i.val (c.val + 1) (r.val + 1) := by decide +kernel
theorem gpipes' {c r : Nat} (hc : 1 ≤ c ∧ c ≤ 5) (hr : 1 ≤ r ∧ r ≤ 5) : ∃ v, zf_X2_pipesOf (nI c) (nI r) = some v ∧ ∀ i, i < 64 → gbt v i = gTh i c r := by
  have h := gpipes ⟨c - 1, by omega⟩ ⟨r - 1, by omega⟩
  simp only [Nat.sub_add_cancel hc.1, Nat.sub_add_cancel hr.1] at h
  obtain ⟨v, hv⟩ := Option.isSome_iff_exists.mp h.1
  refine ⟨v, hv, fun i hi => ?_⟩
  have h2 := h.2 ⟨i, hi⟩
  rw [hv] at h2
  exact h2
theorem gofst {g : gG} (hw : gWf g) {st v : Int64} (hst : ∀ i, i < 64 → gbt st i = (decide (i % 2 = 0) && g.2.2.2 (gFr i))) (hv : ∀ i, i < 64 → gbt v i = gTh i g.1 g.2.1) : ∀ i, i < 64 → gbt ((((st ||| (zlushr st (2 : Int32))) ||| (zlshl st (1 : Int32))) ||| (zlshl (zlushr st (10 : Int32)) (1 : Int32))) &&& v) i = (gTh i g.1 g.2.1 && (g.2.2.2 (gFr i) || g.2.2.2 (gTo i))) := by
  intro i hi
  have hst' : ∀ i, gbt st i = (decide (i % 2 = 0) && g.2.2.2 (gFr i)) := by
    intro i
    by_cases h : i < 64
    · exact hst i h
    · rw [gbt_ge (by omega), gTh_st hw (by unfold gFr; omega), Bool.and_false]
  have e1 : gbt (zlushr st (2 : Int32)) i = gbt st (2 + i) := gbt_ushr st (n := 2) i (by decide)
  have e2 : gbt (zlshl st (1 : Int32)) i = (decide (i < 64) && (decide (1 ≤ i) && gbt st (i - 1))) := gbt_shl st (n := 1) i (by decide)
  have e3 : gbt (zlshl (zlushr st (10 : Int32)) (1 : Int32)) i = (decide (i < 64) && (decide (1 ≤ i) && gbt (zlushr st (10 : Int32)) (i - 1))) := gbt_shl _ (n := 1) i (by decide)
  have e4 : gbt (zlushr st (10 : Int32)) (i - 1) = gbt st (10 + (i - 1)) := gbt_ushr st (n := 10) (i - 1) (by decide)
  rw [gbt_and, gbt_or, gbt_or, gbt_or, e1, e2, e3, e4, hv i hi, hst' i, hst' (2 + i), hst' (i - 1), hst' (10 + (i - 1)), decide_eq_true hi, Bool.true_and, Bool.true_and]
  cases ht : gTh i g.1 g.2.1 with
  | false => rw [Bool.and_false, Bool.false_and]
  | true =>
    rw [Bool.and_true, Bool.true_and]
    have hb := hw.1.2
    have hb2 := hw.2.1.2
    by_cases ho : i % 2 = 1
    · have f1 : gFr (i - 1) = gFr i := by unfold gFr; omega
      have f2 : gFr (10 + (i - 1)) = gTo i := by unfold gTo gFr; rw [if_pos ho]; omega
      rw [f1, f2, show decide (i % 2 = 0) = false from by simp; omega, show decide ((2 + i) % 2 = 0) = false from by simp; omega, show decide ((i - 1) % 2 = 0) = true from by simp; omega, show decide ((10 + (i - 1)) % 2 = 0) = true from by simp; omega, show decide (1 ≤ i) = true from by simp; omega]
      simp
    · have hx : i % 10 / 2 + 1 < g.1 := by
        unfold gTh at ht
        rw [if_neg ho] at ht
        simp at ht
        exact ht.2
      have f2 : gFr (2 + i) = gTo i := by unfold gTo gFr; rw [if_neg ho]; omega
      have d3 : (decide (1 ≤ i) && (decide ((i - 1) % 2 = 0) && g.2.2.2 (gFr (i - 1)))) = false := by
        by_cases h0 : 1 ≤ i
        · rw [show decide ((i - 1) % 2 = 0) = false from by simp; omega]
          simp
        · simp [h0]
      have d4 : (decide (1 ≤ i) && (decide ((10 + (i - 1)) % 2 = 0) && g.2.2.2 (gFr (10 + (i - 1))))) = false := by
        by_cases h0 : 1 ≤ i
        · rw [show decide ((10 + (i - 1)) % 2 = 0) = false from by simp; omega]
          simp
        · simp [h0]
      rw [d3, d4, f2, show decide (i % 2 = 0) = true from by simp; omega, show decide ((2 + i) % 2 = 0) = true from by simp; omega]
      simp
theorem gX2init {g : gG} (hw : gWf g) {to ts st : Int64} (h : gRT g to ts st) : ∃ d, zf_X2_init (nI g.1) (nI g.2.1) to ts st = some d ∧ gRX g d := by
  obtain ⟨v, hv, hb⟩ := gpipes' hw.1 hw.2.1
  unfold zf_X2_init
  rw [hv, Option.bind_some]
  refine ⟨_, rfl, rfl, rfl, h, fun i hi => ?_⟩
  have hof := gofst hw (fun i hi => (h i hi).2.2) hb i hi
  obtain ⟨h1, h2, -⟩ := h i hi
  have hz : gTh i g.1 g.2.1 = false → g.2.2.1 i = 0 := (hw.2.2.1 i).2
  have hle := (hw.2.2.1 i).1
  dsimp only
  generalize ((((st ||| (zlushr st (2 : Int32))) ||| (zlshl st (1 : Int32))) ||| (zlshl (zlushr st (10 : Int32)) (1 : Int32))) &&& v) = os at hof ⊢
  simp only [gbt_and, gbt_or, gbt_not _ hi, hof, hb i hi, h1, h2]
  unfold gHow
  cases ht : gTh i g.1 g.2.1 with
  | false =>
    rw [hz ht]
    simp
  | true =>
    cases hs : (g.2.2.2 (gFr i) || g.2.2.2 (gTo i)) with
    | true => simp
    | false =>
      simp only [Bool.and_false, Bool.not_false, Bool.and_true, Bool.or_false, Bool.true_and]
      rcases (show g.2.2.1 i = 0 ∨ g.2.2.1 i = 1 ∨ g.2.2.1 i = 2 by omega) with e | e | e <;> rw [e] <;> simp
