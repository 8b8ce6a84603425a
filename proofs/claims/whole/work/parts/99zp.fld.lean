/-! what is reached from the top by open pipes; how the class floods -/
def gRc (g : gG) (o : Nat → Bool) (k : Nat) : Prop := ∀ S : Nat → Prop, (∀ x, x < g.1 → g.2.2.2 x = false → S x) → (∀ p, gTh p g.1 g.2.1 = true → o p = true → (S (gFr p) ↔ S (gTo p))) → S k
noncomputable def gWb (g : gG) (o : Nat → Bool) (k : Nat) : Bool := @decide (gRc g o k) (Classical.propDecidable _)
theorem gWb_iff {g : gG} {o : Nat → Bool} {k : Nat} : gWb g o k = true ↔ gRc g o k := @decide_eq_true_iff (gRc g o k) (Classical.propDecidable _)
theorem gRc_top {g : gG} {o : Nat → Bool} {x : Nat} (hx : x < g.1) (hs : g.2.2.2 x = false) : gRc g o x := fun S h1 _ => h1 x hx hs
theorem gRc_st {g : gG} {o : Nat → Bool} {p : Nat} (hp : gTh p g.1 g.2.1 = true) (ho : o p = true) : gRc g o (gFr p) ↔ gRc g o (gTo p) := ⟨fun h S h1 h2 => (h2 p hp ho).mp (h S h1 h2), fun h S h1 h2 => (h2 p hp ho).mpr (h S h1 h2)⟩
/-- only cells of the grid are reached -/
theorem gRc_in {g : gG} (hw : gWf g) {o : Nat → Bool} {k : Nat} (h : gRc g o k) : k % 5 < g.1 ∧ k / 5 < g.2.1 := by
  have hc := hw.1
  have hr := hw.2.1
  refine h (fun k => k % 5 < g.1 ∧ k / 5 < g.2.1) (fun x hx _ => ⟨by omega, by omega⟩) (fun p hp _ => ?_)
  unfold gTh at hp
  unfold gTo gFr
  by_cases od : p % 2 = 1
  · rw [if_pos od] at hp ⊢
    simp only [Bool.and_eq_true, decide_eq_true_eq] at hp
    constructor <;> intro _ <;> omega
  · rw [if_neg od] at hp ⊢
    simp only [Bool.and_eq_true, decide_eq_true_eq] at hp
    constructor <;> intro _ <;> omega
theorem gRc_25 {g : gG} (hw : gWf g) {o : Nat → Bool} {k : Nat} (h : gRc g o k) : k < 25 := by
  have := gRc_in hw h
  have hr := hw.2.1
  omega
/-- what is in a set of cells that is found by and by -/
def gFd9 (g : gG) (o C : Nat → Bool) : Prop := (∀ k, C k = true → gRc g o k) ∧ ∀ x, x < g.1 → g.2.2.2 x = false → C x = true
def gCl9 (g : gG) (o C : Nat → Bool) : Prop := ∀ p, gTh p g.1 g.2.1 = true → o p = true → C (gFr p) = C (gTo p)
theorem gFd_all {g : gG} {o C : Nat → Bool} (h : gFd9 g o C) (hc : gCl9 g o C) (k : Nat) : C k = gWb g o k := by
  cases hk : C k with
  | true => exact (gWb_iff.mpr (h.1 k hk)).symm
  | false =>
    cases hw : gWb g o k with
    | false => rfl
    | true =>
      have r := gWb_iff.mp hw (fun k => C k = true) h.2 (fun p hp ho => by rw [hc p hp ho])
      rw [hk] at r
      cases r
theorem gct_lt {f f' : Nat → Bool} {n k : Nat} (h : ∀ i, i < n → f i = true → f' i = true) (hk : k < n) (h1 : f k = false) (h2 : f' k = true) : gct f n < gct f' n := by
  induction n with
  | zero => omega
  | succ n ih =>
    rw [gctS, gctS]
    have le : ∀ m, m ≤ n → gct f m ≤ gct f' m := by
      intro m
      induction m with
      | zero => intro _; exact Nat.le_refl _
      | succ m im =>
        intro hm
        rw [gctS, gctS]
        have := im (by omega)
        have q := h m (by omega)
        cases e : f m with
        | false =>
          have : (if f' m = true then 1 else 0) ≥ 0 := Nat.zero_le _
          simp
          omega
        | true => rw [q e]; omega
    by_cases e : k = n
    · subst e
      rw [h1, h2]
      have := le k (Nat.le_refl _)
      simp
      omega
    · have := ih (fun i hi => h i (by omega)) (by omega)
      have q := h n (by omega)
      cases e : f n with
      | false => simp; omega
      | true => rw [q e]; omega
/-- pipes that may be open: there, and of no stone -/
def gMay (g : gG) (o : Nat → Bool) : Prop := ∀ p, o p = true → gTh p g.1 g.2.1 = true
def gC1 (o C : Nat → Bool) (k : Nat) : Bool := C k || ((decide (1 ≤ k) && (C (k - 1) && o (2 * (k - 1)))) || (C (k + 1) && o (2 * k)))
def gC2 (o C : Nat → Bool) (k : Nat) : Bool := gC1 o C k || ((decide (5 ≤ k) && (gC1 o C (k - 5) && o (2 * (k - 5) + 1))) || (gC1 o C (k + 5) && o (2 * k + 1)))
def gEv (x : Int64) (C : Nat → Bool) : Prop := ∀ i, gbt x i = (decide (i < 64) && (decide (i % 2 = 0) && C (i / 2)))
theorem gFr2 (k : Nat) : gFr (2 * k) = k ∧ gTo (2 * k) = k + 1 ∧ gFr (2 * k + 1) = k ∧ gTo (2 * k + 1) = k + 5 := by
  unfold gTo gFr
  refine ⟨by omega, ?_, by omega, ?_⟩
  · rw [if_neg (by omega)]; omega
  · rw [if_pos (by omega)]; omega
theorem gAllC : ∀ i : Fin 64, gbt 6148914691236517205 i.val = decide (i.val % 2 = 0) := by decide +kernel
theorem gone2 {x r : Int64} {C : Nat → Bool} {o : Nat → Bool} (hC : gEv x C) (hr : ∀ i, gbt r i = (decide (i < 64) && (decide (i % 2 = 0) && o i))) (h25 : ∀ k, C k = true → k < 25) (ho : ∀ i, o i = true → i < 50) : gEv (x ||| ((zlshl (x &&& r) (2 : Int32)) ||| ((zlushr x (2 : Int32)) &&& r))) (gC1 o C) := by
  intro i
  by_cases h64 : i < 64
  · rw [decide_eq_true h64, Bool.true_and, gbt_or, gbt_or, gbt_and, show gbt (zlshl (x &&& r) (2 : Int32)) i = (decide (i < 64) && (decide (2 ≤ i) && gbt (x &&& r) (i - 2))) from gbt_shl (x &&& r) (n := 2) i (by decide), show gbt (zlushr x (2 : Int32)) i = gbt x (2 + i) from gbt_ushr x (n := 2) i (by decide), gbt_and, hC i, hC (i - 2), hC (2 + i), hr i, hr (i - 2), decide_eq_true h64, Bool.true_and, Bool.true_and, Bool.true_and]
    unfold gC1
    by_cases ev : i % 2 = 0
    · rw [decide_eq_true ev, Bool.true_and, Bool.true_and, Bool.true_and, decide_eq_true (show (2 + i) % 2 = 0 by omega), Bool.true_and, show (2 + i) / 2 = i / 2 + 1 by omega, show 2 * (i / 2) = i by omega]
      congr 1
      congr 1
      · by_cases q : 2 ≤ i
        · rw [decide_eq_true q, decide_eq_true (show 1 ≤ i / 2 by omega), decide_eq_true (show i - 2 < 64 by omega), decide_eq_true (show (i - 2) % 2 = 0 by omega), show (i - 2) / 2 = i / 2 - 1 by omega, show 2 * (i / 2 - 1) = i - 2 by omega]
          simp
        · rw [decide_eq_false q, decide_eq_false (show ¬ 1 ≤ i / 2 by omega)]
          rfl
      · by_cases q : 2 + i < 64
        · rw [decide_eq_true q, Bool.true_and]
        · have z : C (i / 2 + 1) = false := by
            cases hh : C (i / 2 + 1) with
            | false => rfl
            | true => have := h25 _ hh; omega
          rw [z, decide_eq_false q]
          rfl
    · have ev2 : ¬ (2 + i) % 2 = 0 := by omega
      rw [decide_eq_false ev, decide_eq_false ev2]
      by_cases q : 2 ≤ i
      · rw [decide_eq_false (show ¬ (i - 2) % 2 = 0 by omega)]
        simp
      · rw [decide_eq_false q]
        simp
  · rw [gbt_ge (by omega), decide_eq_false h64]
    rfl
theorem gone10 {x r : Int64} {C : Nat → Bool} {o : Nat → Bool} (hC : gEv x C) (hr : ∀ i, gbt r i = (decide (i < 64) && (decide (i % 2 = 0) && o (i + 1)))) (h25 : ∀ k, C k = true → k < 25) (ho : ∀ i, o i = true → i < 50) : gEv (x ||| ((zlshl (x &&& r) (10 : Int32)) ||| ((zlushr x (10 : Int32)) &&& r))) (fun k => C k || ((decide (5 ≤ k) && (C (k - 5) && o (2 * (k - 5) + 1))) || (C (k + 5) && o (2 * k + 1)))) := by
  intro i
  by_cases h64 : i < 64
  · rw [decide_eq_true h64, Bool.true_and, gbt_or, gbt_or, gbt_and, show gbt (zlshl (x &&& r) (10 : Int32)) i = (decide (i < 64) && (decide (10 ≤ i) && gbt (x &&& r) (i - 10))) from gbt_shl (x &&& r) (n := 10) i (by decide), show gbt (zlushr x (10 : Int32)) i = gbt x (10 + i) from gbt_ushr x (n := 10) i (by decide), gbt_and, hC i, hC (i - 10), hC (10 + i), hr i, hr (i - 10), decide_eq_true h64, Bool.true_and, Bool.true_and, Bool.true_and]
    by_cases ev : i % 2 = 0
    · rw [decide_eq_true ev, Bool.true_and, Bool.true_and, Bool.true_and, decide_eq_true (show (10 + i) % 2 = 0 by omega), Bool.true_and, show (10 + i) / 2 = i / 2 + 5 by omega]
      dsimp only
      rw [show 2 * (i / 2) = i by omega]
      congr 1
      congr 1
      · by_cases q : 10 ≤ i
        · rw [decide_eq_true q, decide_eq_true (show 5 ≤ i / 2 by omega), decide_eq_true (show i - 10 < 64 by omega), decide_eq_true (show (i - 10) % 2 = 0 by omega), show (i - 10) / 2 = i / 2 - 5 by omega, show 2 * (i / 2 - 5) = i - 10 by omega]
          simp
        · rw [decide_eq_false q, decide_eq_false (show ¬ 5 ≤ i / 2 by omega)]
          rfl
      · by_cases q : 10 + i < 64
        · rw [decide_eq_true q, Bool.true_and]
        · have z : C (i / 2 + 5) = false := by
            cases hh : C (i / 2 + 5) with
            | false => rfl
            | true => have := h25 _ hh; omega
          rw [z, decide_eq_false q]
          rfl
    · have ev2 : ¬ (10 + i) % 2 = 0 := by omega
      rw [decide_eq_false ev, decide_eq_false ev2]
      by_cases q : 10 ≤ i
      · rw [decide_eq_false (show ¬ (i - 10) % 2 = 0 by omega)]
        simp
      · rw [decide_eq_false q]
        simp
  · rw [gbt_ge (by omega), decide_eq_false h64]
    rfl
theorem gC1_rc {g : gG} {o C : Nat → Bool} (hm : gMay g o) (h : ∀ k, C k = true → gRc g o k) : ∀ k, gC1 o C k = true → gRc g o k := by
  intro k hk
  unfold gC1 at hk
  simp only [Bool.or_eq_true, Bool.and_eq_true, decide_eq_true_eq] at hk
  rcases hk with a | ⟨a, b, c⟩ | ⟨a, b⟩
  · exact h k a
  · have st := gRc_st (hm _ c) c
    rw [(gFr2 (k - 1)).1, (gFr2 (k - 1)).2.1, Nat.sub_add_cancel a] at st
    exact st.mp (h _ b)
  · have st := gRc_st (hm _ b) b
    rw [(gFr2 k).1, (gFr2 k).2.1] at st
    exact st.mpr (h _ a)
theorem gC2_rc {g : gG} {o C : Nat → Bool} (hm : gMay g o) (h : ∀ k, C k = true → gRc g o k) : ∀ k, gC2 o C k = true → gRc g o k := by
  intro k hk
  have h1 := gC1_rc hm h
  unfold gC2 at hk
  simp only [Bool.or_eq_true, Bool.and_eq_true, decide_eq_true_eq] at hk
  rcases hk with a | ⟨a, b, c⟩ | ⟨a, b⟩
  · exact h1 k a
  · have st := gRc_st (hm _ c) c
    rw [(gFr2 (k - 5)).2.2.1, (gFr2 (k - 5)).2.2.2, Nat.sub_add_cancel a] at st
    exact st.mp (h1 _ b)
  · have st := gRc_st (hm _ b) b
    rw [(gFr2 k).2.2.1, (gFr2 k).2.2.2] at st
    exact st.mpr (h1 _ a)
theorem gC2_ge {o C : Nat → Bool} (k : Nat) (h : C k = true) : gC1 o C k = true ∧ gC2 o C k = true := by
  have a : gC1 o C k = true := by unfold gC1; rw [h]; rfl
  exact ⟨a, by unfold gC2; rw [a]; rfl⟩
theorem gC2_cl {g : gG} {o C : Nat → Bool} (h : ∀ k, gC2 o C k = C k) : gCl9 g o C := by
  have h1 : ∀ k, gC1 o C k = C k := by
    intro k
    cases hk : C k with
    | true => exact (gC2_ge k hk).1
    | false =>
      cases h2 : gC1 o C k with
      | false => rfl
      | true =>
        have := h k
        rw [hk] at this
        unfold gC2 at this
        rw [h2] at this
        cases this
  intro p _ ho
  obtain ⟨k, hk⟩ : ∃ k, p = 2 * k ∨ p = 2 * k + 1 := ⟨p / 2, by omega⟩
  rcases hk with rfl | rfl
  · rw [(gFr2 k).1, (gFr2 k).2.1]
    have a := h1 k
    have b := h1 (k + 1)
    unfold gC1 at a b
    rw [ho] at a
    rw [Nat.add_sub_cancel, ho, decide_eq_true (show 1 ≤ k + 1 by omega)] at b
    cases hk : C k with
    | true =>
      rw [hk] at b
      simp at b
      rw [b]
    | false =>
      cases hk1 : C (k + 1) with
      | false => rfl
      | true =>
        rw [hk, hk1] at a
        simp at a
  · rw [(gFr2 k).2.2.1, (gFr2 k).2.2.2]
    have a := h k
    have b := h (k + 5)
    unfold gC2 at a b
    rw [ho, h1, h1, h1] at a
    rw [Nat.add_sub_cancel, ho, decide_eq_true (show 5 ≤ k + 5 by omega), h1, h1, h1] at b
    cases hk : C k with
    | true =>
      rw [hk] at b
      simp at b
      rw [b]
    | false =>
      cases hk1 : C (k + 5) with
      | false => rfl
      | true =>
        rw [hk, hk1] at a
        simp at a
theorem gtopM : ∀ c : Fin 6, ∀ i : Fin 64, gbt ((341 : Int64) &&& ((zlshl (1 : Int64) ((2 : Int32) * nI c.val)) - (1 : Int64))) i.val = (decide (i.val % 2 = 0) && decide (i.val / 2 < c.val)) := by decide +kernel
theorem gflood {g : gG} (hw : gWf g) {st op : Int64} {o : Nat → Bool} (hst : ∀ i, i < 64 → gbt st i = (decide (i % 2 = 0) && g.2.2.2 (gFr i))) (hop : ∀ i, i < 64 → gbt op i = o i) (hm : gMay g o) : ∃ x, zf_X2_flooded (nI g.1) st op = some x ∧ gEv x (gWb g o) := by
  have hc := hw.1
  have hr := hw.2.1
  have o50 : ∀ i, o i = true → i < 50 := fun i h => gTh50 hr.2 (hm i h)
  unfold zf_X2_flooded
  let rr : Int64 := op &&& 6148914691236517205
  let dd : Int64 := (zlushr op (1 : Int32)) &&& 6148914691236517205
  have hrr : ∀ i, gbt rr i = (decide (i < 64) && (decide (i % 2 = 0) && o i)) := by
    intro i
    by_cases h : i < 64
    · rw [decide_eq_true h, Bool.true_and]
      show gbt (op &&& 6148914691236517205) i = _
      rw [gbt_and, hop i h, gAllC ⟨i, h⟩, Bool.and_comm]
    · rw [gbt_ge (by omega), decide_eq_false h]; rfl
  have hdd : ∀ i, gbt dd i = (decide (i < 64) && (decide (i % 2 = 0) && o (i + 1))) := by
    intro i
    by_cases h : i < 64
    · rw [decide_eq_true h, Bool.true_and]
      show gbt ((zlushr op (1 : Int32)) &&& 6148914691236517205) i = _
      rw [gbt_and, show gbt (zlushr op (1 : Int32)) i = gbt op (1 + i) from gbt_ushr op (n := 1) i (by decide), gAllC ⟨i, h⟩, Bool.and_comm]
      by_cases h2 : 1 + i < 64
      · rw [hop _ h2, Nat.add_comm]
      · have z : o (i + 1) = false := by
          cases hh : o (i + 1) with
          | false => rfl
          | true => have := o50 _ hh; omega
        rw [gbt_ge (by omega), z]
    · rw [gbt_ge (by omega), decide_eq_false h]; rfl
  have step : ∀ (x : Int64) (C : Nat → Bool), gEv x C → (∀ k, C k = true → gRc g o k) → gEv ((x ||| ((zlshl (x &&& rr) (2 : Int32)) ||| ((zlushr x (2 : Int32)) &&& rr))) ||| ((zlshl ((x ||| ((zlshl (x &&& rr) (2 : Int32)) ||| ((zlushr x (2 : Int32)) &&& rr))) &&& dd) (10 : Int32)) ||| ((zlushr (x ||| ((zlshl (x &&& rr) (2 : Int32)) ||| ((zlushr x (2 : Int32)) &&& rr))) (10 : Int32)) &&& dd))) (gC2 o C) := by
    intro x C hC hR
    have e1 := gone2 hC hrr (fun k h => gRc_25 hw (hR k h)) o50
    exact gone10 e1 hdd (fun k h => gRc_25 hw (gC1_rc hm hR k h)) o50
  have hW := gitW (f := fun d : Int64 × Int32 => zf_X2_flooded_l43 rr dd d.1 d.2) (fun a => ∃ j C, a.2 = nI j ∧ gEv a.1 C ∧ gFd9 g o C ∧ ((gct C 25 = 0 ∧ j = 0) ∨ j < gct C 25)) (fun a => 25 - gct (fun k => gbt a.1 (2 * k)) 25) (fun b => ∃ x, (b = Sum.inl x ∨ b = Sum.inr x) ∧ gEv x (gWb g o)) ?_ zfu (((341 : Int64) &&& ((zlshl (1 : Int64) ((2 : Int32) * nI g.1)) - (1 : Int64))) &&& (st ^^^ (-1 : Int64)), (0 : Int32)) ?_ (by
    show 25 - _ < zfu
    exact gfu (by omega))
  · obtain ⟨b, e, x, hb, hE⟩ := hW
    refine ⟨x, ?_, hE⟩
    have e' : zit (fun d : Int64 × Int32 => zf_X2_flooded_l43 (op &&& (6148914691236517205 : Int64)) ((zlushr op (1 : Int32)) &&& (6148914691236517205 : Int64)) d.1 d.2) zfu (((341 : Int64) &&& ((zlshl (1 : Int64) ((2 : Int32) * nI g.1)) - (1 : Int64))) &&& (st ^^^ (-1 : Int64)), (0 : Int32)) = some b := e
    rw [e', Option.bind_some]
    rcases hb with rfl | rfl <;> rfl
  · rintro ⟨x, y⟩ ⟨j, C, rfl, hC, hF, hj⟩
    dsimp only at hC hj ⊢
    have c25 := gct_le C 25
    have jj : j < 25 := by omega
    have st2 := step x C hC hF.1
    have bits : ∀ (y : Int64) (D : Nat → Bool), gEv y D → ∀ k, k < 32 → gbt y (2 * k) = D k := fun y D hD k hk => by
      rw [hD (2 * k), decide_eq_true (show 2 * k < 64 by omega), decide_eq_true (show 2 * k % 2 = 0 by omega), show 2 * k / 2 = k by omega]
      rfl
    have cnt : ∀ (y : Int64) (D : Nat → Bool), gEv y D → gct (fun k => gbt y (2 * k)) 25 = gct D 25 := fun y D hD => gct_cong fun k hk => bits y D hD k (by omega)
    unfold zf_X2_flooded_l43
    rw [if_neg (gle25 jj)]
    generalize ((x ||| ((zlshl (x &&& rr) (2 : Int32)) ||| ((zlushr x (2 : Int32)) &&& rr))) ||| ((zlshl ((x ||| ((zlshl (x &&& rr) (2 : Int32)) ||| ((zlushr x (2 : Int32)) &&& rr))) &&& dd) (10 : Int32)) ||| ((zlushr (x ||| ((zlshl (x &&& rr) (2 : Int32)) ||| ((zlushr x (2 : Int32)) &&& rr))) (10 : Int32)) &&& dd))) = X at st2 ⊢
    have rc2 := gC2_rc hm hF.1
    by_cases q : X = x
    · right
      rw [if_pos (by rw [lg_cmp_eq]; exact q)]
      refine ⟨_, rfl, X, Or.inr rfl, ?_⟩
      have e : ∀ k, gC2 o C k = C k := by
        intro k
        by_cases hk : k < 32
        · rw [← bits X _ st2 k hk, ← bits x _ hC k hk, q]
        · have z1 : gC2 o C k = false := by
            cases hh : gC2 o C k with
            | false => rfl
            | true => have := gRc_25 hw (rc2 k hh); omega
          have z2 : C k = false := by
            cases hh : C k with
            | false => rfl
            | true => have := gRc_25 hw (hF.1 k hh); omega
          rw [z1, z2]
      rw [q, ← funext (gFd_all hF (gC2_cl e))]
      exact hC
    · left
      have ex : ∃ k, k < 25 ∧ C k = false ∧ gC2 o C k = true := by
        refine Classical.byContradiction fun hn => q (gbt_ext fun i hi => ?_)
        rw [st2 i, hC i]
        congr 1
        congr 1
        cases hk : C (i / 2) with
        | true => exact (gC2_ge _ hk).2
        | false =>
          cases h2 : gC2 o C (i / 2) with
          | false => rfl
          | true => exact absurd ⟨i / 2, gRc_25 hw (rc2 _ h2), hk, h2⟩ hn
      obtain ⟨k, k25, k1, k2⟩ := ex
      have lt := gct_lt (f := C) (f' := gC2 o C) (n := 25) (fun i _ h => (gC2_ge i h).2) k25 k1 k2
      have le2 := gct_le (gC2 o C) 25
      have pos : 0 < gct C 25 := by
        refine Nat.pos_of_ne_zero fun z => ?_
        have zz : ∀ i, C i = false := by
          intro i
          cases hh : C i with
          | false => rfl
          | true =>
            have i25 := gRc_25 hw (hF.1 i hh)
            have := gct_lt (f := fun _ => false) (f' := C) (n := 25) (fun _ _ h => by cases h) i25 rfl hh
            omega
        have z1 : ∀ i, gC1 o C i = false := fun i => by unfold gC1; rw [zz, zz, zz]; simp
        have z2 : gC2 o C k = false := by unfold gC2; rw [z1, z1, z1]; simp
        rw [z2] at k2
        cases k2
      rw [if_neg (by rw [lg_cmp_eq]; exact q), nI_1]
      refine ⟨_, rfl, ⟨j + 1, gC2 o C, rfl, st2, ⟨rc2, fun x hx hs => (gC2_ge x (hF.2 x hx hs)).2⟩, Or.inr (by omega)⟩, ?_⟩
      dsimp only
      rw [cnt X _ st2, cnt x _ hC]
      omega
  · refine ⟨0, fun k => decide (k < g.1) && !g.2.2.2 k, rfl, fun i => ?_, ⟨fun k hk => ?_, fun x hx hs => ?_⟩, ?_⟩
    · dsimp only
      by_cases h : i < 64
      · have t := gtopM ⟨g.1, by omega⟩ ⟨i, h⟩
        dsimp only at t
        rw [gbt_and, t, gbt_not _ h, hst i h, decide_eq_true h, Bool.true_and]
        by_cases ev : i % 2 = 0
        · rw [decide_eq_true ev, show gFr i = i / 2 by unfold gFr; omega]
          simp
        · rw [decide_eq_false ev]
          simp
      · rw [gbt_ge (by omega), decide_eq_false h]; rfl
    · dsimp only at hk
      rw [Bool.and_eq_true] at hk
      refine gRc_top (of_decide_eq_true hk.1) ?_
      have := hk.2
      cases hh : g.2.2.2 k with
      | false => rfl
      | true => rw [hh] at this; cases this
    · dsimp only
      rw [decide_eq_true hx, hs]; rfl
    · generalize gct (fun k => decide (k < g.1) && !g.2.2.2 k) 25 = n
      omega
theorem growM {y : Nat} (hy : y < 5) (i : Nat) (hi : i < 64) : gbt (zlshl 341 (nI (10 * y))) i = (decide (i % 2 = 0) && (decide (5 * y ≤ i / 2) && decide (i / 2 < 5 * y + 5))) := by
  rw [gbt_shl 341 i (show 10 * y < 64 by omega), decide_eq_true hi, Bool.true_and]
  by_cases a : 10 * y ≤ i
  · have t := g341 ⟨i - 10 * y, by omega⟩
    dsimp only at t
    rw [decide_eq_true a, Bool.true_and, t, decide_eq_decide.mpr (show (i - 10 * y) % 2 = 0 ↔ i % 2 = 0 by omega), decide_eq_true (show 5 * y ≤ i / 2 by omega), Bool.true_and, decide_eq_decide.mpr (show i - 10 * y < 10 ↔ i / 2 < 5 * y + 5 by omega), Bool.and_comm]
  · rw [decide_eq_false a, decide_eq_false (show ¬ 5 * y ≤ i / 2 by omega)]
    simp
/-- is some cell of a row among these? -/
def gAr9 (C : Nat → Bool) (y : Nat) : Bool := (List.range 5).any fun x => C (5 * y + x)
theorem gAr9_iff {C : Nat → Bool} {y : Nat} : gAr9 C y = true ↔ ∃ k, 5 * y ≤ k ∧ k < 5 * y + 5 ∧ C k = true := by
  unfold gAr9
  rw [List.any_eq_true]
  constructor
  · rintro ⟨x, hx, h⟩
    exact ⟨5 * y + x, by omega, by have := List.mem_range.mp hx; omega, h⟩
  · rintro ⟨k, h1, h2, h⟩
    exact ⟨k - 5 * y, List.mem_range.mpr (by omega), by rw [show 5 * y + (k - 5 * y) = k by omega]; exact h⟩
theorem growA {x : Int64} {C : Nat → Bool} (hC : gEv x C) {y : Nat} (hy : y < 5) : lg_cmp (x &&& (zlshl (341 : Int64) ((10 : Int32) * nI y))) 0 = 0 ↔ gAr9 C y = false := by
  rw [show (10 : Int32) = nI 10 from rfl, gmul, lg_cmp_eq, gbt_0]
  constructor
  · intro h
    cases hh : gAr9 C y with
    | false => rfl
    | true =>
      obtain ⟨k, k1, k2, k3⟩ := gAr9_iff.mp hh
      have := h (2 * k) (by omega)
      rw [gbt_and, hC, growM hy _ (by omega), decide_eq_true (show 2 * k < 64 by omega), decide_eq_true (show 2 * k % 2 = 0 by omega), show 2 * k / 2 = k by omega, k3, decide_eq_true k1, decide_eq_true k2] at this
      cases this
  · intro h i hi
    rw [gbt_and, hC, growM hy i hi]
    by_cases q : i % 2 = 0 ∧ 5 * y ≤ i / 2 ∧ i / 2 < 5 * y + 5
    · have z : C (i / 2) = false := by
        cases hh : C (i / 2) with
        | false => rfl
        | true =>
          have := gAr9_iff.mpr ⟨i / 2, q.2.1, q.2.2, hh⟩
          rw [h] at this
          cases this
      rw [z]
      simp
    · by_cases q1 : i % 2 = 0
      · by_cases q2 : 5 * y ≤ i / 2
        · rw [decide_eq_false (show ¬ i / 2 < 5 * y + 5 from fun q3 => q ⟨q1, q2, q3⟩)]
          simp
        · rw [decide_eq_false q2]
          simp
      · rw [decide_eq_false q1]
        simp
/-- does it join by these pipes? -/
noncomputable def gJo (g : gG) (o : Nat → Bool) : Bool := gAr9 (gWb g o) (g.2.1 - 1)
theorem gjoinsBy {g : gG} (hw : gWf g) {st op : Int64} {o : Nat → Bool} (hst : ∀ i, i < 64 → gbt st i = (decide (i % 2 = 0) && g.2.2.2 (gFr i))) (hop : ∀ i, i < 64 → gbt op i = o i) (hm : gMay g o) : zf_X2_joinsBy (nI g.1) (nI g.2.1) st op = some (gbI (gJo g o)) := by
  have hr := hw.2.1
  obtain ⟨x, e, hE⟩ := gflood hw hst hop hm
  have ra := growA hE (y := g.2.1 - 1) (by omega)
  unfold zf_X2_joinsBy
  rw [e, Option.bind_some, show nI g.2.1 - 1 = nI (g.2.1 - 1) by rw [show (1 : Int32) = nI 1 from rfl, gsub (by omega)]]
  unfold gJo
  cases hh : gAr9 (gWb g o) (g.2.1 - 1) with
  | false => rw [if_pos (ra.mpr hh)]; rfl
  | true => rw [if_neg (fun h => by have := ra.mp h; rw [hh] at this; cases this)]; rfl
