/-! subsets in their order -/
theorem gand2 (a c : Nat) {b d : Nat} (hb : b < 2) (hd : d < 2) : (2 * a + b) &&& (2 * c + d) = 2 * (a &&& c) + (if b = 1 ∧ d = 1 then 1 else 0) := by
  have he : (if b = 1 ∧ d = 1 then 1 else 0) < 2 := by split <;> omega
  apply Nat.eq_of_testBit_eq
  intro i
  rw [Nat.testBit_and]
  cases i with
  | zero =>
    rw [Nat.testBit_zero, Nat.testBit_zero, Nat.testBit_zero]
    rcases (show b = 0 ∨ b = 1 by omega) with rfl | rfl
    · rw [if_neg (fun h => by have := h.1; omega), decide_eq_false (show ¬ (2 * a + 0) % 2 = 1 by omega), decide_eq_false (show ¬ (2 * (a &&& c) + 0) % 2 = 1 by omega)]
      rfl
    · rcases (show d = 0 ∨ d = 1 by omega) with rfl | rfl
      · rw [if_neg (fun h => by have := h.2; omega), decide_eq_false (show ¬ (2 * c + 0) % 2 = 1 by omega), decide_eq_false (show ¬ (2 * (a &&& c) + 0) % 2 = 1 by omega), Bool.and_false]
      · rw [if_pos ⟨rfl, rfl⟩, decide_eq_true (show (2 * a + 1) % 2 = 1 by omega), decide_eq_true (show (2 * c + 1) % 2 = 1 by omega), decide_eq_true (show (2 * (a &&& c) + 1) % 2 = 1 by omega)]
        rfl
  | succ i =>
    rw [Nat.testBit_succ, Nat.testBit_succ, Nat.testBit_succ, show (2 * a + b) / 2 = a by omega, show (2 * c + d) / 2 = c by omega, show (2 * (a &&& c) + (if b = 1 ∧ d = 1 then 1 else 0)) / 2 = a &&& c by omega, Nat.testBit_and]
def gPd : Nat → Nat → Nat → Nat
  | 0, _, _ => 0
  | N + 1, D, j => if D % 2 = 1 then 2 * gPd N (D / 2) (j / 2) + j % 2 else 2 * gPd N (D / 2) j + 0
def gPk : Nat → Nat → Nat
  | 0, _ => 0
  | N + 1, D => D % 2 + gPk N (D / 2)
theorem gsplit2 (x : Nat) : x = 2 * (x / 2) + x % 2 := by omega
/-- a subset, one bit off -/
theorem gsub2s {x D : Nat} (h : x &&& D = x) : (x / 2 &&& D / 2) = x / 2 ∧ (x % 2 = 1 → D % 2 = 1) := by
  have e := gand2 (x / 2) (D / 2) (b := x % 2) (d := D % 2) (by omega) (by omega)
  rw [← gsplit2 x, ← gsplit2 D, h] at e
  by_cases q : x % 2 = 1 ∧ D % 2 = 1
  · rw [if_pos q] at e
    exact ⟨by omega, fun _ => q.2⟩
  · rw [if_neg q] at e
    exact ⟨by omega, fun h1 => by omega⟩
theorem gPd_in : ∀ N D j, gPd N D j &&& D = gPd N D j := by
  intro N
  induction N with
  | zero => intro D j; exact Nat.zero_and D
  | succ N ih =>
    intro D j
    unfold gPd
    by_cases q : D % 2 = 1
    · rw [if_pos q]
      have e := gand2 (gPd N (D / 2) (j / 2)) (D / 2) (b := j % 2) (d := D % 2) (by omega) (by omega)
      rw [← gsplit2 D, ih] at e
      rw [e]
      by_cases w : j % 2 = 1
      · rw [if_pos ⟨w, q⟩]; omega
      · rw [if_neg (fun h => w h.1)]; omega
    · rw [if_neg q]
      have e := gand2 (gPd N (D / 2) j) (D / 2) (b := 0) (d := D % 2) (by omega) (by omega)
      rw [← gsplit2 D, ih, if_neg (fun h => by have := h.1; omega)] at e
      exact e
theorem gPd_c : ∀ N D x, D < 2 ^ N → x &&& D = x → (x + 2 ^ N - 1 - D) &&& D = x := by
  intro N
  induction N with
  | zero =>
    intro D x hD h
    have d0 : D = 0 := by rw [Nat.pow_zero] at hD; omega
    subst d0
    rw [Nat.and_zero] at h ⊢
    exact h
  | succ N ih =>
    intro D x hD h
    rw [Nat.pow_succ] at hD
    obtain ⟨s1, s2⟩ := gsub2s h
    have i := ih (D / 2) (x / 2) (by omega) s1
    have e1 : x + 2 ^ (N + 1) - 1 - D = 2 * (x / 2 + 2 ^ N - 1 - D / 2) + (1 + x % 2 - D % 2) := by
      rw [Nat.pow_succ]
      by_cases w : x % 2 = 1
      · have := s2 w; omega
      · omega
    have e := gand2 (x / 2 + 2 ^ N - 1 - D / 2) (D / 2) (b := 1 + x % 2 - D % 2) (d := D % 2) (by
      by_cases w : x % 2 = 1
      · have := s2 w; omega
      · omega) (by omega)
    rw [← e1, ← gsplit2 D, i] at e
    rw [e]
    by_cases w : x % 2 = 1
    · have := s2 w
      rw [if_pos (show 1 + x % 2 - D % 2 = 1 ∧ D % 2 = 1 by omega)]
      omega
    · rw [if_neg (show ¬ (1 + x % 2 - D % 2 = 1 ∧ D % 2 = 1) by omega)]
      omega
theorem gPd_n : ∀ N D j, D < 2 ^ N → (gPd N D j + 2 ^ N - D) &&& D = gPd N D (j + 1) := by
  intro N
  induction N with
  | zero =>
    intro D j hD
    have d0 : D = 0 := by rw [Nat.pow_zero] at hD; omega
    subst d0
    rw [Nat.and_zero]
    rfl
  | succ N ih =>
    intro D j hD
    have hD' : D / 2 < 2 ^ N := by rw [Nat.pow_succ] at hD; omega
    unfold gPd
    by_cases q : D % 2 = 1
    · rw [if_pos q, if_pos q]
      by_cases w : j % 2 = 1
      · have e1 : 2 * gPd N (D / 2) (j / 2) + j % 2 + 2 ^ (N + 1) - D = 2 * (gPd N (D / 2) (j / 2) + 2 ^ N - D / 2) + 0 := by rw [Nat.pow_succ]; omega
        have e := gand2 (gPd N (D / 2) (j / 2) + 2 ^ N - D / 2) (D / 2) (b := 0) (d := D % 2) (by omega) (by omega)
        rw [← gsplit2 D, ih _ _ hD', if_neg (fun h => by have := h.1; omega)] at e
        rw [e1, e, show (j + 1) / 2 = j / 2 + 1 by omega, show (j + 1) % 2 = 0 by omega]
      · have e1 : 2 * gPd N (D / 2) (j / 2) + j % 2 + 2 ^ (N + 1) - D = 2 * (gPd N (D / 2) (j / 2) + 2 ^ N - 1 - D / 2) + 1 := by rw [Nat.pow_succ]; omega
        have e := gand2 (gPd N (D / 2) (j / 2) + 2 ^ N - 1 - D / 2) (D / 2) (b := 1) (d := D % 2) (by omega) (by omega)
        rw [← gsplit2 D, gPd_c N _ _ hD' (gPd_in _ _ _), if_pos ⟨rfl, q⟩] at e
        rw [e1, e, show (j + 1) / 2 = j / 2 by omega, show (j + 1) % 2 = 1 by omega]
    · rw [if_neg q, if_neg q]
      have e1 : 2 * gPd N (D / 2) j + 0 + 2 ^ (N + 1) - D = 2 * (gPd N (D / 2) j + 2 ^ N - D / 2) + 0 := by rw [Nat.pow_succ]; omega
      have e := gand2 (gPd N (D / 2) j + 2 ^ N - D / 2) (D / 2) (b := 0) (d := D % 2) (by omega) (by omega)
      rw [← gsplit2 D, ih _ _ hD', if_neg (fun h => by have := h.1; omega)] at e
      rw [e1, e]
theorem gPd_s : ∀ N D m, D < 2 ^ N → m &&& D = m → ∃ j, j < 2 ^ gPk N D ∧ gPd N D j = m := by
  intro N
  induction N with
  | zero =>
    intro D m hD h
    have d0 : D = 0 := by rw [Nat.pow_zero] at hD; omega
    subst d0
    rw [Nat.and_zero] at h
    exact ⟨0, by decide, h⟩
  | succ N ih =>
    intro D m hD h
    obtain ⟨s1, s2⟩ := gsub2s h
    obtain ⟨j, j1, j2⟩ := ih (D / 2) (m / 2) (by rw [Nat.pow_succ] at hD; omega) s1
    unfold gPd gPk
    by_cases q : D % 2 = 1
    · refine ⟨2 * j + m % 2, ?_, ?_⟩
      · rw [q, Nat.add_comm 1, Nat.pow_succ]; omega
      · rw [if_pos q, show (2 * j + m % 2) / 2 = j by omega, show (2 * j + m % 2) % 2 = m % 2 by omega, j2]
        omega
    · refine ⟨j, ?_, ?_⟩
      · rw [show D % 2 = 0 by omega, Nat.zero_add]; exact j1
      · rw [if_neg q, j2]
        have : ¬ m % 2 = 1 := fun w => q (s2 w)
        omega
theorem gPd_u : ∀ N D i j, i < 2 ^ gPk N D → j < 2 ^ gPk N D → gPd N D i = gPd N D j → i = j := by
  intro N
  induction N with
  | zero =>
    intro D i j hi hj _
    have e : 2 ^ gPk 0 D = 1 := rfl
    omega
  | succ N ih =>
    intro D i j hi hj h
    unfold gPd at h
    unfold gPk at hi hj
    by_cases q : D % 2 = 1
    · rw [q, Nat.add_comm 1, Nat.pow_succ] at hi hj
      rw [if_pos q, if_pos q] at h
      have := ih (D / 2) (i / 2) (j / 2) (by omega) (by omega) (by omega)
      omega
    · rw [show D % 2 = 0 by omega, Nat.zero_add] at hi hj
      rw [if_neg q, if_neg q] at h
      exact ih (D / 2) i j hi hj (by omega)
theorem gor2 (D b : Nat) : (D ||| 2 ^ (b + 1)) % 2 = D % 2 ∧ (D ||| 2 ^ (b + 1)) / 2 = D / 2 ||| 2 ^ b := by
  constructor
  · have e := Nat.testBit_or D (2 ^ (b + 1)) 0
    rw [Nat.testBit_zero, Nat.testBit_zero, Nat.testBit_two_pow, decide_eq_false (show ¬ b + 1 = 0 by omega), Bool.or_false, decide_eq_decide] at e
    omega
  · apply Nat.eq_of_testBit_eq
    intro i
    rw [← Nat.testBit_succ, Nat.testBit_or, Nat.testBit_or, Nat.testBit_succ, Nat.testBit_two_pow, Nat.testBit_two_pow, decide_eq_decide.mpr (show b + 1 = i + 1 ↔ b = i by omega)]
theorem gPk_or : ∀ N D b, b < N → D.testBit b = false → gPk N (D ||| 2 ^ b) = gPk N D + 1 := by
  intro N
  induction N with
  | zero => intro D b h; omega
  | succ N ih =>
    intro D b hb h
    unfold gPk
    cases b with
    | zero =>
      rw [Nat.testBit_zero] at h
      have h' : ¬ D % 2 = 1 := of_decide_eq_false h
      have e1 : (D ||| 2 ^ 0) % 2 = 1 := by
        have e := Nat.testBit_or D (2 ^ 0) 0
        rw [Nat.testBit_zero, Nat.testBit_two_pow, decide_eq_true (rfl : 0 = 0), Bool.or_true] at e
        exact of_decide_eq_true e
      have e2 : (D ||| 2 ^ 0) / 2 = D / 2 := by
        apply Nat.eq_of_testBit_eq
        intro i
        rw [← Nat.testBit_succ, ← Nat.testBit_succ, Nat.testBit_or, Nat.testBit_two_pow, decide_eq_false (show ¬ 0 = i + 1 by omega), Bool.or_false]
      rw [e1, e2]
      omega
    | succ b =>
      rw [Nat.testBit_succ] at h
      rw [(gor2 D b).1, (gor2 D b).2, ih (D / 2) b (by omega) h]
      omega
theorem gnx32 {x D : Nat} (hD : D < 2 ^ 32) : (nI x - nI D) &&& nI D = nI ((x + 2 ^ 32 - D) &&& D) := by
  have e : nI x = nI (x + 2 ^ 32) := by
    apply Int32.toBitVec_inj.mp
    show BitVec.ofNat 32 x = BitVec.ofNat 32 (x + 2 ^ 32)
    apply BitVec.eq_of_toNat_eq
    rw [BitVec.toNat_ofNat, BitVec.toNat_ofNat, Nat.add_mod_right]
  rw [e, gsub (by omega), gandI]
theorem gPd_lt {D : Nat} (hD : D < 4096) (j : Nat) : gPd 32 D j < 4096 := by
  have := gPd_in 32 D j
  have l : gPd 32 D j &&& D ≤ D := Nat.and_le_right
  omega
theorem gmaC {c D slot : Nat} {S : Nat → Nat} {mv fd : Nat → Int32} (hD : D < 4096) (hk : 2 ^ gPk 32 D ≤ 4096) (hmv : ∀ s, s < gSz c → zf_X4_moved mv (nI slot) (nI s) = some (nI (gMv c slot s))) (hf : ∀ m, m &&& D = m → fd m = nI (S m) ∧ S m < gSz c) : ∃ fd', zf_X7_moveAll (nI (2 ^ gPk 32 D)) fd mv (nI D) (nI slot) = some fd' ∧ ∀ m, m &&& D = m → fd' m = nI (gMv c slot (S m)) := by
  have hD32 : D < 2 ^ 32 := by omega
  have hH := gitH (f := fun d : Int32 × Int32 × (Nat → Int32) => zf_X7_moveAll_l5 (nI (2 ^ gPk 32 D)) mv (nI D) (nI slot) d.1 d.2.1 d.2.2) (fun j d => d.1 = nI (gPd 32 D j) ∧ d.2.1 = nI j ∧ ∀ i, i < 2 ^ gPk 32 D → d.2.2 (gPd 32 D i) = nI (if i < j then gMv c slot (S (gPd 32 D i)) else S (gPd 32 D i))) (fun o => ∀ i, i < 2 ^ gPk 32 D → o (gPd 32 D i) = nI (gMv c slot (S (gPd 32 D i)))) (2 ^ gPk 32 D) (n := zfu) (gfu (by omega)) (a := ((0 : Int32), (0 : Int32), fd)) ⟨?_, rfl, fun i hi => by rw [if_neg (by omega)]; exact (hf _ (gPd_in _ _ _)).1⟩ ?_ ?_
  · obtain ⟨fd', e, k⟩ := hH
    refine ⟨fd', ?_, fun m hm => ?_⟩
    · unfold zf_X7_moveAll
      rw [e]
      rfl
    · obtain ⟨j, j1, rfl⟩ := gPd_s 32 D m hD32 hm
      exact k j j1
  · have z : ∀ N D, gPd N D 0 = 0 := by
      intro N
      induction N with
      | zero => intro D; rfl
      | succ N ih =>
        intro D
        unfold gPd
        rw [ih]
        split <;> rfl
    rw [z]
    rfl
  · rintro j ⟨x3, x4, f1⟩ hj ⟨rfl, rfl, k⟩
    dsimp only at k ⊢
    have lt := gPd_lt hD j
    have kj := k j hj
    rw [if_neg (Nat.lt_irrefl j)] at kj
    unfold zf_X7_moveAll_l5
    rw [if_neg (gle50 (by omega) (by omega) hj), if_pos (ggN lt (by decide)), nI_clamp (by omega), kj, hmv _ (hf _ (gPd_in _ _ _)).2, Option.bind_some, if_pos (ggN lt (by decide)), gnx32 hD32, gPd_n 32 D j hD32, nI_1]
    refine ⟨_, rfl, rfl, rfl, fun i hi => ?_⟩
    dsimp only
    by_cases e : i = j
    · rw [e, gupS, if_pos (by omega)]
    · rw [gupN (fun q => e (gPd_u 32 D i j hi hj q)), k i hi]
      by_cases w : i < j
      · rw [if_pos w, if_pos (by omega)]
      · rw [if_neg w, if_neg (by omega)]
  · rintro ⟨x3, x4, f1⟩ ⟨rfl, rfl, k⟩
    dsimp only at k ⊢
    unfold zf_X7_moveAll_l5
    rw [if_pos (Int32.le_refl _)]
    refine ⟨_, rfl, fun i hi => ?_⟩
    rw [k i hi, if_pos hi]
theorem gdvC {c D slot b : Nat} {S : Nat → Nat} {mv fd : Nat → Int32} (hD : D < 4096) (hk : 2 ^ (gPk 32 D + 1) ≤ 4096) (hb : b < 12) (hbD : D.testBit b = false) (hmv : ∀ s, s < gSz c → zf_X4_moved mv (nI slot) (nI s) = some (nI (gMv c slot s))) (hf : ∀ m, m &&& D = m → fd m = nI (S m) ∧ S m < gSz c) (e : Bool) : ∃ fd', zf_X7_divide (nI (2 ^ gPk 32 D)) fd mv (nI D) (nI (2 ^ b)) (nI slot) (gbI e) = some (nI (2 ^ (gPk 32 D + 1)), fd') ∧ ∀ m, m &&& D = m → fd' m = nI (if e then S m else gMv c slot (S m)) ∧ fd' (m ||| 2 ^ b) = nI (if e then gMv c slot (S m) else S m) := by
  have hD32 : D < 2 ^ 32 := by omega
  rw [Nat.pow_succ] at hk
  have bf : ∀ m, m &&& D = m → m.testBit b = false := by
    intro m hm
    rw [← hm, Nat.testBit_and, hbD, Bool.and_false]
  have ne1 : ∀ i j, gPd 32 D i ≠ gPd 32 D j ||| 2 ^ b := by
    intro i j q
    have := bf _ (gPd_in 32 D i)
    rw [q, Nat.testBit_or, Nat.testBit_two_pow, decide_eq_true rfl, Bool.or_true] at this
    cases this
  have ne2 : ∀ i j, i < 2 ^ gPk 32 D → j < 2 ^ gPk 32 D → i ≠ j → gPd 32 D i ||| 2 ^ b ≠ gPd 32 D j ||| 2 ^ b := by
    intro i j hi hj ne q
    refine ne (gPd_u 32 D i j hi hj (Nat.eq_of_testBit_eq (fun t => ?_)))
    by_cases w : b = t
    · rw [← w, bf _ (gPd_in 32 D i), bf _ (gPd_in 32 D j)]
    · have := congrArg (fun v => v.testBit t) q
      rw [Nat.testBit_or, Nat.testBit_or, Nat.testBit_two_pow, decide_eq_false w, Bool.or_false, Bool.or_false] at this
      exact this
  have hH := gitH (f := fun d : Int32 × Int32 × (Nat → Int32) => zf_X7_divide_l21 (nI (2 ^ gPk 32 D)) mv (nI D) (nI (2 ^ b)) (nI slot) (gbI e) d.1 d.2.1 d.2.2) (fun j d => d.1 = nI (gPd 32 D j) ∧ d.2.1 = nI j ∧ ∀ i, i < 2 ^ gPk 32 D → d.2.2 (gPd 32 D i) = nI (if i < j then (if e then S (gPd 32 D i) else gMv c slot (S (gPd 32 D i))) else S (gPd 32 D i)) ∧ (i < j → d.2.2 (gPd 32 D i ||| 2 ^ b) = nI (if e then gMv c slot (S (gPd 32 D i)) else S (gPd 32 D i)))) (fun o => ∀ i, i < 2 ^ gPk 32 D → o (gPd 32 D i) = nI (if e then S (gPd 32 D i) else gMv c slot (S (gPd 32 D i))) ∧ o (gPd 32 D i ||| 2 ^ b) = nI (if e then gMv c slot (S (gPd 32 D i)) else S (gPd 32 D i))) (2 ^ gPk 32 D) (n := zfu) (gfu (by omega)) (a := ((0 : Int32), (0 : Int32), fd)) ⟨?_, rfl, fun i hi => ⟨by rw [if_neg (by omega)]; exact (hf _ (gPd_in _ _ _)).1, fun h => by omega⟩⟩ ?_ ?_
  · obtain ⟨fd', e1, k⟩ := hH
    refine ⟨fd', ?_, fun m hm => ?_⟩
    · unfold zf_X7_divide
      have e2 : nI (2 ^ gPk 32 D) * (2 : Int32) = nI (2 ^ gPk 32 D * 2) := by rw [show (2 : Int32) = nI 2 from rfl, gmul]
      rw [e2, if_pos (show nI (2 ^ gPk 32 D * 2) ≤ (4096 : Int32) from nI_le hk (by decide)), e1, Option.bind_some, Nat.pow_succ]
    · obtain ⟨j, j1, rfl⟩ := gPd_s 32 D m hD32 hm
      exact k j j1
  · have z : ∀ N D, gPd N D 0 = 0 := by
      intro N
      induction N with
      | zero => intro D; rfl
      | succ N ih =>
        intro D
        unfold gPd
        rw [ih]
        split <;> rfl
    rw [z]
    rfl
  · rintro j ⟨x3, x4, f1⟩ hj ⟨rfl, rfl, k⟩
    dsimp only at k ⊢
    have lt := gPd_lt hD j
    have kj := (k j hj).1
    rw [if_neg (Nat.lt_irrefl j)] at kj
    have lt2 : gPd 32 D j ||| 2 ^ b < 4096 := Nat.or_lt_two_pow (n := 12) lt (Nat.pow_lt_pow_right (by decide) hb)
    have fin : ∀ A B : Nat, A = (if e then S (gPd 32 D j) else gMv c slot (S (gPd 32 D j))) → B = (if e then gMv c slot (S (gPd 32 D j)) else S (gPd 32 D j)) → ∀ i, i < 2 ^ gPk 32 D → upd (upd f1 (gPd 32 D j) (nI A)) (gPd 32 D j ||| 2 ^ b) (nI B) (gPd 32 D i) = nI (if i < j + 1 then (if e then S (gPd 32 D i) else gMv c slot (S (gPd 32 D i))) else S (gPd 32 D i)) ∧ (i < j + 1 → upd (upd f1 (gPd 32 D j) (nI A)) (gPd 32 D j ||| 2 ^ b) (nI B) (gPd 32 D i ||| 2 ^ b) = nI (if e then gMv c slot (S (gPd 32 D i)) else S (gPd 32 D i))) := by
      intro A B hA hB i hi
      by_cases w : i = j
      · rw [w, gupN (ne1 j j), gupS, gupS, if_pos (show j < j + 1 by omega), hA, hB]
        exact ⟨rfl, fun _ => rfl⟩
      · rw [gupN (ne1 i j), gupN (fun q => w (gPd_u 32 D i j hi hj q)), gupN (ne2 i j hi hj w), gupN (fun q => ne1 j i q.symm), (k i hi).1]
        refine ⟨?_, fun h => (k i hi).2 (by omega)⟩
        by_cases l : i < j
        · rw [if_pos l, if_pos (show i < j + 1 by omega)]
        · rw [if_neg l, if_neg (show ¬ i < j + 1 by omega)]
    unfold zf_X7_divide_l21 zf_X7_divide_69 zf_X7_divide_90
    rw [if_neg (gle50 (by omega) (by omega) hj), if_pos (ggN lt (by decide)), nI_clamp (by omega), kj, hmv _ (hf _ (gPd_in _ _ _)).2, Option.bind_some, gorI, if_pos (ggN lt (by decide)), if_pos (ggN lt (by decide)), if_pos (ggN lt2 (by decide)), if_pos (ggN lt2 (by decide)), if_pos (ggN lt2 (by decide)), if_pos (ggN lt2 (by decide)), nI_clamp (by omega), gnx32 hD32, gPd_n 32 D j hD32, nI_1]
    cases e with
    | false =>
      rw [if_pos (show gbI false = 0 from rfl), if_pos (show gbI false = 0 from rfl)]
      exact ⟨_, rfl, rfl, rfl, fin _ _ rfl rfl⟩
    | true =>
      rw [if_neg (show ¬ gbI true = 0 by decide), if_neg (show ¬ gbI true = 0 by decide)]
      exact ⟨_, rfl, rfl, rfl, fin _ _ rfl rfl⟩
  · rintro ⟨x3, x4, f1⟩ ⟨rfl, rfl, k⟩
    dsimp only at k ⊢
    unfold zf_X7_divide_l21
    rw [if_pos (Int32.le_refl _)]
    refine ⟨_, rfl, fun i hi => ?_⟩
    obtain ⟨k1, k2⟩ := k i hi
    rw [if_pos hi] at k1
    exact ⟨k1, k2 hi⟩
