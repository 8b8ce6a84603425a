/-! turn: the reference -/
def gTst (h : Nat) (g : gG) (n : Nat) (ct cs : Nat → Int32) : Prop := (∀ q, q < 50 → (gTh q (gTc h g.1 g.2.1) (gTc h g.2.1 g.1) = false → ct q = 0) ∧ (gTh q (gTc h g.1 g.2.1) (gTc h g.2.1 g.1) = true → gTp h (gTc h g.1 g.2.1) (gTc h g.2.1 g.1) q / 2 < n → ct q = nI (g.2.2.1 (gTp h (gTc h g.1 g.2.1) (gTc h g.2.1 g.1) q)))) ∧ ∀ k, k < 25 → (gIc k (gTc h g.1 g.2.1) (gTc h g.2.1 g.1) = false → cs k = 0) ∧ (gIc k (gTc h g.1 g.2.1) (gTc h g.2.1 g.1) = true → gTk h (gTc h g.1 g.2.1) (gTc h g.2.1 g.1) k < n → cs k = gbI (g.2.2.2 (gTk h (gTc h g.1 g.2.1) (gTc h g.2.1 g.1) k)))
theorem gTst_step {g : gG} (hw : gWf g) {h : Nat} (hh : h < 3) {x y : Nat} (hx : x < g.1) (hy : y < g.2.1) {ct cs ct1 ct2 : Nat → Int32} (hs : gTst h g (5 * y + x) ct cs) (e1 : ct1 = if x + 1 < g.1 then upd ct (gTp h g.1 g.2.1 (2 * (5 * y + x))) (nI (g.2.2.1 (2 * (5 * y + x)))) else ct) (e2 : ct2 = if y + 1 < g.2.1 then upd ct1 (gTp h g.1 g.2.1 (2 * (5 * y + x) + 1)) (nI (g.2.2.1 (2 * (5 * y + x) + 1))) else ct1) : gTst h g (5 * y + x + 1) ct2 (upd cs (gTk h g.1 g.2.1 (5 * y + x)) (gbI (g.2.2.2 (5 * y + x)))) := by
  have hc := hw.1
  have hr := hw.2.1
  have T0 : x + 1 < g.1 → gTh (2 * (5 * y + x)) g.1 g.2.1 = true := by
    intro q
    unfold gTh
    rw [if_neg (by omega)]
    simp only [Bool.and_eq_true, decide_eq_true_eq]
    omega
  have T1 : y + 1 < g.2.1 → gTh (2 * (5 * y + x) + 1) g.1 g.2.1 = true := by
    intro q
    unfold gTh
    rw [if_pos (by omega)]
    simp only [Bool.and_eq_true, decide_eq_true_eq]
    omega
  have Ic : gIc (5 * y + x) g.1 g.2.1 = true := by
    unfold gIc
    simp only [Bool.and_eq_true, decide_eq_true_eq]
    omega
  obtain ⟨kI, kE⟩ := gTk_B hh hc hr Ic
  refine ⟨fun q hq => ?_, fun k hk => ?_⟩
  · obtain ⟨a, b⟩ := hs.1 q hq
    refine ⟨fun ht => ?_, fun ht hn => ?_⟩
    · have v1 : ct1 q = 0 := by
        rw [e1]
        by_cases c : x + 1 < g.1
        · rw [if_pos c, gupN (fun e => by rw [e, (gTp_B hh hc hr (T0 c)).1] at ht; cases ht)]
          exact a ht
        · rw [if_neg c]; exact a ht
      rw [e2]
      by_cases c : y + 1 < g.2.1
      · rw [if_pos c, gupN (fun e => by rw [e, (gTp_B hh hc hr (T1 c)).1] at ht; cases ht)]
        exact v1
      · rw [if_neg c]; exact v1
    · obtain ⟨s1, s2⟩ := gTp_A hh hc hr ht
      have n0 : x + 1 < g.1 → gTp h (gTc h g.1 g.2.1) (gTc h g.2.1 g.1) q ≠ 2 * (5 * y + x) → q ≠ gTp h g.1 g.2.1 (2 * (5 * y + x)) := fun c ne e => ne (by rw [e]; exact (gTp_B hh hc hr (T0 c)).2.1)
      have n1 : y + 1 < g.2.1 → gTp h (gTc h g.1 g.2.1) (gTc h g.2.1 g.1) q ≠ 2 * (5 * y + x) + 1 → q ≠ gTp h g.1 g.2.1 (2 * (5 * y + x) + 1) := fun c ne e => ne (by rw [e]; exact (gTp_B hh hc hr (T1 c)).2.1)
      have v1 : gTp h (gTc h g.1 g.2.1) (gTc h g.2.1 g.1) q ≠ 2 * (5 * y + x) + 1 → ct1 q = nI (g.2.2.1 (gTp h (gTc h g.1 g.2.1) (gTc h g.2.1 g.1) q)) := by
        intro ne
        rw [e1]
        by_cases w : gTp h (gTc h g.1 g.2.1) (gTc h g.2.1 g.1) q = 2 * (5 * y + x)
        · rw [w] at s1 s2 ⊢
          have c : x + 1 < g.1 := by
            unfold gTh at s1
            rw [if_neg (by omega)] at s1
            simp only [Bool.and_eq_true, decide_eq_true_eq] at s1
            omega
          rw [if_pos c, s2, gupS]
        · have old := b ht (by omega)
          by_cases c : x + 1 < g.1
          · rw [if_pos c, gupN (n0 c w)]; exact old
          · rw [if_neg c]; exact old
      rw [e2]
      by_cases w : gTp h (gTc h g.1 g.2.1) (gTc h g.2.1 g.1) q = 2 * (5 * y + x) + 1
      · rw [w] at s1 s2 ⊢
        have c : y + 1 < g.2.1 := by
          unfold gTh at s1
          rw [if_pos (by omega)] at s1
          simp only [Bool.and_eq_true, decide_eq_true_eq] at s1
          omega
        rw [if_pos c, s2, gupS]
      · by_cases c : y + 1 < g.2.1
        · rw [if_pos c, gupN (n1 c w)]; exact v1 w
        · rw [if_neg c]; exact v1 w
  · obtain ⟨a, b⟩ := hs.2 k hk
    refine ⟨fun ht => ?_, fun ht hn => ?_⟩
    · rw [gupN (fun e => by rw [e, kI] at ht; cases ht)]
      exact a ht
    · obtain ⟨s1, s2⟩ := gTk_A hh hc hr ht
      by_cases w : gTk h (gTc h g.1 g.2.1) (gTc h g.2.1 g.1) k = 5 * y + x
      · rw [w] at s2 ⊢
        rw [s2, gupS]
      · rw [gupN (fun e => w (by rw [e]; exact kE))]
        exact b ht (by omega)
theorem gTst_row {g : gG} (hw : gWf g) {h : Nat} (hh : h < 3) {y : Nat} {ct cs : Nat → Int32} (hs : gTst h g (5 * y + g.1) ct cs) : gTst h g (5 * (y + 1) + 0) ct cs := by
  have hc := hw.1
  have hr := hw.2.1
  refine ⟨fun q hq => ⟨(hs.1 q hq).1, fun ht hn => (hs.1 q hq).2 ht ?_⟩, fun k hk => ⟨(hs.2 k hk).1, fun ht hn => (hs.2 k hk).2 ht ?_⟩⟩
  · have := (gTp_A hh hc hr ht).1
    unfold gTh at this
    simp only [Bool.and_eq_true, decide_eq_true_eq] at this
    omega
  · have := (gTk_A hh hc hr ht).1
    unfold gIc at this
    simp only [Bool.and_eq_true, decide_eq_true_eq] at this
    omega
theorem gTst_end {g : gG} (hw : gWf g) {h : Nat} (hh : h < 3) {ct cs : Nat → Int32} (hs : gTst h g (5 * g.2.1 + 0) ct cs) : (∀ p, p < 50 → ct p = nI ((gTu h g).2.2.1 p)) ∧ ∀ k, k < 25 → cs k = gbI ((gTu h g).2.2.2 k) := by
  have hc := hw.1
  have hr := hw.2.1
  refine ⟨fun q hq => ?_, fun k hk => ?_⟩
  · show _ = nI (if gTh q (gTc h g.1 g.2.1) (gTc h g.2.1 g.1) then g.2.2.1 (gTp h (gTc h g.1 g.2.1) (gTc h g.2.1 g.1) q) else 0)
    obtain ⟨a, b⟩ := hs.1 q hq
    cases ht : gTh q (gTc h g.1 g.2.1) (gTc h g.2.1 g.1) with
    | false => rw [a ht]; rfl
    | true =>
      have := (gTp_A hh hc hr ht).1
      unfold gTh at this
      simp only [Bool.and_eq_true, decide_eq_true_eq] at this
      rw [b ht (by omega)]
      rfl
  · show _ = gbI (gIc k (gTc h g.1 g.2.1) (gTc h g.2.1 g.1) && g.2.2.2 (gTk h (gTc h g.1 g.2.1) (gTc h g.2.1 g.1) k))
    obtain ⟨a, b⟩ := hs.2 k hk
    cases ht : gIc k (gTc h g.1 g.2.1) (gTc h g.2.1 g.1) with
    | false => rw [a ht]; rfl
    | true =>
      have := (gTk_A hh hc hr ht).1
      unfold gIc at this
      simp only [Bool.and_eq_true, decide_eq_true_eq] at this
      rw [b ht (by omega)]
      rfl
/-- the places of a cell and of its two pipes, turned -/
theorem gtI (h : Nat) {c r x y : Nat} (hc : c ≤ 5) (hx : x < c) (hy : y < r) : gTk h c r (5 * y + x) = (if h = 0 then 5 * y + (c - 1 - x) else if h = 1 then 5 * (r - 1 - y) + x else 5 * x + y) ∧ gTp h c r (2 * (5 * y + x)) = (if h = 0 then 10 * y + 2 * (c - 2 - x) else if h = 1 then 10 * (r - 1 - y) + 2 * x else 10 * x + 2 * y + 1) ∧ gTp h c r (2 * (5 * y + x) + 1) = (if h = 0 then 10 * y + 2 * (c - 1 - x) + 1 else if h = 1 then 10 * (r - 2 - y) + 2 * x + 1 else 10 * x + 2 * y) := by
  unfold gTk gTp
  rw [if_neg (show ¬ 2 * (5 * y + x) % 2 = 1 by omega), if_neg (show ¬ 2 * (5 * y + x) % 2 = 1 by omega), if_neg (show ¬ 2 * (5 * y + x) % 2 = 1 by omega), if_pos (show (2 * (5 * y + x) + 1) % 2 = 1 by omega), if_pos (show (2 * (5 * y + x) + 1) % 2 = 1 by omega), if_pos (show (2 * (5 * y + x) + 1) % 2 = 1 by omega), show (5 * y + x) / 5 = y by omega, show (5 * y + x) % 5 = x by omega, show 2 * (5 * y + x) / 10 = y by omega, show 2 * (5 * y + x) % 10 / 2 = x by omega, show (2 * (5 * y + x) + 1) / 10 = y by omega, show (2 * (5 * y + x) + 1) % 10 / 2 = x by omega]
  exact ⟨rfl, rfl, rfl⟩
theorem gtrow {g : gG} (hw : gWf g) {h : Nat} (hh : h < 2) {A : Nat} (hA : A ≤ 15) {pt ps : Nat → Int32} (hpt : ∀ p, p < 50 → pt (50 * A + p) = nI (g.2.2.1 p)) (hps : ∀ k, k < 25 → ps (25 * A + k) = gbI (g.2.2.2 k)) {y : Nat} (hy : y < g.2.1) {ct cs : Nat → Int32} (hs : gTst h g (5 * y + 0) ct cs) : ∃ o, zit (fun d : Int32 × (Nat → Int32) × (Nat → Int32) => zf_X9_turn_l75 (nI g.1) (nI g.2.1) pt ps (nI h) (nI (50 * A)) (nI (25 * A)) (nI y) d.1 d.2.1 d.2.2) zfu ((0 : Int32), ct, cs) = some o ∧ gTst h g (5 * (y + 1) + 0) o.1 o.2 := by
  have hc := hw.1
  have hr := hw.2.1
  refine gitH (f := fun d : Int32 × (Nat → Int32) × (Nat → Int32) => zf_X9_turn_l75 (nI g.1) (nI g.2.1) pt ps (nI h) (nI (50 * A)) (nI (25 * A)) (nI y) d.1 d.2.1 d.2.2) (fun x d => d.1 = nI x ∧ gTst h g (5 * y + x) d.2.1 d.2.2) _ g.1 (n := zfu) (gfu (by omega)) (a := ((0 : Int32), ct, cs)) ⟨rfl, hs⟩ ?_ ?_
  · rintro x ⟨x5, ct1, cs1⟩ hx ⟨rfl, k⟩
    dsimp only at k ⊢
    obtain ⟨t1, t2, t3⟩ := gtI h (c := g.1) (r := g.2.1) hc.2 hx hy
    have step := gTst_step hw (show h < 3 by omega) hx hy k rfl rfl
    rw [t1, t2, t3] at step
    unfold zf_X9_turn_l75 zf_X9_turn_102 zf_X9_turn_123 zf_X9_turn_170 zf_X9_turn_190 zf_X9_turn_235 zf_X9_turn_272
    have i1 : nI (25 * A) + (5 : Int32) * nI y + nI x = nI (25 * A + (5 * y + x)) := by rw [show (5 : Int32) = nI 5 from rfl, gmul, nI_add, nI_add, Nat.add_assoc]
    have i2 : nI (50 * A) + (10 : Int32) * nI y + (2 : Int32) * nI x = nI (50 * A + 2 * (5 * y + x)) := by rw [show (10 : Int32) = nI 10 from rfl, show (2 : Int32) = nI 2 from rfl, gmul, gmul, nI_add, nI_add]; congr 1; omega
    have z1 : zgd (nI (25 * A + (5 * y + x))) 400 = true := ggN (by omega) (by decide)
    have z2 : zgd (nI (50 * A + 2 * (5 * y + x))) 800 = true := ggN (by omega) (by decide)
    have z3 : zgd (nI (50 * A + 2 * (5 * y + x) + 1)) 800 = true := ggN (by omega) (by decide)
    have r1 : ps (25 * A + (5 * y + x)) = gbI (g.2.2.2 (5 * y + x)) := hps _ (by omega)
    have r2 : pt (50 * A + 2 * (5 * y + x)) = nI (g.2.2.1 (2 * (5 * y + x))) := hpt _ (by omega)
    have r3 : pt (50 * A + 2 * (5 * y + x) + 1) = nI (g.2.2.1 (2 * (5 * y + x) + 1)) := by rw [Nat.add_assoc]; exact hpt _ (by omega)
    have c1 : ((nI g.1 : Int32) ≤ nI x) = False := eq_false (gle50 (by omega) (by omega) hx)
    rw [nI_1 x, nI_1 y]
    simp only [c1, if_false, i1, i2, nI_1, z1, z2, z3, if_true, nI_clamp (show 25 * A + (5 * y + x) < 2 ^ 31 by omega), nI_clamp (show 50 * A + 2 * (5 * y + x) < 2 ^ 31 by omega), nI_clamp (show 50 * A + 2 * (5 * y + x) + 1 < 2 ^ 31 by omega), r1, r2, r3, gnar]
    have lx : ((nI g.1 : Int32) ≤ nI (x + 1)) = (¬ x + 1 < g.1) := by rw [nI_leI (by omega) (by omega)]; exact propext ⟨fun a b => by omega, fun a => by omega⟩
    have ly : ((nI g.2.1 : Int32) ≤ nI (y + 1)) = (¬ y + 1 < g.2.1) := by rw [nI_leI (by omega) (by omega)]; exact propext ⟨fun a b => by omega, fun a => by omega⟩
    simp only [lx, ly]
    rcases (show h = 0 ∨ h = 1 by omega) with rfl | rfl
    · have q1 : (5 : Int32) * nI y + ((nI g.1 - 1) - nI x) = nI (5 * y + (g.1 - 1 - x)) := by rw [show (1 : Int32) = nI 1 from rfl, gsub (by omega), gsub (by omega), show (5 : Int32) = nI 5 from rfl, gmul, nI_add]
      have q2 : x + 1 < g.1 → (10 : Int32) * nI y + (2 : Int32) * (((nI g.1 - 1) - nI x) - 1) = nI (10 * y + 2 * (g.1 - 2 - x)) := by
        intro w
        rw [show (1 : Int32) = nI 1 from rfl, gsub (by omega), gsub (by omega), gsub (by omega), show (10 : Int32) = nI 10 from rfl, show (2 : Int32) = nI 2 from rfl, gmul, gmul, nI_add]
        congr 1
        omega
      have q3 : ((10 : Int32) * nI y + (2 : Int32) * ((nI g.1 - 1) - nI x)) + 1 = nI (10 * y + 2 * (g.1 - 1 - x) + 1) := by rw [show (1 : Int32) = nI 1 from rfl, gsub (by omega), gsub (by omega), show (10 : Int32) = nI 10 from rfl, show (2 : Int32) = nI 2 from rfl, gmul, gmul, nI_add, nI_add]
      rw [if_pos rfl, if_pos rfl, if_pos rfl] at step
      simp only [show (nI 0 : Int32) = 0 from rfl, show ((0 : Int32) = 1) = False from eq_false (by decide), if_true, if_false, q1, q3, nI_clamp (show 5 * y + (g.1 - 1 - x) < 2 ^ 31 by omega), nI_clamp (show 10 * y + 2 * (g.1 - 1 - x) + 1 < 2 ^ 31 by omega), show zgd (nI (5 * y + (g.1 - 1 - x))) 25 = true from ggN (by omega) (by decide), show zgd (nI (10 * y + 2 * (g.1 - 1 - x) + 1)) 50 = true from ggN (by omega) (by decide)]
      by_cases wx : x + 1 < g.1
      · rw [if_pos wx] at step
        rw [if_neg (fun e => e wx), q2 wx, if_pos (ggN (show 10 * y + 2 * (g.1 - 2 - x) < 50 by omega) (by decide)), nI_clamp (by omega)]
        by_cases wy : y + 1 < g.2.1
        · rw [if_pos wy] at step
          rw [if_neg (fun e => e wy)]
          exact ⟨_, rfl, rfl, step⟩
        · rw [if_neg wy] at step
          rw [if_pos wy]
          exact ⟨_, rfl, rfl, step⟩
      · rw [if_neg wx] at step
        rw [if_pos wx]
        by_cases wy : y + 1 < g.2.1
        · rw [if_pos wy] at step
          rw [if_neg (fun e => e wy)]
          exact ⟨_, rfl, rfl, step⟩
        · rw [if_neg wy] at step
          rw [if_pos wy]
          exact ⟨_, rfl, rfl, step⟩
    · have q1 : (5 : Int32) * ((nI g.2.1 - 1) - nI y) + nI x = nI (5 * (g.2.1 - 1 - y) + x) := by rw [show (1 : Int32) = nI 1 from rfl, gsub (by omega), gsub (by omega), show (5 : Int32) = nI 5 from rfl, gmul, nI_add]
      have q2 : (10 : Int32) * ((nI g.2.1 - 1) - nI y) + (2 : Int32) * nI x = nI (10 * (g.2.1 - 1 - y) + 2 * x) := by rw [show (1 : Int32) = nI 1 from rfl, gsub (by omega), gsub (by omega), show (10 : Int32) = nI 10 from rfl, show (2 : Int32) = nI 2 from rfl, gmul, gmul, nI_add]
      have q3 : y + 1 < g.2.1 → ((10 : Int32) * (((nI g.2.1 - 1) - nI y) - 1) + (2 : Int32) * nI x) + 1 = nI (10 * (g.2.1 - 2 - y) + 2 * x + 1) := by
        intro w
        rw [show (1 : Int32) = nI 1 from rfl, gsub (by omega), gsub (by omega), gsub (by omega), show (10 : Int32) = nI 10 from rfl, show (2 : Int32) = nI 2 from rfl, gmul, gmul, nI_add, nI_add]
        congr 1
        omega
      rw [if_neg (show ¬ 1 = 0 by decide), if_neg (show ¬ 1 = 0 by decide), if_neg (show ¬ 1 = 0 by decide), if_pos rfl, if_pos rfl, if_pos rfl] at step
      simp only [show (nI 1 : Int32) = 1 from rfl, show ((1 : Int32) = 0) = False from eq_false (by decide), if_true, if_false, q1, q2, nI_clamp (show 5 * (g.2.1 - 1 - y) + x < 2 ^ 31 by omega), nI_clamp (show 10 * (g.2.1 - 1 - y) + 2 * x < 2 ^ 31 by omega), show zgd (nI (5 * (g.2.1 - 1 - y) + x)) 25 = true from ggN (by omega) (by decide), show zgd (nI (10 * (g.2.1 - 1 - y) + 2 * x)) 50 = true from ggN (by omega) (by decide)]
      by_cases wy : y + 1 < g.2.1
      · rw [if_pos wy] at step
        simp only [q3 wy, show zgd (nI (10 * (g.2.1 - 2 - y) + 2 * x + 1)) 50 = true from ggN (by omega) (by decide), nI_clamp (show 10 * (g.2.1 - 2 - y) + 2 * x + 1 < 2 ^ 31 by omega), wy, not_true, if_false, if_true]
        by_cases wx : x + 1 < g.1
        · rw [if_pos wx] at step
          rw [if_neg (fun e => e wx)]
          exact ⟨_, rfl, rfl, step⟩
        · rw [if_neg wx] at step
          rw [if_pos wx]
          exact ⟨_, rfl, rfl, step⟩
      · rw [if_neg wy] at step
        simp only [wy, not_false_eq_true, if_true]
        by_cases wx : x + 1 < g.1
        · rw [if_pos wx] at step
          rw [if_neg (fun e => e wx)]
          exact ⟨_, rfl, rfl, step⟩
        · rw [if_neg wx] at step
          rw [if_pos wx]
          exact ⟨_, rfl, rfl, step⟩
  · rintro ⟨x5, ct1, cs1⟩ ⟨rfl, k⟩
    dsimp only at k ⊢
    unfold zf_X9_turn_l75
    rw [if_pos (Int32.le_refl _)]
    exact ⟨_, rfl, gTst_row hw (by omega) k⟩
theorem gtrow2 {g : gG} (hw : gWf g) {A : Nat} (hA : A ≤ 15) {pt ps : Nat → Int32} (hpt : ∀ p, p < 50 → pt (50 * A + p) = nI (g.2.2.1 p)) (hps : ∀ k, k < 25 → ps (25 * A + k) = gbI (g.2.2.2 k)) {y : Nat} (hy : y < g.2.1) {ct cs : Nat → Int32} (hs : gTst 2 g (5 * y + 0) ct cs) : ∃ o, zit (fun d : Int32 × (Nat → Int32) × (Nat → Int32) => zf_X9_turnsOver_l75 (nI g.1) (nI g.2.1) pt ps (nI (50 * A)) (nI (25 * A)) (nI y) d.1 d.2.1 d.2.2) zfu ((0 : Int32), ct, cs) = some o ∧ gTst 2 g (5 * (y + 1) + 0) o.1 o.2 := by
  have hc := hw.1
  have hr := hw.2.1
  refine gitH (f := fun d : Int32 × (Nat → Int32) × (Nat → Int32) => zf_X9_turnsOver_l75 (nI g.1) (nI g.2.1) pt ps (nI (50 * A)) (nI (25 * A)) (nI y) d.1 d.2.1 d.2.2) (fun x d => d.1 = nI x ∧ gTst 2 g (5 * y + x) d.2.1 d.2.2) _ g.1 (n := zfu) (gfu (by omega)) (a := ((0 : Int32), ct, cs)) ⟨rfl, hs⟩ ?_ ?_
  · rintro x ⟨x5, ct1, cs1⟩ hx ⟨rfl, k⟩
    dsimp only at k ⊢
    obtain ⟨t1, t2, t3⟩ := gtI 2 (c := g.1) (r := g.2.1) hc.2 hx hy
    have step := gTst_step hw (show 2 < 3 by decide) hx hy k rfl rfl
    rw [t1, t2, t3, if_neg (show ¬ 2 = 0 by decide), if_neg (show ¬ 2 = 0 by decide), if_neg (show ¬ 2 = 0 by decide), if_neg (show ¬ 2 = 1 by decide), if_neg (show ¬ 2 = 1 by decide), if_neg (show ¬ 2 = 1 by decide)] at step
    unfold zf_X9_turnsOver_l75 zf_X9_turnsOver_151 zf_X9_turnsOver_193
    have i1 : nI (25 * A) + (5 : Int32) * nI y + nI x = nI (25 * A + (5 * y + x)) := by rw [show (5 : Int32) = nI 5 from rfl, gmul, nI_add, nI_add, Nat.add_assoc]
    have i2 : nI (50 * A) + (10 : Int32) * nI y + (2 : Int32) * nI x = nI (50 * A + 2 * (5 * y + x)) := by rw [show (10 : Int32) = nI 10 from rfl, show (2 : Int32) = nI 2 from rfl, gmul, gmul, nI_add, nI_add]; congr 1; omega
    have i3 : (5 : Int32) * nI x + nI y = nI (5 * x + y) := by rw [show (5 : Int32) = nI 5 from rfl, gmul, nI_add]
    have i4 : (10 : Int32) * nI x + (2 : Int32) * nI y = nI (10 * x + 2 * y) := by rw [show (10 : Int32) = nI 10 from rfl, show (2 : Int32) = nI 2 from rfl, gmul, gmul, nI_add]
    have z1 : zgd (nI (25 * A + (5 * y + x))) 400 = true := ggN (by omega) (by decide)
    have z2 : zgd (nI (50 * A + 2 * (5 * y + x))) 800 = true := ggN (by omega) (by decide)
    have z3 : zgd (nI (50 * A + 2 * (5 * y + x) + 1)) 800 = true := ggN (by omega) (by decide)
    have z4 : zgd (nI (5 * x + y)) 25 = true := ggN (by omega) (by decide)
    have r1 : ps (25 * A + (5 * y + x)) = gbI (g.2.2.2 (5 * y + x)) := hps _ (by omega)
    have r2 : pt (50 * A + 2 * (5 * y + x)) = nI (g.2.2.1 (2 * (5 * y + x))) := hpt _ (by omega)
    have r3 : pt (50 * A + 2 * (5 * y + x) + 1) = nI (g.2.2.1 (2 * (5 * y + x) + 1)) := by rw [Nat.add_assoc]; exact hpt _ (by omega)
    have c1 : ((nI g.1 : Int32) ≤ nI x) = False := eq_false (gle50 (by omega) (by omega) hx)
    have lx : ((nI g.1 : Int32) ≤ nI (x + 1)) = (¬ x + 1 < g.1) := by rw [nI_leI (by omega) (by omega)]; exact propext ⟨fun a b => by omega, fun a => by omega⟩
    have ly : ((nI g.2.1 : Int32) ≤ nI (y + 1)) = (¬ y + 1 < g.2.1) := by rw [nI_leI (by omega) (by omega)]; exact propext ⟨fun a b => by omega, fun a => by omega⟩
    simp only [c1, if_false, i1, i2, i3, i4, nI_1, z1, z2, z3, z4, if_true, nI_clamp (show 25 * A + (5 * y + x) < 2 ^ 31 by omega), nI_clamp (show 50 * A + 2 * (5 * y + x) < 2 ^ 31 by omega), nI_clamp (show 50 * A + 2 * (5 * y + x) + 1 < 2 ^ 31 by omega), nI_clamp (show 5 * x + y < 2 ^ 31 by omega), nI_clamp (show 10 * x + 2 * y < 2 ^ 31 by omega), nI_clamp (show 10 * x + 2 * y + 1 < 2 ^ 31 by omega), r1, r2, r3, gnar, lx, ly]
    by_cases wx : x + 1 < g.1
    · rw [if_pos wx] at step
      rw [if_neg (fun e => e wx), if_pos (ggN (show 10 * x + 2 * y + 1 < 50 by omega) (by decide))]
      by_cases wy : y + 1 < g.2.1
      · rw [if_pos wy] at step
        rw [if_neg (fun e => e wy), if_pos (ggN (show 10 * x + 2 * y < 50 by omega) (by decide))]
        exact ⟨_, rfl, rfl, step⟩
      · rw [if_neg wy] at step
        rw [if_pos wy]
        exact ⟨_, rfl, rfl, step⟩
    · rw [if_neg wx] at step
      rw [if_pos wx]
      by_cases wy : y + 1 < g.2.1
      · rw [if_pos wy] at step
        rw [if_neg (fun e => e wy), if_pos (ggN (show 10 * x + 2 * y < 50 by omega) (by decide))]
        exact ⟨_, rfl, rfl, step⟩
      · rw [if_neg wy] at step
        rw [if_pos wy]
        exact ⟨_, rfl, rfl, step⟩
  · rintro ⟨x5, ct1, cs1⟩ ⟨rfl, k⟩
    dsimp only at k ⊢
    unfold zf_X9_turnsOver_l75
    rw [if_pos (Int32.le_refl _)]
    exact ⟨_, rfl, gTst_row hw (by decide) k⟩
theorem gtall {g : gG} (hw : gWf g) {h : Nat} (hh : h < 2) {A : Nat} (hA : A ≤ 15) {pt ps : Nat → Int32} (hpt : ∀ p, p < 50 → pt (50 * A + p) = nI (g.2.2.1 p)) (hps : ∀ k, k < 25 → ps (25 * A + k) = gbI (g.2.2.2 k)) {ct cs : Nat → Int32} (hs : gTst h g (5 * 0 + 0) ct cs) : ∃ o, zit (fun d : Int32 × (Nat → Int32) × (Nat → Int32) => zf_X9_turn_l63 (nI g.1) (nI g.2.1) pt ps (nI h) (nI (50 * A)) (nI (25 * A)) d.1 d.2.1 d.2.2) zfu ((0 : Int32), ct, cs) = some o ∧ gTst h g (5 * g.2.1 + 0) o.1 o.2 := by
  have hr := hw.2.1
  refine gitH (f := fun d : Int32 × (Nat → Int32) × (Nat → Int32) => zf_X9_turn_l63 (nI g.1) (nI g.2.1) pt ps (nI h) (nI (50 * A)) (nI (25 * A)) d.1 d.2.1 d.2.2) (fun y d => d.1 = nI y ∧ gTst h g (5 * y + 0) d.2.1 d.2.2) _ g.2.1 (n := zfu) (gfu (by omega)) (a := ((0 : Int32), ct, cs)) ⟨rfl, hs⟩ ?_ ?_
  · rintro y ⟨x4, ct1, cs1⟩ hy ⟨rfl, k⟩
    dsimp only at k ⊢
    obtain ⟨o, e, k2⟩ := gtrow hw hh hA hpt hps hy k
    unfold zf_X9_turn_l63
    rw [if_neg (gle50 (by omega) (by omega) hy), e, Option.bind_some, nI_1]
    exact ⟨_, rfl, rfl, k2⟩
  · rintro ⟨x4, ct1, cs1⟩ ⟨rfl, k⟩
    dsimp only at k ⊢
    unfold zf_X9_turn_l63
    rw [if_pos (Int32.le_refl _)]
    exact ⟨_, rfl, k⟩
theorem gtall2 {g : gG} (hw : gWf g) {A : Nat} (hA : A ≤ 15) {pt ps : Nat → Int32} (hpt : ∀ p, p < 50 → pt (50 * A + p) = nI (g.2.2.1 p)) (hps : ∀ k, k < 25 → ps (25 * A + k) = gbI (g.2.2.2 k)) (ct cs : Nat → Int32) : ∃ ct' cs', zf_X9_turnsOver (nI g.1) (nI g.2.1) (nI (A + 1)) ct cs pt ps = some (nI g.2.1, nI g.1, ct', cs') ∧ gTst 2 g (5 * g.2.1 + 0) ct' cs' := by
  have hr := hw.2.1
  have h1 := gitH (f := fun d : Int32 × (Nat → Int32) => zf_X9_turnsOver_l22 d.1 d.2) (fun j d => d.1 = nI j ∧ ∀ p, p < j → d.2 p = 0) (fun o => ∀ p, p < 50 → o p = 0) 50 (n := zfu) (gfu (by decide)) (a := ((0 : Int32), ct)) ⟨rfl, fun p h => by omega⟩ ?_ ?_
  · have h2 := gitH (f := fun d : Int32 × (Nat → Int32) => zf_X9_turnsOver_l43 d.1 d.2) (fun j d => d.1 = nI j ∧ ∀ p, p < j → d.2 p = 0) (fun o => ∀ p, p < 25 → o p = 0) 25 (n := zfu) (gfu (by decide)) (a := ((0 : Int32), cs)) ⟨rfl, fun p h => by omega⟩ ?_ ?_
    · obtain ⟨o1, e1, k1⟩ := h1
      obtain ⟨o2, e2, k2⟩ := h2
      have h3 := gitH (f := fun d : Int32 × (Nat → Int32) × (Nat → Int32) => zf_X9_turnsOver_l64 (nI g.1) (nI g.2.1) pt ps (nI (50 * A)) (nI (25 * A)) d.1 d.2.1 d.2.2) (fun y d => d.1 = nI y ∧ gTst 2 g (5 * y + 0) d.2.1 d.2.2) (fun o => gTst 2 g (5 * g.2.1 + 0) o.1 o.2) g.2.1 (n := zfu) (gfu (by omega)) (a := ((0 : Int32), o1, o2)) ⟨rfl, fun q hq => ⟨fun _ => k1 q hq, fun _ h => by omega⟩, fun q hq => ⟨fun _ => k2 q hq, fun _ h => by omega⟩⟩ ?_ ?_
      · obtain ⟨⟨c1, c2⟩, e3, k3⟩ := h3
        refine ⟨c1, c2, ?_, k3⟩
        unfold zf_X9_turnsOver
        rw [e1, Option.bind_some, e2, Option.bind_some, nI_pred, show (50 : Int32) = nI 50 from rfl, show (25 : Int32) = nI 25 from rfl, gmul, gmul, e3]
        rfl
      · rintro y ⟨x4, ct1, cs1⟩ hy ⟨rfl, k⟩
        dsimp only at k ⊢
        obtain ⟨o, e, kk⟩ := gtrow2 hw hA hpt hps hy k
        unfold zf_X9_turnsOver_l64
        rw [if_neg (gle50 (by omega) (by omega) hy), e, Option.bind_some, nI_1]
        exact ⟨_, rfl, rfl, kk⟩
      · rintro ⟨x4, ct1, cs1⟩ ⟨rfl, k⟩
        dsimp only at k ⊢
        unfold zf_X9_turnsOver_l64
        rw [if_pos (Int32.le_refl _)]
        exact ⟨_, rfl, k⟩
    · rintro j ⟨x3, c1⟩ hj ⟨rfl, k⟩
      dsimp only at k ⊢
      unfold zf_X9_turnsOver_l43
      rw [if_neg (gle25 hj), if_pos (ggN hj (by decide)), nI_1, nI_clamp (by omega)]
      refine ⟨_, rfl, rfl, fun p hp => ?_⟩
      dsimp only
      by_cases e : p = j
      · rw [e, gupS]; exact gnar false
      · rw [gupN e]; exact k p (by omega)
    · rintro ⟨x3, c1⟩ ⟨rfl, k⟩
      dsimp only at k ⊢
      unfold zf_X9_turnsOver_l43
      rw [if_pos (by decide)]
      exact ⟨_, rfl, k⟩
  · rintro j ⟨x3, c1⟩ hj ⟨rfl, k⟩
    dsimp only at k ⊢
    unfold zf_X9_turnsOver_l22
    rw [if_neg (gl50 hj), if_pos (ggN hj (by decide)), nI_1, nI_clamp (by omega)]
    refine ⟨_, rfl, rfl, fun p hp => ?_⟩
    dsimp only
    by_cases e : p = j
    · rw [e, gupS]
    · rw [gupN e]; exact k p (by omega)
  · rintro ⟨x3, c1⟩ ⟨rfl, k⟩
    dsimp only at k ⊢
    unfold zf_X9_turnsOver_l22
    rw [if_pos (by decide)]
    exact ⟨_, rfl, k⟩
theorem gpastL {past : List gG} {g : gG} {n m : Int32} {ac : Nat → Option Nat} {LG : List Nat} {G : Nat → zGD} {pt ps pc pr : Nat → Int32} (h : gPs (gPast past g) n m ac LG G pt ps pc pr) : ∃ A, A ≤ 15 ∧ n = nI (A + 1) ∧ (∀ p, p < 50 → pt (50 * A + p) = nI (g.2.2.1 p)) ∧ ∀ k, k < 25 → ps (25 * A + k) = gbI (g.2.2.2 k) := by
  obtain ⟨a1, a2, -, a4⟩ := h
  have hl : (gPast past g).length = (if past.length = 16 then past.drop 1 else past).length + 1 := by unfold gPast; simp
  have hi : (gPast past g)[(if past.length = 16 then past.drop 1 else past).length]? = some g := by
    unfold gPast
    rw [List.getElem?_append_right (Nat.le_refl _), Nat.sub_self]
    rfl
  obtain ⟨-, -, -, -, p1, p2⟩ := a4 _ g hi
  refine ⟨(if past.length = 16 then past.drop 1 else past).length, by omega, by rw [a2, hl], p1, p2⟩
theorem gP8_ok : gP8 gInv := by
  intro xi xu fg xh xk ac LG G mi mh mk h x1
  obtain ⟨g, past, h1, h2, h3, h4, h5, h6, h7⟩ := h
  obtain ⟨hok, hg, hx, hm⟩ := id h3
  have hw := hok.1
  unfold zf_X8_turn zf_X9_turn
  rw [gIn, Option.bind_some]
  by_cases c0 : x1 < 0
  · unfold zf_X8_turn_9 zf_X9_turn_15
    rw [if_pos c0, if_pos c0, if_pos rfl, if_neg (show ¬ (1 : Int32) ≤ 0 by decide)]
    exact ⟨_, _, rfl, rfl, Or.inr ⟨_, rfl, ⟨rfl, rfl⟩, g, past, h1, h2, h3, h4, h5, h6, h7⟩⟩
  rw [if_neg c0, if_neg c0]
  by_cases c1 : ¬ x1 ≤ 2
  · unfold zf_X8_turn_9 zf_X9_turn_15
    rw [if_neg c1, if_neg c1, if_pos rfl, if_neg (show ¬ (1 : Int32) ≤ 0 by decide)]
    exact ⟨_, _, rfl, rfl, Or.inr ⟨_, rfl, ⟨rfl, rfl⟩, g, past, h1, h2, h3, h4, h5, h6, h7⟩⟩
  replace c1 : x1 ≤ 2 := Decidable.not_not.mp c1
  obtain ⟨w, hw2, rfl⟩ := gnI (n := 2) (by decide) c0 c1
  obtain ⟨d', ed, hx'⟩ := gturned hok hx (h := w) (by omega)
  have ok' := gTu_ok hok (h := w) (by omega)
  obtain ⟨n, ac', pt', ps', pc', pr', r1, r2, r3⟩ := gact h4 hok hg hx hm
  obtain ⟨A, hA, rfl, hpt, hps⟩ := gpastL r3
  unfold zf_X9_turn_15
  rw [if_pos c1, if_pos c1, if_neg (show ¬ (1 : Int32) = 0 by decide), if_pos (show (0 : Int32) ≤ 0 by decide), ed, Option.bind_some, r1, Option.bind_some, r2, Option.bind_some]
  dsimp only
  by_cases q : w = 2
  · subst q
    obtain ⟨ct', cs', eo, ko⟩ := gtall2 hw hA hpt hps (mh 4) (mh 5)
    rw [if_pos (show nI 2 = (2 : Int32) from rfl), hm.1, hm.2.1, eo, Option.bind_some]
    refine ⟨_, _, rfl, rfl, Or.inl ⟨_, rfl, rfl, fun z hz => ?_⟩⟩
    obtain ⟨he, k1, k2, k3, k4⟩ := gInvAct (xi := xi) (mh := mh) (mi := mi) (fg := fg) hz r3 h5 hx'
    exact ⟨gTu 2 g, gPast past g, h1, h2, ⟨ok', k3, k4, rfl, rfl, gTst_end hw (by decide) ko⟩, k1, k2, gld0 h6.1, h7⟩
  · have z0 : gTst w g (5 * 0 + 0) (mh 4) (mh 5) := by
      have e1 : gTc w g.1 g.2.1 = g.1 := if_neg q
      have e2 : gTc w g.2.1 g.1 = g.2.1 := if_neg q
      refine ⟨fun p hp => ⟨fun ht => ?_, fun _ h => by omega⟩, fun k hk => ⟨fun ht => ?_, fun _ h => by omega⟩⟩
      · rw [e1, e2] at ht
        rw [hm.2.2.1 p hp, (hw.2.2.1 p).2 ht]
        rfl
      · rw [e1, e2] at ht
        rw [hm.2.2.2 k hk]
        cases hs : g.2.2.2 k with
        | false => rfl
        | true =>
          have := hw.2.2.2 k hs
          unfold gIc at ht
          rw [decide_eq_true this.1, decide_eq_true this.2] at ht
          cases ht
    obtain ⟨⟨ct', cs'⟩, eo, ko⟩ := gtall hw (show w < 2 by omega) hA hpt hps z0
    rw [if_neg (show ¬ nI w = (2 : Int32) by rw [show (2 : Int32) = nI 2 from rfl, nI_eq (by omega) (by decide)]; exact q), nI_pred, show (50 : Int32) = nI 50 from rfl, show (25 : Int32) = nI 25 from rfl, gmul, gmul, hm.1, hm.2.1, eo, Option.bind_some]
    refine ⟨_, _, rfl, rfl, Or.inl ⟨_, rfl, rfl, fun z hz => ?_⟩⟩
    obtain ⟨he, k1, k2, k3, k4⟩ := gInvAct (xi := xi) (mh := mh) (mi := mi) (fg := fg) hz r3 h5 hx'
    have e1 : gTc w g.1 g.2.1 = g.1 := if_neg q
    have e2 : gTc w g.2.1 g.1 = g.2.1 := if_neg q
    exact ⟨gTu w g, gPast past g, h1, h2, ⟨ok', k3, k4, (congrArg nI e1).symm, (congrArg nI e2).symm, gTst_end hw (by omega) ko⟩, k1, k2, gld0 h6.1, h7⟩
