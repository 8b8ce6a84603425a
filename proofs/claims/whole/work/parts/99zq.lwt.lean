/-! how the reference lays what is wet -/
def gWp (w : Nat → Int32) (C : Nat → Bool) : Prop := ∀ k, k < 25 → w k = gbI (C k)
theorem gbI_eq {a b : Bool} : gbI a = gbI b ↔ a = b := by cases a <;> cases b <;> decide
theorem gwet0 {g : gG} (hw : gWf g) {cs : Nat → Int32} (hcs : ∀ k, k < 25 → cs k = gbI (g.2.2.2 k)) (wt : Nat → Int32) : ∃ w', zit (fun d : Int32 × (Nat → Int32) => zf_X9_laysWet_l2 (nI g.1) cs d.1 d.2) zfu ((0 : Int32), wt) = some w' ∧ gWp w' (fun k => decide (k < g.1) && !g.2.2.2 k) := by
  have hc := hw.1
  have hH := gitH (f := fun d : Int32 × (Nat → Int32) => zf_X9_laysWet_l2 (nI g.1) cs d.1 d.2) (fun j d => d.1 = nI j ∧ ∀ k, k < j → d.2 k = gbI (decide (k < g.1) && !g.2.2.2 k)) (fun d => gWp d (fun k => decide (k < g.1) && !g.2.2.2 k)) 25 (n := zfu) (gfu (by decide)) (a := ((0 : Int32), wt)) ⟨rfl, fun k h => by omega⟩ ?_ ?_
  · exact hH
  · rintro j ⟨x, w⟩ hj ⟨rfl, h⟩
    dsimp only at h ⊢
    have z : zgd (nI j) 25 = true := ggN hj (by decide)
    unfold zf_X9_laysWet_l2 zf_X9_laysWet_34 zf_X9_laysWet_35
    rw [if_neg (gle25 hj), nI_1, if_pos z, if_pos z, if_pos z, nI_clamp (by omega), hcs j hj]
    have fin : ∀ b : Bool, b = (decide (j < g.1) && !g.2.2.2 j) → ∃ a', some (Sum.inl (nI (j + 1), upd w j (vp_nar .boolean (gbI b))) : (Int32 × (Nat → Int32)) ⊕ (Nat → Int32)) = some (Sum.inl a') ∧ a'.1 = nI (j + 1) ∧ ∀ k, k < j + 1 → a'.2 k = gbI (decide (k < g.1) && !g.2.2.2 k) := by
      intro b hb
      refine ⟨_, rfl, rfl, fun k hk => ?_⟩
      dsimp only
      by_cases e : k = j
      · rw [e, gupS, gnar, hb]
      · rw [gupN e]; exact h k (by omega)
    by_cases q : j < g.1
    · rw [if_neg (gle50 (by omega) (by omega) q)]
      cases hs : g.2.2.2 j with
      | false =>
        rw [if_pos (show gbI false = 0 from rfl)]
        exact fin true (by rw [decide_eq_true q, hs]; rfl)
      | true =>
        rw [if_neg (show ¬ gbI true = 0 by decide)]
        exact fin false (by rw [decide_eq_true q, hs]; rfl)
    · rw [if_pos ((nI_leI (by omega) (by omega)).mpr (by omega))]
      exact fin false (by rw [decide_eq_false q]; rfl)
  · rintro ⟨x, w⟩ ⟨rfl, h⟩
    dsimp only at h ⊢
    unfold zf_X9_laysWet_l2
    rw [if_pos (by decide)]
    exact ⟨_, rfl, h⟩
theorem gpass9 {g : gG} (hw : gWf g) {io : Nat → Int32} {o : Nat → Bool} (hio : ∀ p, gTh p g.1 g.2.1 = true → io p = gbI (o p)) {C : Nat → Bool} {w : Nat → Int32} (hC : gWp w C) (hF : gFd9 g o C) : ∃ m w' C', zit (fun d : Int32 × Int32 × (Nat → Int32) => zf_X9_laysWet_l52 (nI g.1) (nI g.2.1) io d.1 d.2.1 d.2.2) zfu ((0 : Int32), (0 : Int32), w) = some (m, w') ∧ gWp w' C' ∧ gFd9 g o C' ∧ ((m = 0 ∧ gCl9 g o C') ∨ (m = 1 ∧ gct C 25 < gct C' 25)) := by
  have hr := hw.2.1
  have hc := hw.1
  have hH := gitH (f := fun d : Int32 × Int32 × (Nat → Int32) => zf_X9_laysWet_l52 (nI g.1) (nI g.2.1) io d.1 d.2.1 d.2.2) (fun j d => d.2.1 = nI j ∧ ∃ D, gWp d.2.2 D ∧ gFd9 g o D ∧ ((d.1 = 0 ∧ D = C ∧ ∀ p, p < j → gTh p g.1 g.2.1 = true → o p = true → C (gFr p) = C (gTo p)) ∨ (d.1 = 1 ∧ gct C 25 < gct D 25))) (fun d => ∃ D, gWp d.2 D ∧ gFd9 g o D ∧ ((d.1 = 0 ∧ gCl9 g o D) ∨ (d.1 = 1 ∧ gct C 25 < gct D 25))) 50 (n := zfu) (gfu (by decide)) (a := ((0 : Int32), (0 : Int32), w)) ⟨rfl, C, hC, hF, Or.inl ⟨rfl, rfl, fun p h => by omega⟩⟩ ?_ ?_
  · obtain ⟨⟨m, w'⟩, e, D, k1, k2, k3⟩ := hH
    exact ⟨m, w', D, e, k1, k2, k3⟩
  · rintro j ⟨x1, x2, w1⟩ hj ⟨rfl, D, hD, fD, hm⟩
    dsimp only at hD hm ⊢
    unfold zf_X9_laysWet_l52 zf_X9_laysWet_121
    rw [if_neg (gl50 hj), gisP hj hc hr, Option.bind_some, nI_1]
    have same : (gTh j g.1 g.2.1 = true → o j = true → D (gFr j) = D (gTo j)) → ∃ a', some (Sum.inl (x1, nI (j + 1), w1) : (Int32 × Int32 × (Nat → Int32)) ⊕ (Int32 × (Nat → Int32))) = some (Sum.inl a') ∧ a'.2.1 = nI (j + 1) ∧ ∃ D, gWp a'.2.2 D ∧ gFd9 g o D ∧ ((a'.1 = 0 ∧ D = C ∧ ∀ p, p < j + 1 → gTh p g.1 g.2.1 = true → o p = true → C (gFr p) = C (gTo p)) ∨ (a'.1 = 1 ∧ gct C 25 < gct D 25)) := by
      intro hs
      refine ⟨_, rfl, rfl, D, hD, fD, ?_⟩
      rcases hm with ⟨m0, m1, m2⟩ | ⟨m0, m1⟩
      · refine Or.inl ⟨m0, m1, fun p hp ht ho => ?_⟩
        by_cases e : p = j
        · rw [e] at ht ho ⊢
          rw [m1] at hs
          exact hs ht ho
        · exact m2 p (by omega) ht ho
      · exact Or.inr ⟨m0, m1⟩
    cases ht : gTh j g.1 g.2.1 with
    | false =>
      rw [if_pos (show gbI false = 0 from rfl)]
      exact same (fun h => by rw [ht] at h; cases h)
    | true =>
      rw [if_neg (show ¬ gbI true = 0 by decide), if_pos (ggN hj (by decide)), nI_clamp (by omega), hio j ht]
      cases ho : o j with
      | false =>
        rw [if_pos (show gbI false = 0 from rfl)]
        exact same (fun _ h => by rw [ho] at h; cases h)
      | true =>
        have f25 := gFr25 hj
        have t25 := gTo25 hc.2 hr.2 ht
        have e1 : zf_X9_from (nI j) = some (nI (gFr j)) := (gFromT ⟨j, hj⟩).1
        have e2 : zf_X9_to (nI j) = some (nI (gTo j)) := (gFromT ⟨j, hj⟩).2
        rw [if_neg (show ¬ gbI true = 0 by decide), e1, e2]
        simp only [Option.bind_some, if_pos (ggN f25 (show 25 < 2 ^ 31 by decide)), if_pos (ggN t25 (show 25 < 2 ^ 31 by decide)), nI_clamp (show gFr j < 2 ^ 31 by omega), nI_clamp (show gTo j < 2 ^ 31 by omega), hD _ f25, hD _ t25, gbI_eq]
        by_cases q : D (gFr j) = D (gTo j)
        · rw [if_pos q]
          exact same (fun _ _ => q)
        · rw [if_neg q]
          have st := gRc_st ht ho
          have both : gRc g o (gFr j) ∧ gRc g o (gTo j) := by
            cases h1 : D (gFr j) with
            | true =>
              have r1 := fD.1 _ h1
              exact ⟨r1, st.mp r1⟩
            | false =>
              cases h2 : D (gTo j) with
              | true =>
                have r2 := fD.1 _ h2
                exact ⟨st.mpr r2, r2⟩
              | false => exact absurd (h1.trans h2.symm) q
          have v1 : vp_nar .boolean (1 : Int32) = 1 := gnar true
          refine ⟨_, rfl, rfl, fun k => decide (k = gFr j) || (decide (k = gTo j) || D k), ?_, ⟨fun k hk => ?_, fun x hx hs => ?_⟩, Or.inr ⟨rfl, ?_⟩⟩
          · intro k hk
            dsimp only
            rw [v1]
            by_cases a1 : k = gTo j
            · rw [a1, gupS, decide_eq_true rfl]
              simp
              rfl
            · rw [gupN a1]
              by_cases a2 : k = gFr j
              · rw [a2, gupS, decide_eq_true rfl]
                rfl
              · rw [gupN a2, decide_eq_false a1, decide_eq_false a2, hD k hk]
                rfl
          · dsimp only at hk
            simp only [Bool.or_eq_true, decide_eq_true_eq] at hk
            rcases hk with rfl | rfl | h
            · exact both.1
            · exact both.2
            · exact fD.1 k h
          · dsimp only
            rw [fD.2 x hx hs]
            simp
          · have ge : gct C 25 ≤ gct D 25 := by
              rcases hm with ⟨-, m1, -⟩ | ⟨-, m1⟩
              · rw [m1]; exact Nat.le_refl _
              · omega
            have lt : gct D 25 < gct (fun k => decide (k = gFr j) || (decide (k = gTo j) || D k)) 25 := by
              cases h1 : D (gFr j) with
              | false => exact gct_lt (fun i _ h => by rw [h]; simp) f25 h1 (by rw [decide_eq_true rfl]; rfl)
              | true =>
                cases h2 : D (gTo j) with
                | false => exact gct_lt (fun i _ h => by rw [h]; simp) t25 h2 (by rw [decide_eq_true (show gTo j = gTo j from rfl)]; simp)
                | true => exact absurd (h1.trans h2.symm) q
            omega
  · rintro ⟨x1, x2, w1⟩ ⟨rfl, D, hD, fD, hm⟩
    dsimp only at hD hm ⊢
    unfold zf_X9_laysWet_l52
    rw [if_pos (by decide)]
    refine ⟨_, rfl, D, hD, fD, ?_⟩
    rcases hm with ⟨m0, m1, m2⟩ | ⟨m0, m1⟩
    · exact Or.inl ⟨m0, fun p hp ho => by rw [m1]; exact m2 p (gTh50 hr.2 hp) hp ho⟩
    · exact Or.inr ⟨m0, m1⟩
theorem glaysWet {g : gG} (hw : gWf g) {cs io : Nat → Int32} {o : Nat → Bool} (hcs : ∀ k, k < 25 → cs k = gbI (g.2.2.2 k)) (hio : ∀ p, gTh p g.1 g.2.1 = true → io p = gbI (o p)) (wt : Nat → Int32) : ∃ w', zf_X9_laysWet (nI g.1) (nI g.2.1) cs io wt = some w' ∧ gWp w' (gWb g o) := by
  obtain ⟨w0, e0, k0⟩ := gwet0 hw hcs wt
  have f0 : gFd9 g o (fun k => decide (k < g.1) && !g.2.2.2 k) := by
    refine ⟨fun k hk => ?_, fun x hx hs => ?_⟩
    · dsimp only at hk
      rw [Bool.and_eq_true] at hk
      refine gRc_top (of_decide_eq_true hk.1) ?_
      have h2 := hk.2
      cases hh : g.2.2.2 k with
      | false => rfl
      | true => rw [hh] at h2; cases h2
    · dsimp only
      rw [decide_eq_true hx, hs]; rfl
  unfold zf_X9_laysWet
  have hW := gitW (f := fun d : Int32 × (Nat → Int32) => zf_X9_laysWet_l44 (nI g.1) (nI g.2.1) io d.1 d.2) (fun a => ∃ C, gWp a.2 C ∧ gFd9 g o C ∧ ((a.1 = 0 ∧ gCl9 g o C) ∨ a.1 = 1)) (fun a => if a.1 = 0 then 0 else 26 - gct (fun k => decide (a.2 k = 1)) 25) (fun b => gWp b (gWb g o)) ?_ zfu ((1 : Int32), w0) ⟨_, k0, f0, Or.inr rfl⟩ (by
    dsimp only
    rw [if_neg (show ¬ (1 : Int32) = 0 by decide)]
    exact gfu (by omega))
  · obtain ⟨b, e, k⟩ := hW
    rw [e0, Option.bind_some, e, Option.bind_some]
    exact ⟨b, rfl, k⟩
  · have cnt : ∀ (w : Nat → Int32) (D : Nat → Bool), gWp w D → gct (fun k => decide (w k = 1)) 25 = gct D 25 := fun w D hD => gct_cong fun k hk => by
      rw [hD k hk]
      cases D k <;> decide
    rintro ⟨x, w⟩ ⟨C, hC, hF, hm⟩
    dsimp only at hC hm ⊢
    unfold zf_X9_laysWet_l44
    rcases hm with ⟨m0, m1⟩ | m0
    · right
      rw [if_pos m0]
      refine ⟨_, rfl, fun k hk => ?_⟩
      rw [hC k hk, gFd_all hF m1]
    · left
      obtain ⟨m, w', C', e, k1, k2, k3⟩ := gpass9 hw hio hC hF
      rw [m0, if_neg (show ¬ (1 : Int32) = 0 by decide), e, Option.bind_some, if_neg (show ¬ (1 : Int32) = 0 by decide), cnt w C hC]
      have c25 := gct_le C 25
      have c25' := gct_le C' 25
      refine ⟨_, rfl, ⟨C', k1, k2, ?_⟩, ?_⟩
      · rcases k3 with h | h
        · exact Or.inl h
        · exact Or.inr h.1
      · dsimp only
        rcases k3 with h | h
        · rw [if_pos h.1]; omega
        · rw [h.1, if_neg (show ¬ (1 : Int32) = 0 by decide), cnt w' C' k1]
          have := h.2
          omega
theorem gdoesJoin {g : gG} (hw : gWf g) {cs io : Nat → Int32} {o : Nat → Bool} (hcs : ∀ k, k < 25 → cs k = gbI (g.2.2.2 k)) (hio : ∀ p, gTh p g.1 g.2.1 = true → io p = gbI (o p)) (wt : Nat → Int32) : ∃ w', zf_X9_doesJoin (nI g.1) (nI g.2.1) cs io wt = some (gbI (gJo g o), w') ∧ gWp w' (gWb g o) := by
  have hc := hw.1
  have hr := hw.2.1
  obtain ⟨w', e, k⟩ := glaysWet hw hcs hio wt
  refine ⟨w', ?_, k⟩
  unfold zf_X9_doesJoin
  rw [e, Option.bind_some]
  have z5 : nI g.2.1 - 1 = nI (g.2.1 - 1) := by rw [show (1 : Int32) = nI 1 from rfl, gsub (by omega)]
  have hF := gitF (f := fun d : Int32 => zf_X9_doesJoin_l6 (nI g.1) (nI g.2.1) w' d) (fun x => gWb g o (5 * (g.2.1 - 1) + x)) (fun j a => a = nI j) (fun r b => b = gS2 r) g.1 ?_ ?_ ?_ (n := zfu) (gfu (by omega)) (a := (0 : Int32)) rfl
  · obtain ⟨b, e2, rfl⟩ := hF
    rw [e2, Option.bind_some]
    have any : gJo g o = (gfi (fun x => gWb g o (5 * (g.2.1 - 1) + x)) g.1 0).isSome := by
      have key : ∀ m k, (gfi (fun x => gWb g o (5 * (g.2.1 - 1) + x)) m k).isSome = true ↔ ∃ x, k ≤ x ∧ x < k + m ∧ gWb g o (5 * (g.2.1 - 1) + x) = true := by
        intro m
        induction m with
        | zero => intro k; exact ⟨fun h => (by cases h), fun ⟨x, h1, h2, _⟩ => by omega⟩
        | succ m ih =>
          intro k
          show (if gWb g o (5 * (g.2.1 - 1) + k) = true then some k else gfi (fun x => gWb g o (5 * (g.2.1 - 1) + x)) m (k + 1)).isSome = true ↔ _
          by_cases q : gWb g o (5 * (g.2.1 - 1) + k) = true
          · rw [if_pos q]
            exact ⟨fun _ => ⟨k, Nat.le_refl _, by omega, q⟩, fun _ => rfl⟩
          · rw [if_neg q, ih]
            constructor
            · rintro ⟨x, a, b, c⟩; exact ⟨x, by omega, by omega, c⟩
            · rintro ⟨x, a, b, c⟩
              refine ⟨x, ?_, by omega, c⟩
              by_cases e : x = k
              · rw [e] at c; exact absurd c q
              · omega
      have iff : gJo g o = true ↔ (gfi (fun x => gWb g o (5 * (g.2.1 - 1) + x)) g.1 0).isSome = true := by
        rw [key]
        unfold gJo
        rw [gAr9_iff]
        constructor
        · rintro ⟨k, a, b, c⟩
          have ri := gRc_in hw (gWb_iff.mp c)
          exact ⟨k - 5 * (g.2.1 - 1), by omega, by omega, by rw [show 5 * (g.2.1 - 1) + (k - 5 * (g.2.1 - 1)) = k by omega]; exact c⟩
        · rintro ⟨x, a, b, c⟩
          exact ⟨5 * (g.2.1 - 1) + x, by omega, by omega, c⟩
      cases h1 : gJo g o with
      | true => exact (iff.mp h1).symm
      | false =>
        cases h2 : (gfi (fun x => gWb g o (5 * (g.2.1 - 1) + x)) g.1 0).isSome with
        | false => rfl
        | true => have := iff.mpr h2; rw [h1] at this; cases this
    rw [any]
    cases gfi (fun x => gWb g o (5 * (g.2.1 - 1) + x)) g.1 0 with
    | none => rfl
    | some k => rfl
  · rintro j _ hj rfl hp
    unfold zf_X9_doesJoin_l6
    rw [if_neg (gle50 (by omega) (by omega) hj), z5, show (5 : Int32) = nI 5 from rfl, gmul, nI_add, if_pos (ggN (by omega) (by decide)), nI_clamp (by omega), k _ (by omega), hp, if_neg (show ¬ gbI true = 0 by decide)]
    exact ⟨_, rfl, rfl⟩
  · rintro j _ hj rfl hp
    unfold zf_X9_doesJoin_l6
    rw [if_neg (gle50 (by omega) (by omega) hj), z5, show (5 : Int32) = nI 5 from rfl, gmul, nI_add, if_pos (ggN (by omega) (by decide)), nI_clamp (by omega), k _ (by omega), hp, if_pos (show gbI false = 0 from rfl), nI_1]
    exact ⟨_, rfl, rfl⟩
  · rintro _ rfl
    unfold zf_X9_doesJoin_l6
    rw [if_pos (Int32.le_refl _)]
    exact ⟨_, rfl, rfl⟩
