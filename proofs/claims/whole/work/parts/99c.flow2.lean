/-! the flow: a free pipe doubles what it does not move -/
def gdb (cn : Nat → Int64) (P u j : Nat) : Nat → Int64 := fun q => if P + (u + 1 - j) < q ∧ q ≤ P + u + 1 then cn q + cn (q - 1) else cn q
theorem gdbK (nc P used : Nat) (hu : used < 25) (hP : P + used + 1 < nc) (hnc2 : nc < 2 ^ 31) (cn : Nat → Int64) : zit (fun d : Int32 × (Nat → Int64) => zf_X1_doubleUnmoved_l69 nc (nI P) d.1 d.2) zfu (nI used + 1, cn) = some (gdb cn P used (used + 1)) := by
  have e := gitr (f := fun d : Int32 × (Nat → Int64) => zf_X1_doubleUnmoved_l69 nc (nI P) d.1 d.2) (fun j => (nI (used + 1 - j), gdb cn P used j)) (used + 1) (n := zfu) (b := gdb cn P used (used + 1)) (gfu (by omega)) ?_ ?_
  · rw [← e, nI_1]
    have : gdb cn P used 0 = cn := by
      funext q
      unfold gdb
      rw [if_neg (by omega)]
    simp only [this]
    rfl
  · intro j hj
    dsimp only
    unfold zf_X1_doubleUnmoved_l69
    obtain ⟨k, hk⟩ : ∃ k, used + 1 - j = k + 1 := ⟨used - j, by omega⟩
    have hk2 : used + 1 - (j + 1) = k := by omega
    rw [hk, hk2, nI_add, show nI (k + 1) + (-1 : Int32) = nI k from by rw [← nI_pred k]; exact (Int32.sub_eq_add_neg _ _).symm, show nI (P + (k + 1)) - 1 = nI (P + k) from by rw [← Nat.add_assoc]; exact nI_pred (P + k)]
    rw [if_neg (by rw [show (0 : Int32) = nI 0 from rfl, nI_leI (by omega) (by decide)]; omega), if_pos (ggN (by omega) hnc2), if_pos (ggN (by omega) hnc2), if_pos (ggN (by omega) hnc2), nI_clamp (by omega), nI_clamp (by omega)]
    have e1 : gdb cn P used j (P + (k + 1)) = cn (P + (k + 1)) := by unfold gdb; rw [if_neg (by omega)]
    have e2 : gdb cn P used j (P + k) = cn (P + k) := by unfold gdb; rw [if_neg (by omega)]
    rw [e1, e2]
    congr 3
    funext q
    unfold vp_updL gdb
    by_cases h1 : q = P + (k + 1)
    · rw [if_pos h1, if_pos (by omega), h1, show P + (k + 1) - 1 = P + k from by omega]
    · rw [if_neg h1]
      by_cases h2 : P + (used + 1 - j) < q ∧ q ≤ P + used + 1
      · rw [if_pos h2, if_pos (by omega)]
      · rw [if_neg h2, if_neg (by omega)]
  · dsimp only
    unfold zf_X1_doubleUnmoved_l69
    rw [Nat.sub_self, if_pos (by decide)]
/-- a free pipe that does not move a state: twice its choices -/
def gdD (D : Nat → Nat → Nat) (s k : Nat) : Nat := D s k + (if k = 0 then 0 else D s (k - 1))
def gdb2 (mv : Nat → Nat) (D : Nat → Nat → Nat) (j s k : Nat) : Nat := if mv s = s ∧ s < j then gdD D s k else D s k
def gdbT (mv : Nat → Nat) (T : Nat → Nat) (j s : Nat) : Nat := if mv s = s ∧ s < j then T s * 2 else T s
theorem gdouble {sz B nc nt used slot : Nat} {mvA : Nat → Int32} {mv : Nat → Nat} {cn tt : Nat → Int64} {D : Nat → Nat → Nat} {T : Nat → Nat} (hsz : sz ≤ 132) (hl : slot < 9) (hmv : ∀ s, s < sz → mvA (slot * 132 + s) = nI (mv s) ∧ mv s < sz ∧ mv (mv s) = mv s) (hnc : (B + 1) * 3300 ≤ nc) (hnc2 : nc < 2 ^ 31) (hnt : (B + 1) * 132 ≤ nt) (hnt2 : nt < 2 ^ 31) (hu : used < 24) (hR : gRp sz B cn tt D T) (hT : ∀ s, s < sz → T s < 2 ^ 31 ∧ (T s = 0 → ∀ k, D s k = 0)) (hfar : ∀ s, s < sz → ∀ k, used < k → D s k = 0) : ∃ cn' tt', zf_X1_doubleUnmoved (nI used) (nI sz) cn tt mvA nc nt (nI (B * 132)) (nI slot) = some (cn', tt') ∧ gRp sz B cn' tt' (fun s k => gdb2 mv D sz s k) (gdbT mv T sz) ∧ gFm B cn tt cn' tt' := by
  unfold zf_X1_doubleUnmoved
  have init : gRp sz B cn tt (fun s k => gdb2 mv D 0 s k) (gdbT mv T 0) := fun s hs => ⟨by unfold gdbT; rw [if_neg (by omega)]; exact (hR s hs).1, fun k hk => by
    show _ = lN (gdb2 mv D 0 s k)
    unfold gdb2
    rw [if_neg (by omega)]
    exact (hR s hs).2 k hk⟩
  have hL := gitH (f := fun d : Int32 × (Nat → Int64) × (Nat → Int64) => zf_X1_doubleUnmoved_l2 (nI used) (nI sz) mvA nc nt (nI (B * 132)) (nI slot) d.1 d.2.1 d.2.2) (fun j a => a.1 = nI j ∧ gRp sz B a.2.1 a.2.2 (fun s k => gdb2 mv D j s k) (gdbT mv T j) ∧ gFm B cn tt a.2.1 a.2.2) (fun b => gRp sz B b.1 b.2 (fun s k => gdb2 mv D sz s k) (gdbT mv T sz) ∧ gFm B cn tt b.1 b.2) sz (n := zfu) (gfu (by omega)) (a := ((0 : Int32), cn, tt)) ⟨rfl, init, gFm0⟩ ?_ ?_
  · obtain ⟨b, e, h1, h2⟩ := hL
    refine ⟨b.1, b.2, ?_, h1, h2⟩
    rw [e]
    rfl
  · rintro j ⟨x, c1, t1⟩ hj ⟨rfl, hR1, hF1⟩
    dsimp only at hR1 hF1 ⊢
    replace hR1 : ∀ s, s < sz → t1 (B * 132 + s) = lN (gdbT mv T j s) ∧ ∀ k, k < 25 → c1 ((B * 132 + s) * 25 + k) = lN (gdb2 mv D j s k) := hR1
    obtain ⟨m1, m2, m3⟩ := hmv j hj
    have nT : ∀ s, s ≠ j → gdbT mv T (j + 1) s = gdbT mv T j s := fun s hs => by
      unfold gdbT
      by_cases q : mv s = s ∧ s < j
      · rw [if_pos q, if_pos ⟨q.1, by omega⟩]
      · rw [if_neg q, if_neg (fun z => q ⟨z.1, by omega⟩)]
    have nD : ∀ s k, s ≠ j → gdb2 mv D (j + 1) s k = gdb2 mv D j s k := fun s k hs => by
      unfold gdb2
      by_cases q : mv s = s ∧ s < j
      · rw [if_pos q, if_pos ⟨q.1, by omega⟩]
      · rw [if_neg q, if_neg (fun z => q ⟨z.1, by omega⟩)]
    have jT : gdbT mv T j j = T j := by unfold gdbT; rw [if_neg (by omega)]
    have jD : ∀ k, gdb2 mv D j j k = D j k := fun k => by unfold gdb2; rw [if_neg (by omega)]
    unfold zf_X1_doubleUnmoved_l2 zf_X1_doubleUnmoved_105
    rw [if_neg (gle50 (by omega) (by omega) hj), gmvd (by omega) hl m1, Option.bind_some, nI_1, nI_add]
    by_cases hm : mv j = j
    · have z1 : zgd (nI (B * 132 + j)) nt = true := ggN (by omega) hnt2
      have hTj : t1 (B * 132 + j) = lN (T j) := by rw [(hR1 j hj).1, jT]
      have hcmp : lg_cmp (t1 (B * 132 + j)) 0 = 0 ↔ T j = 0 := by rw [glc, hTj, glN0 (hT j hj).1]
      rw [if_pos (by rw [hm])]
      simp only [z1, if_true, nI_clamp (show B * 132 + j < 2 ^ 31 by omega)]
      by_cases h0 : T j = 0
      · rw [if_pos (hcmp.mpr h0)]
        have hD0 := (hT j hj).2 h0
        refine ⟨_, rfl, rfl, fun s hs => ⟨?_, fun k hk => ?_⟩, hF1⟩
        · dsimp only
          by_cases e1 : s = j
          · rw [e1, hTj]; unfold gdbT; rw [if_pos ⟨hm, by omega⟩, h0]
          · rw [nT s e1]; exact (hR1 s hs).1
        · dsimp only
          by_cases e1 : s = j
          · rw [e1, (hR1 j hj).2 k hk, jD]; unfold gdb2 gdD; rw [if_pos ⟨hm, by omega⟩, hD0 k, hD0 (k - 1)]; simp
          · rw [nD s k e1]; exact (hR1 s hs).2 k hk
      · have eP : nI (B * 132 + j) * 25 = nI ((B * 132 + j) * 25) := by rw [show (25 : Int32) = nI 25 from rfl, gmul]
        rw [if_neg (fun q => h0 (hcmp.mp q)), eP, gdbK nc _ used (by omega) (by omega) hnc2, Option.bind_some]
        have out : ∀ q, ¬ ((B * 132 + j) * 25 ≤ q ∧ q < (B * 132 + j) * 25 + 25) → gdb c1 ((B * 132 + j) * 25) used (used + 1) q = c1 q := fun q hq => by
          unfold gdb
          rw [if_neg (by omega)]
        refine ⟨_, rfl, rfl, fun s hs => ⟨?_, fun k hk => ?_⟩, gFmT hF1 ⟨fun q hq => ?_, fun q hq => ?_⟩⟩
        · dsimp only
          by_cases e1 : s = j
          · rw [e1, guLS, hTj]
            unfold gdbT
            rw [if_pos ⟨hm, by omega⟩, Nat.mul_two, ← lN_add]
            show lN (T j) * 2 = _
            rw [show (2 : Int64) = 1 + 1 from by decide, Int64.mul_add, Int64.mul_one]
          · rw [guLN (by omega), nT s e1]; exact (hR1 s hs).1
        · dsimp only
          by_cases e1 : s = j
          · rw [e1]
            unfold gdb2 gdD
            rw [if_pos ⟨hm, by omega⟩]
            unfold gdb
            by_cases k0 : k = 0
            · subst k0
              rw [if_neg (by omega), (hR1 j hj).2 0 (by omega), jD, if_pos rfl, Nat.add_zero]
            · rw [if_neg k0]
              by_cases hku : k ≤ used + 1
              · rw [if_pos (by omega), show (B * 132 + j) * 25 + k - 1 = (B * 132 + j) * 25 + (k - 1) from by omega, (hR1 j hj).2 k hk, (hR1 j hj).2 (k - 1) (by omega), jD, jD, lN_add]
              · rw [if_neg (by omega), (hR1 j hj).2 k hk, jD, hfar j hj k (by omega), hfar j hj (k - 1) (by omega)]
          · rw [out _ (by omega), nD s k e1]; exact (hR1 s hs).2 k hk
        · dsimp only
          rw [out _ (by omega)]
        · dsimp only
          rw [guLN (by omega)]
    · rw [if_neg (by rw [nI_eq (by omega) (by omega)]; exact hm)]
      refine ⟨_, rfl, rfl, fun s hs => ⟨?_, fun k hk => ?_⟩, hF1⟩
      · dsimp only
        by_cases e1 : s = j
        · rw [e1, (hR1 j hj).1, jT]; unfold gdbT; rw [if_neg (fun z => hm z.1)]
        · rw [nT s e1]; exact (hR1 s hs).1
      · dsimp only
        by_cases e1 : s = j
        · rw [e1, (hR1 j hj).2 k hk, jD]; unfold gdb2; rw [if_neg (fun z => hm z.1)]
        · rw [nD s k e1]; exact (hR1 s hs).2 k hk
  · rintro ⟨x, c1, t1⟩ ⟨rfl, hR1, hF1⟩
    dsimp only
    unfold zf_X1_doubleUnmoved_l2
    rw [if_pos (Int32.le_refl _)]
    exact ⟨_, rfl, hR1, hF1⟩
/-! the flow: a free pipe divides what it moves -/
def gdv (cn : Nat → Int64) (P Q g u j : Nat) : Nat → Int64 := fun q => if P + (u + 1 - j) ≤ q ∧ q ≤ P + u then cn q + cn (q - P + Q) else if g = 0 ∧ Q + (u + 1 - j) < q ∧ q ≤ Q + u + 1 then cn (q - 1) else cn q
theorem gdvK (nc P Q g used : Nat) (hg : g < 2) (hu : used < 24) (hP : P + used < nc) (hQ : Q + used + 1 < nc) (hd : P + used < Q ∨ Q + used + 1 < P) (hnc2 : nc < 2 ^ 31) (cn : Nat → Int64) : zit (fun d : Int32 × (Nat → Int64) => zf_X1_divideMoved_l107 nc (nI g) (nI Q) (nI P) d.1 d.2) zfu (nI used, cn) = some (gdv cn P Q g used (used + 1)) := by
  have e := gitr (f := fun d : Int32 × (Nat → Int64) => zf_X1_divideMoved_l107 nc (nI g) (nI Q) (nI P) d.1 d.2) (fun j => (nI (used + 1 - j) - 1, gdv cn P Q g used j)) (used + 1) (n := zfu) (b := gdv cn P Q g used (used + 1)) (gfu (by omega)) ?_ ?_
  · rw [← e]
    have : gdv cn P Q g used 0 = cn := by
      funext q
      unfold gdv
      rw [if_neg (by omega), if_neg (by omega)]
    simp only [this, Nat.sub_zero, nI_pred]
  · intro j hj
    dsimp only
    unfold zf_X1_divideMoved_l107
    obtain ⟨k, hk⟩ : ∃ k, used + 1 - j = k + 1 := ⟨used - j, by omega⟩
    have hk2 : used + 1 - (j + 1) = k := by omega
    rw [hk, hk2, nI_pred, nI_add, nI_add, nI_1, show nI (Q + k + 1) - nI g = nI (Q + k + 1 - g) from gsub (by omega), show nI k + (-1 : Int32) = nI k - 1 from (Int32.sub_eq_add_neg _ _).symm]
    have z1 : zgd (nI (P + k)) nc = true := ggN (by omega) hnc2
    have z2 : zgd (nI (Q + k)) nc = true := ggN (by omega) hnc2
    have z3 : zgd (nI (Q + k + 1 - g)) nc = true := ggN (by omega) hnc2
    rw [if_neg (nI_pos (by omega))]
    simp only [z1, z2, z3, if_true, nI_clamp (show P + k < 2 ^ 31 by omega), nI_clamp (show Q + k < 2 ^ 31 by omega), nI_clamp (show Q + k + 1 - g < 2 ^ 31 by omega)]
    have e1 : gdv cn P Q g used j (P + k) = cn (P + k) := by unfold gdv; rw [if_neg (by omega), if_neg (by omega)]
    have e2 : gdv cn P Q g used j (Q + k) = cn (Q + k) := by unfold gdv; rw [if_neg (by omega), if_neg (by omega)]
    have e3 : vp_updL (gdv cn P Q g used j) (P + k) (cn (P + k) + cn (Q + k)) (Q + k) = cn (Q + k) := by rw [guLN (by omega), e2]
    rw [e1, e2, e3]
    congr 3
    funext q
    unfold vp_updL gdv
    by_cases h1 : q = Q + k + 1 - g
    · rw [if_pos h1, if_neg (by omega)]
      rcases (show g = 0 ∨ g = 1 by omega) with rfl | rfl
      · rw [if_pos (by omega), h1, show Q + k + 1 - 0 - 1 = Q + k from by omega]
      · rw [if_neg (by omega), h1, show Q + k + 1 - 1 = Q + k from by omega]
    · rw [if_neg h1]
      by_cases h2 : q = P + k
      · rw [if_pos h2, if_pos (by omega), h2, show P + k - P + Q = Q + k from by omega]
      · rw [if_neg h2]
        by_cases h3 : P + (used + 1 - j) ≤ q ∧ q ≤ P + used
        · rw [if_pos h3, if_pos (by omega)]
        · rw [if_neg h3, if_neg (show ¬ (P + (used + 1 - (j + 1)) ≤ q ∧ q ≤ P + used) by omega)]
          by_cases h4 : g = 0 ∧ Q + (used + 1 - j) < q ∧ q ≤ Q + used + 1
          · rw [if_pos h4, if_pos (by omega)]
          · rw [if_neg h4, if_neg (by omega)]
  · dsimp only
    unfold zf_X1_divideMoved_l107
    rw [Nat.sub_self, if_pos (by decide)]
/-- for one k: what is where, the states before j divided: A before, F what goes, Bf what stays -/
def gnD (mv : Nat → Nat) (A F Bf : Nat → Nat) (j t : Nat) : Nat := if mv t = t then A t + gSum (fun s => if mv s = t ∧ s ≠ t then F s else 0) j else if t < j then Bf t else A t
theorem gnD0 (mv A F Bf : Nat → Nat) (t : Nat) : gnD mv A F Bf 0 t = A t := by
  unfold gnD
  by_cases h : mv t = t
  · rw [if_pos h]; rfl
  · rw [if_neg h, if_neg (by omega)]
theorem gnDs {mv A F Bf : Nat → Nat} {j : Nat} (h : mv j = j) (t : Nat) : gnD mv A F Bf (j + 1) t = gnD mv A F Bf j t := by
  unfold gnD
  by_cases ht : mv t = t
  · rw [if_pos ht, if_pos ht, gSum, if_neg (by rw [h]; omega), Nat.add_zero]
  · rw [if_neg ht, if_neg ht]
    by_cases hl : t < j
    · rw [if_pos hl, if_pos (by omega)]
    · rw [if_neg hl, if_neg (by intro q; exact ht (by rw [show t = j from by omega]; exact h))]
theorem gnDm {mv A F Bf : Nat → Nat} {j : Nat} (h : mv j ≠ j) (hi : mv (mv j) = mv j) (t : Nat) : gnD mv A F Bf (j + 1) t = if t = mv j then gnD mv A F Bf j (mv j) + F j else if t = j then Bf j else gnD mv A F Bf j t := by
  by_cases h1 : t = mv j
  · rw [if_pos h1]
    subst h1
    unfold gnD
    rw [if_pos hi, if_pos hi, gSum, if_pos ⟨rfl, fun q => h q.symm⟩, Nat.add_assoc]
  · rw [if_neg h1]
    by_cases h2 : t = j
    · rw [if_pos h2]
      subst h2
      unfold gnD
      rw [if_neg h, if_pos (by omega)]
    · rw [if_neg h2]
      unfold gnD
      by_cases ht : mv t = t
      · rw [if_pos ht, if_pos ht, gSum, if_neg (fun q => h1 q.1.symm), Nat.add_zero]
      · rw [if_neg ht, if_neg ht]
        by_cases hl : t < j
        · rw [if_pos hl, if_pos (by omega)]
        · rw [if_neg hl, if_neg (by omega)]
theorem gnDj {mv A F Bf : Nat → Nat} {j : Nat} (h : mv j ≠ j) : gnD mv A F Bf j j = A j := by
  unfold gnD
  rw [if_neg h, if_neg (by omega)]
