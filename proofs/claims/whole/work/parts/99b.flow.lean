/-! the flow's rows: what is moved by a pipe that is told -/
/-- the counts and totals of a block of states -/
def gRp (sz B : Nat) (cn tt : Nat → Int64) (D : Nat → Nat → Nat) (T : Nat → Nat) : Prop := ∀ s, s < sz → tt (B * 132 + s) = lN (T s) ∧ ∀ k, k < 25 → cn ((B * 132 + s) * 25 + k) = lN (D s k)
/-- other blocks stay -/
def gFm (B : Nat) (cn tt cn' tt' : Nat → Int64) : Prop := (∀ q, q / 3300 ≠ B → cn' q = cn q) ∧ ∀ q, q / 132 ≠ B → tt' q = tt q
theorem gFm0 {B : Nat} {cn tt : Nat → Int64} : gFm B cn tt cn tt := ⟨fun _ _ => rfl, fun _ _ => rfl⟩
theorem gFmT {B : Nat} {cn tt cn1 tt1 cn2 tt2 : Nat → Int64} (h1 : gFm B cn tt cn1 tt1) (h2 : gFm B cn1 tt1 cn2 tt2) : gFm B cn tt cn2 tt2 := ⟨fun q h => (h2.1 q h).trans (h1.1 q h), fun q h => (h2.2 q h).trans (h1.2 q h)⟩
/-- n places from Q on put to those from P on -/
def gmvA (cn : Nat → Int64) (P Q n : Nat) : Nat → Int64 := fun q => if P ≤ q ∧ q < P + n then cn q + cn (q - P + Q) else if Q ≤ q ∧ q < Q + n then 0 else cn q
theorem gmvA0 (cn : Nat → Int64) (P Q : Nat) : gmvA cn P Q 0 = cn := by
  funext q
  unfold gmvA
  rw [if_neg (by omega), if_neg (by omega)]
theorem gmvAS (cn : Nat → Int64) {P Q n m : Nat} (hn : n < m) (hd : P + m ≤ Q ∨ Q + m ≤ P) : vp_updL (vp_updL (gmvA cn P Q n) (P + n) (gmvA cn P Q n (P + n) + gmvA cn P Q n (Q + n))) (Q + n) 0 = gmvA cn P Q (n + 1) := by
  have e1 : gmvA cn P Q n (P + n) = cn (P + n) := by unfold gmvA; rw [if_neg (by omega), if_neg (by omega)]
  have e2 : gmvA cn P Q n (Q + n) = cn (Q + n) := by unfold gmvA; rw [if_neg (by omega), if_neg (by omega)]
  rw [e1, e2]
  funext q
  unfold vp_updL gmvA
  by_cases h1 : q = Q + n
  · rw [if_pos h1, if_neg (by omega), if_pos (by omega)]
  · rw [if_neg h1]
    by_cases h2 : q = P + n
    · rw [if_pos h2, if_pos (by omega), h2, show P + n - P + Q = Q + n from by omega]
    · rw [if_neg h2]
      by_cases h3 : P ≤ q ∧ q < P + n
      · rw [if_pos h3, if_pos (by omega)]
      · rw [if_neg h3, if_neg (show ¬ (P ≤ q ∧ q < P + (n + 1)) by omega)]
        by_cases h4 : Q ≤ q ∧ q < Q + n
        · rw [if_pos h4, if_pos (by omega)]
        · rw [if_neg h4, if_neg (by omega)]
theorem gix {B s k : Nat} (hs : s < 132) (hk : k < 25) : ((B * 132 + s) * 25 + k) / 3300 = B := by omega
theorem gixI (f B s k : Nat) : ((nI (B * 132) + nI s) * (25 : Int32)) + nI k = nI ((B * 132 + s) * 25 + k) := by
  rw [nI_add, show (25 : Int32) = nI 25 from rfl, gmul, nI_add]
theorem gmvK (nc B j to used : Nat) (hnc : (B + 1) * 3300 ≤ nc) (hnc2 : nc < 2 ^ 31) (hj : j < 132) (hto : to < 132) (hne : to ≠ j) (hu : used < 25) (cn : Nat → Int64) : zit (fun d : Int32 × (Nat → Int64) => zf_X1_moveAll_l75 (nI used) nc (nI (B * 132)) (nI j) (nI to) d.1 d.2) zfu ((0 : Int32), cn) = some (gmvA cn ((B * 132 + to) * 25) ((B * 132 + j) * 25) (used + 1)) := by
  have e := gitr (f := fun d : Int32 × (Nat → Int64) => zf_X1_moveAll_l75 (nI used) nc (nI (B * 132)) (nI j) (nI to) d.1 d.2) (fun k => (nI k, gmvA cn ((B * 132 + to) * 25) ((B * 132 + j) * 25) k)) (used + 1) (n := zfu) (b := gmvA cn ((B * 132 + to) * 25) ((B * 132 + j) * 25) (used + 1)) (gfu (by omega)) ?_ ?_
  · rw [← e]
    simp only [gmvA0]
    rfl
  · intro k hk
    dsimp only
    unfold zf_X1_moveAll_l75
    rw [gixI 0 B to k, gixI 0 B j k, if_neg (by rw [nI_ltI (by omega) (by omega)]; omega)]
    have z1 : zgd (nI ((B * 132 + to) * 25 + k)) nc = true := ggN (by omega) hnc2
    have z2 : zgd (nI ((B * 132 + j) * 25 + k)) nc = true := ggN (by omega) hnc2
    simp only [z1, z2, if_true, nI_clamp (show (B * 132 + to) * 25 + k < 2 ^ 31 by omega), nI_clamp (show (B * 132 + j) * 25 + k < 2 ^ 31 by omega)]
    rw [nI_1, gmvAS cn (m := 25) (by omega) (by omega)]
  · dsimp only
    unfold zf_X1_moveAll_l75
    rw [if_pos (by rw [nI_ltI (by omega) (by omega)]; omega)]
/-- the states before j moved -/
def gmD (mv : Nat → Nat) (D : Nat → Nat) (j t : Nat) : Nat := if mv t = t then D t + gSum (fun s => if mv s = t ∧ s ≠ t then D s else 0) j else if t < j then 0 else D t
theorem gmD0 (mv : Nat → Nat) (D : Nat → Nat) (t : Nat) : gmD mv D 0 t = D t := by
  unfold gmD
  by_cases h : mv t = t
  · rw [if_pos h]; rfl
  · rw [if_neg h, if_neg (by omega)]
theorem gmDs {mv : Nat → Nat} {D : Nat → Nat} {j : Nat} (h : mv j = j) (t : Nat) : gmD mv D (j + 1) t = gmD mv D j t := by
  unfold gmD
  by_cases ht : mv t = t
  · rw [if_pos ht, if_pos ht, gSum, if_neg (by rw [h]; omega), Nat.add_zero]
  · rw [if_neg ht, if_neg ht]
    by_cases hl : t < j
    · rw [if_pos hl, if_pos (by omega)]
    · rw [if_neg hl, if_neg (by intro q; exact ht (by rw [show t = j from by omega]; exact h))]
theorem gmDm {mv : Nat → Nat} {D : Nat → Nat} {j : Nat} (h : mv j ≠ j) (hi : mv (mv j) = mv j) (t : Nat) : gmD mv D (j + 1) t = if t = mv j then gmD mv D j (mv j) + D j else if t = j then 0 else gmD mv D j t := by
  by_cases h1 : t = mv j
  · rw [if_pos h1]
    subst h1
    unfold gmD
    rw [if_pos hi, if_pos hi, gSum, if_pos ⟨rfl, fun q => h q.symm⟩, Nat.add_assoc]
  · rw [if_neg h1]
    by_cases h2 : t = j
    · rw [if_pos h2]
      subst h2
      unfold gmD
      rw [if_neg h, if_pos (by omega)]
    · rw [if_neg h2]
      unfold gmD
      by_cases ht : mv t = t
      · rw [if_pos ht, if_pos ht, gSum, if_neg (fun q => h1 q.1.symm), Nat.add_zero]
      · rw [if_neg ht, if_neg ht]
        by_cases hl : t < j
        · rw [if_pos hl, if_pos (by omega)]
        · rw [if_neg hl, if_neg (by omega)]
theorem gmDj {mv : Nat → Nat} {D : Nat → Nat} {j : Nat} (h : mv j ≠ j) : gmD mv D j j = D j := by
  unfold gmD
  rw [if_neg h, if_neg (by omega)]
/-- when all are moved: what leads there -/
theorem gmDall {g : gG} (hw : gWf g) {slot : Nat} (hv : gVs g.1 slot = true) (D : Nat → Nat) {t : Nat} (ht : t < gSz g.1) : gmD (gMv g.1 slot) D (gSz g.1) t = gInto g slot t D := by
  unfold gmD gInto
  by_cases h : gMv g.1 slot t = t
  · rw [if_pos h]
    have e : ∀ s, s < gSz g.1 → (if gMv g.1 slot s = t then D s else 0) = (if t = s then D s else 0) + (if gMv g.1 slot s = t ∧ s ≠ t then D s else 0) := by
      intro s _
      by_cases e : s = t
      · subst e
        rw [if_pos h, if_pos rfl, if_neg (fun q => q.2 rfl), Nat.add_zero]
      · rw [if_neg (show ¬ t = s from fun q => e q.symm), Nat.zero_add]
        by_cases e2 : gMv g.1 slot s = t
        · rw [if_pos e2, if_pos ⟨e2, e⟩]
        · rw [if_neg e2, if_neg (fun q => e2 q.1)]
    rw [gSum_cong e, gSum_add, gSum_one D ht]
  · rw [if_neg h, if_pos ht, gSum_z]
    intro s hs
    rw [if_neg]
    intro e
    have := (gMvI' hw.1.2 hv hs).1
    rw [e] at this
    exact h this
theorem gmvd {mvA : Nat → Int32} {slot s v : Nat} (hs : s < 132) (hl : slot < 9) (h : mvA (slot * 132 + s) = nI v) : zf_X4_moved mvA (nI slot) (nI s) = some (nI v) := by
  unfold zf_X4_moved
  have e : nI slot * 132 + nI s = nI (slot * 132 + s) := by rw [show (132 : Int32) = nI 132 from rfl, gmul, nI_add]
  rw [e, if_pos (ggN (by omega) (by decide)), nI_clamp (by omega), h]
theorem gmvA_P {cn : Nat → Int64} {P Q n k : Nat} (h : k < n) : gmvA cn P Q n (P + k) = cn (P + k) + cn (Q + k) := by
  unfold gmvA
  rw [if_pos (by omega), show P + k - P + Q = Q + k from by omega]
theorem gmvA_Q {cn : Nat → Int64} {P Q n k : Nat} (h : k < n) (hd : P + n ≤ Q ∨ Q + n ≤ P) : gmvA cn P Q n (Q + k) = 0 := by
  unfold gmvA
  rw [if_neg (by omega), if_pos (by omega)]
theorem gmvA_o {cn : Nat → Int64} {P Q n q : Nat} (h1 : ¬ (P ≤ q ∧ q < P + n)) (h2 : ¬ (Q ≤ q ∧ q < Q + n)) : gmvA cn P Q n q = cn q := by
  unfold gmvA
  rw [if_neg h1, if_neg h2]
theorem gmoveAll {sz B nc nt used slot : Nat} {mvA : Nat → Int32} {mv : Nat → Nat} {cn tt : Nat → Int64} {D : Nat → Nat → Nat} {T : Nat → Nat} (hsz : sz ≤ 132) (hl : slot < 9) (hmv : ∀ s, s < sz → mvA (slot * 132 + s) = nI (mv s) ∧ mv s < sz ∧ mv (mv s) = mv s) (hnc : (B + 1) * 3300 ≤ nc) (hnc2 : nc < 2 ^ 31) (hnt : (B + 1) * 132 ≤ nt) (hnt2 : nt < 2 ^ 31) (hu : used < 25) (hR : gRp sz B cn tt D T) (hT : ∀ s, s < sz → T s < 2 ^ 31 ∧ (T s = 0 → ∀ k, D s k = 0)) (hfar : ∀ s, s < sz → ∀ k, used < k → D s k = 0) : ∃ cn' tt', zf_X1_moveAll (nI used) (nI sz) cn tt mvA nc nt (nI (B * 132)) (nI slot) = some (cn', tt') ∧ gRp sz B cn' tt' (fun t k => gmD mv (fun s => D s k) sz t) (gmD mv T sz) ∧ gFm B cn tt cn' tt' := by
  unfold zf_X1_moveAll
  have init : gRp sz B cn tt (fun t k => gmD mv (fun s => D s k) 0 t) (gmD mv T 0) := fun s hs => ⟨by rw [gmD0]; exact (hR s hs).1, fun k hk => by
    show _ = lN (gmD mv (fun s => D s k) 0 s)
    rw [gmD0]
    exact (hR s hs).2 k hk⟩
  have hL := gitH (f := fun d : Int32 × (Nat → Int64) × (Nat → Int64) => zf_X1_moveAll_l2 (nI used) (nI sz) mvA nc nt (nI (B * 132)) (nI slot) d.1 d.2.1 d.2.2) (fun j a => a.1 = nI j ∧ gRp sz B a.2.1 a.2.2 (fun t k => gmD mv (fun s => D s k) j t) (gmD mv T j) ∧ gFm B cn tt a.2.1 a.2.2) (fun b => gRp sz B b.1 b.2 (fun t k => gmD mv (fun s => D s k) sz t) (gmD mv T sz) ∧ gFm B cn tt b.1 b.2) sz (n := zfu) (gfu (by omega)) (a := ((0 : Int32), cn, tt)) ⟨rfl, init, gFm0⟩ ?_ ?_
  · obtain ⟨b, e, h1, h2⟩ := hL
    refine ⟨b.1, b.2, ?_, h1, h2⟩
    rw [e]
    rfl
  · rintro j ⟨x, c1, t1⟩ hj ⟨rfl, hR1, hF1⟩
    dsimp only at hR1 hF1 ⊢
    replace hR1 : ∀ s, s < sz → t1 (B * 132 + s) = lN (gmD mv T j s) ∧ ∀ k, k < 25 → c1 ((B * 132 + s) * 25 + k) = lN (gmD mv (fun s => D s k) j s) := hR1
    obtain ⟨m1, m2, m3⟩ := hmv j hj
    unfold zf_X1_moveAll_l2 zf_X1_moveAll_137
    rw [if_neg (gle50 (by omega) (by omega) hj), gmvd (by omega) hl m1, Option.bind_some, nI_1, nI_add, nI_add]
    by_cases hm : mv j = j
    · rw [if_pos (by rw [hm])]
      refine ⟨_, rfl, rfl, fun s hs => ⟨?_, fun k hk => ?_⟩, hF1⟩
      · dsimp only; rw [gmDs hm]; exact (hR1 s hs).1
      · dsimp only; rw [gmDs hm]; exact (hR1 s hs).2 k hk
    · have hn : ¬ nI (mv j) = nI j := by rw [nI_eq (by omega) (by omega)]; exact hm
      have z1 : zgd (nI (B * 132 + j)) nt = true := ggN (by omega) hnt2
      have z2 : zgd (nI (B * 132 + mv j)) nt = true := ggN (by omega) hnt2
      rw [if_neg hn]
      simp only [z1, z2, if_true, nI_clamp (show B * 132 + j < 2 ^ 31 by omega), nI_clamp (show B * 132 + mv j < 2 ^ 31 by omega)]
      have hTj : t1 (B * 132 + j) = lN (T j) := by rw [(hR1 j hj).1, gmDj hm]
      have hcmp : lg_cmp (t1 (B * 132 + j)) 0 = 0 ↔ T j = 0 := by rw [glc, hTj, glN0 (hT j hj).1]
      by_cases h0 : T j = 0
      · rw [if_pos (hcmp.mpr h0)]
        have hD0 := (hT j hj).2 h0
        refine ⟨_, rfl, rfl, fun s hs => ⟨?_, fun k hk => ?_⟩, hF1⟩
        · dsimp only
          rw [gmDm hm m3, h0]
          by_cases e1 : s = mv j
          · rw [if_pos e1, Nat.add_zero, ← e1]; exact (hR1 s hs).1
          · rw [if_neg e1]
            by_cases e2 : s = j
            · rw [if_pos e2, e2, hTj, h0]
            · rw [if_neg e2]; exact (hR1 s hs).1
        · dsimp only
          rw [gmDm hm m3, hD0 k]
          by_cases e1 : s = mv j
          · rw [if_pos e1, Nat.add_zero, ← e1]; exact (hR1 s hs).2 k hk
          · rw [if_neg e1]
            by_cases e2 : s = j
            · rw [if_pos e2, e2, (hR1 j hj).2 k hk, gmDj hm, hD0 k]
            · rw [if_neg e2]; exact (hR1 s hs).2 k hk
      · rw [if_neg (fun q => h0 (hcmp.mp q)), gmvK nc B j (mv j) used hnc hnc2 (by omega) (by omega) hm hu, Option.bind_some]
        have hdis : (B * 132 + mv j) * 25 + (used + 1) ≤ (B * 132 + j) * 25 ∨ (B * 132 + j) * 25 + (used + 1) ≤ (B * 132 + mv j) * 25 := by omega
        refine ⟨_, rfl, rfl, fun s hs => ⟨?_, fun k hk => ?_⟩, gFmT hF1 ⟨fun q hq => ?_, fun q hq => ?_⟩⟩
        · dsimp only
          rw [gmDm hm m3]
          by_cases e1 : s = mv j
          · rw [if_pos e1, e1, guLN (by omega), guLS, hTj, (hR1 _ m2).1, lN_add]
          · rw [if_neg e1]
            by_cases e2 : s = j
            · rw [if_pos e2, e2, guLS]; rfl
            · rw [if_neg e2, guLN (by omega), guLN (by omega)]; exact (hR1 s hs).1
        · dsimp only
          rw [gmDm hm m3]
          by_cases e1 : s = mv j
          · rw [if_pos e1, e1]
            by_cases hku : k < used + 1
            · rw [gmvA_P hku, (hR1 _ m2).2 k hk, (hR1 j hj).2 k hk, gmDj hm, lN_add]
            · rw [gmvA_o (by omega) (by omega), (hR1 _ m2).2 k hk, hfar j hj k (by omega), Nat.add_zero]
          · rw [if_neg e1]
            by_cases e2 : s = j
            · rw [if_pos e2, e2]
              by_cases hku : k < used + 1
              · rw [gmvA_Q hku hdis]; rfl
              · rw [gmvA_o (by omega) (by omega), (hR1 j hj).2 k hk, gmDj hm, hfar j hj k (by omega)]
            · rw [if_neg e2, gmvA_o (by omega) (by omega)]; exact (hR1 s hs).2 k hk
        · dsimp only
          rw [gmvA_o (by omega) (by omega)]
        · dsimp only
          rw [guLN (by omega), guLN (by omega)]
  · rintro ⟨x, c1, t1⟩ ⟨rfl, hR1, hF1⟩
    dsimp only
    unfold zf_X1_moveAll_l2
    rw [if_pos (Int32.le_refl _)]
    exact ⟨_, rfl, hR1, hF1⟩
