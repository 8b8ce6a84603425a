/-! the flow: a free pipe divides what it moves; a step -/
def gF (g : Nat) (A : Nat → Nat → Nat) (k s : Nat) : Nat := if g = 1 then (if k = 0 then 0 else A s (k - 1)) else A s k
def gBf (g : Nat) (A : Nat → Nat → Nat) (k s : Nat) : Nat := if g = 1 then A s k else (if k = 0 then 0 else A s (k - 1))
theorem gdivide {sz B nc nt used slot g : Nat} {mvA : Nat → Int32} {mv : Nat → Nat} {cn tt : Nat → Int64} {A : Nat → Nat → Nat} {T : Nat → Nat} (hg : g < 2) (hsz : sz ≤ 132) (hl : slot < 9) (hmv : ∀ s, s < sz → mvA (slot * 132 + s) = nI (mv s) ∧ mv s < sz ∧ mv (mv s) = mv s) (hnc : (B + 1) * 3300 ≤ nc) (hnc2 : nc < 2 ^ 31) (hnt : (B + 1) * 132 ≤ nt) (hnt2 : nt < 2 ^ 31) (hu : used < 24) (hR : gRp sz B cn tt A T) (hT : ∀ s, s < sz → mv s ≠ s → T s < 2 ^ 31 ∧ (T s = 0 → ∀ k, A s k = 0)) (hfar : ∀ s, s < sz → mv s ≠ s → ∀ k, used < k → A s k = 0) : ∃ cn' tt', zf_X1_divideMoved (nI used) (nI sz) cn tt mvA nc nt (nI (B * 132)) (nI slot) (nI g) = some (cn', tt') ∧ gRp sz B cn' tt' (fun t k => gnD mv (fun s => A s k) (gF g A k) (gBf g A k) sz t) (gnD mv T T T sz) ∧ gFm B cn tt cn' tt' := by
  have e9 : zf_X1_divideMoved (nI used) (nI sz) cn tt mvA nc nt (nI (B * 132)) (nI slot) (nI g) = zf_X1_divideMoved_9 (nI used) (nI sz) cn tt mvA nc nt (nI (B * 132)) (nI slot) (nI g) (nI g) := by
    unfold zf_X1_divideMoved
    rcases (show g = 0 ∨ g = 1 by omega) with rfl | rfl
    · rw [if_pos (by decide)]; rfl
    · rw [if_neg (by decide)]; rfl
  rw [e9]
  unfold zf_X1_divideMoved_9
  have init : gRp sz B cn tt (fun t k => gnD mv (fun s => A s k) (gF g A k) (gBf g A k) 0 t) (gnD mv T T T 0) := fun s hs => ⟨by rw [gnD0]; exact (hR s hs).1, fun k hk => by
    show _ = lN (gnD mv (fun s => A s k) (gF g A k) (gBf g A k) 0 s)
    rw [gnD0]
    exact (hR s hs).2 k hk⟩
  have hL := gitH (f := fun d : Int32 × (Nat → Int64) × (Nat → Int64) => zf_X1_divideMoved_l14 (nI used) (nI sz) mvA nc nt (nI (B * 132)) (nI slot) (nI g) (nI g) d.1 d.2.1 d.2.2) (fun j a => a.1 = nI j ∧ gRp sz B a.2.1 a.2.2 (fun t k => gnD mv (fun s => A s k) (gF g A k) (gBf g A k) j t) (gnD mv T T T j) ∧ gFm B cn tt a.2.1 a.2.2) (fun b => gRp sz B b.1 b.2 (fun t k => gnD mv (fun s => A s k) (gF g A k) (gBf g A k) sz t) (gnD mv T T T sz) ∧ gFm B cn tt b.1 b.2) sz (n := zfu) (gfu (by omega)) (a := ((0 : Int32), cn, tt)) ⟨rfl, init, gFm0⟩ ?_ ?_
  · obtain ⟨b, e, h1, h2⟩ := hL
    refine ⟨b.1, b.2, ?_, h1, h2⟩
    rw [e]
    rfl
  · rintro j ⟨x, c1, t1⟩ hj ⟨rfl, hR1, hF1⟩
    dsimp only at hR1 hF1 ⊢
    replace hR1 : ∀ s, s < sz → t1 (B * 132 + s) = lN (gnD mv T T T j s) ∧ ∀ k, k < 25 → c1 ((B * 132 + s) * 25 + k) = lN (gnD mv (fun s => A s k) (gF g A k) (gBf g A k) j s) := hR1
    obtain ⟨m1, m2, m3⟩ := hmv j hj
    unfold zf_X1_divideMoved_l14 zf_X1_divideMoved_178
    rw [if_neg (gle50 (by omega) (by omega) hj), gmvd (by omega) hl m1, Option.bind_some, nI_1, nI_add, nI_add]
    by_cases hm : mv j = j
    · rw [if_pos (by rw [hm])]
      refine ⟨_, rfl, rfl, fun s hs => ⟨?_, fun k hk => ?_⟩, hF1⟩
      · dsimp only; rw [gnDs hm]; exact (hR1 s hs).1
      · dsimp only; rw [gnDs hm]; exact (hR1 s hs).2 k hk
    · have hn : ¬ nI (mv j) = nI j := by rw [nI_eq (by omega) (by omega)]; exact hm
      have z1 : zgd (nI (B * 132 + j)) nt = true := ggN (by omega) hnt2
      have z2 : zgd (nI (B * 132 + mv j)) nt = true := ggN (by omega) hnt2
      rw [if_neg hn]
      simp only [z1, z2, if_true, nI_clamp (show B * 132 + j < 2 ^ 31 by omega), nI_clamp (show B * 132 + mv j < 2 ^ 31 by omega)]
      have hTj : t1 (B * 132 + j) = lN (T j) := by rw [(hR1 j hj).1, gnDj hm]
      have hcj : ∀ k, k < 25 → c1 ((B * 132 + j) * 25 + k) = lN (A j k) := fun k hk => by rw [(hR1 j hj).2 k hk, gnDj hm]
      have hcmp : lg_cmp (t1 (B * 132 + j)) 0 = 0 ↔ T j = 0 := by rw [glc, hTj, glN0 (hT j hj hm).1]
      have hfj := hfar j hj hm
      by_cases h0 : T j = 0
      · rw [if_pos (hcmp.mpr h0)]
        have hD0 := (hT j hj hm).2 h0
        have hF0 : ∀ k, gF g A k j = 0 := fun k => by
          unfold gF
          rw [hD0, hD0]
          by_cases g1 : g = 1 <;> by_cases k0 : k = 0 <;> simp [g1, k0]
        have hB0 : ∀ k, gBf g A k j = 0 := fun k => by
          unfold gBf
          rw [hD0, hD0]
          by_cases g1 : g = 1 <;> by_cases k0 : k = 0 <;> simp [g1, k0]
        refine ⟨_, rfl, rfl, fun s hs => ⟨?_, fun k hk => ?_⟩, hF1⟩
        · dsimp only
          rw [gnDm hm m3, h0]
          by_cases e1 : s = mv j
          · rw [if_pos e1, Nat.add_zero, ← e1]; exact (hR1 s hs).1
          · rw [if_neg e1]
            by_cases e2 : s = j
            · rw [if_pos e2, e2, hTj, h0]
            · rw [if_neg e2]; exact (hR1 s hs).1
        · dsimp only
          rw [gnDm hm m3, hF0, hB0]
          by_cases e1 : s = mv j
          · rw [if_pos e1, Nat.add_zero, ← e1]; exact (hR1 s hs).2 k hk
          · rw [if_neg e1]
            by_cases e2 : s = j
            · rw [if_pos e2, e2, hcj k hk, hD0 k]
            · rw [if_neg e2]; exact (hR1 s hs).2 k hk
      · have eQ : nI (B * 132 + j) * 25 = nI ((B * 132 + j) * 25) := by rw [show (25 : Int32) = nI 25 from rfl, gmul]
        have eP : nI (B * 132 + mv j) * 25 + nI g = nI ((B * 132 + mv j) * 25 + g) := by rw [show (25 : Int32) = nI 25 from rfl, gmul, nI_add]
        rw [if_neg (fun q => h0 (hcmp.mp q)), eQ, eP, gdvK nc _ _ g used hg hu (by omega) (by omega) (by omega) hnc2, Option.bind_some]
        obtain ⟨c2, hc2⟩ : ∃ c2, c2 = gdv c1 ((B * 132 + mv j) * 25 + g) ((B * 132 + j) * 25) g used (used + 1) := ⟨_, rfl⟩
        obtain ⟨c3, hc3⟩ : ∃ c3, c3 = (if g = 0 then vp_updL c2 ((B * 132 + j) * 25) 0 else c2) := ⟨_, rfl⟩
        have z4 : zgd (nI ((B * 132 + j) * 25)) nc = true := ggN (by omega) hnc2
        have body : (if nI g = 0 then (if zgd (nI ((B * 132 + j) * 25)) nc = true then some (Sum.inl (nI (j + 1), vp_updL c2 (nI ((B * 132 + j) * 25)).toNatClampNeg 0, vp_updL t1 (B * 132 + mv j) (t1 (B * 132 + mv j) + t1 (B * 132 + j))) : (Int32 × (Nat → Int64) × (Nat → Int64)) ⊕ ((Nat → Int64) × (Nat → Int64))) else none) else some (Sum.inl (nI (j + 1), c2, vp_updL t1 (B * 132 + mv j) (t1 (B * 132 + mv j) + t1 (B * 132 + j))))) = some (.inl (nI (j + 1), c3, vp_updL t1 (B * 132 + mv j) (t1 (B * 132 + mv j) + t1 (B * 132 + j)))) := by
          rw [hc3]
          rcases (show g = 0 ∨ g = 1 by omega) with rfl | rfl
          · rw [if_pos (by decide), if_pos z4, if_pos rfl, nI_clamp (by omega)]
          · rw [if_neg (by decide), if_neg (by decide)]
        rw [← hc2]
        refine ⟨_, body, rfl, fun s hs => ⟨?_, fun k hk => ?_⟩, gFmT hF1 ⟨fun q hq => ?_, fun q hq => ?_⟩⟩
        · dsimp only
          rw [gnDm hm m3]
          by_cases e1 : s = mv j
          · rw [if_pos e1, e1, guLS, hTj, (hR1 _ m2).1, lN_add]
          · rw [if_neg e1, guLN (by omega)]
            by_cases e2 : s = j
            · rw [if_pos e2, e2, hTj]
            · rw [if_neg e2]; exact (hR1 s hs).1
        · dsimp only
          rw [gnDm hm m3]
          have hcm := (hR1 _ m2).2
          rcases (show g = 0 ∨ g = 1 by omega) with rfl | rfl
          · rw [if_pos rfl] at hc3
            by_cases e1 : s = mv j
            · rw [if_pos e1, e1, hc3, guLN (by omega), hc2]
              unfold gdv gF
              rw [if_neg (show ¬ (0 : Nat) = 1 by decide)]
              by_cases hku : k ≤ used
              · rw [if_pos (by omega), show (B * 132 + mv j) * 25 + k - ((B * 132 + mv j) * 25 + 0) + (B * 132 + j) * 25 = (B * 132 + j) * 25 + k from by omega, hcm k hk, hcj k hk, lN_add]
                rfl
              · rw [if_neg (by omega), if_neg (by omega), hcm k hk, hfj k (by omega), Nat.add_zero]
                rfl
            · rw [if_neg e1]
              by_cases e2 : s = j
              · rw [if_pos e2, e2, hc3]
                unfold gBf
                rw [if_neg (show ¬ (0 : Nat) = 1 by decide)]
                by_cases k0 : k = 0
                · rw [k0, if_pos rfl, Nat.add_zero, guLS]
                  rfl
                · rw [if_neg k0, guLN (by omega), hc2]
                  unfold gdv
                  by_cases hku : k ≤ used + 1
                  · rw [if_neg (by omega), if_pos (by omega), show (B * 132 + j) * 25 + k - 1 = (B * 132 + j) * 25 + (k - 1) from by omega, hcj (k - 1) (by omega)]
                  · rw [if_neg (by omega), if_neg (by omega), hcj k hk, hfj k (by omega), hfj (k - 1) (by omega)]
              · rw [if_neg e2, hc3, guLN (by omega), hc2]
                unfold gdv
                rw [if_neg (by omega), if_neg (by omega)]
                exact (hR1 s hs).2 k hk
          · rw [if_neg (by decide)] at hc3
            by_cases e1 : s = mv j
            · rw [if_pos e1, e1, hc3, hc2]
              unfold gdv gF
              rw [if_pos rfl]
              by_cases k0 : k = 0
              · rw [k0, if_neg (by omega), if_neg (by omega), if_pos rfl, hcm 0 (by omega), Nat.add_zero]
                rfl
              · rw [if_neg k0]
                by_cases hku : k ≤ used + 1
                · rw [if_pos (by omega), show (B * 132 + mv j) * 25 + k - ((B * 132 + mv j) * 25 + 1) + (B * 132 + j) * 25 = (B * 132 + j) * 25 + (k - 1) from by omega, hcm k hk, hcj (k - 1) (by omega), lN_add]
                  rfl
                · rw [if_neg (by omega), if_neg (by omega), hcm k hk, hfj (k - 1) (by omega), Nat.add_zero]
                  rfl
            · rw [if_neg e1, hc3, hc2]
              have ho : gdv c1 ((B * 132 + mv j) * 25 + 1) ((B * 132 + j) * 25) 1 used (used + 1) ((B * 132 + s) * 25 + k) = c1 ((B * 132 + s) * 25 + k) := by
                unfold gdv
                rw [if_neg (by omega), if_neg (by omega)]
              rw [ho]
              by_cases e2 : s = j
              · rw [if_pos e2, e2, hcj k hk]
                unfold gBf
                rw [if_pos rfl]
              · rw [if_neg e2]
                exact (hR1 s hs).2 k hk
        · dsimp only
          have ho : c2 q = c1 q := by
            rw [hc2]
            unfold gdv
            rw [if_neg (by omega), if_neg (by omega)]
          rw [hc3, ← ho]
          by_cases g0 : g = 0
          · rw [if_pos g0, guLN (by omega)]
          · rw [if_neg g0]
        · dsimp only
          rw [guLN (by omega)]
  · rintro ⟨x, c1, t1⟩ ⟨rfl, hR1, hF1⟩
    dsimp only
    unfold zf_X1_divideMoved_l14
    rw [if_pos (Int32.le_refl _)]
    exact ⟨_, rfl, hR1, hF1⟩
