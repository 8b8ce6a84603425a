/-! read -/
theorem gclr1 (nt0 nh0 : Nat → Int32) : ∃ nt nh, zit (fun d : Int32 × (Nat → Int32) × (Nat → Int32) => zf_X9_read_l25 d.1 d.2.1 d.2.2) zfu ((0 : Int32), nt0, nh0) = some (nt, nh) ∧ ∀ p, p < 50 → nt p = 0 ∧ nh p = 0 := by
  have hH := gitH (f := fun d : Int32 × (Nat → Int32) × (Nat → Int32) => zf_X9_read_l25 d.1 d.2.1 d.2.2) (fun j d => d.1 = nI j ∧ ∀ p, p < j → d.2.1 p = 0 ∧ d.2.2 p = 0) (fun o => ∀ p, p < 50 → o.1 p = 0 ∧ o.2 p = 0) 50 (n := zfu) (gfu (by decide)) (a := ((0 : Int32), nt0, nh0)) ⟨rfl, fun p h => by omega⟩ ?_ ?_
  · obtain ⟨⟨nt, nh⟩, e, k⟩ := hH
    exact ⟨nt, nh, e, k⟩
  · rintro j ⟨x1, c1, c2⟩ hj ⟨rfl, k⟩
    dsimp only at k ⊢
    unfold zf_X9_read_l25
    rw [if_neg (gl50 hj), if_pos (ggN hj (by decide)), if_pos (ggN hj (by decide)), nI_1, nI_clamp (by omega)]
    refine ⟨_, rfl, rfl, fun p hp => ?_⟩
    dsimp only
    by_cases e : p = j
    · rw [e, gupS, gupS]; exact ⟨rfl, gnar false⟩
    · rw [gupN e, gupN e]; exact k p (by omega)
  · rintro ⟨x1, c1, c2⟩ ⟨rfl, k⟩
    dsimp only at k ⊢
    unfold zf_X9_read_l25
    rw [if_pos (by decide)]
    exact ⟨_, rfl, k⟩
theorem gclr2 (ns0 : Nat → Int32) : ∃ ns, zit (fun d : Int32 × (Nat → Int32) => zf_X9_read_l53 d.1 d.2) zfu ((0 : Int32), ns0) = some ns ∧ ∀ p, p < 25 → ns p = 0 := by
  have hH := gitH (f := fun d : Int32 × (Nat → Int32) => zf_X9_read_l53 d.1 d.2) (fun j d => d.1 = nI j ∧ ∀ p, p < j → d.2 p = 0) (fun o => ∀ p, p < 25 → o p = 0) 25 (n := zfu) (gfu (by decide)) (a := ((0 : Int32), ns0)) ⟨rfl, fun p h => by omega⟩ ?_ ?_
  · exact hH
  · rintro j ⟨x1, c1⟩ hj ⟨rfl, k⟩
    dsimp only at k ⊢
    unfold zf_X9_read_l53
    rw [if_neg (gle25 hj), if_pos (ggN hj (by decide)), nI_1, nI_clamp (by omega)]
    refine ⟨_, rfl, rfl, fun p hp => ?_⟩
    dsimp only
    by_cases e : p = j
    · rw [e, gupS]; exact gnar false
    · rw [gupN e]; exact k p (by omega)
  · rintro ⟨x1, c1⟩ ⟨rfl, k⟩
    dsimp only at k ⊢
    unfold zf_X9_read_l53
    rw [if_pos (by decide)]
    exact ⟨_, rfl, k⟩
theorem gcpy1 (nt tl : Nat → Int32) : ∃ tl', zit (fun d : Int32 × (Nat → Int32) => zf_X9_read_l270 nt d.1 d.2) zfu ((0 : Int32), tl) = some tl' ∧ ∀ p, p < 50 → tl' p = nt p := by
  have hH := gitH (f := fun d : Int32 × (Nat → Int32) => zf_X9_read_l270 nt d.1 d.2) (fun j d => d.1 = nI j ∧ ∀ p, p < j → d.2 p = nt p) (fun o => ∀ p, p < 50 → o p = nt p) 50 (n := zfu) (gfu (by decide)) (a := ((0 : Int32), tl)) ⟨rfl, fun p h => by omega⟩ ?_ ?_
  · exact hH
  · rintro j ⟨x1, c1⟩ hj ⟨rfl, k⟩
    dsimp only at k ⊢
    unfold zf_X9_read_l270
    rw [if_neg (gl50 hj), if_pos (ggN hj (by decide)), if_pos (ggN hj (by decide)), nI_1, nI_clamp (by omega)]
    refine ⟨_, rfl, rfl, fun p hp => ?_⟩
    dsimp only
    by_cases e : p = j
    · rw [e, gupS]
    · rw [gupN e]; exact k p (by omega)
  · rintro ⟨x1, c1⟩ ⟨rfl, k⟩
    dsimp only at k ⊢
    unfold zf_X9_read_l270
    rw [if_pos (by decide)]
    exact ⟨_, rfl, k⟩
theorem gcpy2 {ns : Nat → Int32} {sb : Nat → Bool} (hs : ∀ k, k < 25 → ns k = gbI (sb k)) (st : Nat → Int32) : ∃ st', zit (fun d : Int32 × (Nat → Int32) => zf_X9_read_l296 ns d.1 d.2) zfu ((0 : Int32), st) = some st' ∧ ∀ k, k < 25 → st' k = gbI (sb k) := by
  have hH := gitH (f := fun d : Int32 × (Nat → Int32) => zf_X9_read_l296 ns d.1 d.2) (fun j d => d.1 = nI j ∧ ∀ p, p < j → d.2 p = gbI (sb p)) (fun o => ∀ p, p < 25 → o p = gbI (sb p)) 25 (n := zfu) (gfu (by decide)) (a := ((0 : Int32), st)) ⟨rfl, fun p h => by omega⟩ ?_ ?_
  · exact hH
  · rintro j ⟨x1, c1⟩ hj ⟨rfl, k⟩
    dsimp only at k ⊢
    unfold zf_X9_read_l296
    rw [if_neg (gle25 hj), if_pos (ggN hj (by decide)), if_pos (ggN hj (by decide)), nI_1, nI_clamp (by omega), hs j hj, gnar]
    refine ⟨_, rfl, rfl, fun p hp => ?_⟩
    dsimp only
    by_cases e : p = j
    · rw [e, gupS]
    · rw [gupN e]; exact k p (by omega)
  · rintro ⟨x1, c1⟩ ⟨rfl, k⟩
    dsimp only at k ⊢
    unfold zf_X9_read_l296
    rw [if_pos (by decide)]
    exact ⟨_, rfl, k⟩
