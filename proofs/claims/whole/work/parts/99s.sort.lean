/-! the states of a row put in order -/
theorem gitW {α β : Type} {f : α → Option (α ⊕ β)} (I : α → Prop) (μ : α → Nat) (Q : β → Prop) (hs : ∀ a, I a → (∃ a', f a = some (.inl a') ∧ I a' ∧ μ a' < μ a) ∨ ∃ b, f a = some (.inr b) ∧ Q b) : ∀ n a, I a → μ a < n → ∃ b, zit f n a = some b ∧ Q b := by
  intro n
  induction n with
  | zero => intro a _ h; omega
  | succ n ih =>
    intro a hI hμ
    rcases hs a hI with ⟨a', e, h1, h2⟩ | ⟨b, e, h⟩
    · obtain ⟨b, e2, h3⟩ := ih a' h1 (by omega)
      exact ⟨b, by unfold zit; rw [e]; exact e2, h3⟩
    · exact ⟨b, by unfold zit; rw [e]; rfl, h⟩
theorem gswap {K : Nat} (hK : K + 1 < 1500) (wy : Nat → Int64) : ∃ wy', zit (fun d : Int32 × (Nat → Int64) => zf_X9_sorts_l81 (nI (K + 1)) d.1 d.2) zfu ((0 : Int32), wy) = some wy' ∧ (∀ k, k < 25 → wy' (25 * K + k) = wy (25 * (K + 1) + k) ∧ wy' (25 * (K + 1) + k) = wy (25 * K + k)) ∧ ∀ q, (q < 25 * K ∨ 25 * (K + 1) + 25 ≤ q) → wy' q = wy q := by
  have hH := gitH (f := fun d : Int32 × (Nat → Int64) => zf_X9_sorts_l81 (nI (K + 1)) d.1 d.2) (fun j d => d.1 = nI j ∧ (∀ k, k < 25 → d.2 (25 * K + k) = (if k < j then wy (25 * (K + 1) + k) else wy (25 * K + k)) ∧ d.2 (25 * (K + 1) + k) = if k < j then wy (25 * K + k) else wy (25 * (K + 1) + k)) ∧ ∀ q, (q < 25 * K ∨ 25 * (K + 1) + 25 ≤ q) → d.2 q = wy q) (fun d => (∀ k, k < 25 → d (25 * K + k) = wy (25 * (K + 1) + k) ∧ d (25 * (K + 1) + k) = wy (25 * K + k)) ∧ ∀ q, (q < 25 * K ∨ 25 * (K + 1) + 25 ≤ q) → d q = wy q) 25 (n := zfu) (gfu (by omega)) (a := ((0 : Int32), wy)) ⟨rfl, fun k _ => ⟨by rw [if_neg (by omega)], by rw [if_neg (by omega)]⟩, fun _ _ => rfl⟩ ?_ ?_
  · exact hH
  · rintro j ⟨x, w⟩ hj ⟨rfl, h1, h2⟩
    dsimp only at h1 h2 ⊢
    unfold zf_X9_sorts_l81
    have k1 : (25 : Int32) * nI (K + 1) + nI j = nI (25 * (K + 1) + j) := by rw [show (25 : Int32) = nI 25 from rfl, gmul, nI_add]
    have k2 : (25 : Int32) * (nI (K + 1) - 1) + nI j = nI (25 * K + j) := by rw [show (1 : Int32) = nI 1 from rfl, gsub (by omega), show (25 : Int32) = nI 25 from rfl, gmul, nI_add]; rfl
    have z1 : zgd (nI (25 * (K + 1) + j)) 37500 = true := ggN (by omega) (by decide)
    have z2 : zgd (nI (25 * K + j)) 37500 = true := ggN (by omega) (by decide)
    rw [k1, k2, if_neg (by rw [show (25 : Int32) = nI 25 from rfl, nI_leI (by omega) (by omega)]; omega), if_pos z1, if_pos z2, if_pos z1, if_pos z2, nI_clamp (by omega), nI_clamp (by omega), nI_1, (h1 j hj).1, (h1 j hj).2, if_neg (by omega), if_neg (by omega)]
    refine ⟨_, rfl, rfl, fun k hk => ⟨?_, ?_⟩, fun q hq => ?_⟩
    · dsimp only
      by_cases e : k = j
      · rw [e, guLS, if_pos (by omega)]
      · rw [guLN (by omega), guLN (by omega), (h1 k hk).1]
        by_cases q : k < j
        · rw [if_pos q, if_pos (by omega)]
        · rw [if_neg q, if_neg (by omega)]
    · dsimp only
      by_cases e : k = j
      · rw [e, guLN (by omega), guLS, if_pos (by omega)]
      · rw [guLN (by omega), guLN (by omega), (h1 k hk).2]
        by_cases q : k < j
        · rw [if_pos q, if_pos (by omega)]
        · rw [if_neg q, if_neg (by omega)]
    · dsimp only
      rw [guLN (by omega), guLN (by omega)]; exact h2 q hq
  · rintro ⟨x, w⟩ ⟨rfl, h1, h2⟩
    dsimp only at h1 h2 ⊢
    unfold zf_X9_sorts_l81
    rw [if_pos (by decide)]
    exact ⟨_, rfl, fun k hk => ⟨by rw [(h1 k hk).1, if_pos hk], by rw [(h1 k hk).2, if_pos hk]⟩, h2⟩
/-- the arrays hold a row's states in the order of a list -/
def gAr (g : gG) (row : Nat) (L : List Nat) (cnt : Nat → Nat → Nat) (nb0 : Nat → Int32) (wy0 : Nat → Int64) (nb : Nat → Int32) (wy : Nat → Int64) : Prop := (∀ j u, L[j]? = some u → nb (300 * row + j) = nI (gNum g row u g.1) ∧ ∀ k, k < 25 → wy (25 * (300 * row + j) + k) = lN (cnt u k)) ∧ (∀ q, q / 300 ≠ row → nb q = nb0 q) ∧ ∀ q, q / 7500 ≠ row → wy q = wy0 q
theorem gidxSw {X : List Nat} {w v : Nat} {R : List Nat} {j u : Nat} (h : (X ++ v :: w :: R)[j]? = some u) : (j = X.length ∧ u = v) ∨ (j = X.length + 1 ∧ u = w) ∨ (j ≠ X.length ∧ j ≠ X.length + 1 ∧ (X ++ w :: v :: R)[j]? = some u) := by
  by_cases h1 : j < X.length
  · right; right
    rw [List.getElem?_append_left h1] at h
    exact ⟨by omega, by omega, by rw [List.getElem?_append_left h1]; exact h⟩
  · rw [List.getElem?_append_right (by omega)] at h
    by_cases h2 : j = X.length
    · left
      rw [h2, Nat.sub_self] at h
      exact ⟨h2, (Option.some.inj h).symm⟩
    · by_cases h3 : j = X.length + 1
      · right; left
        rw [h3, show X.length + 1 - X.length = 1 by omega] at h
        exact ⟨h3, (Option.some.inj h).symm⟩
      · right; right
        refine ⟨h2, h3, ?_⟩
        rw [List.getElem?_append_right (by omega)]
        obtain ⟨i, hi⟩ : ∃ i, j - X.length = i + 2 := ⟨j - X.length - 2, by omega⟩
        rw [hi] at h ⊢
        exact h
theorem ginner {g : gG} (hw : gWf g) {row : Nat} (hr : row < 5) {cnt : Nat → Nat → Nat} {nb0 : Nat → Int32} {wy0 : Nat → Int64} {S Z : List Nat} {v : Nat} (hlen : (S ++ v :: Z).length ≤ 132) (hnd : (S ++ v :: Z).Nodup) (hgd : ∀ u ∈ S ++ v :: Z, u < gSz g.1 ∧ gGood g row u) (hS : S.Pairwise (· < ·)) {nb : Nat → Int32} {wy : Nat → Int64} (h : gAr g row (S ++ v :: Z) cnt nb0 wy0 nb wy) : ∃ nb' wy' S', zit (fun d : Int32 × (Nat → Int32) × (Nat → Int64) => zf_X9_sorts_l20 (nI row) d.1 d.2.1 d.2.2) zfu (nI (300 * row + S.length), nb, wy) = some (nb', wy') ∧ gAr g row (S' ++ Z) cnt nb0 wy0 nb' wy' ∧ S'.Pairwise (· < ·) ∧ S'.Perm (S ++ [v]) := by
  rw [List.length_append, List.length_cons] at hlen
  have vg := hgd v (List.mem_append_right _ (List.mem_cons_self ..))
  have hW := gitW (f := fun d : Int32 × (Nat → Int32) × (Nat → Int64) => zf_X9_sorts_l20 (nI row) d.1 d.2.1 d.2.2) (fun d => ∃ X Y, X ++ Y = S ∧ d.1 = nI (300 * row + X.length) ∧ gAr g row (X ++ v :: (Y ++ Z)) cnt nb0 wy0 d.2.1 d.2.2 ∧ ∀ y ∈ Y, v < y) (fun d => d.1.toNatClampNeg) (fun d => ∃ S', gAr g row (S' ++ Z) cnt nb0 wy0 d.1 d.2 ∧ S'.Pairwise (· < ·) ∧ S'.Perm (S ++ [v])) ?_ zfu (nI (300 * row + S.length), nb, wy) ⟨S, [], List.append_nil S, rfl, h, fun y hy => absurd hy (List.not_mem_nil)⟩ (by dsimp only; rw [nI_clamp (by omega)]; exact gfu (by omega))
  · obtain ⟨⟨nb', wy'⟩, e, S', k1, k2, k3⟩ := hW
    exact ⟨nb', wy', S', e, k1, k2, k3⟩
  · rintro ⟨x3, nb1, wy1⟩ ⟨X, Y, hXY, hx, hA, hY⟩
    dsimp only at hx hA ⊢
    subst hx
    have lXY : X.length + Y.length = S.length := by rw [← hXY, List.length_append]
    have k3 : (300 : Int32) * nI row = nI (300 * row) := by rw [show (300 : Int32) = nI 300 from rfl, gmul]
    -- the end: X, v, Y in order
    have fin : (∀ a ∈ X, a < v) → ∃ S', gAr g row (S' ++ Z) cnt nb0 wy0 nb1 wy1 ∧ S'.Pairwise (· < ·) ∧ S'.Perm (S ++ [v]) := by
      intro hX
      rw [← hXY, List.pairwise_append] at hS
      refine ⟨X ++ v :: Y, ?_, ?_, ?_⟩
      · rw [List.append_assoc, List.cons_append]; exact hA
      · rw [List.pairwise_append]
        refine ⟨hS.1, List.Pairwise.cons hY hS.2.1, fun a ha b hb => ?_⟩
        rcases List.mem_cons.mp hb with hb | hb
        · rw [hb]; exact hX a ha
        · exact hS.2.2 a ha b hb
      · rw [← hXY]
        refine List.perm_middle.trans ?_
        exact (List.perm_append_comm (l₁ := [v]) (l₂ := X ++ Y))
    unfold zf_X9_sorts_l20
    rw [k3]
    rcases List.eq_nil_or_concat X with hX0 | ⟨X', w, hX0⟩
    · right
      rw [hX0, List.length_nil, Nat.add_zero, if_pos (Int32.le_refl _)]
      exact ⟨_, rfl, fin (fun a ha => by rw [hX0] at ha; exact absurd ha (List.not_mem_nil))⟩
    · rw [List.concat_eq_append] at hX0
      have lX : X.length = X'.length + 1 := by rw [hX0, List.length_append]; rfl
      have hA' : gAr g row (X' ++ w :: v :: (Y ++ Z)) cnt nb0 wy0 nb1 wy1 := by
        have : X ++ v :: (Y ++ Z) = X' ++ w :: v :: (Y ++ Z) := by rw [hX0, List.append_assoc]; rfl
        rw [← this]; exact hA
      have wS : w ∈ S := by rw [← hXY, hX0]; exact List.mem_append_left _ (List.mem_append_right _ (List.mem_singleton.mpr rfl))
      have wg := hgd w (List.mem_append_left _ wS)
      have wv : w ≠ v := by
        rw [List.nodup_append] at hnd
        exact hnd.2.2 w wS v (List.mem_cons_self ..)
      have aw := (hA'.1 X'.length w (by rw [List.getElem?_append_right (Nat.le_refl _), Nat.sub_self]; rfl))
      have av := (hA'.1 (X'.length + 1) v (by rw [List.getElem?_append_right (by omega), show X'.length + 1 - X'.length = 1 by omega]; rfl))
      have nw := gDig10 hw wg.1 wg.2
      have nv := gDig10 hw vg.1 vg.2
      have k1 : nI (300 * row + X.length) - 1 = nI (300 * row + X'.length) := by rw [show (1 : Int32) = nI 1 from rfl, gsub (by omega), lX]; rfl
      have z1 : zgd (nI (300 * row + X'.length)) 1500 = true := ggN (by omega) (by decide)
      have z2 : zgd (nI (300 * row + X.length)) 1500 = true := ggN (by omega) (by decide)
      rw [k1, if_neg (by rw [nI_leI (by omega) (by omega)]; omega), if_pos z1, if_pos z2, nI_clamp (by omega), nI_clamp (by omega), aw.1, lX, av.1]
      by_cases q : w < v
      · right
        have := gNum_lt hw q vg.1 wg.2 vg.2
        rw [if_pos (by rw [nI_leI (by omega) (by omega)]; omega)]
        refine ⟨_, rfl, fin (fun a ha => ?_)⟩
        rw [← hXY, List.pairwise_append, hX0, List.pairwise_append] at hS
        rw [hX0] at ha
        rcases List.mem_append.mp ha with ha | ha
        · exact Nat.lt_trans (hS.1.2.2 a ha w (List.mem_singleton.mpr rfl)) q
        · rw [List.mem_singleton.mp ha]; exact q
      · left
        have vw : v < w := by omega
        have := gNum_lt hw vw wg.1 vg.2 wg.2
        rw [lX] at z2
        rw [if_neg (by rw [nI_leI (by omega) (by omega)]; omega), if_pos z2, if_pos z1, if_pos z2, if_pos z1]
        obtain ⟨wy2, s1, s2, s3⟩ := gswap (K := 300 * row + X'.length) (by omega) wy1
        rw [Nat.add_assoc] at s1
        rw [s1, Option.bind_some]
        refine ⟨_, rfl, ⟨X', w :: Y, by rw [← hXY, hX0, List.append_assoc]; rfl, ?_, ⟨?_, ?_, ?_⟩, ?_⟩, ?_⟩
        · dsimp only
          rw [show (-1 : Int32) = -nI 1 from by decide, ← Int32.sub_eq_add_neg, gsub (by omega)]
          rfl
        · intro j u hj
          dsimp only
          rcases gidxSw (R := Y ++ Z) hj with ⟨hj1, hu⟩ | ⟨hj1, hu⟩ | ⟨hj1, hj2, hu⟩
          · rw [hj1, hu, gupS]
            exact ⟨rfl, fun k hk => by rw [(s2 k hk).1]; exact av.2 k hk⟩
          · rw [hj1, hu, gupN (by omega), gupS]
            exact ⟨rfl, fun k hk => by
              have := (s2 k hk).2
              rw [Nat.add_assoc (300 * row)] at this
              rw [this]; exact aw.2 k hk⟩
          · obtain ⟨b1, b2⟩ := hA'.1 j u hu
            rw [gupN (by omega), gupN (by omega)]
            exact ⟨b1, fun k hk => by rw [s3 _ (by omega)]; exact b2 k hk⟩
        · intro p hp
          dsimp only
          rw [gupN (by omega), gupN (by omega)]
          exact hA'.2.1 p hp
        · intro p hp
          dsimp only
          rw [s3 p (by omega)]
          exact hA'.2.2 p hp
        · intro y hy
          rcases List.mem_cons.mp hy with hy | hy
          · rw [hy]; exact vw
          · exact hY y hy
        · dsimp only
          rw [show (-1 : Int32) = -nI 1 from by decide, ← Int32.sub_eq_add_neg, gsub (by omega), nI_clamp (by omega)]
          omega
theorem gsorts {g : gG} (hw : gWf g) {row : Nat} (hr : row < 5) {Ls : List Nat} {cnt : Nat → Nat → Nat} {mn0 nb0 : Nat → Int32} {wy0 : Nat → Int64} {mn nb : Nat → Int32} {wy : Nat → Int64} {pl : Nat → Int32} (h : gPr g row Ls cnt mn0 nb0 wy0 mn nb wy pl) : ∃ nb' wy' L', zf_X9_sorts mn nb wy (nI row) = some (nb', wy') ∧ gAr g row L' cnt nb0 wy0 nb' wy' ∧ L'.Pairwise (· < ·) ∧ L'.Perm Ls := by
  have hl := gPr_len hw h
  obtain ⟨h1, h2, h3, h4, h5, h6, h7, h8, h9⟩ := h
  have z5 : zgd (nI row) 5 = true := ggN hr (by decide)
  unfold zf_X9_sorts
  have hH := gitH (f := fun d : Int32 × (Nat → Int32) × (Nat → Int64) => zf_X9_sorts_l2 mn (nI row) d.1 d.2.1 d.2.2) (fun j d => d.1 = nI (j + 1) ∧ ∃ S, S.length = min (j + 1) Ls.length ∧ S.Pairwise (· < ·) ∧ S.Perm (Ls.take (j + 1)) ∧ gAr g row (S ++ Ls.drop (j + 1)) cnt nb0 wy0 d.2.1 d.2.2) (fun d => ∃ S, S.Pairwise (· < ·) ∧ S.Perm Ls ∧ gAr g row S cnt nb0 wy0 d.1 d.2) (Ls.length - 1) (n := zfu) (gfu (by omega)) (a := ((1 : Int32), nb, wy)) ⟨rfl, Ls.take 1, by rw [List.length_take], by
      cases Ls with
      | nil => exact List.Pairwise.nil
      | cons a l => exact List.Pairwise.cons (fun _ h => absurd h (List.not_mem_nil)) List.Pairwise.nil, List.Perm.refl _, by
      rw [List.take_append_drop]
      exact ⟨fun j u hj => ⟨(h4 j u hj).1, (h4 j u hj).2.2⟩, h8, h9⟩⟩ ?_ ?_
  · obtain ⟨⟨nb', wy'⟩, e, S, k1, k2, k3⟩ := hH
    rw [e, Option.bind_some]
    exact ⟨nb', wy', S, rfl, k3, k1, k2⟩
  · rintro j ⟨x, nb1, wy1⟩ hj ⟨rfl, S, s1, s2, s3, s4⟩
    dsimp only at s4 ⊢
    have hj1 : j + 1 < Ls.length := by omega
    have hd : Ls.drop (j + 1) = Ls[j + 1] :: Ls.drop (j + 2) := List.drop_eq_getElem_cons hj1
    rw [hd] at s4
    have sl : S.length = j + 1 := by omega
    have pm : (S ++ Ls[j + 1] :: Ls.drop (j + 2)).Perm Ls := by
      rw [← hd]
      refine (s3.append_right _).trans ?_
      rw [List.take_append_drop]
    unfold zf_X9_sorts_l2 zf_X9_sorts_156
    have kk : (300 : Int32) * nI row + nI (j + 1) = nI (300 * row + S.length) := by rw [show (300 : Int32) = nI 300 from rfl, gmul, nI_add, sl]
    obtain ⟨nb2, wy2, S2, a1, a2, a3, a4⟩ := ginner hw hr (S := S) (Z := Ls.drop (j + 2)) (v := Ls[j + 1]) (by rw [pm.length_eq]; exact hl) (pm.nodup_iff.mpr h1) (fun u hu => h2 u (pm.subset hu)) s2 s4
    rw [if_pos z5, nI_clamp (by omega), h3, if_neg (gle50 (by omega) (by omega) hj1), kk, a1, Option.bind_some, nI_1]
    refine ⟨_, rfl, rfl, S2, ?_, a3, ?_, a2⟩
    · rw [a4.length_eq, List.length_append, sl, List.length_singleton]; omega
    · refine a4.trans ?_
      rw [List.take_succ_eq_append_getElem hj1]
      exact s3.append_right _
  · rintro ⟨x, nb1, wy1⟩ ⟨rfl, S, s1, s2, s3, s4⟩
    dsimp only at s4 ⊢
    unfold zf_X9_sorts_l2
    rw [if_pos z5, nI_clamp (by omega), h3, if_pos (by rw [nI_leI (by omega) (by omega)]; omega)]
    rw [List.take_of_length_le (by omega)] at s3
    rw [List.drop_of_length_le (by omega), List.append_nil] at s4
    exact ⟨_, rfl, S, s2, s3, s4⟩
theorem gsorted_un : ∀ {l l' : List Nat}, l.Pairwise (· < ·) → l'.Pairwise (· < ·) → (∀ v, v ∈ l ↔ v ∈ l') → l = l' := by
  intro l
  induction l with
  | nil =>
    intro l' _ _ h
    cases l' with
    | nil => rfl
    | cons b l' => exact absurd ((h b).mpr (List.mem_cons_self ..)) (List.not_mem_nil)
  | cons a l ih =>
    intro l' p p' h
    cases l' with
    | nil => exact absurd ((h a).mp (List.mem_cons_self ..)) (List.not_mem_nil)
    | cons b l' =>
      have pa := List.pairwise_cons.mp p
      have pb := List.pairwise_cons.mp p'
      have e : a = b := by
        rcases List.mem_cons.mp ((h a).mp (List.mem_cons_self ..)) with k | k
        · exact k
        · rcases List.mem_cons.mp ((h b).mpr (List.mem_cons_self ..)) with k' | k'
          · exact k'.symm
          · have := pb.1 a k; have := pa.1 b k'; omega
      subst e
      rw [ih pa.2 pb.2 (fun v => ?_)]
      constructor
      · intro hv
        rcases List.mem_cons.mp ((h v).mp (List.mem_cons_of_mem _ hv)) with k | k
        · have := pa.1 v hv; omega
        · exact k
      · intro hv
        rcases List.mem_cons.mp ((h v).mpr (List.mem_cons_of_mem _ hv)) with k | k
        · have := pb.1 v hv; omega
        · exact k
