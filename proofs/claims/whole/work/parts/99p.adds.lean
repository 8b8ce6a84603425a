/-! the reference adds up what leads to a state -/
theorem gpig : ∀ (n : Nat) (l : List Nat), l.Nodup → (∀ x ∈ l, x < n) → l.length ≤ n := by
  intro n
  induction n with
  | zero =>
    intro l _ h
    cases l with
    | nil => exact Nat.le_refl 0
    | cons a l => exact absurd (h a (List.mem_cons_self ..)) (Nat.not_lt_zero a)
  | succ n ih =>
    intro l hn h
    have h1 := ih (l.erase n) (hn.erase n) (fun x hx => by
      have hx := (List.Nodup.mem_erase_iff hn).mp hx
      have := h x hx.2
      omega)
    have h2 : l.length ≤ (l.erase n).length + 1 := by
      by_cases q : n ∈ l
      · rw [List.length_erase_of_mem q]; omega
      · rw [List.erase_of_not_mem q]; omega
    omega
theorem gzero {K : Nat} (hK : K < 1500) (wy : Nat → Int64) : ∃ wy', zit (fun d : Int32 × (Nat → Int64) => zf_X9_adds_l34 (nI K) d.1 d.2) zfu ((0 : Int32), wy) = some wy' ∧ (∀ k, k < 25 → wy' (25 * K + k) = 0) ∧ ∀ q, (q < 25 * K ∨ 25 * K + 25 ≤ q) → wy' q = wy q := by
  have hH := gitH (f := fun d : Int32 × (Nat → Int64) => zf_X9_adds_l34 (nI K) d.1 d.2) (fun j q => q.1 = nI j ∧ (∀ k, k < j → q.2 (25 * K + k) = 0) ∧ ∀ p, (p < 25 * K ∨ 25 * K + 25 ≤ p) → q.2 p = wy p) (fun q => (∀ k, k < 25 → q (25 * K + k) = 0) ∧ ∀ p, (p < 25 * K ∨ 25 * K + 25 ≤ p) → q p = wy p) 25 (n := zfu) (gfu (by omega)) (a := ((0 : Int32), wy)) ⟨rfl, fun k h => by omega, fun _ _ => rfl⟩ ?_ ?_
  · exact hH
  · rintro j ⟨x, w⟩ hj ⟨rfl, h1, h2⟩
    dsimp only at h1 h2 ⊢
    unfold zf_X9_adds_l34
    have kk : (25 : Int32) * nI K + nI j = nI (25 * K + j) := by rw [show (25 : Int32) = nI 25 from rfl, gmul, nI_add]
    rw [kk, if_neg (by rw [show (25 : Int32) = nI 25 from rfl, nI_leI (by omega) (by omega)]; omega), if_pos (ggN (by omega) (by decide)), nI_clamp (by omega), nI_1]
    refine ⟨_, rfl, rfl, fun k hk => ?_, fun p hp => ?_⟩
    · dsimp only
      by_cases e : k = j
      · rw [e, guLS]
      · rw [guLN (by omega)]; exact h1 k (by omega)
    · dsimp only
      rw [guLN (by omega)]; exact h2 p hp
  · rintro ⟨x, w⟩ ⟨rfl, h1, h2⟩
    dsimp only at h1 h2 ⊢
    unfold zf_X9_adds_l34
    rw [if_pos (by decide)]
    exact ⟨_, rfl, h1, h2⟩
theorem gaddW {K F m : Nat} (hK : K < 1500) (hF : F < 1500) (hne : K ≠ F) (hm : m < 25) (wy : Nat → Int64) : ∃ wy', zit (fun d : Int32 × (Nat → Int64) => zf_X9_adds_l125 (nI F) (nI m) (nI K) d.1 d.2) zfu ((0 : Int32), wy) = some wy' ∧ (∀ k, k < 25 → wy' (25 * K + k) = if m ≤ k then wy (25 * K + k) + wy (25 * F + (k - m)) else wy (25 * K + k)) ∧ ∀ q, (q < 25 * K ∨ 25 * K + 25 ≤ q) → wy' q = wy q := by
  have hH := gitH (f := fun d : Int32 × (Nat → Int64) => zf_X9_adds_l125 (nI F) (nI m) (nI K) d.1 d.2) (fun j q => q.1 = nI j ∧ (∀ k, k < 25 → q.2 (25 * K + k) = if m ≤ k ∧ k < m + j then wy (25 * K + k) + wy (25 * F + (k - m)) else wy (25 * K + k)) ∧ ∀ p, (p < 25 * K ∨ 25 * K + 25 ≤ p) → q.2 p = wy p) (fun q => (∀ k, k < 25 → q (25 * K + k) = if m ≤ k then wy (25 * K + k) + wy (25 * F + (k - m)) else wy (25 * K + k)) ∧ ∀ p, (p < 25 * K ∨ 25 * K + 25 ≤ p) → q p = wy p) (25 - m) (n := zfu) (gfu (by omega)) (a := ((0 : Int32), wy)) ⟨rfl, fun k h => by rw [if_neg (by omega)], fun _ _ => rfl⟩ ?_ ?_
  · exact hH
  · rintro j ⟨x, w⟩ hj ⟨rfl, h1, h2⟩
    dsimp only at h1 h2 ⊢
    unfold zf_X9_adds_l125
    have k1 : (25 : Int32) * nI K + nI j + nI m = nI (25 * K + (m + j)) := by rw [show (25 : Int32) = nI 25 from rfl, gmul, nI_add, nI_add, show 25 * K + j + m = 25 * K + (m + j) by omega]
    have k2 : (25 : Int32) * nI F + nI j = nI (25 * F + j) := by rw [show (25 : Int32) = nI 25 from rfl, gmul, nI_add]
    have z1 : zgd (nI (25 * K + (m + j))) 37500 = true := ggN (by omega) (by decide)
    have z2 : zgd (nI (25 * F + j)) 37500 = true := ggN (by omega) (by decide)
    rw [k1, k2, if_neg (by rw [show (25 : Int32) = nI 25 from rfl, nI_add, nI_leI (by omega) (by omega)]; omega), if_pos z1, if_pos z2, if_pos z1, nI_clamp (by omega), nI_clamp (by omega), nI_1]
    refine ⟨_, rfl, rfl, fun k hk => ?_, fun p hp => ?_⟩
    · dsimp only
      by_cases e : k = m + j
      · rw [e, guLS, h1 (m + j) (by omega), if_neg (by omega), if_pos (by omega), h2 (25 * F + j) (by omega), show m + j - m = j by omega]
      · rw [guLN (by omega), h1 k hk]
        by_cases q : m ≤ k ∧ k < m + j
        · rw [if_pos q, if_pos (by omega)]
        · rw [if_neg q, if_neg (by omega)]
    · dsimp only
      rw [guLN (by omega)]; exact h2 p hp
  · rintro ⟨x, w⟩ ⟨rfl, h1, h2⟩
    dsimp only at h1 h2 ⊢
    unfold zf_X9_adds_l125
    rw [if_pos (by rw [show (25 : Int32) = nI 25 from rfl, nI_add, nI_leI (by omega) (by omega)]; omega)]
    refine ⟨_, rfl, fun k hk => ?_, h2⟩
    rw [h1 k hk]
    by_cases q : m ≤ k
    · rw [if_pos q, if_pos (by omega)]
    · rw [if_neg q, if_neg (by omega)]
/-- the arrays while a row is laid: the states found, what leads to each -/
def gPr (g : gG) (row : Nat) (Ls : List Nat) (cnt : Nat → Nat → Nat) (mn0 nb0 : Nat → Int32) (wy0 : Nat → Int64) (mn nb : Nat → Int32) (wy : Nat → Int64) (pl : Nat → Int32) : Prop :=
  Ls.Nodup ∧ (∀ u ∈ Ls, u < gSz g.1 ∧ gGood g row u) ∧ mn row = nI Ls.length ∧
  (∀ j u, Ls[j]? = some u → nb (300 * row + j) = nI (gNum g row u g.1) ∧ pl (gNum g row u g.1) = nI (j + 1) ∧ ∀ k, k < 25 → wy (25 * (300 * row + j) + k) = lN (cnt u k)) ∧
  (∀ n, n < 100000 → (∀ u ∈ Ls, gNum g row u g.1 ≠ n) → pl n = 0) ∧ (∀ v, v ∉ Ls → ∀ k, cnt v k = 0) ∧
  (∀ y, y ≠ row → mn y = mn0 y) ∧ (∀ q, q / 300 ≠ row → nb q = nb0 q) ∧ ∀ q, q / 7500 ≠ row → wy q = wy0 q
theorem gPr_len {g : gG} (hw : gWf g) {row : Nat} {Ls : List Nat} {cnt : Nat → Nat → Nat} {mn0 nb0 : Nat → Int32} {wy0 : Nat → Int64} {mn nb : Nat → Int32} {wy : Nat → Int64} {pl : Nat → Int32} (h : gPr g row Ls cnt mn0 nb0 wy0 mn nb wy pl) : Ls.length ≤ 132 :=
  Nat.le_trans (gpig (gSz g.1) Ls h.1 (fun x hx => (h.2.1 x hx).1)) (gSzle hw.1.2)
def gFrom (row : Nat) (wy0 : Nat → Int64) (fr : Int32) (D : Nat → Nat) : Prop := (fr = -1 ∧ ∀ k, D k = if k = 0 then 1 else 0) ∨ ∃ F, fr = nI F ∧ F < 1500 ∧ F / 300 ≠ row ∧ ∀ k, k < 25 → wy0 (25 * F + k) = lN (D k)
/-- a state that is found already -/
theorem gadd83 {g : gG} (hw : gWf g) {row : Nat} (hr : row < 5) {Ls : List Nat} {cnt : Nat → Nat → Nat} {mn0 nb0 : Nat → Int32} {wy0 : Nat → Int64} {mn nb : Nat → Int32} {wy : Nat → Int64} {pl : Nat → Int32} (h : gPr g row Ls cnt mn0 nb0 wy0 mn nb wy pl) {u : Nat} (hu : u ∈ Ls) {fr : Int32} {D : Nat → Nat} (hF : gFrom row wy0 fr D) {m : Nat} (hm : m < 25) : ∃ mn' nb' wy' pl', zf_X9_adds_83 mn nb wy pl (nI row) (nI (gNum g row u g.1)) fr (nI m) = some (mn', nb', wy', pl') ∧ gPr g row Ls (fun v k => cnt v k + gFd v k D u m) mn0 nb0 wy0 mn' nb' wy' pl' := by
  have hl := gPr_len hw h
  obtain ⟨h1, h2, h3, h4, h5, h6, h7, h8, h9⟩ := h
  obtain ⟨j, hj⟩ := List.mem_iff_getElem?.mp hu
  have hjl : j < Ls.length := (List.getElem?_eq_some_iff.mp hj).1
  have hn := gDig10 hw (h2 u hu).1 (h2 u hu).2
  obtain ⟨e1, e2, e3⟩ := h4 j u hj
  have uniq : ∀ i v, Ls[i]? = some v → i ≠ j → v ≠ u := by
    intro i v hi hne e
    rw [e] at hi
    exact hne ((List.getElem?_inj (List.getElem?_eq_some_iff.mp hi).1 h1).mp (hi.trans hj.symm))
  have k1 : (300 : Int32) * nI row + nI (j + 1) - 1 = nI (300 * row + j) := by
    rw [show (300 : Int32) = nI 300 from rfl, show (1 : Int32) = nI 1 from rfl, gmul, nI_add, gsub (by omega), show 300 * row + (j + 1) - 1 = 300 * row + j by omega]
  unfold zf_X9_adds_83
  rw [if_pos (ggN hn (by decide)), nI_clamp (by omega), e2, k1]
  -- what is to be shown of the new ways
  have fin : ∀ wy', (∀ k, k < 25 → wy' (25 * (300 * row + j) + k) = lN (cnt u k + gFd u k D u m)) → (∀ q, (q < 25 * (300 * row + j) ∨ 25 * (300 * row + j) + 25 ≤ q) → wy' q = wy q) → gPr g row Ls (fun v k => cnt v k + gFd v k D u m) mn0 nb0 wy0 mn nb wy' pl := by
    intro wy' w1 w2
    refine ⟨h1, h2, h3, fun i v hi => ?_, h5, fun v hv k => ?_, h7, h8, fun q hq => ?_⟩
    · obtain ⟨a1, a2, a3⟩ := h4 i v hi
      refine ⟨a1, a2, fun k hk => ?_⟩
      by_cases e : i = j
      · subst e
        have : v = u := by rw [hj] at hi; exact (Option.some.inj hi).symm
        rw [this]
        exact w1 k hk
      · have : gFd v k D u m = 0 := by unfold gFd; rw [if_neg (fun q => uniq i v hi e q.1.symm)]
        rw [w2 _ (by omega), a3 k hk]
        show _ = lN (cnt v k + gFd v k D u m)
        rw [this]; rfl
    · have : gFd v k D u m = 0 := by unfold gFd; rw [if_neg (fun q => hv (by rw [← q.1]; exact hu))]
      show cnt v k + gFd v k D u m = 0
      rw [h6 v hv k, this]
    · rw [w2 q (by omega)]; exact h9 q hq
  rcases hF with ⟨rfl, hD⟩ | ⟨F, rfl, hF1, hF2, hF3⟩
  · have kk : (25 : Int32) * nI (300 * row + j) + nI m = nI (25 * (300 * row + j) + m) := by rw [show (25 : Int32) = nI 25 from rfl, gmul, nI_add]
    have z1 : zgd (nI (25 * (300 * row + j) + m)) 37500 = true := ggN (by omega) (by decide)
    rw [if_pos rfl, kk, if_pos z1, if_pos z1, nI_clamp (by omega)]
    refine ⟨_, _, _, _, rfl, fin _ (fun k hk => ?_) (fun q hq => guLN (by omega))⟩
    have fd : gFd u k D u m = if k = m then 1 else 0 := by
      unfold gFd
      by_cases q : m ≤ k
      · rw [if_pos ⟨rfl, q⟩, hD]
        by_cases q2 : k = m
        · rw [if_pos q2, if_pos (by omega)]
        · rw [if_neg q2, if_neg (by omega)]
      · rw [if_neg (fun k => q k.2), if_neg (by omega)]
    by_cases e : k = m
    · subst e
      rw [guLS, e3 k hk, fd, if_pos rfl, show (1 : Int64) = lN 1 from rfl, lN_add]
    · rw [guLN (by omega), e3 k hk, fd, if_neg e]; rfl
  · rw [if_neg (by
      intro k
      have : (nI F).toInt = (-1 : Int32).toInt := by rw [k]
      rw [nI_toInt (by omega)] at this
      have e : (-1 : Int32).toInt = -1 := by decide
      omega)]
    obtain ⟨wy', a1, a2, a3⟩ := gaddW (K := 300 * row + j) (F := F) (m := m) (by omega) hF1 (by omega) hm wy
    rw [a1, Option.bind_some]
    refine ⟨_, _, _, _, rfl, fin _ (fun k hk => ?_) a3⟩
    rw [a2 k hk]
    unfold gFd
    by_cases q : m ≤ k
    · rw [if_pos q, if_pos ⟨rfl, q⟩, e3 k hk, h9 _ (by omega), hF3 _ (by omega), lN_add]
    · rw [if_neg q, if_neg (fun k => q k.2), e3 k hk]; rfl
theorem gadds9 {g : gG} (hw : gWf g) {row : Nat} (hr : row < 5) {Ls : List Nat} {cnt : Nat → Nat → Nat} {mn0 nb0 : Nat → Int32} {wy0 : Nat → Int64} {mn nb : Nat → Int32} {wy : Nat → Int64} {pl : Nat → Int32} (h : gPr g row Ls cnt mn0 nb0 wy0 mn nb wy pl) {u : Nat} (hs : u < gSz g.1) (hg : gGood g row u) {fr : Int32} {D : Nat → Nat} (hF : gFrom row wy0 fr D) {m : Nat} (hm : m < 25) : ∃ mn' nb' wy' pl', zf_X9_adds mn nb wy pl (nI row) (nI (gNum g row u g.1)) fr (nI m) = some (mn', nb', wy', pl') ∧ gPr g row (if u ∈ Ls then Ls else Ls ++ [u]) (fun v k => cnt v k + gFd v k D u m) mn0 nb0 wy0 mn' nb' wy' pl' := by
  have hl := gPr_len hw h
  have hn := gDig10 hw hs hg
  have z := ggN hn (by decide)
  unfold zf_X9_adds
  rw [if_pos z, nI_clamp (by omega)]
  by_cases q : u ∈ Ls
  · rw [if_pos q]
    obtain ⟨j, hj⟩ := List.mem_iff_getElem?.mp q
    have hjl : j < Ls.length := (List.getElem?_eq_some_iff.mp hj).1
    rw [(h.2.2.2.1 j u hj).2.1, if_neg (by rw [show (0 : Int32) = nI 0 from rfl, nI_eq (by omega) (by decide)]; omega)]
    exact gadd83 hw hr h q hF hm
  · rw [if_neg q]
    obtain ⟨h1, h2, h3, h4, h5, h6, h7, h8, h9⟩ := h
    have nn : ∀ v ∈ Ls, gNum g row v g.1 ≠ gNum g row u g.1 := fun v hv e => q (by rw [← gNum_inj hw (h2 v hv).1 hs (h2 v hv).2 hg e]; exact hv)
    rw [h5 _ hn nn, if_pos rfl]
    have z5 : zgd (nI row) 5 = true := ggN hr (by decide)
    have k1 : (300 : Int32) * nI row + nI Ls.length = nI (300 * row + Ls.length) := by rw [show (300 : Int32) = nI 300 from rfl, gmul, nI_add]
    rw [if_pos z5, nI_clamp (by omega), h3, k1, if_pos (ggN (by omega) (by decide))]
    obtain ⟨wy1, a1, a2, a3⟩ := gzero (K := 300 * row + Ls.length) (by omega) wy
    rw [a1, Option.bind_some, if_pos z5, if_pos z5, if_pos z5, if_pos z, gupS, nI_1, nI_clamp (by omega)]
    refine gadd83 hw hr (Ls := Ls ++ [u]) (cnt := cnt) ⟨?_, ?_, ?_, ?_, ?_, ?_, ?_, ?_, ?_⟩ (List.mem_append_right _ (List.mem_singleton.mpr rfl)) hF hm
    · rw [List.nodup_append]
      exact ⟨h1, List.Pairwise.cons (fun _ h => absurd h (List.not_mem_nil)) List.Pairwise.nil, fun a ha b hb => by rw [List.mem_singleton.mp hb]; exact fun e => q (e ▸ ha)⟩
    · intro v hv
      rcases List.mem_append.mp hv with hv | hv
      · exact h2 v hv
      · rw [List.mem_singleton.mp hv]; exact ⟨hs, hg⟩
    · rw [gupS, List.length_append]; rfl
    · intro j v hj
      by_cases e : j = Ls.length
      · have hv : v = u := by
          rw [e, List.getElem?_append_right (Nat.le_refl _), Nat.sub_self] at hj
          exact (Option.some.inj hj).symm
        rw [hv, e, gupS, gupS]
        exact ⟨rfl, rfl, fun k hk => by rw [a2 k hk, h6 u q]; rfl⟩
      · have hjl : j < Ls.length := by
          have := (List.getElem?_eq_some_iff.mp hj).1
          rw [List.length_append, List.length_singleton] at this
          omega
        rw [List.getElem?_append_left hjl] at hj
        obtain ⟨b1, b2, b3⟩ := h4 j v hj
        rw [gupN (by omega), gupN (nn v (List.mem_of_getElem? hj))]
        exact ⟨b1, b2, fun k hk => by rw [a3 _ (by omega)]; exact b3 k hk⟩
    · intro n hn1 hn2
      rw [gupN (fun e => hn2 u (List.mem_append_right _ (List.mem_singleton.mpr rfl)) e.symm)]
      exact h5 n hn1 (fun v hv => hn2 v (List.mem_append_left _ hv))
    · intro v hv k
      exact h6 v (fun k => hv (List.mem_append_left _ k)) k
    · intro y hy
      rw [gupN hy]; exact h7 y hy
    · intro p hp
      rw [gupN (by omega)]; exact h8 p hp
    · intro p hp
      rw [a3 p (by omega)]; exact h9 p hp
