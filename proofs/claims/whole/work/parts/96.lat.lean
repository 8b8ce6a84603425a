/-! the lattice: its states are found by their codes; cells are added -/
theorem gitI {α β : Type} {f : α → Option (α ⊕ β)} (I : Nat → α → Prop) (m : Nat) {n : Nat} {b : β} (h : m < n) {a : α} (h0 : I 0 a) (hs : ∀ j a, j < m → I j a → (∃ a', f a = some (.inl a') ∧ I (j + 1) a') ∨ f a = some (.inr b)) (hb : ∀ a, I m a → f a = some (.inr b)) : zit f n a = some b := by
  have key : ∀ (k j : Nat) (a : α), j + k = m → I j a → ∀ n, k < n → zit f n a = some b := by
    intro k
    induction k with
    | zero =>
      intro j a hj ha n hn
      obtain ⟨n, rfl⟩ : ∃ q, n = q + 1 := ⟨n - 1, by omega⟩
      obtain rfl : j = m := by omega
      unfold zit
      rw [hb a ha]
      rfl
    | succ k ih =>
      intro j a hj ha n hn
      obtain ⟨n, rfl⟩ : ∃ q, n = q + 1 := ⟨n - 1, by omega⟩
      unfold zit
      rcases hs j a (by omega) ha with ⟨a', e, ha'⟩ | e
      · rw [e]
        exact ih (j + 1) a' (by omega) ha' n (by omega)
      · rw [e]
        rfl
  exact key m 0 a (by omega) h0 n h
theorem gidx {codes : Nat → Int32} {n t : Nat} (hn : n ≤ 132) (ht : t < n) {cd : Nat → Nat} (hm : ∀ i j, i < j → j < n → cd i < cd j) (hc : ∀ i, i < n → codes i = nI (cd i) ∧ cd i < 2 ^ 31) : zf_X4_indexOf (nI n) codes (nI (cd t)) = some (nI t) := by
  unfold zf_X4_indexOf
  have e := gitI (f := fun d : Int32 × Int32 × Int32 => zf_X4_indexOf_l12 codes (nI (cd t)) d.1 d.2.1 d.2.2) (fun j a => ∃ L H, a = (nI L, nI H, nI j) ∧ L ≤ t ∧ t ≤ H ∧ H < n ∧ H - L < 2 ^ (8 - j)) 8 (n := zfu) (b := nI t) (gfu (by decide)) (a := ((0 : Int32), nI n - 1, (0 : Int32))) ?_ ?_ ?_
  · rw [e]
    rfl
  · obtain ⟨k, rfl⟩ : ∃ k, n = k + 1 := ⟨n - 1, by omega⟩
    refine ⟨0, k, by rw [nI_pred]; rfl, by omega, by omega, by omega, ?_⟩
    show k - 0 < 256
    omega
  · rintro j a hj ⟨L, H, rfl, h1, h2, h3, h4⟩
    dsimp only
    unfold zf_X4_indexOf_l12 zf_X4_indexOf_53
    rw [if_neg (show ¬ (8 : Int32) ≤ nI j from gle50 (a := 8) (by decide) (by omega) hj)]
    by_cases hl : H ≤ L
    · right
      rw [if_pos ((nI_leI (by omega) (by omega)).mpr hl)]
      congr 3
      omega
    · left
      rw [if_neg (fun q => hl ((nI_leI (by omega) (by omega)).mp q)), nI_add, show (2 : Int32) = nI 2 from rfl, gdiv (by omega) (by decide), if_pos (ggN (by omega) (by decide)), nI_clamp (by omega), (hc _ (show (L + H) / 2 < n by omega)).1, nI_1, nI_1]
      simp only [nI_leI (hc t ht).2 (hc _ (show (L + H) / 2 < n by omega)).2]
      have hp : 2 ^ (8 - j) = 2 * 2 ^ (8 - (j + 1)) := by
        rw [show 8 - j = (8 - (j + 1)) + 1 from by omega, Nat.pow_succ]
        omega
      by_cases hk : cd t ≤ cd ((L + H) / 2)
      · rw [if_pos hk]
        have ht2 : t ≤ (L + H) / 2 := by
          rcases Nat.lt_or_ge ((L + H) / 2) t with q | q
          · have := hm _ _ q ht
            omega
          · exact q
        exact ⟨_, rfl, L, (L + H) / 2, rfl, h1, ht2, by omega, by omega⟩
      · rw [if_neg hk]
        have ht2 : (L + H) / 2 < t := by
          rcases Nat.lt_or_ge ((L + H) / 2) t with q | q
          · exact q
          · rcases Nat.lt_or_ge t ((L + H) / 2) with q2 | q2
            · have := hm _ _ q2 (by omega)
              omega
            · have : t = (L + H) / 2 := by omega
              rw [← this] at hk
              omega
        exact ⟨_, rfl, (L + H) / 2 + 1, H, rfl, by omega, h2, h3, by omega⟩
  · rintro a ⟨L, H, rfl, h1, h2, h3, h4⟩
    dsimp only
    unfold zf_X4_indexOf_l12
    rw [if_pos (by decide)]
    have h4 : H - L < 1 := h4
    congr 3
    omega
/-- the codes of x cells -/
def gLv (x : Nat) : List Nat := if x = 0 then [0] else gT x
def gGr (x code : Nat) : Nat := ((zf_X4_greatestBefore (nI code) (nI x)).getD 0).toNatClampNeg
def gKid (x code l : Nat) : Int32 := nI code ||| zshl (nI l) (nI (3 * (4 - x)))
def gKids (x code n : Nat) : List Int32 := ((List.range n).filter (fun l => decide (zf_X4_crosses (nI code) (nI x) (nI l) = some 0))).map (gKid x code)
theorem gKidT : ∀ x : Fin 5, (gLv x.val).all (fun code => decide (zf_X4_greatestBefore (nI code) (nI x.val) = some (nI (gGr x.val code)) ∧ gGr x.val code < 6) && (List.range 8).all (fun l => decide (zf_X4_crosses (nI code) (nI x.val) (nI l) = some 0) || decide (zf_X4_crosses (nI code) (nI x.val) (nI l) = some 1))) = true := by decide +kernel
theorem gKidA : ∀ x : Fin 5, (gLv x.val).flatMap (fun code => gKids x.val code (gGr x.val code + 2)) = (gLv (x.val + 1)).map nI := by decide +kernel
theorem gLv132 : ∀ x : Fin 6, (gLv x.val).length ≤ 132 ∧ ∀ c ∈ gLv x.val, c < 2 ^ 15 := by decide +kernel
/-- a row whose first places hold a list -/
def gls (lg : Nat → Int32) (L : List Int32) : Nat → Int32 := fun q => if q < L.length then L.getD q 0 else lg q
theorem gls0 (lg : Nat → Int32) : gls lg [] = lg := by
  funext q
  unfold gls
  rw [if_neg (by simp)]
theorem glsS (lg : Nat → Int32) (L : List Int32) (v : Int32) : upd (gls lg L) L.length v = gls lg (L ++ [v]) := by
  funext q
  unfold upd gls
  by_cases h : q = L.length
  · subst h
    rw [if_pos rfl, if_pos (by simp), List.getD_eq_getElem?_getD, List.getElem?_append_right (Nat.le_refl _), Nat.sub_self]
    rfl
  · rw [if_neg h]
    by_cases h2 : q < L.length
    · rw [if_pos h2, if_pos (by simp; omega), List.getD_eq_getElem?_getD, List.getD_eq_getElem?_getD, List.getElem?_append_left h2]
    · rw [if_neg h2, if_neg (by simp; omega)]
theorem gKidsS (x code n : Nat) : gKids x code (n + 1) = gKids x code n ++ (if zf_X4_crosses (nI code) (nI x) (nI n) = some 0 then [gKid x code n] else []) := by
  unfold gKids
  rw [List.range_succ, List.filter_append, List.map_append]
  congr 1
  by_cases h : zf_X4_crosses (nI code) (nI x) (nI n) = some 0
  · simp [h]
  · simp [h]
theorem gKids_le (x code : Nat) {a b : Nat} (h : a ≤ b) : (gKids x code a).length ≤ (gKids x code b).length := by
  obtain ⟨k, rfl⟩ : ∃ k, b = a + k := ⟨b - a, by omega⟩
  clear h
  induction k with
  | zero => exact Nat.le_refl _
  | succ k ih =>
    rw [← Nat.add_assoc, gKidsS, List.length_append]
    omega
theorem gshO {x : Nat} (hx : x < 5) : zf_X4_shiftOf (nI x) = some (nI (3 * (4 - x))) := by
  have k : ∀ x : Fin 5, zf_X4_shiftOf (nI x.val) = some (nI (3 * (4 - x.val))) := by decide +kernel
  exact k ⟨x, hx⟩
theorem gaddI {x : Nat} (hx : x < 5) {codes : Nat → Int32} {s code : Nat} (hs : s < 132) (hcd : codes s = nI code) (hmem : code ∈ gLv x) (lg : Nat → Int32) (L : List Int32) (hL : (L ++ gKids x code (gGr x code + 2)).length ≤ 132) : zit (fun d : Int32 × Int32 × (Nat → Int32) => zf_X4_addCell_l29 codes (nI x) (nI s) (nI (gGr x code) + 1) d.1 d.2.1 d.2.2) zfu (nI L.length, (0 : Int32), gls lg L) = some (nI (L ++ gKids x code (gGr x code + 2)).length, gls lg (L ++ gKids x code (gGr x code + 2))) := by
  have hT := List.all_eq_true.mp (gKidT ⟨x, hx⟩) code hmem
  rw [Bool.and_eq_true] at hT
  have hgr := of_decide_eq_true hT.1
  have hcr := List.all_eq_true.mp hT.2
  have e := gitr (f := fun d : Int32 × Int32 × (Nat → Int32) => zf_X4_addCell_l29 codes (nI x) (nI s) (nI (gGr x code) + 1) d.1 d.2.1 d.2.2) (fun l => (nI (L ++ gKids x code l).length, nI l, gls lg (L ++ gKids x code l))) (gGr x code + 2) (n := zfu) (b := (nI (L ++ gKids x code (gGr x code + 2)).length, gls lg (L ++ gKids x code (gGr x code + 2)))) (gfu (by have := hgr.2; simp only at this; omega)) ?_ ?_
  · rw [← e]
    simp only [show gKids x code 0 = [] from rfl, List.append_nil]
    rfl
  · intro l hl
    have hg6 : gGr x code < 6 := hgr.2
    dsimp only
    unfold zf_X4_addCell_l29 zf_X4_addCell_81
    have c1 : ¬ nI (gGr x code) + 1 < nI l := by
      rw [nI_1, nI_ltI (by omega) (by omega)]
      omega
    have hlen : (L ++ gKids x code (l + 1)).length ≤ 132 := by
      rw [List.length_append] at hL ⊢
      have := gKids_le x code (show l + 1 ≤ gGr x code + 2 by omega)
      omega
    have z : zgd (nI s) 132 = true := ggN hs (by decide)
    have hcl := hcr l (List.mem_range.mpr (by omega))
    simp only [Bool.or_eq_true, decide_eq_true_eq] at hcl
    rw [if_neg c1, nI_clamp (by omega), hcd, nI_1]
    simp only [z, if_true, gshO hx, Option.bind_some]
    rw [gKidsS] at hlen ⊢
    rcases hcl with hc | hc
    · have c0 : zf_X4_crosses (nI code) (nI x) (nI l) = some 0 := hc
      rw [if_pos c0] at hlen ⊢
      rw [← List.append_assoc] at hlen ⊢
      rw [List.length_append, List.length_singleton] at hlen
      have c2 : ¬ (132 : Int32) ≤ nI (L ++ gKids x code l).length := gle50 (a := 132) (by decide) (by omega) (by omega)
      rw [if_neg c2, c0, Option.bind_some, if_pos rfl, if_pos (ggN (by omega) (by decide)), nI_clamp (by omega), nI_1]
      rw [show (nI code ||| zshl (nI l) (nI (3 * (4 - x)))) = gKid x code l from rfl, glsS]
      simp only [List.length_append, List.length_singleton]
    · have c0 : zf_X4_crosses (nI code) (nI x) (nI l) = some 1 := hc
      rw [if_neg (show ¬ zf_X4_crosses (nI code) (nI x) (nI l) = some 0 by rw [c0]; decide), List.append_nil]
      by_cases c2 : (132 : Int32) ≤ nI (L ++ gKids x code l).length
      · rw [if_pos c2]
      · rw [if_neg c2, c0, Option.bind_some, if_neg (by decide)]
  · dsimp only
    unfold zf_X4_addCell_l29
    have hg6 : gGr x code < 6 := hgr.2
    rw [if_pos (by rw [nI_1, nI_ltI (by omega) (by omega)]; omega)]
/-- the codes of x + 1 cells that come of the first s codes of x cells -/
def gAs2 (x s : Nat) : List Int32 := ((gLv x).take s).flatMap (fun code => gKids x code (gGr x code + 2))
theorem gAs2S {x s : Nat} (hs : s < (gLv x).length) : gAs2 x (s + 1) = gAs2 x s ++ gKids x ((gLv x).getD s 0) (gGr x ((gLv x).getD s 0) + 2) := by
  unfold gAs2
  rw [List.take_add_one, List.flatMap_append, List.getElem?_eq_getElem hs, List.getD_eq_getElem?_getD, List.getElem?_eq_getElem hs]
  simp
theorem gAs2E {x : Nat} (hx : x < 5) : gAs2 x (gLv x).length = (gLv (x + 1)).map nI := by
  unfold gAs2
  rw [List.take_length]
  exact gKidA ⟨x, hx⟩
theorem gAs2_le {x : Nat} (hx : x < 5) {s : Nat} (hs : s ≤ (gLv x).length) : (gAs2 x s).length ≤ 132 := by
  have hE : (gAs2 x (gLv x).length).length ≤ 132 := by
    rw [gAs2E hx, List.length_map]
    exact (gLv132 ⟨x + 1, by omega⟩).1
  have mono : ∀ k, s + k ≤ (gLv x).length → (gAs2 x s).length ≤ (gAs2 x (s + k)).length := by
    intro k
    induction k with
    | zero => intro _; exact Nat.le_refl _
    | succ k ih =>
      intro hk
      rw [← Nat.add_assoc, gAs2S (by omega), List.length_append]
      have := ih (by omega)
      omega
  have := mono ((gLv x).length - s) (by omega)
  rw [show s + ((gLv x).length - s) = (gLv x).length from by omega] at this
  omega
theorem gadd {x : Nat} (hx : x < 5) {codes : Nat → Int32} (hc : ∀ s, s < (gLv x).length → codes s = nI ((gLv x).getD s 0)) (lg : Nat → Int32) : ∃ codes' lg', zf_X4_addCell (nI (gLv x).length) codes lg (nI x) = some (nI (gLv (x + 1)).length, codes', lg') ∧ ∀ s, s < (gLv (x + 1)).length → codes' s = nI ((gLv (x + 1)).getD s 0) := by
  have h132 := (gLv132 ⟨x, by omega⟩).1
  have h132' := (gLv132 ⟨x + 1, by omega⟩).1
  simp only at h132 h132'
  unfold zf_X4_addCell
  have e := gitr (f := fun d : Int32 × Int32 × (Nat → Int32) => zf_X4_addCell_l4 (nI (gLv x).length) codes (nI x) d.1 d.2.1 d.2.2) (fun s => (nI (gAs2 x s).length, nI s, gls lg (gAs2 x s))) (gLv x).length (n := zfu) (b := (nI (gAs2 x (gLv x).length).length, gls lg (gAs2 x (gLv x).length))) (gfu (by omega)) ?_ ?_
  · rw [show ((0 : Int32), (0 : Int32), lg) = (nI (gAs2 x 0).length, nI 0, gls lg (gAs2 x 0)) from by rw [show gAs2 x 0 = [] from rfl, gls0]; rfl, e, gAs2E hx, List.length_map, Option.bind_some]
    have z : zcg (0 : Int32) (0 : Int32) (nI (gLv (x + 1)).length) 132 132 = true := by
      unfold zcg
      refine decide_eq_true ⟨by decide, by decide, nI_pos (by omega), ?_, ?_⟩
      · rw [nI_clamp (by omega)]
        show 0 + _ ≤ 132
        omega
      · rw [nI_clamp (by omega)]
        show 0 + _ ≤ 132
        omega
    rw [if_pos z]
    refine ⟨_, _, rfl, fun s hs => ?_⟩
    rw [nI_clamp (by omega)]
    show va_cpy _ codes 0 0 _ s = _
    unfold va_cpy
    simp only [Nat.zero_le, Nat.zero_add, true_and, hs, if_true, Nat.sub_zero]
    unfold gls
    rw [if_pos (by rw [List.length_map]; exact hs), List.getD_eq_getElem?_getD, List.getElem?_map, List.getD_eq_getElem?_getD, List.getElem?_eq_getElem hs]
    rfl
  · intro s hs
    dsimp only
    unfold zf_X4_addCell_l4
    have hmem : (gLv x).getD s 0 ∈ gLv x := by
      rw [List.getD_eq_getElem?_getD, List.getElem?_eq_getElem hs]
      exact List.getElem_mem hs
    have hT := List.all_eq_true.mp (gKidT ⟨x, hx⟩) _ hmem
    rw [Bool.and_eq_true] at hT
    have hgr := of_decide_eq_true hT.1
    have hg1 : zf_X4_greatestBefore (nI ((gLv x).getD s 0)) (nI x) = some (nI (gGr x ((gLv x).getD s 0))) := hgr.1
    rw [if_neg (gle50 (by omega) (by omega) hs), if_pos (ggN (by omega) (by decide)), nI_clamp (by omega), hc s hs, hg1, Option.bind_some]
    have hle := gAs2_le hx (s := s + 1) (by omega)
    rw [gAs2S hs] at hle
    rw [gaddI hx (by omega) (hc s hs) hmem lg (gAs2 x s) hle, Option.bind_some, nI_1, gAs2S hs]
  · dsimp only
    unfold zf_X4_addCell_l4
    rw [if_pos (Int32.le_refl _)]
