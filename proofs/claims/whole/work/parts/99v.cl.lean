/-! what calls that count have in common: the class counts, the reference lays -/
abbrev gD9 : Type := Int32 × (Nat → Int32) × (Nat → Int32) × (Nat → Int64) × (Nat → Int32) × (Nat → Int32) × (Nat → Int32) × (Nat → Int32) × (Nat → Int32) × (Nat → Int64) × (Nat → Int32)
/-- what the reference has laid, as one: isLaid, many, number, ways, placeOf, label, old, isOpen, freeOnes, joins, given -/
def gLdD (g : gG) (D : gD9) : Prop := gLd g D.1 D.2.1 D.2.2.1 D.2.2.2.2.1 D.2.2.2.1 D.2.2.2.2.2.2.2.2.2.1
theorem glaysD {g : gG} (hok : gOk g) {fc fr : Int32} {ct cs : Nat → Int32} (hM : gRM g fc fr ct cs) (D : gD9) (hD : gLdD g D) : ∃ M : gD9, zf_X9_lays fc fr D.1 ct cs D.2.1 D.2.2.1 D.2.2.2.1 D.2.2.2.2.1 D.2.2.2.2.2.1 D.2.2.2.2.2.2.1 D.2.2.2.2.2.2.2.1 D.2.2.2.2.2.2.2.2.1 D.2.2.2.2.2.2.2.2.2.1 D.2.2.2.2.2.2.2.2.2.2 = some M ∧ M.1 = 1 ∧ gLdD g M := by
  obtain ⟨mn', nb', wy', pl', lb', ol', io', fo', jn', gv', e, h⟩ := glays hok hM hD D.2.2.2.2.2.1 D.2.2.2.2.2.2.1 D.2.2.2.2.2.2.2.1 D.2.2.2.2.2.2.2.2.1 D.2.2.2.2.2.2.2.2.2.2
  exact ⟨(1, mn', nb', wy', pl', lb', ol', io', fo', jn', gv'), e, rfl, h⟩
theorem gLdJ {g : gG} {M : gD9} (m1 : M.1 = 1) (m2 : gLdD g M) {k : Nat} (hk : k < 25) : M.2.2.2.2.2.2.2.2.2.1 k = lN (gJ g k) := (m2.2.2 m1).1 k hk
theorem gLdR {g : gG} {M : gD9} (m1 : M.1 = 1) (m2 : gLdD g M) {row : Nat} (hr : row < g.2.1) : gRowL g row M.2.1 M.2.2.1 M.2.2.2.1 := (m2.2.2 m1).2 row hr
theorem gLdU {g : gG} {M : gD9} {j : Nat} {s : Nat} (m1 : M.1 = 1) (m2 : gLdD g M) {row : Nat} (hr : row < g.2.1) (h : (gSts g row)[j]? = some s) : M.2.2.1 (300 * row + j) = nI (gNum g row s g.1) ∧ ∀ k, k < 25 → M.2.2.2.1 (25 * (300 * row + j) + k) = lN (gW g row s k) := (gLdR m1 m2 hr).2 j s h
abbrev gT8 : Type := Int32 × Int32 × Int32 × Int32 × Option Nat × Int32 × (Nat → Int32) × (Nat → Int32) × (Nat → Int32) × (Nat → Int32) × (Nat → Int32) × (Nat → Int32) × (Nat → Int32) × (Nat → Int64) × (Nat → Int64) × (Nat → Int32) × (Nat → Int64)
/-- what the class has counted: columns, rows, size, steps, grid, used, codes, wetCells, moves, stepPipe, stepSlot, rowStart, longer, counts, totals, freeDownTo, joining -/
def gCt8 (g : gG) (fg : Nat) (T : gT8) : Prop := T.1 = nI g.1 ∧ T.2.1 = nI g.2.1 ∧ T.2.2.1 = nI (gSz g.1) ∧ T.2.2.2.2.1 = some fg ∧ (∀ s, s < gSz g.1 → T.2.2.2.2.2.2.1 s = nI (gCd g.1 s)) ∧ gLz g T.2.2.2.2.2.2.2.1 T.2.2.2.2.2.2.2.2.1 T.2.2.2.2.2.2.2.2.2.1 T.2.2.2.2.2.2.2.2.2.2.1 T.2.2.2.2.2.2.2.2.2.2.2.1 ∧ gFl g T.2.2.2.2.2.2.2.2.2.2.2.2.2.1 T.2.2.2.2.2.2.2.2.2.2.2.2.2.2.1 T.2.2.2.2.2.2.2.2.2.2.2.2.2.2.2.1 T.2.2.2.2.2.2.2.2.2.2.2.2.2.2.2.2
theorem gcountD {xi : Nat → Int32} {xu : Nat → Option Nat} {fg : Nat} {xh : Nat → Nat → Int32} {xk : Nat → Nat → Int64} {LG : List Nat} {G : Nat → zGD} {g : gG} (hok : gOk g) (hg : fg ∈ LG) (hx : gRX g (G fg)) (hc : gCc xi xu xh xk LG G) : ∃ T : gT8, zf_X8_counted fg (xi 7) (xi 8) (xi 9) (xi 10) (xi 11) (xu 1) (xi 12) (xh 1) (xh 2) (xh 3) (xh 4) (xh 5) (xh 6) (xh 7) (xk 0) (xk 1) (xh 8) (xk 2) 16500 660 (G fg) = some T ∧ gCt8 g fg T ∧ gCc (gset (gset (gset (gset (gset xi 7 T.1) 8 T.2.1) 9 T.2.2.1) 10 T.2.2.2.1) 12 T.2.2.2.2.2.1) (gset xu 1 T.2.2.2.2.1) (gset (gset (gset (gset (gset (gset (gset (gset xh 1 T.2.2.2.2.2.2.1) 2 T.2.2.2.2.2.2.2.1) 3 T.2.2.2.2.2.2.2.2.1) 4 T.2.2.2.2.2.2.2.2.2.1) 5 T.2.2.2.2.2.2.2.2.2.2.1) 6 T.2.2.2.2.2.2.2.2.2.2.2.1) 7 T.2.2.2.2.2.2.2.2.2.2.2.2.1) 8 T.2.2.2.2.2.2.2.2.2.2.2.2.2.2.2.1) (gset (gset (gset xk 0 T.2.2.2.2.2.2.2.2.2.2.2.2.2.1) 1 T.2.2.2.2.2.2.2.2.2.2.2.2.2.2.1) 2 T.2.2.2.2.2.2.2.2.2.2.2.2.2.2.2.2) LG G := by
  obtain ⟨u', cd', wt', mv', sp', ss', rs', lg', cn', tt', fd', jn', e, k1, k2, k3, k4⟩ := gcounted hok hg hx hc
  exact ⟨_, e, ⟨rfl, rfl, rfl, rfl, k1, k2, k3⟩, k4 _ _ _ _ rfl rfl rfl rfl rfl rfl rfl rfl rfl rfl rfl rfl rfl rfl rfl rfl rfl rfl rfl rfl rfl rfl rfl rfl rfl rfl rfl rfl⟩
/-- counted again: nothing changes -/
theorem gcount2 {g : gG} (hok : gOk g) {fg : Nat} {d : zGD} (hx : gRX g d) {T : gT8} (hT : gCt8 g fg T) : zf_X8_counted fg T.1 T.2.1 T.2.2.1 T.2.2.2.1 5 T.2.2.2.2.1 T.2.2.2.2.2.1 T.2.2.2.2.2.2.1 T.2.2.2.2.2.2.2.1 T.2.2.2.2.2.2.2.2.1 T.2.2.2.2.2.2.2.2.2.1 T.2.2.2.2.2.2.2.2.2.2.1 T.2.2.2.2.2.2.2.2.2.2.2.1 T.2.2.2.2.2.2.2.2.2.2.2.2.1 T.2.2.2.2.2.2.2.2.2.2.2.2.2.1 T.2.2.2.2.2.2.2.2.2.2.2.2.2.2.1 T.2.2.2.2.2.2.2.2.2.2.2.2.2.2.2.1 T.2.2.2.2.2.2.2.2.2.2.2.2.2.2.2.2 16500 660 d = some T := by
  obtain ⟨t1, t2, t3, t4, -⟩ := hT
  unfold zf_X8_counted zf_X4_fit
  rw [hx.1, hx.2.1, ← t1, ← t2, if_pos rfl, if_pos rfl, Option.bind_some]
  dsimp only
  unfold zf_X1_follow
  rw [if_pos t4, Option.bind_some]
  all_goals rfl
theorem gJ_far {g : gG} (hw : gWf g) {k : Nat} (h : gFree g < k) : gJ g k = 0 := by
  have hr := hw.2.1
  refine gSum_z (fun s _ => ?_)
  have e : gW g (g.2.1 - 1) s k = 0 := by
    show gC g (gRS g.1 (g.2.1 - 1 + 1)) s k = 0
    rw [Nat.sub_add_cancel hr.1]
    exact gC_far g _ s k (by rw [gFs_all hw]; exact h)
  show (if gWs g.1 s = 0 then 0 else gW g (g.2.1 - 1) s k) = 0
  rw [e]
  by_cases q : gWs g.1 s = 0 <;> simp [q]
theorem gSum_le {f f' : Nat → Nat} {n : Nat} (h : ∀ i, i < n → f i ≤ f' i) : gSum f n ≤ gSum f' n := by
  induction n with
  | zero => exact Nat.le_refl _
  | succ n ih => exact Nat.add_le_add (ih fun i hi => h i (by omega)) (h n (by omega))
theorem gJ_ct {g : gG} (hw : gWf g) (k : Nat) : gJ g k ≤ gCt g (gRS g.1 g.2.1) k := by
  refine gSum_le (fun s _ => ?_)
  show (if gWs g.1 s = 0 then 0 else gC g (gRS g.1 (g.2.1 - 1 + 1)) s k) ≤ gC g (gRS g.1 g.2.1) s k
  rw [Nat.sub_add_cancel hw.2.1.1]
  by_cases q : gWs g.1 s = 0
  · rw [if_pos q]; exact Nat.zero_le _
  · rw [if_neg q]; exact Nat.le_refl _
theorem gCt_le {g : gG} (hok : gOk g) (k : Nat) : gCt g (gRS g.1 g.2.1) k ≤ 2 ^ 24 := by
  by_cases q : k ≤ gFs g (gRS g.1 g.2.1)
  · have h := gSum_mem (f := gCt g (gRS g.1 g.2.1)) (n := gFs g (gRS g.1 g.2.1) + 1) (i := k) (by omega)
    rw [gCt_all hok.1 _ (Nat.le_refl _)] at h
    exact Nat.le_trans h (Nat.pow_le_pow_right (by decide) (by rw [gFs_all hok.1]; exact hok.2))
  · rw [show gCt g (gRS g.1 g.2.1) k = 0 from gSum_z fun s _ => gC_far g _ s k (by omega)]
    exact Nat.zero_le _
theorem gJ_le {g : gG} (hok : gOk g) (k : Nat) : gJ g k ≤ 2 ^ 24 := Nat.le_trans (gJ_ct hok.1 k) (gCt_le hok k)
theorem g25 (x : Int32) : (∃ k, k < 25 ∧ x = nI k) ∨ (x < 0 ∨ (24 : Int32) < x) := by
  by_cases h : x < 0
  · exact Or.inr (Or.inl h)
  · obtain ⟨j, hj, rfl⟩ := nI_of h
    by_cases q : j < 25
    · exact Or.inl ⟨j, q, rfl⟩
    · refine Or.inr (Or.inr ?_)
      rw [show (24 : Int32) = nI 24 from rfl, nI_ltI (by decide) hj]
      omega
theorem gisC {k : Nat} (h : k < 25) : zf_X8_isCount (nI k) = some 1 := by
  unfold zf_X8_isCount
  rw [if_neg (nI_pos (by omega)), if_neg (by rw [show (24 : Int32) = nI 24 from rfl, nI_ltI (by decide) (by omega)]; omega)]
theorem gisN {x : Int32} (h : x < 0 ∨ (24 : Int32) < x) : zf_X8_isCount x = some 0 := by
  unfold zf_X8_isCount
  by_cases q : x < 0
  · rw [if_pos q]
  · rw [if_neg q, if_pos (h.resolve_left q)]
theorem gin25 {k : Nat} (h : k < 25) : zf_X9_isIn (nI k) 0 24 = some 1 := by
  rw [gIn, if_neg (nI_pos (by omega)), if_pos (by rw [show (24 : Int32) = nI 24 from rfl, nI_leI (by omega) (by decide)]; omega)]
theorem gin25N {x : Int32} (h : x < 0 ∨ (24 : Int32) < x) : zf_X9_isIn x 0 24 = some 0 := by
  rw [gIn]
  by_cases q : x < 0
  · rw [if_pos q]
  · rw [if_neg q, if_neg (Int32.not_le.mpr (h.resolve_left q))]
theorem ginN {x : Int32} {n : Nat} (hn : n ≤ 24) (h : x < 0 ∨ (24 : Int32) < x) : zf_X9_isIn x 0 (nI n) = some 0 := by
  rw [gIn]
  by_cases q : x < 0
  · rw [if_pos q]
  · rw [if_neg q, if_neg]
    intro k
    have h2 := h.resolve_left q
    have h3 : nI n ≤ (24 : Int32) := by rw [show (24 : Int32) = nI 24 from rfl, nI_leI (by omega) (by decide)]; exact hn
    exact absurd (Int32.le_trans k h3) (Int32.not_le.mpr h2)
theorem ginE {k n : Nat} (hk : k < 2 ^ 31) (hn : n < 2 ^ 31) : zf_X9_isIn (nI k) 0 (nI n) = some (if k ≤ n then 1 else 0) := by
  rw [gIn, if_neg (nI_pos hk)]
  by_cases q : k ≤ n
  · rw [if_pos q, if_pos ((nI_leI hk hn).mpr q)]
  · rw [if_neg q, if_neg (fun h => q ((nI_leI hk hn).mp h))]
theorem gjoinsOf {g : gG} (hok : gOk g) {fc fr : Int32} {ct cs : Nat → Int32} (hM : gRM g fc fr ct cs) (D : gD9) (hD : gLdD g D) {k : Nat} (hk : k < 25) : ∃ M : gD9, zf_X9_joinsOf fc fr D.1 ct cs D.2.1 D.2.2.1 D.2.2.2.1 D.2.2.2.2.1 D.2.2.2.2.2.1 D.2.2.2.2.2.2.1 D.2.2.2.2.2.2.2.1 D.2.2.2.2.2.2.2.2.1 D.2.2.2.2.2.2.2.2.2.1 D.2.2.2.2.2.2.2.2.2.2 (nI k) = some (lN (gJ g k), M) ∧ M.1 = 1 ∧ gLdD g M := by
  obtain ⟨M, e, m1, m2⟩ := glaysD hok hM D hD
  refine ⟨M, ?_, m1, m2⟩
  have f24 := hok.2
  unfold zf_X9_joinsOf
  rw [e, Option.bind_some, gX9free hok.1 hM, Option.bind_some, ginE (by omega) (by omega), Option.bind_some]
  by_cases q : k ≤ gFree g
  · rw [if_pos q, if_neg (show ¬ (1 : Int32) = 0 by decide), if_pos (ggN hk (by decide)), nI_clamp (by omega), gLdJ m1 m2 hk]
    all_goals rfl
  · rw [if_neg q, if_pos rfl, gJ_far hok.1 (by omega)]
    all_goals rfl
theorem gjoinsN {g : gG} (hok : gOk g) {fc fr : Int32} {ct cs : Nat → Int32} (hM : gRM g fc fr ct cs) (D : gD9) (hD : gLdD g D) {x : Int32} (hx : x < 0 ∨ (24 : Int32) < x) : ∃ M : gD9, zf_X9_joinsOf fc fr D.1 ct cs D.2.1 D.2.2.1 D.2.2.2.1 D.2.2.2.2.1 D.2.2.2.2.2.1 D.2.2.2.2.2.2.1 D.2.2.2.2.2.2.2.1 D.2.2.2.2.2.2.2.2.1 D.2.2.2.2.2.2.2.2.2.1 D.2.2.2.2.2.2.2.2.2.2 x = some (0, M) ∧ gLdD g M := by
  obtain ⟨M, e, m1, m2⟩ := glaysD hok hM D hD
  refine ⟨M, ?_, m2⟩
  unfold zf_X9_joinsOf
  rw [e, Option.bind_some, gX9free hok.1 hM, Option.bind_some, ginN hok.2 hx, Option.bind_some, if_pos rfl]
  all_goals rfl
/-- so many choices bar -/
def gBv (g : gG) (k : Nat) : Int64 := if g.2.1 = 1 then 0 else if k ≤ gFree g then gch (gFree g) k - lN (gJ g (gFree g - k)) else 0
theorem gbarsOf {g : gG} (hok : gOk g) {fc fr : Int32} {ct cs : Nat → Int32} (hM : gRM g fc fr ct cs) (D : gD9) (hD : gLdD g D) {k : Nat} (hk : k < 25) : ∃ M : gD9, zf_X9_barsOf fc fr D.1 ct cs D.2.1 D.2.2.1 D.2.2.2.1 D.2.2.2.2.1 D.2.2.2.2.2.1 D.2.2.2.2.2.2.1 D.2.2.2.2.2.2.2.1 D.2.2.2.2.2.2.2.2.1 D.2.2.2.2.2.2.2.2.2.1 D.2.2.2.2.2.2.2.2.2.2 (nI k) = some (gBv g k, M) ∧ gLdD g M := by
  have f24 := hok.2
  have hr := hok.1.2.1
  unfold zf_X9_barsOf gBv
  rw [gX9free hok.1 hM, Option.bind_some]
  by_cases q : g.2.1 = 1
  · rw [if_pos (by rw [hM.2.1, q]; rfl), if_pos q]
    exact ⟨D, rfl, hD⟩
  · rw [if_neg (by rw [hM.2.1, show (1 : Int32) = nI 1 from rfl, nI_eq (by omega) (by decide)]; exact q), if_neg q, ginE (by omega) (by omega), Option.bind_some]
    by_cases p : k ≤ gFree g
    · obtain ⟨M, e, m1, m2⟩ := gjoinsOf hok hM D hD (k := gFree g - k) (by omega)
      rw [if_pos p, if_pos p, if_neg (show ¬ (1 : Int32) = 0 by decide), gchE, gchS f24 (by omega), Option.bind_some, gsub p, e, Option.bind_some]
      exact ⟨M, rfl, m2⟩
    · rw [if_neg p, if_neg p, if_pos rfl]
      exact ⟨D, rfl, hD⟩
theorem gbarsN {g : gG} (hok : gOk g) {fc fr : Int32} {ct cs : Nat → Int32} (hM : gRM g fc fr ct cs) (D : gD9) {x : Int32} (hx : x < 0 ∨ (24 : Int32) < x) : zf_X9_barsOf fc fr D.1 ct cs D.2.1 D.2.2.1 D.2.2.2.1 D.2.2.2.2.1 D.2.2.2.2.2.1 D.2.2.2.2.2.2.1 D.2.2.2.2.2.2.2.1 D.2.2.2.2.2.2.2.2.1 D.2.2.2.2.2.2.2.2.2.1 D.2.2.2.2.2.2.2.2.2.2 x = some (0, D) := by
  unfold zf_X9_barsOf
  rw [gX9free hok.1 hM, Option.bind_some, ginN hok.2 hx, Option.bind_some, if_pos rfl]
  by_cases q : fr = (1 : Int32)
  · rw [if_pos q]
  · rw [if_neg q]
theorem gbarr {g : gG} (hok : gOk g) {d : zGD} (hx : gRX g d) {jn : Nat → Int64} (hj : gJn g jn) {k : Nat} (hk : k < 25) : zf_X8_barring jn 25 (nI k) d = some (gBv g k) := by
  have f24 := hok.2
  have hr := hok.1.2.1
  unfold zf_X8_barring gBv
  rw [gX2free hok.1 hx, Option.bind_some, hx.2.1, if_neg (nI_pos (show k < 2 ^ 31 by omega))]
  by_cases q : g.2.1 = 1
  · rw [if_pos (by rw [q]; decide), if_pos q]
  · rw [if_neg (by rw [show (2 : Int32) = nI 2 from rfl, nI_ltI (by omega) (by decide)]; omega), if_neg q]
    by_cases p : k ≤ gFree g
    · rw [if_pos p, if_neg (by rw [nI_ltI (by omega) (by omega)]; omega), if_pos (by rw [show (25 : Int32) = nI 25 from rfl, nI_ltI (by omega) (by decide)]; omega), gchS f24 (by omega), Option.bind_some, gsub p, if_pos (ggN (by omega) (by decide)), nI_clamp (by omega), hj _ (by omega)]
    · rw [if_neg p, if_pos (by rw [nI_ltI (by omega) (by omega)]; omega)]
theorem gbarrN {g : gG} (hok : gOk g) {d : zGD} (hx : gRX g d) {jn : Nat → Int64} {x : Int32} (h : x < 0 ∨ (24 : Int32) < x) : zf_X8_barring jn 25 x d = some 0 := by
  have f24 := hok.2
  unfold zf_X8_barring
  rw [gX2free hok.1 hx, Option.bind_some]
  by_cases q : d.2.1 < 2
  · rw [if_pos q]
  · rw [if_neg q]
    by_cases p : x < 0
    · rw [if_pos p]
    · rw [if_neg p, if_pos]
      have h2 := h.resolve_left p
      have h3 : nI (gFree g) ≤ (24 : Int32) := by rw [show (24 : Int32) = nI 24 from rfl, nI_leI (by omega) (by decide)]; exact hok.2
      exact Int32.lt_of_le_of_lt h3 h2
theorem gdrow {g : gG} (hw : gWf g) {d : zGD} (hx : gRX g d) (x : Int32) : (∃ Y, Y < g.2.1 ∧ x = nI Y ∧ zf_X8_demandRow x d = some (.inl ()) ∧ zf_X9_isRow (nI g.2.1) x = some 1) ∨ (zf_X8_demandRow x d = some (.inr 1) ∧ zf_X9_isRow (nI g.2.1) x = some 0) := by
  have hc := hw.1
  have hr := hw.2.1
  unfold zf_X8_demandRow zf_X2_hasCell zf_X9_isRow
  rw [hx.1, hx.2.1, gIn, Option.bind_some, if_neg (show ¬ (0 : Int32) < 0 by decide), if_neg (show ¬ nI g.1 ≤ (0 : Int32) from nI_nle (by omega) (by omega))]
  by_cases b0 : x < 0
  · right
    rw [if_pos b0, if_pos b0]
    exact ⟨rfl, rfl⟩
  · rw [if_neg b0, if_neg b0]
    have e2 := gle1 g.2.1 (by omega) x b0
    by_cases b1 : nI g.2.1 ≤ x
    · right
      rw [if_pos b1, if_neg (fun h => e2.mp h b1)]
      exact ⟨rfl, rfl⟩
    · left
      obtain ⟨Y, hY, eY⟩ := gltI (by omega) b0 b1
      rw [if_neg b1, if_pos (e2.mpr b1)]
      exact ⟨Y, hY, eY, rfl, rfl⟩
theorem gwaysTo {g : gG} (hw : gWf g) {cn tt : Nat → Int64} {fd : Nat → Int32} {jn : Nat → Int64} (hF : gFl g cn tt fd jn) {row s k : Nat} (hr : row < g.2.1) (hs : s < gSz g.1) (hk : k < 25) : zf_X1_waysTo 5 cn 16500 (nI row) (nI s) (nI k) = some (lN (gW g row s k)) := by
  have hr5 := hw.2.1.2
  have hz := gSzle hw.1.2
  unfold zf_X1_waysTo
  rw [show (5 : Int32) = nI 5 from rfl, gblk (Or.inr rfl) (by omega), Option.bind_some, show min row (5 - 1) = row by omega, show (132 : Int32) = nI 132 from rfl, show (25 : Int32) = nI 25 from rfl, gmul, nI_add, gmul, nI_add, if_pos (ggN (by omega) (by decide)), nI_clamp (by omega), ((hF.2 row hr).2 s hs).2 k hk]
theorem gtotalOf {g : gG} (hw : gWf g) {cn tt : Nat → Int64} {fd : Nat → Int32} {jn : Nat → Int64} (hF : gFl g cn tt fd jn) {row s : Nat} (hr : row < g.2.1) (hs : s < gSz g.1) : zf_X1_totalOf 5 tt 660 (nI row) (nI s) = some (lN (gTot g row s)) := by
  have hr5 := hw.2.1.2
  have hz := gSzle hw.1.2
  unfold zf_X1_totalOf
  rw [show (5 : Int32) = nI 5 from rfl, gblk (Or.inr rfl) (by omega), Option.bind_some, show min row (5 - 1) = row by omega, show (132 : Int32) = nI 132 from rfl, gmul, nI_add, if_pos (ggN (by omega) (by decide)), nI_clamp (by omega), ((hF.2 row hr).2 s hs).1]
/-- a loop that adds up -/
theorem gsumL {f : Int64 × Int32 → Option ((Int64 × Int32) ⊕ Int64)} (F : Nat → Nat) (m : Nat) (hm : m < 1000000) (hs : ∀ j v, j < m → f (v, nI j) = some (.inl (v + lN (F j), nI (j + 1)))) (hb : ∀ v, f (v, nI m) = some (.inr v)) : zit f zfu ((0 : Int64), (0 : Int32)) = some (lN (gSum F m)) := by
  have e := gitr (f := f) (fun j => (lN (gSum F j), nI j)) m (n := zfu) (b := lN (gSum F m)) (gfu hm) ?_ ?_
  · exact e
  · intro j hj
    rw [hs j _ hj, lN_add]
    rfl
  · exact hb _
/-- the first place of a told range where it holds -/
def gfi (P : Nat → Bool) : Nat → Nat → Option Nat
  | 0, _ => none
  | m + 1, k => if P k then some k else gfi P m (k + 1)
theorem gfi_cong {P P' : Nat → Bool} : ∀ m k, (∀ j, k ≤ j → j < k + m → P j = P' j) → gfi P m k = gfi P' m k := by
  intro m
  induction m with
  | zero => intro k _; rfl
  | succ m ih =>
    intro k h
    show (if P k then some k else gfi P m (k + 1)) = (if P' k then some k else gfi P' m (k + 1))
    rw [h k (Nat.le_refl _) (by omega), ih (k + 1) (fun j h1 h2 => h j (by omega) (by omega))]
theorem gfi_none {P : Nat → Bool} : ∀ m k, (∀ j, k ≤ j → j < k + m → P j = false) → gfi P m k = none := by
  intro m
  induction m with
  | zero => intro k _; rfl
  | succ m ih =>
    intro k h
    show (if P k then some k else gfi P m (k + 1)) = none
    rw [h k (Nat.le_refl _) (by omega), ih (k + 1) (fun j h1 h2 => h j (by omega) (by omega))]
    rfl
theorem gfi_ext {P : Nat → Bool} : ∀ m a k, (∀ j, k + a ≤ j → j < k + a + m → P j = false) → gfi P (a + m) k = gfi P a k := by
  intro m a
  induction a with
  | zero => intro k h; rw [Nat.zero_add]; exact gfi_none m k (fun j h1 h2 => h j (by omega) (by omega))
  | succ a ih =>
    intro k h
    rw [show a + 1 + m = (a + m) + 1 by omega]
    show (if P k then some k else gfi P (a + m) (k + 1)) = (if P k then some k else gfi P a (k + 1))
    rw [ih (k + 1) (fun j h1 h2 => h j (by omega) (by omega))]
theorem gfi_lt {P : Nat → Bool} : ∀ m k r, gfi P m k = some r → r < k + m := by
  intro m
  induction m with
  | zero => intro k r h; cases h
  | succ m ih =>
    intro k r h
    have h' : (if P k then some k else gfi P m (k + 1)) = some r := h
    by_cases q : P k = true
    · rw [if_pos q] at h'; cases h'; omega
    · rw [if_neg q] at h'; have := ih (k + 1) r h'; omega
theorem gitF {α β : Type} {f : α → Option (α ⊕ β)} (P : Nat → Bool) (I : Nat → α → Prop) (Q : Option Nat → β → Prop) (m : Nat) (hP : ∀ j a, j < m → I j a → P j = true → ∃ b, f a = some (.inr b) ∧ Q (some j) b) (hN : ∀ j a, j < m → I j a → P j = false → ∃ a', f a = some (.inl a') ∧ I (j + 1) a') (hb : ∀ a, I m a → ∃ b, f a = some (.inr b) ∧ Q none b) {n : Nat} (h : m < n) {a : α} (h0 : I 0 a) : ∃ b, zit f n a = some b ∧ Q (gfi P m 0) b := by
  have key : ∀ (k j : Nat), j + k = m → ∀ n a, k < n → I j a → ∃ b, zit f n a = some b ∧ Q (gfi P k j) b := by
    intro k
    induction k with
    | zero =>
      intro j hj n a hn hI
      obtain ⟨n, rfl⟩ : ∃ q, n = q + 1 := ⟨n - 1, by omega⟩
      obtain rfl : j = m := by omega
      obtain ⟨b, e, q⟩ := hb a hI
      refine ⟨b, ?_, q⟩
      unfold zit
      rw [e]
      rfl
    | succ k ih =>
      intro j hj n a hn hI
      obtain ⟨n, rfl⟩ : ∃ q, n = q + 1 := ⟨n - 1, by omega⟩
      cases hp : P j with
      | true =>
        obtain ⟨b, e, q⟩ := hP j a (by omega) hI hp
        refine ⟨b, ?_, ?_⟩
        · unfold zit
          rw [e]
          rfl
        · show Q (if P j then some j else gfi P k (j + 1)) b
          rw [if_pos hp]
          exact q
      | false =>
        obtain ⟨a', e, hI'⟩ := hN j a (by omega) hI hp
        obtain ⟨b, e2, q⟩ := ih (j + 1) (by omega) n a' (by omega) hI'
        refine ⟨b, ?_, ?_⟩
        · unfold zit
          rw [e]
          exact e2
        · show Q (if P j then some j else gfi P k (j + 1)) b
          rw [hp]
          exact q
  exact key m 0 (by omega) n a h h0
