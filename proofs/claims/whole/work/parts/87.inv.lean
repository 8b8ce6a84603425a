/-! the invariant of both states -/
def gEff (g : gG) (a : Nat → Bool) (p : Nat) : Bool := if gHow g p = 0 then a p else decide (gHow g p = 1)
/-- the state behind i steps, by a choice of the free pipes -/
def gSf (g : gG) (a : Nat → Bool) : Nat → Nat
  | 0 => gS0 g
  | i + 1 => if gEff g a (gStep g i).1 = decide ((gStep g i).1 % 2 = 0) then gMv g.1 (gStep g i).2 (gSf g a i) else gSf g a i
/-- a choice by its bits: the free pipes in their order -/
def gAs (g : gG) (c : Nat) (p : Nat) : Bool := c.testBit (gct (gIs g 0) p)
def gJb (g : gG) (c : Nat) : Bool := decide (gWs g.1 (gSf g (gAs g c) (gRS g.1 g.2.1)) ≠ 0)
def gTry (g : gG) (c : Nat) : Nat := if gJb g c then (if (List.range 12).any (fun i => c.testBit i && gJb g (c ^^^ 2 ^ i)) then 1 else 2) else 0
def gPw (a : Int64) : Nat → Int64
  | 0 => 1
  | n + 1 => gPw a n * a
def gSuL (f : Nat → Int64) : Nat → Int64
  | 0 => 0
  | n + 1 => gSuL f n + f n
/-- the weight of the choices of the other pipes in which a free pipe decides -/
def gDec (g : gG) (a d : Int64) (p : Nat) : Int64 := gSuL (fun k => (lN (gJ (gTell g p 1) k) - lN (gJ (gTell g p 2) k)) * (gPw a k * gPw d (gFree g - 1 - k))) (gFree g)
/-- the least number of open pipes by which n of d parts of the choices join -/
def gLeast (g : gG) (ch : Nat → Int64) (n d : Int64) : Nat → Nat → Int32
  | 0, _ => -1
  | m + 1, k => if lN (gJ g k) * d ≥ ch k * n then nI k else gLeast g ch n d m (k + 1)
def gOk (g : gG) : Prop := gWf g ∧ gFree g ≤ 24
def gTx (len tap flt mflt : Int32) (bs tp : Nat → Int32) : Prop := ∃ n, n ≤ 400 ∧ len = nI n ∧ tap = nI n ∧ flt = mflt ∧ ∀ i, i < n → bs i = tp i ∧ ∃ z, z < 256 ∧ bs i = nI z
def gWr (wl mwl : Int32) (w mw : Nat → Int32) : Prop := ∃ n, n ≤ 90 ∧ wl = nI n ∧ mwl = nI n ∧ ∀ i, i < n → w i = mw i
def gPs (past : List gG) (na ma : Int32) (ac : Nat → Option Nat) (LG : List Nat) (G : Nat → zGD) (pt ps pc pr : Nat → Int32) : Prop := past.length ≤ 16 ∧ na = nI past.length ∧ ma = nI past.length ∧ ∀ i g, past[i]? = some g → gOk g ∧ (∃ q, q ∈ LG ∧ ac i = some q ∧ gRX g (G q)) ∧ pc i = nI g.1 ∧ pr i = nI g.2.1 ∧ (∀ p, p < 50 → pt (50 * i + p) = nI (g.2.2.1 p)) ∧ ∀ k, k < 25 → ps (25 * i + k) = gbI (g.2.2.2 k)
def gLt (lc lr lz ls : Int32) (cd wt mv sp ss rs : Nat → Int32) : Prop := (lc = 0 ∧ lr = 0) ∨ ∃ c r, (1 ≤ c ∧ c ≤ 5) ∧ (1 ≤ r ∧ r ≤ 5) ∧ lc = nI c ∧ lr = nI r ∧ lz = nI (gSz c) ∧ ls = nI (gRS c r) ∧ (∀ s, s < gSz c → cd s = nI (gCd c s) ∧ wt s = nI (gWs c s)) ∧ (∀ x s, x < c → s < gSz c → mv (x * 132 + s) = nI (gMv c x s) ∧ (0 < x → mv ((4 + x) * 132 + s) = nI (gMv c (4 + x) s))) ∧ (∀ i, i < gRS c r → sp i = nI ((gSteps c r).getD i (0, 0)).1 ∧ ss i = nI ((gSteps c r).getD i (0, 0)).2) ∧ ∀ y, y ≤ r → rs y = nI (gRS c y)
def gJn (g : gG) (jn : Nat → Int64) : Prop := ∀ k, k < 25 → jn k = lN (gJ g k)
def gFl (g : gG) (cn tt : Nat → Int64) (fd : Nat → Int32) (jn : Nat → Int64) : Prop := gJn g jn ∧ ∀ row, row < g.2.1 → fd row = nI (gFs g (gEnd g row)) ∧ ∀ s, s < gSz g.1 → tt (row * 132 + s) = lN (gTot g row s) ∧ ∀ k, k < 25 → cn ((row * 132 + s) * 25 + k) = lN (gW g row s k)
/-- what the class has found ahead, each thing of the grid that it was found for -/
def gCc (xi : Nat → Int32) (xu : Nat → Option Nat) (xh : Nat → Nat → Int32) (xk : Nat → Nat → Int64) (LG : List Nat) (G : Nat → zGD) : Prop :=
  gLt (xi 7) (xi 8) (xi 9) (xi 10) (xh 1) (xh 2) (xh 3) (xh 4) (xh 5) (xh 6) ∧ xi 11 = 5 ∧ xi 14 = 1 ∧ zin (xu 3) LG = true ∧
  (∀ q, xu 1 = some q → q ∈ LG ∧ ∃ g, gOk g ∧ gRX g (G q) ∧ gFl g (xk 0) (xk 1) (xh 8) (xk 2)) ∧
  (∀ q, xu 0 = some q → q ∈ LG ∧ ∃ g p, gOk g ∧ gRX g (G q) ∧ xi 2 = nI p ∧ gIs g 0 p = true ∧ gJn (gTell g p 2) (xk 6)) ∧
  (∀ q, xu 4 = some q → q ∈ LG ∧ ∃ g a d, gOk g ∧ gRX g (G q) ∧ a ≤ 6 ∧ d ≤ 6 ∧ xi 16 = nI a ∧ xi 17 = nI d ∧ ∀ p, gIs g 0 p = true → xk 7 p = gDec g (lN a) (lN d) p) ∧
  (∀ q, xu 2 = some q → q ∈ LG ∧ ∃ g, gOk g ∧ gFree g ≤ 12 ∧ gRX g (G q) ∧ xi 13 = nI (2 ^ gFree g) ∧ ∀ c, c < 2 ^ gFree g → xh 9 c = nI (gTry g c))
/-- what the reference has laid -/
def gLd (g : gG) (il : Int32) (many number place : Nat → Int32) (ways joins : Nat → Int64) : Prop := (∀ i, i < 100000 → place i = 0) ∧ (il = 0 ∨ il = 1) ∧ (il = 1 → gJn g joins ∧ ∀ row, row < g.2.1 → many row = nI (gSts g row).length ∧ ∀ j s, (gSts g row)[j]? = some s → number (300 * row + j) = nI (gNum g row s g.1) ∧ ∀ k, k < 25 → ways (25 * (300 * row + j) + k) = lN (gW g row s k))
def gKp (is mis fr mfr hf mhf : Int32) (kj mkj : Nat → Int64) : Prop := mis = is ∧ (is = 0 ∨ (is = 1 ∧ ∃ g, gOk g ∧ fr = nI (gFree g) ∧ mfr = fr ∧ mhf = hf ∧ (hf = -1 ∨ ∃ n, n ≤ gFree g ∧ hf = nI n) ∧ ∀ k, k < 25 → kj k = lN (gJ g k) ∧ mkj k = lN (gJ g k)))
def gInv : gV := fun xi xu fg xh xk ac LG G mi mh mk => ∃ (g : gG) (past : List gG),
  gTx (xi 3) (mi 1) (xi 6) (mi 4) (xh 0) (mh 0) ∧ gWr (xi 0) (mi 16) (xh 12) (mh 20) ∧
  (gOk g ∧ fg ∈ LG ∧ gRX g (G fg) ∧ gRM g (mi 7) (mi 8) (mh 4) (mh 5)) ∧
  gPs past (xi 1) (mi 9) ac LG G (mh 6) (mh 7) (mh 8) (mh 9) ∧
  gCc xi xu xh xk LG G ∧ gLd g (mi 10) (mh 12) (mh 13) (mh 14) (mk 0) (mk 1) ∧ gKp (xi 18) (mi 13) (xi 19) (mi 15) (xi 20) (mi 14) (xk 10) (mk 3)
theorem gInvG : gHG gInv := by
  intro xi xu fg xh xk ac LG G mi mh mk h
  obtain ⟨g, past, h1, h2, h3, h4, h5, -⟩ := h
  exact ⟨h3.2.1, h5.2.2.2.1⟩
theorem gwf1 : gWf (1, 1, fun _ => 0, fun _ => false) := ⟨⟨by decide, by decide⟩, ⟨by decide, by decide⟩, fun p => ⟨Nat.zero_le 2, fun _ => rfl⟩, fun k h => by cases h⟩
theorem gok1 : gOk (1, 1, fun _ => 0, fun _ => false) := ⟨gwf1, by decide +kernel⟩
theorem grx1 : gRX (1, 1, fun _ => 0, fun _ => false) (1, 1, 0, 0, 0, 0, 0, 0) := by
  refine ⟨rfl, rfl, fun i hi => ?_, fun i hi => ?_⟩
  · simp only [gbt_zero]
    refine ⟨by simp, by simp, by simp⟩
  · have h : gTh i 1 1 = false := by
      cases ht : gTh i 1 1 with
      | false => rfl
      | true =>
        unfold gTh at ht
        by_cases ho : i % 2 = 1
        · rw [if_pos ho] at ht; simp at ht
        · rw [if_neg ho] at ht; simp at ht
    simp only [gbt_zero]
    rw [h]
    simp
/-- two new objects -/
theorem gInv0 (q : Nat) : gInv gx0 (fun _ => none) q (fun _ _ => 0) (fun _ _ => 0) (fun _ => none) [q] (fun _ => (1, 1, 0, 0, 0, 0, 0, 0)) gm0 (fun _ _ => 0) (fun _ _ => 0) := by
  refine ⟨(1, 1, fun _ => 0, fun _ => false), [], ⟨0, by decide, rfl, rfl, rfl, fun i h => by omega⟩, ⟨0, by decide, rfl, rfl, fun i h => by omega⟩, ⟨gok1, List.mem_singleton.mpr rfl, grx1, rfl, rfl, fun p _ => rfl, fun k _ => rfl⟩, ⟨by decide, rfl, rfl, fun i g h => by simp at h⟩, ⟨Or.inl ⟨rfl, rfl⟩, rfl, rfl, rfl, (fun q h => nomatch h), (fun q h => nomatch h), (fun q h => nomatch h), (fun q h => nomatch h)⟩, ⟨fun i _ => rfl, Or.inl rfl, fun h => absurd h (by decide)⟩, rfl, Or.inl rfl⟩
