/-! the lattice: wet cells, moves -/
theorem gLbT : ∀ c : Fin 6, (List.range (gSz c.val)).all (fun s => (List.range c.val).all (fun x => decide (zf_X4_labelIn (nI (gCd c.val s)) (nI x) = some (nI (gLb c.val s x)) ∧ gLb c.val s x < 8))) = true := by decide +kernel
theorem gSz132 : ∀ c : Fin 6, gSz c.val ≤ 132 ∧ (gT c.val).all (fun z => decide (z < 2 ^ 15)) = true := by decide +kernel
theorem gSzle {c : Nat} (hc : c ≤ 5) : gSz c ≤ 132 := (gSz132 ⟨c, by omega⟩).1
theorem gLbE {c s x : Nat} (hc : c ≤ 5) (hs : s < gSz c) (hx : x < c) : zf_X4_labelIn (nI (gCd c s)) (nI x) = some (nI (gLb c s x)) ∧ gLb c s x < 8 := by
  have h1 := List.all_eq_true.mp (gLbT ⟨c, by omega⟩) s (List.mem_range.mpr hs)
  have h2 := List.all_eq_true.mp h1 x (List.mem_range.mpr hx)
  exact of_decide_eq_true h2
/-- wet cells among the first x -/
def gwp (c s : Nat) : Nat → Nat
  | 0 => 0
  | x + 1 => if gLb c s x = 0 then gwp c s x ||| 2 ^ x else gwp c s x
theorem gwpT : ∀ c : Fin 6, (List.range (gSz c.val)).all (fun s => decide (gwp c.val s c.val = gWs c.val s) && (List.range 6).all (fun x => decide (gwp c.val s x < 32))) = true := by decide +kernel
theorem gorT : ∀ (a : Fin 32) (x : Fin 5), (nI a.val ||| zshl (1 : Int32) (nI x.val)) = nI (a.val ||| 2 ^ x.val) := by decide +kernel
theorem guu (w : Nat → Int32) (s : Nat) (a b : Int32) : upd (upd w s a) s b = upd w s b := by
  funext q
  unfold upd
  by_cases h : q = s
  · rw [if_pos h, if_pos h]
  · rw [if_neg h, if_neg h, if_neg h]
theorem gput0S (w : Nat → Int32) (f : Nat → Int32) (s : Nat) : upd (gput w 0 f s) s (f s) = gput w 0 f (s + 1) := by
  have h := gputS w 0 f s
  rwa [Nat.zero_add] at h
theorem gwet {c : Nat} (hc : 1 ≤ c ∧ c ≤ 5) {codes : Nat → Int32} (hcd : ∀ s, s < gSz c → codes s = nI (gCd c s)) (w : Nat → Int32) : zf_X4_findWetCells (nI c) (nI (gSz c)) codes w = some (gput w 0 (fun s => nI (gWs c s)) (gSz c)) := by
  have hz := gSzle hc.2
  unfold zf_X4_findWetCells
  have e := gitr (f := fun d : Int32 × (Nat → Int32) => zf_X4_findWetCells_l2 (nI c) (nI (gSz c)) codes d.1 d.2) (fun s => (nI s, gput w 0 (fun s => nI (gWs c s)) s)) (gSz c) (n := zfu) (b := gput w 0 (fun s => nI (gWs c s)) (gSz c)) (gfu (by omega)) ?_ ?_
  · rw [show ((0 : Int32), w) = (nI 0, gput w 0 (fun s => nI (gWs c s)) 0) from by rw [gput0]; rfl, e]
    rfl
  · intro s hs
    dsimp only
    unfold zf_X4_findWetCells_l2
    have hT := List.all_eq_true.mp (gwpT ⟨c, by omega⟩) s (List.mem_range.mpr hs)
    rw [Bool.and_eq_true] at hT
    have hE : gwp c s c = gWs c s := of_decide_eq_true hT.1
    have hB : ∀ x, x < 6 → gwp c s x < 32 := fun x hx => of_decide_eq_true (List.all_eq_true.mp hT.2 x (List.mem_range.mpr hx))
    have z : zgd (nI s) 132 = true := ggN (by omega) (by decide)
    rw [if_neg (gle50 (by omega) (by omega) hs), if_pos z, nI_clamp (by omega), nI_1]
    have hlast : gput w 0 (fun s => nI (gWs c s)) (s + 1) = upd (gput w 0 (fun s => nI (gWs c s)) s) s (nI (gWs c s)) := (gput0S w (fun s => nI (gWs c s)) s).symm
    rw [hlast]
    generalize gput w 0 (fun s => nI (gWs c s)) s = w0
    have e2 := gitr (f := fun d : Int32 × (Nat → Int32) => zf_X4_findWetCells_l19 (nI c) codes (nI s) d.1 d.2) (fun x => (nI x, upd w0 s (nI (gwp c s x)))) c (n := zfu) (b := upd w0 s (nI (gwp c s c))) (gfu (by omega)) ?_ ?_
    · rw [show ((0 : Int32), upd w0 s (0 : Int32)) = (nI 0, upd w0 s (nI (gwp c s 0))) from rfl, e2, hE]
      rfl
    · intro x hx
      dsimp only
      unfold zf_X4_findWetCells_l19 zf_X4_findWetCells_48 zf_X4_label
      obtain ⟨l1, l2⟩ := gLbE hc.2 hs hx
      rw [if_neg (gle50 (by omega) (by omega) hx), if_pos z, nI_clamp (by omega), hcd s hs, l1, Option.bind_some, Option.bind_some]
      simp only [z, if_true]
      rw [gupS, nI_1, guu, show (nI (gwp c s x) ||| zshl (1 : Int32) (nI x)) = nI (gwp c s x ||| 2 ^ x) from gorT ⟨_, hB x (by omega)⟩ ⟨x, by omega⟩]
      rw [show (0 : Int32) = nI 0 from rfl]
      simp only [nI_eq (show gLb c s x < 2 ^ 31 by omega) (show 0 < 2 ^ 31 by decide)]
      rw [show gwp c s (x + 1) = if gLb c s x = 0 then gwp c s x ||| 2 ^ x else gwp c s x from rfl]
      by_cases h0 : gLb c s x = 0
      · rw [if_pos h0, if_pos h0]
      · rw [if_neg h0, if_neg h0]
    · dsimp only
      unfold zf_X4_findWetCells_l19
      rw [if_pos (Int32.le_refl _)]
  · dsimp only
    unfold zf_X4_findWetCells_l2
    rw [if_pos (Int32.le_refl _)]
