/-! tell and put -/
theorem gWfT {g : gG} {p h : Nat} (hw : gWf g) (hp : gTh p g.1 g.2.1 = true) (hh : h ≤ 2) : gWf (gTell g p h) := by
  refine ⟨hw.1, hw.2.1, fun q => ?_, hw.2.2.2⟩
  show (if q = p then h else g.2.2.1 q) ≤ 2 ∧ (gTh q g.1 g.2.1 = false → (if q = p then h else g.2.2.1 q) = 0)
  by_cases e : q = p
  · subst e
    rw [if_pos rfl]
    exact ⟨hh, fun h => by rw [hp] at h; cases h⟩
  · rw [if_neg e]
    exact hw.2.2.1 q
theorem gRMT {g : gG} {p h : Nat} {fc fr : Int32} {ct cs : Nat → Int32} (hm : gRM g fc fr ct cs) : gRM (gTell g p h) fc fr (upd ct p (nI h)) cs := by
  refine ⟨hm.1, hm.2.1, fun q hq => ?_, hm.2.2.2⟩
  show (if q = p then nI h else ct q) = nI (if q = p then h else g.2.2.1 q)
  by_cases e : q = p
  · rw [if_pos e, if_pos e]
  · rw [if_neg e, if_neg e, hm.2.2.1 q hq]
theorem gwithP {g : gG} {d : zGD} {p h : Nat} (hw : gWf g) (hx : gRX g d) (hp : gTh p g.1 g.2.1 = true) (hh : h ≤ 2) : ∃ d', zf_X2_withPipe d.1 d.2.1 d.2.2.1 d.2.2.2.1 d.2.2.2.2.1 (nI p) (nI h) = some d' ∧ gRX (gTell g p h) d' := by
  have h50 := gTh50 hw.2.1.2 hp
  have hw' := gWfT hw hp hh
  have key : ∀ to ts : Int64, (∀ i, i < 64 → gbt to i = decide ((if i = p then h else g.2.2.1 i) = 1)) → (∀ i, i < 64 → gbt ts i = decide ((if i = p then h else g.2.2.1 i) = 2)) → ∃ d', (zf_X2_init d.1 d.2.1 to ts d.2.2.2.2.1).bind (fun o => some o) = some d' ∧ gRX (gTell g p h) d' := by
    intro to ts h1 h2
    obtain ⟨d', e, hr⟩ := gX2init (g := gTell g p h) hw' (to := to) (ts := ts) (st := d.2.2.2.2.1) (fun i hi => ⟨h1 i hi, h2 i hi, (hx.2.2.1 i hi).2.2⟩)
    refine ⟨d', ?_, hr⟩
    rw [hx.1, hx.2.1]
    rw [show zf_X2_init (nI g.1) (nI g.2.1) to ts d.2.2.2.2.1 = some d' from e]
    rfl
  have bOr : ∀ (x : Int64) (v : Nat) (hv : h = v) (hb : ∀ i, i < 64 → gbt x i = decide (g.2.2.1 i = v)), ∀ i, i < 64 → gbt (x ||| zlshl 1 (nI p)) i = decide ((if i = p then h else g.2.2.1 i) = v) := by
    intro x v hv hb i hi
    rw [gbt_or, gbt_bit i (by omega), hb i hi]
    by_cases e : i = p
    · simp [e, hv]
    · simp [e]
  have bAn : ∀ (x : Int64) (v : Nat) (hv : h ≠ v) (hb : ∀ i, i < 64 → gbt x i = decide (g.2.2.1 i = v)), ∀ i, i < 64 → gbt (x &&& (zlshl 1 (nI p) ^^^ (-1))) i = decide ((if i = p then h else g.2.2.1 i) = v) := by
    intro x v hv hb i hi
    rw [gbt_and, gbt_not _ hi, gbt_bit i (by omega), hb i hi]
    by_cases e : i = p
    · simp [e, hv]
    · simp [e]
  have o1 := fun i hi => (hx.2.2.1 i hi).1
  have o2 := fun i hi => (hx.2.2.1 i hi).2.1
  unfold zf_X2_withPipe zf_X2_withPipe_28 zf_X2_withPipe_54
  rcases (show h = 0 ∨ h = 1 ∨ h = 2 by omega) with e | e | e
  · subst e
    rw [if_neg (by decide), if_neg (by decide)]
    exact key _ _ (bAn _ 1 (by decide) o1) (bAn _ 2 (by decide) o2)
  · subst e
    rw [if_pos (by decide), if_neg (by decide)]
    exact key _ _ (bOr _ 1 rfl o1) (bAn _ 2 (by decide) o2)
  · subst e
    rw [if_neg (by decide), if_pos (by decide)]
    exact key _ _ (bAn _ 1 (by decide) o1) (bOr _ 2 rfl o2)
theorem gtold {g : gG} (hw : gWf g) {d : zGD} (hx : gRX g d) {p : Nat} (hp : p < 64) : zf_X2_toldOf d.2.2.1 d.2.2.2.1 (nI p) = some (nI (g.2.2.1 p)) := by
  obtain ⟨b1, b2, -⟩ := hx.2.2.1 p hp
  have h2 := (hw.2.2.1 p).1
  unfold zf_X2_toldOf zf_X2_statusBy
  simp only [gbt_test _ hp, b1, b2]
  rcases (show g.2.2.1 p = 0 ∨ g.2.2.1 p = 1 ∨ g.2.2.1 p = 2 by omega) with e | e | e <;> rw [e] <;> rfl
theorem gupup (c : Nat → Int32) (i : Nat) (v : Int32) : upd (upd c i v) i (c i) = c := by
  funext q
  unfold upd
  by_cases e : q = i
  · rw [if_pos e, e]
  · rw [if_neg e, if_neg e]
theorem gfew {g : gG} (hw : gWf g) {d : zGD} (hx : gRX g d) : zf_X8_demandFewFree d.2.2.2.2.2.2.2 = some (if gFree g ≤ 24 then .inl () else .inr 3) := by
  unfold zf_X8_demandFewFree
  have hl := gMany_le g 0
  rw [gX2free hw hx, Option.bind_some, show (24 : Int32) = nI 24 from rfl]
  simp only [nI_leI (show gFree g < 2 ^ 31 by unfold gFree; omega) (show 24 < 2 ^ 31 by decide)]
  by_cases e : gFree g ≤ 24
  · rw [if_pos e, if_pos e]
  · rw [if_neg e, if_neg e]
theorem gm1 {p : Nat} (h : p < 50) : ¬ nI p = -1 := by
  rw [← Int32.toInt_inj, nI_toInt (by omega)]
  show ¬ (p : Int) = -1
  omega
theorem gnin {q : Nat} {LG : List Nat} {G : Nat → zGD} {d : zGD} : (va_up G q d) q = d := gvS _ _ _
/-- behind an act the invariant holds of the new grid -/
theorem gInvAct {xi : Nat → Int32} {xu : Nat → Option Nat} {fg : Nat} {xh : Nat → Nat → Int32} {xk : Nat → Nat → Int64} {LG : List Nat} {G : Nat → zGD} {mh : Nat → Nat → Int32} {mi : Nat → Int32} {past : List gG} {g g' : gG} {n : Int32} {ac' : Nat → Option Nat} {pt' ps' pc' pr' : Nat → Int32} {d' : zGD} {q : Nat} (hq : q ∉ LG) (hp : gPs (gPast past g) n n ac' LG G pt' ps' pc' pr') (hc : gCc xi xu xh xk LG G) (hx : gRX g' d') : zext LG G (LG ++ [q]) (va_up G q d') ∧ gPs (gPast past g) n n ac' (LG ++ [q]) (va_up G q d') pt' ps' pc' pr' ∧ gCc xi xu xh xk (LG ++ [q]) (va_up G q d') ∧ q ∈ LG ++ [q] ∧ gRX g' (va_up G q d' q) := by
  have he := zextp (G := G) (d := d') hq
  exact ⟨he, gPs_ext he hp, gCc_ext he hc, List.mem_append_right _ (List.mem_singleton.mpr rfl), by rw [gvS]; exact hx⟩
theorem gP6_ok : gP6 gInv := by
  intro xi xu fg xh xk ac LG G mi mh mk h x1 x2 x3 x4 hb
  obtain ⟨g, past, h1, h2, h3, h4, h5, h6, h7⟩ := h
  obtain ⟨hok, hg, hx, hm⟩ := id h3
  unfold zf_X8_tell zf_X9_tell
  rw [hm.1, hm.2.1]
  rcases gpipe hok.1 hx x1 x2 x3 hb with ⟨p, hp, h50, e1, e2⟩ | ⟨e1, e2⟩
  · rw [e1, e2, Option.bind_some, Option.bind_some, if_neg (gm1 h50), gIn, Option.bind_some]
    simp only [Sum.elim_inl]
    unfold zf_X8_demandHow zf_X8_demandHow_9
    by_cases c0 : x4 < 0
    · rw [if_pos c0, if_pos c0, if_pos rfl]
      unfold zf_X9_tell_35
      rw [if_neg (by decide)]
      exact ⟨_, _, rfl, rfl, Or.inr ⟨_, rfl, Or.inr (Or.inl ⟨rfl, rfl⟩), g, past, h1, h2, h3, h4, h5, h6, h7⟩⟩
    rw [if_neg c0, if_neg c0]
    by_cases c1 : ¬ x4 ≤ 2
    · rw [if_neg c1, if_neg c1, if_pos rfl]
      unfold zf_X9_tell_35
      rw [if_neg (by decide)]
      exact ⟨_, _, rfl, rfl, Or.inr ⟨_, rfl, Or.inr (Or.inl ⟨rfl, rfl⟩), g, past, h1, h2, h3, h4, h5, h6, h7⟩⟩
    replace c1 : x4 ≤ 2 := Decidable.not_not.mp c1
    rw [if_pos c1, if_pos c1, if_neg (by decide)]
    obtain ⟨w, hw2, rfl⟩ := gnI (n := 2) (by decide) c0 c1
    obtain ⟨d', ed, hx'⟩ := gwithP hok.1 hx hp hw2
    have hwf' := gWfT hok.1 hp hw2
    have hm' : gRM (gTell g p w) (nI g.1) (nI g.2.1) (upd (mh 4) p (nI w)) (mh 5) := by
      have := gRMT (p := p) (h := w) hm
      rw [hm.1, hm.2.1] at this
      exact this
    rw [Option.bind_some, Sum.elim_inl, gtold hok.1 hx (show p < 64 by omega), Option.bind_some, ed, Option.bind_some, gfew hwf' hx', Option.bind_some]
    unfold zf_X9_tell_35 zf_X9_tell_79
    have z50 : zgd (nI p) 50 = true := ggN h50 (by decide)
    simp only [show ((0 : Int32) ≤ 0) = True from eq_true (by decide), if_true, z50, nI_clamp (show p < 2 ^ 31 by omega), gX9free hwf' hm', Option.bind_some, gupup]
    have hl := gMany_le (gTell g p w) 0
    rw [show (24 : Int32) = nI 24 from rfl]
    simp only [nI_leI (show gFree (gTell g p w) < 2 ^ 31 by unfold gFree; omega) (show 24 < 2 ^ 31 by decide)]
    by_cases hf : gFree (gTell g p w) ≤ 24
    · simp only [hf, if_true, Sum.elim_inl]
      have hmn : gRM g (nI g.1) (nI g.2.1) (mh 4) (mh 5) := ⟨rfl, rfl, hm.2.2⟩
      obtain ⟨n, ac', pt', ps', pc', pr', r1, r2, r3⟩ := gact h4 hok hg hx hmn
      unfold zf_X9_tell_101
      rw [if_pos (by decide), r1, r2, Option.bind_some, Option.bind_some, if_pos (ggN h50 (by decide)), nI_clamp (by omega), hm.2.2.1 p h50]
      refine ⟨_, _, rfl, rfl, Or.inl ⟨_, rfl, rfl, rfl, fun q hq => ?_⟩⟩
      obtain ⟨he, k1, k2, k3, k4⟩ := gInvAct (xi := xi) (mh := mh) (mi := mi) (fg := fg) hq r3 h5 hx'
      exact ⟨gTell g p w, gPast past g, h1, h2, ⟨⟨hwf', hf⟩, k3, k4, hm.1, hm.2.1, hm'.2.2⟩, k1, k2, gld0 h6.1, h7⟩
    · simp only [hf, if_false, show ¬ (1 : Int32) = 0 by decide, Sum.elim_inr]
      unfold zf_X9_tell_101
      rw [if_neg (by decide)]
      exact ⟨_, _, rfl, rfl, Or.inr ⟨_, rfl, Or.inr (Or.inr ⟨rfl, rfl⟩), g, past, h1, h2, h3, h4, h5, h6, h7⟩⟩
  · rw [e1, e2, Option.bind_some, Option.bind_some, if_pos rfl]
    unfold zf_X9_tell_35
    rw [if_neg (by decide)]
    exact ⟨_, _, rfl, rfl, Or.inr ⟨_, rfl, Or.inl ⟨rfl, rfl⟩, g, past, h1, h2, h3, h4, h5, h6, h7⟩⟩
