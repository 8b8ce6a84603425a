/-! put -/
def gPut (g : gG) (k : Nat) (b : Bool) : gG := (g.1, g.2.1, g.2.2.1, fun z => if z = k then b else g.2.2.2 z)
theorem gWfS {g : gG} {X Y : Nat} {b : Bool} (hw : gWf g) (hX : X < g.1) (hY : Y < g.2.1) : gWf (gPut g (5 * Y + X) b) := by
  have h1 := hw.1
  refine ⟨hw.1, hw.2.1, hw.2.2.1, fun k hk => ?_⟩
  show k % 5 < g.1 ∧ k / 5 < g.2.1
  by_cases e : k = 5 * Y + X
  · omega
  · refine hw.2.2.2 k ?_
    have hk : (if k = 5 * Y + X then b else g.2.2.2 k) = true := hk
    rwa [if_neg e] at hk
theorem gRMS {g : gG} {k : Nat} {b : Bool} {fc fr : Int32} {ct cs : Nat → Int32} (hm : gRM g fc fr ct cs) : gRM (gPut g k b) fc fr ct (upd cs k (gbI b)) := by
  refine ⟨hm.1, hm.2.1, hm.2.2.1, fun z hz => ?_⟩
  show (if z = k then gbI b else cs z) = gbI (if z = k then b else g.2.2.2 z)
  by_cases e : z = k
  · rw [if_pos e, if_pos e]
  · rw [if_neg e, if_neg e, hm.2.2.2 z hz]
theorem gwithS {g : gG} {d : zGD} {X Y : Nat} {b : Bool} (hw : gWf g) (hx : gRX g d) (hX : X < g.1) (hY : Y < g.2.1) : ∃ d', zf_X2_withStone d.1 d.2.1 d.2.2.1 d.2.2.2.1 d.2.2.2.2.1 (nI (10 * Y + 2 * X)) (gbI b) = some d' ∧ gRX (gPut g (5 * Y + X) b) d' := by
  have h1 := hw.1
  have h2 := hw.2.1
  have hw' := gWfS (b := b) hw hX hY
  have key : ∀ st : Int64, (∀ i, i < 64 → gbt st i = (decide (i % 2 = 0) && (if gFr i = 5 * Y + X then b else g.2.2.2 (gFr i)))) → ∃ d', (zf_X2_init d.1 d.2.1 d.2.2.1 d.2.2.2.1 st).bind (fun o => some o) = some d' ∧ gRX (gPut g (5 * Y + X) b) d' := by
    intro st hst
    obtain ⟨d', e, hr⟩ := gX2init (g := gPut g (5 * Y + X) b) hw' (to := d.2.2.1) (ts := d.2.2.2.1) (st := st) (fun i hi => ⟨(hx.2.2.1 i hi).1, (hx.2.2.1 i hi).2.1, hst i hi⟩)
    refine ⟨d', ?_, hr⟩
    rw [hx.1, hx.2.1]
    rw [show zf_X2_init (nI g.1) (nI g.2.1) d.2.2.1 d.2.2.2.1 st = some d' from e]
    rfl
  have hbit : ∀ i, gbt (zlshl 1 (nI (10 * Y + 2 * X))) i = decide (i = 10 * Y + 2 * X) := fun i => gbt_bit i (by omega)
  unfold zf_X2_withStone zf_X2_withStone_47
  cases b with
  | false =>
    rw [if_pos (by decide)]
    refine key _ (fun i hi => ?_)
    rw [gbt_and, gbt_not _ hi, hbit, (hx.2.2.1 i hi).2.2]
    by_cases e : i = 10 * Y + 2 * X
    · have e2 : gFr i = 5 * Y + X := by unfold gFr; omega
      rw [if_pos e2]
      simp [e]
    · by_cases ev : i % 2 = 0
      · have e2 : gFr i ≠ 5 * Y + X := by unfold gFr; omega
        rw [if_neg e2]
        simp [e, ev]
      · simp [ev]
  | true =>
    rw [if_neg (by decide)]
    refine key _ (fun i hi => ?_)
    rw [gbt_or, hbit, (hx.2.2.1 i hi).2.2]
    by_cases e : i = 10 * Y + 2 * X
    · have e2 : gFr i = 5 * Y + X := by unfold gFr; omega
      rw [if_pos e2]
      have ev : i % 2 = 0 := by omega
      simp [e]
      omega
    · by_cases ev : i % 2 = 0
      · have e2 : gFr i ≠ 5 * Y + X := by unfold gFr; omega
        rw [if_neg e2]
        simp [e, ev]
      · simp [ev, e]
theorem gP7_ok : gP7 gInv := by
  intro xi xu fg xh xk ac LG G mi mh mk h x1 x2 x3 hb
  obtain ⟨g, past, h1, h2, h3, h4, h5, h6, h7⟩ := h
  obtain ⟨hok, hg, hx, hm⟩ := id h3
  obtain ⟨b, rfl⟩ : ∃ b : Bool, x3 = gbI b := by
    rcases hb with rfl | rfl
    · exact ⟨false, rfl⟩
    · exact ⟨true, rfl⟩
  unfold zf_X8_put zf_X9_put zf_X8_demandCell
  rw [hm.1, hm.2.1, hx.1, hx.2.1]
  have q1 := hok.1.1
  have q2 := hok.1.2.1
  rcases gcell hok.1.1 hok.1.2.1 x1 x2 with ⟨X, Y, hX, hY, rfl, rfl, e1, e2⟩ | ⟨e1, e2, -⟩
  · rw [e1, e2, Option.bind_some, Option.bind_some, if_neg (by decide), if_neg (by decide), gnum0, Option.bind_some, Option.bind_some]
    obtain ⟨d', ed, hx'⟩ := gwithS (b := b) hok.1 hx hX hY
    have hwf' := gWfS (b := b) hok.1 hX hY
    have hm' : gRM (gPut g (5 * Y + X) b) (nI g.1) (nI g.2.1) (mh 4) (upd (mh 5) (5 * Y + X) (gbI b)) := by
      have := gRMS (k := 5 * Y + X) (b := b) hm
      rw [hm.1, hm.2.1] at this
      exact this
    rw [hx.1, hx.2.1] at ed
    simp only [Sum.elim_inl, gstone hok.1 hx hX hY, Option.bind_some, ed, gfew hwf' hx']
    unfold zf_X9_put_15 zf_X9_put_65
    have e : ((5 : Int32) * nI Y) + nI X = nI (5 * Y + X) := by
      rw [show (5 : Int32) = nI 5 from rfl, gmul, nI_add]
    have z25 : zgd (nI (5 * Y + X)) 25 = true := ggN (by omega) (by decide)
    have hst : mh 5 (5 * Y + X) = gbI (g.2.2.2 (5 * Y + X)) := hm.2.2.2 _ (by omega)
    simp only [e, show ((0 : Int32) ≤ 0) = True from eq_true (by decide), if_true, z25, nI_clamp (show 5 * Y + X < 2 ^ 31 by omega), gnar, gX9free hwf' hm', Option.bind_some]
    have hun : upd (upd (mh 5) (5 * Y + X) (gbI b)) (5 * Y + X) (vp_nar .boolean (mh 5 (5 * Y + X))) = mh 5 := by
      rw [hst, gnar, ← hst, gupup]
    rw [hun]
    have hl := gMany_le (gPut g (5 * Y + X) b) 0
    rw [show (24 : Int32) = nI 24 from rfl]
    simp only [nI_leI (show gFree (gPut g (5 * Y + X) b) < 2 ^ 31 by unfold gFree; omega) (show 24 < 2 ^ 31 by decide)]
    by_cases hf : gFree (gPut g (5 * Y + X) b) ≤ 24
    · simp only [hf, if_true, Sum.elim_inl, gbIb]
      have hmn : gRM g (nI g.1) (nI g.2.1) (mh 4) (mh 5) := ⟨rfl, rfl, hm.2.2⟩
      obtain ⟨n, ac', pt', ps', pc', pr', r1, r2, r3⟩ := gact h4 hok hg hx hmn
      unfold zf_X9_put_87
      rw [if_pos (by decide), r1, r2, Option.bind_some, Option.bind_some, hst]
      simp only [z25, if_true, gbIb, nI_clamp (show 5 * Y + X < 2 ^ 31 by omega), gnar]
      refine ⟨_, _, rfl, rfl, Or.inl ⟨_, rfl, rfl, rfl, fun q hq => ?_⟩⟩
      obtain ⟨he, k1, k2, k3, k4⟩ := gInvAct (xi := xi) (mh := mh) (mi := mi) (fg := fg) hq r3 h5 hx'
      exact ⟨gPut g (5 * Y + X) b, gPast past g, h1, h2, ⟨⟨hwf', hf⟩, k3, k4, hm.1, hm.2.1, hm'.2.2⟩, k1, k2, gld0 h6.1, h7⟩
    · simp only [hf, if_false, show ¬ (1 : Int32) = 0 by decide, Sum.elim_inr]
      unfold zf_X9_put_87
      rw [if_neg (by decide)]
      exact ⟨_, _, rfl, rfl, Or.inr ⟨_, rfl, Or.inr ⟨rfl, rfl⟩, g, past, h1, h2, h3, h4, h5, h6, h7⟩⟩
  · rw [e1, e2, Option.bind_some, Option.bind_some, if_pos rfl, if_pos rfl]
    unfold zf_X9_put_15
    rw [if_neg (by decide)]
    exact ⟨_, _, rfl, rfl, Or.inr ⟨_, rfl, Or.inl ⟨rfl, rfl⟩, g, past, h1, h2, h3, h4, h5, h6, h7⟩⟩
