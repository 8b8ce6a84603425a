/-! the flow: how many are free by steps; the start -/
theorem gStP : ∀ (c r : Fin 6), 1 ≤ c.val → 1 ≤ r.val → (((gSteps c.val r.val).map (fun q => q.1)).isPerm ((List.range 50).filter (fun p => gTh p c.val r.val))) = true := by decide +kernel
theorem gFs_mono (g : gG) {i j : Nat} (h : i ≤ j) : gFs g i ≤ gFs g j := by
  obtain ⟨k, rfl⟩ : ∃ k, j = i + k := ⟨j - i, by omega⟩
  clear h
  induction k with
  | zero => exact Nat.le_refl _
  | succ k ih =>
    rw [← Nat.add_assoc, gFsS]
    omega
theorem gFs_all {g : gG} (hw : gWf g) : gFs g (gRS g.1 g.2.1) = gFree g := by
  have hc := hw.1
  have hr := hw.2.1
  have hp := List.isPerm_iff.mp (gStP ⟨g.1, by omega⟩ ⟨g.2.1, by omega⟩ hc.1 hr.1)
  simp only at hp
  have hlen : (gSteps g.1 g.2.1).length = gRS g.1 g.2.1 := (gsyT ⟨g.1, by omega⟩ ⟨g.2.1, by omega⟩ hc.1).1
  have e1 : (List.range (gRS g.1 g.2.1)).map (fun j => (gStep g j).1) = (gSteps g.1 g.2.1).map (fun q => q.1) := by
    rw [← hlen]
    apply List.ext_getElem?
    intro i
    by_cases h : i < (gSteps g.1 g.2.1).length
    · rw [List.getElem?_map, List.getElem?_map, List.getElem?_range h, List.getElem?_eq_getElem h]
      unfold gStep
      rw [Option.map_some, Option.map_some, List.getD_eq_getElem?_getD, List.getElem?_eq_getElem h]
      rfl
    · rw [List.getElem?_eq_none (by simp; omega), List.getElem?_eq_none (by simp; omega)]
  have e2 : gFs g (gRS g.1 g.2.1) = (((List.range (gRS g.1 g.2.1)).map (fun j => (gStep g j).1)).filter (fun p => decide (gHow g p = 0))).length := by
    unfold gFs gct
    rw [List.filter_map, List.length_map]
    rfl
  rw [e2, e1, (hp.filter _).length_eq, List.filter_filter]
  show ((List.range 50).filter _).length = gct (gIs g 0) 50
  unfold gct
  congr 1
  apply List.filter_congr
  intro p _
  unfold gIs
  rw [Bool.and_comm]
theorem gFs24 {g : gG} (h : gOk g) {i : Nat} (hi : i ≤ gRS g.1 g.2.1) : gFs g i ≤ 24 := by
  have h1 := gFs_mono g hi
  rw [gFs_all h.1] at h1
  exact Nat.le_trans h1 h.2
theorem gorI (a b : Nat) : nI a ||| nI b = nI (a ||| b) := by
  rw [← Int32.toBitVec_inj, Int32.toBitVec_or]
  show BitVec.ofNat 32 a ||| BitVec.ofNat 32 b = BitVec.ofNat 32 (a ||| b)
  rw [BitVec.ofNat_or]
theorem gshT : ∀ (f : Fin 8) (x : Fin 5), zshl (nI f.val) (nI (3 * (4 - x.val))) = nI (f.val * 8 ^ (4 - x.val)) := by decide +kernel
theorem gorC {code f x : Nat} (hx : x < 5) (hf : f < 8) (hc : code % 8 ^ (5 - x) = 0) : code ||| f * 8 ^ (4 - x) = code + f * 8 ^ (4 - x) := by
  have h8 : 8 ^ (5 - x) = 2 ^ (3 * (5 - x)) := by rw [Nat.pow_mul]
  have hlt : f * 8 ^ (4 - x) < 2 ^ (3 * (5 - x)) := by
    rw [← h8, show 5 - x = (4 - x) + 1 from by omega, Nat.pow_succ, Nat.mul_comm]
    exact Nat.mul_lt_mul_of_pos_left hf (Nat.pow_pos (by decide))
  obtain ⟨a, ha⟩ : ∃ a, code = 2 ^ (3 * (5 - x)) * a := ⟨code / 8 ^ (5 - x), by
    rw [← h8]
    have := Nat.div_add_mod code (8 ^ (5 - x))
    omega⟩
  rw [ha]
  exact (Nat.two_pow_add_eq_or_of_lt hlt a).symm
theorem gstart {g : gG} (hw : gWf g) {d : zGD} (hx : gRX g d) {codes : Nat → Int32} (hcd : ∀ s, s < gSz g.1 → codes s = nI (gCd g.1 s)) : zf_X4_start (nI g.1) (nI (gSz g.1)) d.2.2.2.2.1 codes = some (nI (gS0 g)) := by
  have hc := hw.1
  have hr := hw.2.1
  obtain ⟨h0, h1⟩ := gS0_lt hw
  unfold zf_X4_start
  have e := gitI (f := fun q : Int32 × Int32 × Int32 => zf_X4_start_l7 (nI g.1) d.2.2.2.2.1 q.1 q.2.1 q.2.2) (fun x a => ∃ code f, a = (nI code, nI f, nI x) ∧ f ≤ x + 1 ∧ code % 8 ^ (5 - x) = 0 ∧ gSc g (g.1 - x) f code = gSc g g.1 1 0) g.1 (n := zfu) (b := nI (gSc g g.1 1 0)) (gfu (by omega)) (a := ((0 : Int32), (1 : Int32), (0 : Int32))) ⟨0, 1, rfl, by omega, by decide, rfl⟩ ?_ ?_
  · rw [e, Option.bind_some, ← h1, gidxE hc.2 h0 hcd]
    rfl
  · rintro x a hxc ⟨code, f, rfl, hf, hm, hs⟩
    left
    dsimp only
    unfold zf_X4_start_l7 zf_X4_start_43
    have hst := gstone hw hx (X := x) (Y := 0) hxc (by omega)
    rw [show 10 * 0 + 2 * x = 2 * x from by omega, show 5 * 0 + x = x from by omega] at hst
    have hn := gnum0 x 0
    rw [show 10 * 0 + 2 * x = 2 * x from by omega] at hn
    rw [if_neg (gle50 (by omega) (by omega) hxc), show zf_X2_numberOf (nI x) 0 0 = some (nI (2 * x)) from hn, Option.bind_some, hst, Option.bind_some, nI_1, nI_1]
    simp only [gbI0, gshO (show x < 5 by omega), Option.bind_some]
    have hs2 : gSc g (g.1 - x) f code = if g.2.2.2 x then gSc g (g.1 - (x + 1)) (f + 1) (code + f * 8 ^ (4 - x)) else gSc g (g.1 - (x + 1)) f code := by
      rw [show g.1 - x = (g.1 - (x + 1)) + 1 from by omega]
      show (if g.2.2.2 (g.1 - ((g.1 - (x + 1)) + 1)) then gSc g (g.1 - (x + 1)) (f + 1) (code + f * 8 ^ (4 - (g.1 - ((g.1 - (x + 1)) + 1)))) else gSc g (g.1 - (x + 1)) f code) = _
      rw [show g.1 - ((g.1 - (x + 1)) + 1) = x from by omega]
    have hd : ∀ c, c % 8 ^ (5 - x) = 0 → c % 8 ^ (5 - (x + 1)) = 0 := fun c h => by
      have : 8 ^ (5 - (x + 1)) ∣ 8 ^ (5 - x) := Nat.pow_dvd_pow 8 (by omega)
      exact Nat.mod_eq_zero_of_dvd (Nat.dvd_trans this (Nat.dvd_of_mod_eq_zero h))
    cases hb : g.2.2.2 x with
    | false =>
      rw [if_pos rfl]
      rw [hb] at hs2
      exact ⟨_, rfl, code, f, rfl, by omega, hd code hm, hs2.symm.trans hs⟩
    | true =>
      rw [if_neg (by decide)]
      rw [hb] at hs2
      rw [show zshl (nI f) (nI (3 * (4 - x))) = nI (f * 8 ^ (4 - x)) from gshT ⟨f, by omega⟩ ⟨x, by omega⟩, gorI, gorC (by omega) (by omega) hm]
      refine ⟨_, rfl, code + f * 8 ^ (4 - x), f + 1, rfl, by omega, ?_, hs2.symm.trans hs⟩
      rw [show 5 - (x + 1) = 4 - x from by omega]
      have := hd code hm
      rw [show 5 - (x + 1) = 4 - x from by omega] at this
      rw [Nat.add_mod, this, Nat.mul_mod_left]
      rfl
  · rintro a ⟨code, f, rfl, hf, hm, hs⟩
    dsimp only
    unfold zf_X4_start_l7
    rw [if_pos (Int32.le_refl _)]
    rw [Nat.sub_self] at hs
    rw [← hs]
    rfl
/-- all is put to nothing but the start -/
theorem gbegin {g : gG} (hw : gWf g) {d : zGD} (hx : gRX g d) {codes : Nat → Int32} (hcd : ∀ s, s < gSz g.1 → codes s = nI (gCd g.1 s)) {nc nt : Nat} (hnc : 3300 ≤ nc) (hnc2 : nc < 2 ^ 31) (hnt : 132 ≤ nt) (hnt2 : nt < 2 ^ 31) (cn tt : Nat → Int64) : ∃ cn' tt', zf_X1_begin (nI g.1) (nI (gSz g.1)) d.2.2.2.2.1 cn tt codes nc nt = some (cn', tt') ∧ gRp (gSz g.1) 0 cn' tt' (gC g 0) (gTt g 0) := by
  have hsz := gSzle hw.1.2
  obtain ⟨h0, -⟩ := gS0_lt hw
  unfold zf_X1_begin
  have hL := gitH (f := fun q : Int32 × (Nat → Int64) × (Nat → Int64) => zf_X1_begin_l2 (nI (gSz g.1)) nc nt q.1 q.2.1 q.2.2) (fun j a => a.1 = nI j ∧ ∀ s, s < j → a.2.2 s = 0 ∧ ∀ k, k < 25 → a.2.1 (s * 25 + k) = 0) (fun b => ∀ s, s < gSz g.1 → b.2 s = 0 ∧ ∀ k, k < 25 → b.1 (s * 25 + k) = 0) (gSz g.1) (n := zfu) (gfu (by omega)) (a := ((0 : Int32), cn, tt)) ⟨rfl, fun s hs => by omega⟩ ?_ ?_
  · obtain ⟨⟨c1, t1⟩, e, h1⟩ := hL
    dsimp only at h1
    rw [e, Option.bind_some, gstart hw hx hcd, Option.bind_some]
    dsimp only
    have z1 : zgd (nI (gS0 g)) nt = true := ggN (by omega) hnt2
    have e25 : nI (gS0 g) * 25 = nI (gS0 g * 25) := by rw [show (25 : Int32) = nI 25 from rfl, gmul]
    rw [if_pos z1, e25, if_pos (ggN (by omega) hnc2), nI_clamp (by omega), nI_clamp (by omega)]
    refine ⟨_, _, rfl, fun s hs => ⟨?_, fun k hk => ?_⟩⟩
    · rw [show 0 * 132 + s = s from by omega]
      by_cases e1 : s = gS0 g
      · rw [e1, guLS]
        have : gTt g 0 (gS0 g) = 1 := by
          unfold gTt
          rw [gSum_cong (f' := fun k => if 0 = k then 1 else 0) (fun k _ => by
            show (if gS0 g = gS0 g ∧ k = 0 then 1 else 0) = _
            by_cases q : k = 0
            · rw [if_pos ⟨rfl, q⟩, if_pos q.symm]
            · rw [if_neg (fun z => q z.2), if_neg (fun z => q z.symm)])]
          exact gSum_one (fun _ => 1) (by decide)
        rw [this]
        rfl
      · rw [guLN e1, (h1 s hs).1]
        have : gTt g 0 s = 0 := gSum_z fun k _ => if_neg (fun z => e1 z.1)
        rw [this]
        rfl
    · rw [show (0 * 132 + s) * 25 + k = s * 25 + k from by omega]
      show vp_updL c1 (gS0 g * 25) 1 (s * 25 + k) = lN (if s = gS0 g ∧ k = 0 then 1 else 0)
      by_cases e1 : s = gS0 g ∧ k = 0
      · rw [if_pos e1, e1.1, e1.2, Nat.add_zero, guLS]
        rfl
      · rw [if_neg e1, guLN (by omega), (h1 s hs).2 k hk]
        rfl
  · rintro j ⟨x, c1, t1⟩ hj ⟨rfl, h1⟩
    dsimp only at h1 ⊢
    unfold zf_X1_begin_l2
    rw [if_neg (gle50 (by omega) (by omega) hj), if_pos (ggN (by omega) hnt2), nI_clamp (by omega), nI_1]
    have hI := gitH (f := fun q : Int32 × (Nat → Int64) => zf_X1_begin_l22 nc (nI j) q.1 q.2) (fun k a => a.1 = nI k ∧ (∀ k', k' < k → a.2 (j * 25 + k') = 0) ∧ ∀ q, q < j * 25 → a.2 q = c1 q) (fun b => (∀ k, k < 25 → b (j * 25 + k) = 0) ∧ ∀ q, q < j * 25 → b q = c1 q) 25 (n := zfu) (gfu (by decide)) (a := ((0 : Int32), c1)) ⟨rfl, fun k' h => by omega, fun q _ => rfl⟩ ?_ ?_
    · obtain ⟨c2, e2, h2, h3⟩ := hI
      rw [e2, Option.bind_some]
      refine ⟨_, rfl, rfl, fun s hs => ?_⟩
      dsimp only
      by_cases e1 : s = j
      · rw [e1, guLS]
        exact ⟨rfl, h2⟩
      · rw [guLN e1]
        refine ⟨(h1 s (by omega)).1, fun k hk => ?_⟩
        rw [h3 _ (by omega)]
        exact (h1 s (by omega)).2 k hk
    · rintro k ⟨y, c2⟩ hk ⟨rfl, h2, h3⟩
      dsimp only at h2 h3 ⊢
      unfold zf_X1_begin_l22
      have e25 : nI j * 25 + nI k = nI (j * 25 + k) := by rw [show (25 : Int32) = nI 25 from rfl, gmul, nI_add]
      rw [e25, if_neg (show ¬ (25 : Int32) ≤ nI k from gle50 (a := 25) (by decide) (by omega) hk), if_pos (ggN (by omega) hnc2), nI_clamp (by omega), nI_1]
      refine ⟨_, rfl, rfl, fun k' hk' => ?_, fun q hq => ?_⟩
      · dsimp only
        by_cases e1 : k' = k
        · rw [e1, guLS]
        · rw [guLN (by omega)]
          exact h2 k' (by omega)
      · dsimp only
        rw [guLN (by omega)]
        exact h3 q hq
    · rintro ⟨y, c2⟩ ⟨rfl, h2, h3⟩
      dsimp only
      unfold zf_X1_begin_l22
      rw [if_pos (by decide)]
      exact ⟨_, rfl, h2, h3⟩
  · rintro ⟨x, c1, t1⟩ ⟨rfl, h1⟩
    dsimp only
    unfold zf_X1_begin_l2
    rw [if_pos (Int32.le_refl _)]
    exact ⟨_, rfl, h1⟩
