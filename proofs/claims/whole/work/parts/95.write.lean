/-! write -/
def gSg (h : Nat) (o : Int32) : Int32 := if h = 0 then 46 else if h = 1 then o else 32
/-- the bytes of a grid as it is written -/
def gWB (g : gG) (t : Nat) : Int32 :=
  let l := t / (2 * g.1)
  let p := t % (2 * g.1)
  if l % 2 = 0 then (if p % 2 = 0 then (if g.2.2.2 (5 * (l / 2) + p / 2) then 35 else 111) else if p / 2 + 1 = g.1 then 10 else gSg (gHow g (10 * (l / 2) + 2 * (p / 2))) 45)
  else (if p % 2 = 0 then gSg (gHow g (10 * (l / 2) + 2 * (p / 2) + 1)) 124 else if p / 2 + 1 = g.1 then 10 else 32)
theorem gWBd (c l m : Nat) (hm : m < 2 * c) : (2 * c * l + m) / (2 * c) = l ∧ (2 * c * l + m) % (2 * c) = m := by
  constructor
  · rw [Nat.mul_add_div (by omega), Nat.div_eq_of_lt hm, Nat.add_zero]
  · rw [Nat.mul_add_mod, Nat.mod_eq_of_lt hm]
theorem gWB0 {g : gG} {y x : Nat} (hx : x < g.1) : gWB g (2 * g.1 * (2 * y) + 2 * x) = if g.2.2.2 (5 * y + x) then 35 else 111 := by
  obtain ⟨e1, e2⟩ := gWBd g.1 (2 * y) (2 * x) (by omega)
  unfold gWB
  simp only [e1, e2]
  rw [if_pos (by omega), if_pos (by omega), show 2 * y / 2 = y from by omega, show 2 * x / 2 = x from by omega]
theorem gWB1 {g : gG} {y x : Nat} (hx : x < g.1) : gWB g (2 * g.1 * (2 * y) + 2 * x + 1) = if x + 1 = g.1 then 10 else gSg (gHow g (10 * y + 2 * x)) 45 := by
  obtain ⟨e1, e2⟩ := gWBd g.1 (2 * y) (2 * x + 1) (by omega)
  unfold gWB
  simp only [Nat.add_assoc] at e1 e2 ⊢
  simp only [e1, e2]
  rw [if_pos (by omega), if_neg (by omega), show 2 * y / 2 = y from by omega, show (2 * x + 1) / 2 = x from by omega]
theorem gWB2 {g : gG} {y x : Nat} (hx : x < g.1) : gWB g (2 * g.1 * (2 * y + 1) + 2 * x) = gSg (gHow g (10 * y + 2 * x + 1)) 124 := by
  obtain ⟨e1, e2⟩ := gWBd g.1 (2 * y + 1) (2 * x) (by omega)
  unfold gWB
  simp only [e1, e2]
  rw [if_neg (by omega), if_pos (by omega), show (2 * y + 1) / 2 = y from by omega, show 2 * x / 2 = x from by omega]
theorem gWB3 {g : gG} {y x : Nat} (hx : x < g.1) : gWB g (2 * g.1 * (2 * y + 1) + 2 * x + 1) = if x + 1 = g.1 then 10 else 32 := by
  obtain ⟨e1, e2⟩ := gWBd g.1 (2 * y + 1) (2 * x + 1) (by omega)
  unfold gWB
  simp only [Nat.add_assoc] at e1 e2 ⊢
  simp only [e1, e2]
  rw [if_neg (by omega), if_neg (by omega), show (2 * x + 1) / 2 = x from by omega]
theorem gwb8 (w f : Nat → Int32) {n : Nat} {v : Int32} (hn : n < 90) (hv : v = f n) : zf_X8_writeByte (nI n) (gput w 0 f n) v = some (nI (n + 1), gput w 0 f (n + 1)) := by
  unfold zf_X8_writeByte
  have h := gputS w 0 f n
  rw [Nat.zero_add] at h
  rw [if_neg (show ¬ (90 : Int32) ≤ nI n from gle50 (a := 90) (by decide) (by omega) hn), if_pos (ggN hn (by decide)), nI_clamp (by omega), nI_1, hv, h]
theorem gwb9 (w f : Nat → Int32) {n : Nat} {v : Int32} (hn : n < 90) (hv : v = f n) : zf_X9_writes (nI n) (gput w 0 f n) v = some (nI (n + 1), gput w 0 f (n + 1)) := by
  unfold zf_X9_writes
  have h := gputS w 0 f n
  rw [Nat.zero_add] at h
  rw [if_pos (ggN hn (by decide)), nI_clamp (by omega), nI_1, hv, h]
theorem gsign {g : gG} (hw : gWf g) {d : zGD} (hx : gRX g d) {p : Nat} (hp : gTh p g.1 g.2.1 = true) {o : Int32} (ho : zchk o = true) : zf_X8_signOf (nI p) o d = some (gSg (gHow g p) o) := by
  unfold zf_X8_signOf gSg
  rw [gstat hw hx hp, Option.bind_some]
  have h2 := gHow2 hw p
  rcases (show gHow g p = 0 ∨ gHow g p = 1 ∨ gHow g p = 2 by omega) with e | e | e <;> rw [e]
  · rfl
  · rw [if_neg (by decide), if_pos (by decide), if_pos ho]
    rfl
  · rfl
theorem geqc {x c : Nat} (hx : x < 2 ^ 30) (hc : 1 ≤ c ∧ c ≤ 5) : (nI x = nI c - 1) ↔ x + 1 = c := by
  obtain ⟨k, rfl⟩ : ∃ k, c = k + 1 := ⟨c - 1, by omega⟩
  rw [nI_pred, nI_eq (by omega) (by omega)]
  omega
theorem gcM {c r : Nat} (hc : 1 ≤ c ∧ c ≤ 5) {l : Nat} (hl : l ≤ 8) : 2 * c * l + 2 * c ≤ 90 := by
  have h1 : 2 * c * l ≤ 2 * c * 8 := Nat.mul_le_mul_left _ hl
  omega
theorem gwC8 {g : gG} (hw : gWf g) {d : zGD} (hx : gRX g d) (w : Nat → Int32) {y : Nat} (hy : y < g.2.1) : zf_X8_writeCells (nI (2 * g.1 * (2 * y))) (gput w 0 (gWB g) (2 * g.1 * (2 * y))) (nI y) d = some (nI (2 * g.1 * (2 * y) + 2 * g.1), gput w 0 (gWB g) (2 * g.1 * (2 * y) + 2 * g.1)) := by
  have hc := hw.1
  have hr := hw.2.1
  have hM := gcM (c := g.1) (r := g.2.1) hc (l := 2 * y) (by omega)
  unfold zf_X8_writeCells
  have e := gitr (f := fun q : Int32 × Int32 × (Nat → Int32) => zf_X8_writeCells_l2 (nI y) d q.1 q.2.1 q.2.2) (fun x => (nI x, nI (2 * g.1 * (2 * y) + 2 * x), gput w 0 (gWB g) (2 * g.1 * (2 * y) + 2 * x))) g.1 (n := zfu) (b := (nI (2 * g.1 * (2 * y) + 2 * g.1), gput w 0 (gWB g) (2 * g.1 * (2 * y) + 2 * g.1))) (gfu (by omega)) ?_ ?_
  · rw [show ((0 : Int32), nI (2 * g.1 * (2 * y)), gput w 0 (gWB g) (2 * g.1 * (2 * y))) = (nI 0, nI (2 * g.1 * (2 * y) + 2 * 0), gput w 0 (gWB g) (2 * g.1 * (2 * y) + 2 * 0)) from rfl, e]
    rfl
  · intro x hxc
    dsimp only
    unfold zf_X8_writeCells_l2 zf_X8_writeCells_39 zf_X8_writeCells_68
    rw [hx.1, if_neg (gle50 (by omega) (by omega) hxc), gnum0, Option.bind_some, gstone hw hx hxc hy, Option.bind_some]
    simp only [gbI0, geqc (show x < 2 ^ 30 by omega) hc]
    have b0 : ∀ v, v = gWB g (2 * g.1 * (2 * y) + 2 * x) → zf_X8_writeByte (nI (2 * g.1 * (2 * y) + 2 * x)) (gput w 0 (gWB g) (2 * g.1 * (2 * y) + 2 * x)) v = some (nI (2 * g.1 * (2 * y) + 2 * x + 1), gput w 0 (gWB g) (2 * g.1 * (2 * y) + 2 * x + 1)) := fun v hv => gwb8 w _ (by omega) hv
    have b1 : ∀ v, v = gWB g (2 * g.1 * (2 * y) + 2 * x + 1) → zf_X8_writeByte (nI (2 * g.1 * (2 * y) + 2 * x + 1)) (gput w 0 (gWB g) (2 * g.1 * (2 * y) + 2 * x + 1)) v = some (nI (2 * g.1 * (2 * y) + 2 * (x + 1)), gput w 0 (gWB g) (2 * g.1 * (2 * y) + 2 * (x + 1))) := fun v hv => gwb8 w _ (by omega) hv
    have tl : (if x + 1 = g.1 then (zf_X8_writeByte (nI (2 * g.1 * (2 * y) + 2 * x + 1)) (gput w 0 (gWB g) (2 * g.1 * (2 * y) + 2 * x + 1)) (10 : Int32)).bind (fun o68 => some (Sum.inl (nI x + 1, o68.1, o68.2)) : _ → Option ((Int32 × Int32 × (Nat → Int32)) ⊕ (Int32 × (Nat → Int32)))) else ((zf_X8_signOf (nI (10 * y + 2 * x)) (45 : Int32) d).bind fun o65 => (zf_X8_writeByte (nI (2 * g.1 * (2 * y) + 2 * x + 1)) (gput w 0 (gWB g) (2 * g.1 * (2 * y) + 2 * x + 1)) o65).bind fun o68 => some (Sum.inl (nI x + 1, o68.1, o68.2)))) = some (.inl (nI (x + 1), nI (2 * g.1 * (2 * y) + 2 * (x + 1)), gput w 0 (gWB g) (2 * g.1 * (2 * y) + 2 * (x + 1)))) := by
      rw [nI_1]
      by_cases e1 : x + 1 = g.1
      · rw [if_pos e1, b1 10 (by rw [gWB1 hxc, if_pos e1])]
        rfl
      · have hp : gTh (10 * y + 2 * x) g.1 g.2.1 = true := by
          unfold gTh
          rw [if_neg (by omega)]
          simp
          omega
        rw [if_neg e1, gsign hw hx hp (by decide), Option.bind_some, b1 _ (by rw [gWB1 hxc, if_neg e1])]
        rfl
    cases hs : g.2.2.2 (5 * y + x) with
    | false =>
      rw [if_pos rfl, b0 111 (by rw [gWB0 hxc, hs]; rfl), Option.bind_some]
      exact tl
    | true =>
      rw [if_neg (by decide), b0 35 (by rw [gWB0 hxc, hs]; rfl), Option.bind_some]
      exact tl
  · dsimp only
    unfold zf_X8_writeCells_l2
    rw [hx.1, if_pos (Int32.le_refl _)]
theorem gwP8 {g : gG} (hw : gWf g) {d : zGD} (hx : gRX g d) (w : Nat → Int32) {y : Nat} (hy : y + 1 < g.2.1) : zf_X8_writePipesDown (nI (2 * g.1 * (2 * y + 1))) (gput w 0 (gWB g) (2 * g.1 * (2 * y + 1))) (nI y) d = some (nI (2 * g.1 * (2 * y + 1) + 2 * g.1), gput w 0 (gWB g) (2 * g.1 * (2 * y + 1) + 2 * g.1)) := by
  have hc := hw.1
  have hr := hw.2.1
  have hM := gcM (c := g.1) (r := g.2.1) hc (l := 2 * y + 1) (by omega)
  unfold zf_X8_writePipesDown
  have e := gitr (f := fun q : Int32 × Int32 × (Nat → Int32) => zf_X8_writePipesDown_l2 (nI y) d q.1 q.2.1 q.2.2) (fun x => (nI x, nI (2 * g.1 * (2 * y + 1) + 2 * x), gput w 0 (gWB g) (2 * g.1 * (2 * y + 1) + 2 * x))) g.1 (n := zfu) (b := (nI (2 * g.1 * (2 * y + 1) + 2 * g.1), gput w 0 (gWB g) (2 * g.1 * (2 * y + 1) + 2 * g.1))) (gfu (by omega)) ?_ ?_
  · rw [show ((0 : Int32), nI (2 * g.1 * (2 * y + 1)), gput w 0 (gWB g) (2 * g.1 * (2 * y + 1))) = (nI 0, nI (2 * g.1 * (2 * y + 1) + 2 * 0), gput w 0 (gWB g) (2 * g.1 * (2 * y + 1) + 2 * 0)) from rfl, e]
    rfl
  · intro x hxc
    dsimp only
    unfold zf_X8_writePipesDown_l2 zf_X8_writePipesDown_50
    have hp : gTh (10 * y + 2 * x + 1) g.1 g.2.1 = true := by
      unfold gTh
      rw [if_pos (by omega)]
      simp
      omega
    rw [hx.1, if_neg (gle50 (by omega) (by omega) hxc), gnum1, Option.bind_some, gsign hw hx hp (by decide), Option.bind_some, gwb8 w _ (by omega) (gWB2 hxc).symm, Option.bind_some]
    simp only [geqc (show x < 2 ^ 30 by omega) hc]
    have b1 : ∀ v, v = gWB g (2 * g.1 * (2 * y + 1) + 2 * x + 1) → zf_X8_writeByte (nI (2 * g.1 * (2 * y + 1) + 2 * x + 1)) (gput w 0 (gWB g) (2 * g.1 * (2 * y + 1) + 2 * x + 1)) v = some (nI (2 * g.1 * (2 * y + 1) + 2 * (x + 1)), gput w 0 (gWB g) (2 * g.1 * (2 * y + 1) + 2 * (x + 1))) := fun v hv => gwb8 w _ (by omega) hv
    by_cases e1 : x + 1 = g.1
    · rw [if_pos e1, b1 10 (by rw [gWB3 hxc, if_pos e1]), nI_1]
      rfl
    · rw [if_neg e1, b1 32 (by rw [gWB3 hxc, if_neg e1]), nI_1]
      rfl
  · dsimp only
    unfold zf_X8_writePipesDown_l2
    rw [hx.1, if_pos (Int32.le_refl _)]
def gWn (g : gG) (y : Nat) : Nat := if y < g.2.1 then 2 * g.1 * (2 * y) else 2 * g.1 * (2 * y - 1)
theorem gWn_r (g : gG) (hr : 1 ≤ g.2.1) {y : Nat} (hy : y + 1 = g.2.1) : 2 * g.1 * (2 * y) + 2 * g.1 = gWn g (y + 1) := by
  unfold gWn
  rw [if_neg (by omega), show 2 * (y + 1) - 1 = 2 * y + 1 from by omega, Nat.mul_add, Nat.mul_one]
theorem gWn_s (g : gG) {y : Nat} (hy : y + 1 < g.2.1) : 2 * g.1 * (2 * y + 1) + 2 * g.1 = gWn g (y + 1) := by
  unfold gWn
  rw [if_pos hy, show 2 * (y + 1) = (2 * y + 1) + 1 from by omega, Nat.mul_add _ (2 * y + 1) 1, Nat.mul_one]
theorem gWn_90 {g : gG} (hw : gWf g) : gWn g g.2.1 ≤ 90 := by
  have hc := hw.1
  have hr := hw.2.1
  unfold gWn
  rw [if_neg (by omega)]
  have h1 : 2 * g.1 * (2 * g.2.1 - 1) ≤ 2 * g.1 * 9 := Nat.mul_le_mul_left _ (by omega)
  omega
theorem gw8 {g : gG} (hw : gWf g) {d : zGD} (hx : gRX g d) (w : Nat → Int32) : zf_X8_write w d = some (nI (gWn g g.2.1), nI (gWn g g.2.1), gput w 0 (gWB g) (gWn g g.2.1)) := by
  have hc := hw.1
  have hr := hw.2.1
  unfold zf_X8_write
  have e := gitr (f := fun q : Int32 × Int32 × (Nat → Int32) => zf_X8_write_l7 d q.1 q.2.1 q.2.2) (fun y => (nI y, nI (gWn g y), gput w 0 (gWB g) (gWn g y))) g.2.1 (n := zfu) (b := (nI (gWn g g.2.1), gput w 0 (gWB g) (gWn g g.2.1))) (gfu (by omega)) ?_ ?_
  · have e0 : ((0 : Int32), (0 : Int32), w) = (nI 0, nI (gWn g 0), gput w 0 (gWB g) (gWn g 0)) := by
      have : gWn g 0 = 0 := by unfold gWn; rw [if_pos (by omega)]; simp
      rw [this, gput0]
      rfl
    rw [e0, e]
    rfl
  · intro y hy
    dsimp only
    unfold zf_X8_write_l7 zf_X8_write_41
    have n0 : gWn g y = 2 * g.1 * (2 * y) := by unfold gWn; rw [if_pos hy]
    rw [n0, hx.2.1, if_neg (gle50 (by omega) (by omega) hy), gwC8 hw hx w hy, Option.bind_some, nI_1]
    obtain ⟨k, hk⟩ : ∃ k, g.2.1 = k + 1 := ⟨g.2.1 - 1, by omega⟩
    rw [hk, nI_pred]
    simp only [nI_leI (show k < 2 ^ 31 by omega) (show y < 2 ^ 31 by omega)]
    by_cases hl : k ≤ y
    · rw [if_pos hl, gWn_r g hr.1 (by omega)]
    · rw [if_neg hl]
      have n1 : 2 * g.1 * (2 * y) + 2 * g.1 = 2 * g.1 * (2 * y + 1) := by rw [Nat.mul_add, Nat.mul_one]
      rw [n1, gwP8 hw hx w (by omega), Option.bind_some, gWn_s g (by omega)]
  · dsimp only
    unfold zf_X8_write_l7
    rw [hx.2.1, if_pos (Int32.le_refl _)]
theorem gwC9 {g : gG} (hw : gWf g) {fc fr : Int32} {ct cs : Nat → Int32} (hm : gRM g fc fr ct cs) (w : Nat → Int32) {y : Nat} (hy : y < g.2.1) : zit (fun q : Int32 × Int32 × (Nat → Int32) => zf_X9_write_l22 (nI g.1) ct cs (nI y) q.1 q.2.1 q.2.2) zfu ((0 : Int32), nI (2 * g.1 * (2 * y)), gput w 0 (gWB g) (2 * g.1 * (2 * y))) = some (nI (2 * g.1 * (2 * y) + (2 * g.1 - 1)), gput w 0 (gWB g) (2 * g.1 * (2 * y) + (2 * g.1 - 1))) := by
  have hc := hw.1
  have hr := hw.2.1
  have hM := gcM (c := g.1) (r := g.2.1) hc (l := 2 * y) (by omega)
  have e := gitr (f := fun q : Int32 × Int32 × (Nat → Int32) => zf_X9_write_l22 (nI g.1) ct cs (nI y) q.1 q.2.1 q.2.2) (fun x => (nI x, nI (2 * g.1 * (2 * y) + (if x < g.1 then 2 * x else 2 * g.1 - 1)), gput w 0 (gWB g) (2 * g.1 * (2 * y) + (if x < g.1 then 2 * x else 2 * g.1 - 1)))) g.1 (n := zfu) (b := (nI (2 * g.1 * (2 * y) + (2 * g.1 - 1)), gput w 0 (gWB g) (2 * g.1 * (2 * y) + (2 * g.1 - 1)))) (gfu (by omega)) ?_ ?_
  · rw [← e, if_pos (by omega)]
    rfl
  · intro x hxc
    dsimp only
    rw [if_pos hxc]
    unfold zf_X9_write_l22 zf_X9_write_51 zf_X9_write_103 zf_X9_write_106
    have k1 : ((5 : Int32) * nI y) + nI x = nI (5 * y + x) := by rw [show (5 : Int32) = nI 5 from rfl, gmul, nI_add]
    have k2 : ((10 : Int32) * nI y) + ((2 : Int32) * nI x) = nI (10 * y + 2 * x) := by rw [show (10 : Int32) = nI 10 from rfl, show (2 : Int32) = nI 2 from rfl, gmul, gmul, nI_add]
    rw [k1, k2, if_neg (gle50 (by omega) (by omega) hxc), if_pos (ggN (by omega) (by decide)), nI_clamp (by omega), hm.2.2.2 _ (by omega), nI_1]
    simp only [gbI0, nI_eq (show x + 1 < 2 ^ 31 by omega) (show g.1 < 2 ^ 31 by omega)]
    have b0 : ∀ v, v = gWB g (2 * g.1 * (2 * y) + 2 * x) → zf_X9_writes (nI (2 * g.1 * (2 * y) + 2 * x)) (gput w 0 (gWB g) (2 * g.1 * (2 * y) + 2 * x)) v = some (nI (2 * g.1 * (2 * y) + 2 * x + 1), gput w 0 (gWB g) (2 * g.1 * (2 * y) + 2 * x + 1)) := fun v hv => gwb9 w _ (by omega) hv
    have b1 : ∀ v, v = gWB g (2 * g.1 * (2 * y) + 2 * x + 1) → zf_X9_writes (nI (2 * g.1 * (2 * y) + 2 * x + 1)) (gput w 0 (gWB g) (2 * g.1 * (2 * y) + 2 * x + 1)) v = some (nI (2 * g.1 * (2 * y) + 2 * (x + 1)), gput w 0 (gWB g) (2 * g.1 * (2 * y) + 2 * (x + 1))) := fun v hv => gwb9 w _ (by omega) hv
    have tl : (if x + 1 = g.1 then some (Sum.inl (nI (x + 1), nI (2 * g.1 * (2 * y) + 2 * x + 1), gput w 0 (gWB g) (2 * g.1 * (2 * y) + 2 * x + 1)) : (Int32 × Int32 × (Nat → Int32)) ⊕ (Int32 × (Nat → Int32))) else ((zf_X9_how ct cs (nI (10 * y + 2 * x))).bind fun o76 => if o76 = (1 : Int32) then ((zf_X9_writes (nI (2 * g.1 * (2 * y) + 2 * x + 1)) (gput w 0 (gWB g) (2 * g.1 * (2 * y) + 2 * x + 1)) (45 : Int32)).bind fun o103 => some (Sum.inl (nI (x + 1), o103.1, o103.2))) else (if o76 = (2 : Int32) then ((zf_X9_writes (nI (2 * g.1 * (2 * y) + 2 * x + 1)) (gput w 0 (gWB g) (2 * g.1 * (2 * y) + 2 * x + 1)) (32 : Int32)).bind fun o103 => some (Sum.inl (nI (x + 1), o103.1, o103.2))) else ((zf_X9_writes (nI (2 * g.1 * (2 * y) + 2 * x + 1)) (gput w 0 (gWB g) (2 * g.1 * (2 * y) + 2 * x + 1)) (46 : Int32)).bind fun o103 => some (Sum.inl (nI (x + 1), o103.1, o103.2)))))) = some (.inl (nI (x + 1), nI (2 * g.1 * (2 * y) + (if x + 1 < g.1 then 2 * (x + 1) else 2 * g.1 - 1)), gput w 0 (gWB g) (2 * g.1 * (2 * y) + (if x + 1 < g.1 then 2 * (x + 1) else 2 * g.1 - 1)))) := by
      by_cases e1 : x + 1 = g.1
      · rw [if_pos e1, if_neg (show ¬ x + 1 < g.1 by omega), show 2 * g.1 * (2 * y) + (2 * g.1 - 1) = 2 * g.1 * (2 * y) + 2 * x + 1 from by omega]
      · have hp : gTh (10 * y + 2 * x) g.1 g.2.1 = true := by
          unfold gTh
          rw [if_neg (by omega)]
          simp
          omega
        rw [if_neg e1, if_pos (show x + 1 < g.1 by omega)]
        unfold zf_X9_how
        rw [gHowBy hw hm hp, Option.bind_some, Option.bind_some]
        have hv := gWB1 (g := g) (y := y) hxc
        rw [if_neg e1] at hv
        have h2 := gHow2 hw (10 * y + 2 * x)
        rcases (show gHow g (10 * y + 2 * x) = 0 ∨ gHow g (10 * y + 2 * x) = 1 ∨ gHow g (10 * y + 2 * x) = 2 by omega) with e | e | e <;> rw [e] at hv ⊢
        · rw [if_neg (by decide), if_neg (by decide), b1 46 hv.symm]
          rfl
        · rw [if_pos (by decide), b1 45 hv.symm]
          rfl
        · rw [if_neg (by decide), if_pos (by decide), b1 32 hv.symm]
          rfl
    cases hs : g.2.2.2 (5 * y + x) with
    | false =>
      rw [if_pos rfl, b0 111 (by rw [gWB0 hxc, hs]; rfl), Option.bind_some]
      exact tl
    | true =>
      rw [if_neg (by decide), b0 35 (by rw [gWB0 hxc, hs]; rfl), Option.bind_some]
      exact tl
  · dsimp only
    rw [if_neg (by omega)]
    unfold zf_X9_write_l22
    rw [if_pos (Int32.le_refl _)]
theorem gwP9 {g : gG} (hw : gWf g) {fc fr : Int32} {ct cs : Nat → Int32} (hm : gRM g fc fr ct cs) (w : Nat → Int32) {y : Nat} (hy : y + 1 < g.2.1) : zit (fun q : Int32 × Int32 × (Nat → Int32) => zf_X9_write_l133 (nI g.1) ct cs (nI y) q.1 q.2.1 q.2.2) zfu ((0 : Int32), nI (2 * g.1 * (2 * y + 1)), gput w 0 (gWB g) (2 * g.1 * (2 * y + 1))) = some (nI (2 * g.1 * (2 * y + 1) + (2 * g.1 - 1)), gput w 0 (gWB g) (2 * g.1 * (2 * y + 1) + (2 * g.1 - 1))) := by
  have hc := hw.1
  have hr := hw.2.1
  have hM := gcM (c := g.1) (r := g.2.1) hc (l := 2 * y + 1) (by omega)
  have e := gitr (f := fun q : Int32 × Int32 × (Nat → Int32) => zf_X9_write_l133 (nI g.1) ct cs (nI y) q.1 q.2.1 q.2.2) (fun x => (nI x, nI (2 * g.1 * (2 * y + 1) + (2 * x - 1)), gput w 0 (gWB g) (2 * g.1 * (2 * y + 1) + (2 * x - 1)))) g.1 (n := zfu) (b := (nI (2 * g.1 * (2 * y + 1) + (2 * g.1 - 1)), gput w 0 (gWB g) (2 * g.1 * (2 * y + 1) + (2 * g.1 - 1)))) (gfu (by omega)) ?_ ?_
  · rw [← e]
    rfl
  · intro x hxc
    dsimp only
    unfold zf_X9_write_l133 zf_X9_write_151 zf_X9_write_189
    have k2 : ((10 : Int32) * nI y) + ((2 : Int32) * nI x) + 1 = nI (10 * y + 2 * x + 1) := by rw [show (10 : Int32) = nI 10 from rfl, show (2 : Int32) = nI 2 from rfl, gmul, gmul, nI_add, nI_1]
    rw [k2, if_neg (gle50 (by omega) (by omega) hxc), nI_1]
    have hp : gTh (10 * y + 2 * x + 1) g.1 g.2.1 = true := by
      unfold gTh
      rw [if_pos (by omega)]
      simp
      omega
    have hh : zf_X9_how ct cs (nI (10 * y + 2 * x + 1)) = some (nI (gHow g (10 * y + 2 * x + 1))) := by
      unfold zf_X9_how
      rw [gHowBy hw hm hp]
      rfl
    have hv := gWB2 (g := g) (y := y) hxc
    have h2 := gHow2 hw (10 * y + 2 * x + 1)
    have b1 : ∀ v, v = gWB g (2 * g.1 * (2 * y + 1) + 2 * x) → zf_X9_writes (nI (2 * g.1 * (2 * y + 1) + 2 * x)) (gput w 0 (gWB g) (2 * g.1 * (2 * y + 1) + 2 * x)) v = some (nI (2 * g.1 * (2 * y + 1) + 2 * x + 1), gput w 0 (gWB g) (2 * g.1 * (2 * y + 1) + 2 * x + 1)) := fun v hv => gwb9 w _ (by omega) hv
    have tl : ((zf_X9_how ct cs (nI (10 * y + 2 * x + 1))).bind fun o162 => if o162 = (1 : Int32) then ((zf_X9_writes (nI (2 * g.1 * (2 * y + 1) + 2 * x)) (gput w 0 (gWB g) (2 * g.1 * (2 * y + 1) + 2 * x)) (124 : Int32)).bind fun o189 => some (Sum.inl (nI (x + 1), o189.1, o189.2) : (Int32 × Int32 × (Nat → Int32)) ⊕ (Int32 × (Nat → Int32)))) else (if o162 = (2 : Int32) then ((zf_X9_writes (nI (2 * g.1 * (2 * y + 1) + 2 * x)) (gput w 0 (gWB g) (2 * g.1 * (2 * y + 1) + 2 * x)) (32 : Int32)).bind fun o189 => some (Sum.inl (nI (x + 1), o189.1, o189.2))) else ((zf_X9_writes (nI (2 * g.1 * (2 * y + 1) + 2 * x)) (gput w 0 (gWB g) (2 * g.1 * (2 * y + 1) + 2 * x)) (46 : Int32)).bind fun o189 => some (Sum.inl (nI (x + 1), o189.1, o189.2))))) = some (.inl (nI (x + 1), nI (2 * g.1 * (2 * y + 1) + (2 * (x + 1) - 1)), gput w 0 (gWB g) (2 * g.1 * (2 * y + 1) + (2 * (x + 1) - 1)))) := by
      rw [hh, Option.bind_some, show 2 * g.1 * (2 * y + 1) + (2 * (x + 1) - 1) = 2 * g.1 * (2 * y + 1) + 2 * x + 1 from by omega]
      rcases (show gHow g (10 * y + 2 * x + 1) = 0 ∨ gHow g (10 * y + 2 * x + 1) = 1 ∨ gHow g (10 * y + 2 * x + 1) = 2 by omega) with e | e | e <;> rw [e] at hv ⊢
      · rw [if_neg (by decide), if_neg (by decide), b1 46 hv.symm]
        rfl
      · rw [if_pos (by decide), b1 124 hv.symm]
        rfl
      · rw [if_neg (by decide), if_pos (by decide), b1 32 hv.symm]
        rfl
    by_cases x0 : x = 0
    · subst x0
      rw [if_pos (by decide)]
      exact tl
    · have c0 : ¬ nI x ≤ 0 := by
        rw [show (0 : Int32) = nI 0 from rfl, nI_leI (by omega) (by decide)]
        omega
      obtain ⟨z, rfl⟩ : ∃ z, x = z + 1 := ⟨x - 1, by omega⟩
      have hz := gWB3 (g := g) (y := y) (x := z) (by omega)
      rw [if_neg (show ¬ z + 1 = g.1 by omega)] at hz
      rw [if_neg c0, show 2 * g.1 * (2 * y + 1) + (2 * (z + 1) - 1) = 2 * g.1 * (2 * y + 1) + 2 * z + 1 from by omega, gwb9 w _ (by omega) hz.symm, Option.bind_some]
      exact tl
  · dsimp only
    unfold zf_X9_write_l133
    rw [if_pos (Int32.le_refl _)]
theorem gw9 {g : gG} (hw : gWf g) {fc fr : Int32} {ct cs : Nat → Int32} (hm : gRM g fc fr ct cs) (w : Nat → Int32) : zf_X9_write fc fr ct cs w = some (nI (gWn g g.2.1), 0, nI (gWn g g.2.1), gput w 0 (gWB g) (gWn g g.2.1)) := by
  have hc := hw.1
  have hr := hw.2.1
  unfold zf_X9_write
  rw [hm.1, hm.2.1]
  have e := gitr (f := fun q : Int32 × Int32 × (Nat → Int32) => zf_X9_write_l12 (nI g.1) (nI g.2.1) ct cs q.1 q.2.1 q.2.2) (fun y => (nI y, nI (gWn g y), gput w 0 (gWB g) (gWn g y))) g.2.1 (n := zfu) (b := (nI (gWn g g.2.1), gput w 0 (gWB g) (gWn g g.2.1))) (gfu (by omega)) ?_ ?_
  · have e0 : ((0 : Int32), (0 : Int32), w) = (nI 0, nI (gWn g 0), gput w 0 (gWB g) (gWn g 0)) := by
      have : gWn g 0 = 0 := by unfold gWn; rw [if_pos (by omega)]; simp
      rw [this, gput0]
      rfl
    rw [e0, e]
    rfl
  · intro y hy
    dsimp only
    unfold zf_X9_write_l12 zf_X9_write_204
    have n0 : gWn g y = 2 * g.1 * (2 * y) := by unfold gWn; rw [if_pos hy]
    have hM := gcM (c := g.1) (r := g.2.1) hc (l := 2 * y) (by omega)
    have hv1 := gWB1 (g := g) (y := y) (x := g.1 - 1) (by omega)
    rw [if_pos (by omega)] at hv1
    rw [n0, if_neg (gle50 (by omega) (by omega) hy), gwC9 hw hm w hy, Option.bind_some, show 2 * g.1 * (2 * y) + (2 * g.1 - 1) = 2 * g.1 * (2 * y) + 2 * (g.1 - 1) + 1 from by omega, gwb9 w _ (by omega) hv1.symm, Option.bind_some, nI_1]
    simp only [nI_eq (show y + 1 < 2 ^ 31 by omega) (show g.2.1 < 2 ^ 31 by omega)]
    rw [show 2 * g.1 * (2 * y) + 2 * (g.1 - 1) + 1 + 1 = 2 * g.1 * (2 * y) + 2 * g.1 from by omega]
    by_cases hl : y + 1 = g.2.1
    · rw [if_pos hl, gWn_r g hr.1 hl]
    · rw [if_neg hl]
      have n1 : 2 * g.1 * (2 * y) + 2 * g.1 = 2 * g.1 * (2 * y + 1) := by rw [Nat.mul_add, Nat.mul_one]
      have hM2 := gcM (c := g.1) (r := g.2.1) hc (l := 2 * y + 1) (by omega)
      have hv3 := gWB3 (g := g) (y := y) (x := g.1 - 1) (by omega)
      rw [if_pos (by omega)] at hv3
      rw [n1, gwP9 hw hm w (by omega), Option.bind_some, show 2 * g.1 * (2 * y + 1) + (2 * g.1 - 1) = 2 * g.1 * (2 * y + 1) + 2 * (g.1 - 1) + 1 from by omega, gwb9 w _ (by omega) hv3.symm, Option.bind_some, show 2 * g.1 * (2 * y + 1) + 2 * (g.1 - 1) + 1 + 1 = 2 * g.1 * (2 * y + 1) + 2 * g.1 from by omega, gWn_s g (by omega)]
  · dsimp only
    unfold zf_X9_write_l12
    rw [if_pos (Int32.le_refl _)]
theorem gP44_ok : gP44 gInv := by
  intro xi xu fg xh xk ac LG G mi mh mk h
  obtain ⟨g, past, h1, h2, h3, h4, h5, h6, h7⟩ := h
  obtain ⟨hok, hg, hx, hm⟩ := id h3
  refine ⟨_, _, gw8 hok.1 hx (xh 12), gw9 hok.1 hm (mh 20), rfl, g, past, h1, ⟨gWn g g.2.1, gWn_90 hok.1, rfl, rfl, fun i hi => ?_⟩, h3, h4, h5, h6, h7⟩
  show gput (xh 12) 0 (gWB g) (gWn g g.2.1) i = gput (mh 20) 0 (gWB g) (gWn g g.2.1) i
  unfold gput
  rw [if_pos (by omega), if_pos (by omega)]
