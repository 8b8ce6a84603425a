/-! draws: drawn -/
def gNx (s : Int32) : Int32 := (1103515245 : Int32) * s + (12345 : Int32)
def gBt5 (s b : Int32) : Int32 := zrem ((zushr s (16 : Int32)) &&& (32767 : Int32)) b
/-- the seed ahead of a pipe -/
def gSd (g : gG) (s : Int32) : Nat → Int32
  | 0 => s
  | n + 1 => if gIs g 0 n then gNx (gSd g s n) else gSd g s n
/-- is a free pipe drawn open? -/
def gDw (g : gG) (s a b : Int32) (p : Nat) : Bool := gIs g 0 p && !decide (a ≤ gBt5 (gNx (gSd g s p)) b)
theorem gDw_is {g : gG} {s a b : Int32} {p : Nat} (h : gDw g s a b p = true) : gIs g 0 p = true := by
  unfold gDw at h
  rw [Bool.and_eq_true] at h
  exact h.1
theorem gdrawO {g : gG} (hok : gOk g) {d : zGD} (hx : gRX g d) (s a b : Int32) (hb : ¬ b ≤ 0) : ∃ op, zf_X8_drawOpen s a b d = some op ∧ ∀ i, i < 64 → gbt op i = gDw g s a b i := by
  have hw := hok.1
  have b0 : ¬ b = 0 := fun e => hb (by rw [e]; exact Int32.le_refl _)
  unfold zf_X8_drawOpen
  have hH := gitH (f := fun e : Int64 × Int32 × Int32 => zf_X8_drawOpen_l9 a b d e.1 e.2.1 e.2.2) (fun j e => e.2.1 = gSd g s j ∧ e.2.2 = nI j ∧ ∀ i, i < 64 → gbt e.1 i = (decide (i < j) && gDw g s a b i)) (fun e => ∀ i, i < 64 → gbt e i = gDw g s a b i) 50 (n := zfu) (gfu (by decide)) (a := ((0 : Int64), s, (0 : Int32))) ⟨rfl, rfl, fun i _ => by rw [gbt_zero]; rfl⟩ ?_ ?_
  · obtain ⟨op, e, k⟩ := hH
    rw [e, Option.bind_some]
    exact ⟨op, rfl, k⟩
  · rintro j ⟨x, sd, y⟩ hj ⟨rfl, rfl, k⟩
    dsimp only at k ⊢
    unfold zf_X8_drawOpen_l9 zf_X8_drawOpen_59 zf_X8_nextSeed zf_X8_seedBits
    rw [if_neg (gl50 hj), gfreeI hw hx hj, Option.bind_some, Option.bind_some, if_neg hb, Option.bind_some, if_neg b0, nI_1]
    have keep : gDw g s a b j = false → ∀ i, i < 64 → gbt x i = (decide (i < j + 1) && gDw g s a b i) := by
      intro hz i hi
      rw [k i hi]
      by_cases e : i = j
      · rw [e, hz]; simp
      · rw [decide_eq_decide.mpr (show i < j ↔ i < j + 1 by omega)]
    cases hf : gIs g 0 j with
    | false =>
      rw [if_pos (show gbI false = 0 from rfl)]
      refine ⟨_, rfl, ?_, rfl, keep (by unfold gDw; rw [hf]; rfl)⟩
      show _ = (if gIs g 0 j then gNx (gSd g s j) else gSd g s j)
      rw [hf, if_neg (by decide)]
    | true =>
      have nx : gSd g s (j + 1) = gNx (gSd g s j) := by
        show (if gIs g 0 j then gNx (gSd g s j) else gSd g s j) = _
        rw [hf, if_pos rfl]
      rw [if_neg (show ¬ gbI true = 0 by decide), nx]
      have ew : zrem ((zushr ((1103515245 : Int32) * gSd g s j + (12345 : Int32)) (16 : Int32)) &&& (32767 : Int32)) b = gBt5 (gNx (gSd g s j)) b := rfl
      rw [ew]
      by_cases q : a ≤ gBt5 (gNx (gSd g s j)) b
      · rw [if_pos q]
        exact ⟨_, rfl, rfl, rfl, keep (by unfold gDw; rw [decide_eq_true q]; simp)⟩
      · rw [if_neg q]
        have dj : gDw g s a b j = true := by unfold gDw; rw [hf, decide_eq_false q]; rfl
        refine ⟨_, rfl, rfl, rfl, fun i hi => ?_⟩
        dsimp only
        rw [gbt_or, k i hi, gbt_bit i (show j < 64 by omega)]
        by_cases e : i = j
        · rw [e, dj, decide_eq_true rfl, decide_eq_true (show j < j + 1 by omega)]; simp
        · rw [decide_eq_false e, Bool.or_false, decide_eq_decide.mpr (show i < j ↔ i < j + 1 by omega)]
  · rintro ⟨x, sd, y⟩ ⟨rfl, rfl, k⟩
    dsimp only at k ⊢
    unfold zf_X8_drawOpen_l9
    rw [if_pos (by decide)]
    refine ⟨_, rfl, fun i hi => ?_⟩
    rw [k i hi]
    by_cases q : i < 50
    · rw [decide_eq_true q, Bool.true_and]
    · have z : gDw g s a b i = false := by
        cases hh : gDw g s a b i with
        | false => rfl
        | true =>
          have := gDw_is hh
          rw [gIs64 hw (by omega)] at this
          cases this
      rw [z, Bool.and_false]
/-- what is open behind a draw -/
def gOd (g : gG) (s a b : Int32) (p : Nat) : Bool := gDw g s a b p || gIs g 1 p
theorem gOd_may {g : gG} (s a b : Int32) : gMay g (gOd g s a b) := by
  intro p h
  unfold gOd at h
  rw [Bool.or_eq_true] at h
  rcases h with h | h
  · exact (gIs_sp (gDw_is h)).1
  · exact (gIs_sp h).1
theorem gdraws (s b : Int32) (hb : ¬ b = 0) : zf_X9_draws s b = some (gBt5 (gNx s) b, gNx s) := by
  unfold zf_X9_draws gBt5 gNx
  rw [if_neg hb, Int32.mul_comm s]
theorem gdrawnM {g : gG} (hok : gOk g) {fc fr : Int32} {ct cs : Nat → Int32} (hM : gRM g fc fr ct cs) (s a b : Int32) (hb : ¬ b = 0) (io : Nat → Int32) : ∃ sd io', zit (fun d : Int32 × Int32 × Int32 × (Nat → Int32) => zf_X9_drawn_l51 fc fr ct cs a b d.1 d.2.1 d.2.2.1 d.2.2.2) zfu ((0 : Int32), (0 : Int32), s, io) = some (nI (gct (gDw g s a b) 50), sd, io') ∧ ∀ p, gTh p g.1 g.2.1 = true → io' p = gbI (gOd g s a b p) := by
  have hw := hok.1
  have hr := hw.2.1
  have hH := gitH (f := fun d : Int32 × Int32 × Int32 × (Nat → Int32) => zf_X9_drawn_l51 fc fr ct cs a b d.1 d.2.1 d.2.2.1 d.2.2.2) (fun j d => d.1 = nI (gct (gDw g s a b) j) ∧ d.2.1 = nI j ∧ d.2.2.1 = gSd g s j ∧ ∀ p, p < j → gTh p g.1 g.2.1 = true → d.2.2.2 p = gbI (gOd g s a b p)) (fun d => d.1 = nI (gct (gDw g s a b) 50) ∧ ∀ p, gTh p g.1 g.2.1 = true → d.2.2 p = gbI (gOd g s a b p)) 50 (n := zfu) (gfu (by decide)) (a := ((0 : Int32), (0 : Int32), s, io)) ⟨rfl, rfl, rfl, fun p h => by omega⟩ ?_ ?_
  · obtain ⟨⟨n, sd, io'⟩, e, k1, k2⟩ := hH
    dsimp only at k1 k2
    subst k1
    exact ⟨sd, io', e, k2⟩
  · rintro j ⟨x5, x6, sd, io1⟩ hj ⟨rfl, rfl, rfl, k⟩
    dsimp only at k ⊢
    have ip := gisP hj hw.1 hw.2.1
    rw [← hM.1, ← hM.2.1] at ip
    have z : zgd (nI j) 50 = true := ggN hj (by decide)
    unfold zf_X9_drawn_l51
    rw [if_neg (gl50 hj), ip, Option.bind_some]
    have ns : gSd g s (j + 1) = (if gIs g 0 j then gNx (gSd g s j) else gSd g s j) := rfl
    cases ht : gTh j g.1 g.2.1 with
    | false =>
      have nf : gIs g 0 j = false := by unfold gIs; rw [ht]; rfl
      have nd : gDw g s a b j = false := by unfold gDw; rw [nf]; rfl
      unfold zf_X9_drawn_147
      rw [if_pos (show gbI false = 0 from rfl), nI_1]
      refine ⟨_, rfl, by rw [gctS, nd]; rfl, rfl, by rw [ns, nf]; rfl, fun p hp h => ?_⟩
      by_cases e : p = j
      · rw [e, ht] at h; cases h
      · exact k p (by omega) h
    | true =>
      have h2 := gHow2 hw j
      have upd1 : ∀ v : Bool, v = gOd g s a b j → ∀ p, p < j + 1 → gTh p g.1 g.2.1 = true → upd io1 j (gbI v) p = gbI (gOd g s a b p) := by
        intro v hv p hp h
        by_cases e : p = j
        · rw [e, gupS, hv]
        · rw [gupN e]; exact k p (by omega) h
      rw [if_neg (show ¬ gbI true = 0 by decide), ghow hw hM ht, Option.bind_some]
      unfold zf_X9_drawn_117 zf_X9_drawn_143 zf_X9_drawn_144 zf_X9_drawn_147
      simp only [ghow hw hM ht, Option.bind_some, z, if_true]
      rw [nI_1, nI_clamp (by omega)]
      by_cases q0 : gHow g j = 0
      · have f : gIs g 0 j = true := by unfold gIs; rw [ht, q0]; rfl
        have n1 : gIs g 1 j = false := by unfold gIs; rw [ht, q0]; rfl
        have e0 : nI (gHow g j) = (0 : Int32) := by rw [q0]; rfl
        rw [if_pos e0, gdraws _ _ hb, Option.bind_some]
        dsimp only
        by_cases c : a ≤ gBt5 (gNx (gSd g s j)) b
        · have nd : gDw g s a b j = false := by unfold gDw; rw [decide_eq_true c]; simp
          have vo : vp_nar .boolean (0 : Int32) = gbI false := gnar false
          rw [if_pos c, if_pos e0, vo, if_pos (show upd io1 j (gbI false) j = 0 by rw [gupS]; rfl), show (0 : Int32) = nI 0 from rfl, nI_add]
          refine ⟨_, rfl, by rw [gctS, nd]; rfl, rfl, by rw [ns, f]; rfl, upd1 false (by unfold gOd; rw [nd, n1]; rfl)⟩
        · have nd : gDw g s a b j = true := by unfold gDw; rw [f, decide_eq_false c]; rfl
          have vo : vp_nar .boolean (1 : Int32) = gbI true := gnar true
          rw [if_neg c, if_pos e0, vo, if_neg (show ¬ upd io1 j (gbI true) j = 0 by rw [gupS]; decide), nI_1]
          refine ⟨_, rfl, by rw [gctS, nd]; rfl, rfl, by rw [ns, f]; rfl, upd1 true (by unfold gOd; rw [nd]; rfl)⟩
      · have f : gIs g 0 j = false := by unfold gIs; rw [ht, decide_eq_false q0]; rfl
        have nd : gDw g s a b j = false := by unfold gDw; rw [f]; rfl
        have e0 : ¬ nI (gHow g j) = (0 : Int32) := by rw [show (0 : Int32) = nI 0 from rfl, nI_eq (by omega) (by decide)]; exact q0
        rw [if_neg e0]
        by_cases q1 : gHow g j = 1
        · have vo : vp_nar .boolean (1 : Int32) = gbI true := gnar true
          rw [if_pos (show nI (gHow g j) = (1 : Int32) by rw [q1]; rfl), if_neg e0, vo, show (0 : Int32) = nI 0 from rfl, nI_add]
          refine ⟨_, rfl, by rw [gctS, nd]; rfl, rfl, by rw [ns, f]; rfl, upd1 true (by unfold gOd gIs; rw [nd, ht, q1]; rfl)⟩
        · have vo : vp_nar .boolean (0 : Int32) = gbI false := gnar false
          rw [if_neg (show ¬ nI (gHow g j) = (1 : Int32) by rw [show (1 : Int32) = nI 1 from rfl, nI_eq (by omega) (by decide)]; exact q1), if_neg e0, vo, show (0 : Int32) = nI 0 from rfl, nI_add]
          refine ⟨_, rfl, by rw [gctS, nd]; rfl, rfl, by rw [ns, f]; rfl, upd1 false (by unfold gOd gIs; rw [nd, ht, decide_eq_false q1]; rfl)⟩
  · rintro ⟨x5, x6, sd, io1⟩ ⟨rfl, rfl, rfl, k⟩
    dsimp only at k ⊢
    unfold zf_X9_drawn_l51
    rw [if_pos (by decide)]
    exact ⟨_, rfl, rfl, fun p hp => k p (gTh50 hr.2 hp) hp⟩
/-- the last row with a cell of a set -/
def gLr (C : Nat → Bool) : Nat → Int32
  | 0 => -1
  | n + 1 => if gAr9 C n then nI n else gLr C n
def gLk9 (C : Nat → Bool) : Nat → Int32
  | 0 => -1
  | n + 1 => if C n then nI (n / 5) else gLk9 C n
theorem gLk9_E (C : Nat → Bool) : ∀ y, gLk9 C (5 * y) = gLr C y := by
  intro y
  induction y with
  | zero => rfl
  | succ y ih =>
    have s : ∀ n, gLk9 C (n + 1) = if C n then nI (n / 5) else gLk9 C n := fun n => rfl
    show gLk9 C (5 * y + 4 + 1) = (if gAr9 C y then nI y else gLr C y)
    rw [s (5 * y + 4), s (5 * y + 3), s (5 * y + 2), s (5 * y + 1), s (5 * y), ih, show (5 * y + 4) / 5 = y by omega, show (5 * y + 3) / 5 = y by omega, show (5 * y + 2) / 5 = y by omega, show (5 * y + 1) / 5 = y by omega, show 5 * y / 5 = y by omega]
    unfold gAr9
    rw [show List.range 5 = [0, 1, 2, 3, 4] from rfl]
    simp only [List.any_cons, List.any_nil, Nat.add_zero, Bool.or_false]
    cases C (5 * y) <;> cases C (5 * y + 1) <;> cases C (5 * y + 2) <;> cases C (5 * y + 3) <;> cases C (5 * y + 4) <;> rfl
theorem glastC {x : Int64} {C : Nat → Bool} (hC : gEv x C) : zf_X8_lastRowOf x = some (gLr C 5) := by
  unfold zf_X8_lastRowOf
  have e := gitr (f := fun d : Int32 × Int32 => zf_X8_lastRowOf_l4 x d.1 d.2) (fun j => (gLr C j, nI j)) 5 (n := zfu) (b := gLr C 5) (gfu (by decide)) ?_ ?_
  · have e' : zit (fun d : Int32 × Int32 => zf_X8_lastRowOf_l4 x d.1 d.2) zfu ((-1 : Int32), (0 : Int32)) = some (gLr C 5) := e
    rw [e']
    rfl
  · intro j hj
    dsimp only
    unfold zf_X8_lastRowOf_l4 zf_X8_lastRowOf_26
    have ra := growA hC (y := j) hj
    rw [if_neg (show ¬ (5 : Int32) ≤ nI j from gle50 (a := 5) (by decide) (by omega) hj), nI_1]
    show _ = some (Sum.inl ((if gAr9 C j then nI j else gLr C j), nI (j + 1)))
    cases hh : gAr9 C j with
    | false => rw [if_pos (ra.mpr hh)]; rfl
    | true => rw [if_neg (fun h => by have := ra.mp h; rw [hh] at this; cases this)]; rfl
  · dsimp only
    unfold zf_X8_lastRowOf_l4
    rw [if_pos (by decide)]
theorem gwetM2 {w : Nat → Int32} {C : Nat → Bool} (hC : gWp w C) : zit (fun d : Int32 × Int32 × Int32 => zf_X9_drawn_l168 w d.1 d.2.1 d.2.2) zfu ((0 : Int32), (-1 : Int32), (0 : Int32)) = some (nI (gct C 25), gLr C 5) := by
  rw [← gLk9_E]
  have e := gitr (f := fun d : Int32 × Int32 × Int32 => zf_X9_drawn_l168 w d.1 d.2.1 d.2.2) (fun j => (nI (gct C j), gLk9 C j, nI j)) 25 (n := zfu) (b := (nI (gct C 25), gLk9 C (5 * 5))) (gfu (by decide)) ?_ ?_
  · exact e
  · intro j hj
    have z : zgd (nI j) 25 = true := ggN hj (by decide)
    dsimp only
    unfold zf_X9_drawn_l168 zf_X9_drawn_192 zf_X9_drawn_214
    rw [if_neg (gle25 hj), if_pos z, if_pos z, if_pos z, nI_clamp (by omega), hC j hj, nI_1, gctS, show (5 : Int32) = nI 5 from rfl, gdiv (by omega) (by decide)]
    show _ = some (Sum.inl (_, (if C j then nI (j / 5) else gLk9 C j), _))
    cases hh : C j with
    | false =>
      rw [if_pos (show gbI false = 0 from rfl), if_pos (show gbI false = 0 from rfl), show (0 : Int32) = nI 0 from rfl, nI_add]
      rfl
    | true =>
      rw [if_neg (show ¬ gbI true = 0 by decide), if_neg (show ¬ gbI true = 0 by decide), nI_1]
      rfl
  · dsimp only
    unfold zf_X9_drawn_l168
    rw [if_pos (by decide)]
theorem gcntC {g : gG} (hw : gWf g) {x : Int64} {o : Nat → Bool} (hC : gEv x (gWb g o)) : zf_J13_bitCount_95d88 x = some (nI (gct (gWb g o) 25)) := by
  rw [gbc]
  congr 2
  show gct (fun i => gbt x i) (2 * 32) = _
  have e : gct (fun i => gbt x i) (2 * 32) = gct (fun i => decide (i % 2 = 0) && gWb g o (i / 2)) (2 * 32) := gct_cong fun i hi => by
    rw [hC i, decide_eq_true (show i < 64 by omega), Bool.true_and]
  rw [e, gct2 (st := gWb g o) (fun j => by rw [show 2 * j / 2 = j by omega, decide_eq_true (show 2 * j % 2 = 0 by omega)]; rfl) (fun j => by rw [decide_eq_false (show ¬ (2 * j + 1) % 2 = 0 by omega)]; rfl) 32]
  exact gct_stop 32 (fun i hi => by
    cases hh : gWb g o i with
    | false => rfl
    | true => have := gRc_25 hw (gWb_iff.mp hh); omega) (by omega)
theorem gLr_J {g : gG} (hw : gWf g) (o : Nat → Bool) : (gLr (gWb g o) 5 = nI (g.2.1 - 1)) ↔ gJo g o = true := by
  have hr := hw.2.1
  have no : ∀ y, g.2.1 ≤ y → gAr9 (gWb g o) y = false := by
    intro y hy
    cases hh : gAr9 (gWb g o) y with
    | false => rfl
    | true =>
      obtain ⟨k, k1, k2, k3⟩ := gAr9_iff.mp hh
      have := gRc_in hw (gWb_iff.mp k3)
      omega
  have up : ∀ n, g.2.1 + n ≤ 5 → gLr (gWb g o) (g.2.1 + n) = gLr (gWb g o) g.2.1 := by
    intro n
    induction n with
    | zero => intro _; rfl
    | succ n ih =>
      intro h
      show (if gAr9 (gWb g o) (g.2.1 + n) then nI (g.2.1 + n) else gLr (gWb g o) (g.2.1 + n)) = _
      rw [no _ (by omega), if_neg (by decide)]
      exact ih (by omega)
  have lt : ∀ n, gLr (gWb g o) n = -1 ∨ ∃ y, y < n ∧ gLr (gWb g o) n = nI y := by
    intro n
    induction n with
    | zero => exact Or.inl rfl
    | succ n ih =>
      show (if gAr9 (gWb g o) n then nI n else gLr (gWb g o) n) = -1 ∨ ∃ y, y < n + 1 ∧ (if gAr9 (gWb g o) n then nI n else gLr (gWb g o) n) = nI y
      cases hh : gAr9 (gWb g o) n with
      | true => exact Or.inr ⟨n, by omega, rfl⟩
      | false =>
        rcases ih with h | ⟨y, y1, y2⟩
        · exact Or.inl h
        · exact Or.inr ⟨y, by omega, y2⟩
  have e5 := up (5 - g.2.1) (by omega)
  rw [show g.2.1 + (5 - g.2.1) = 5 by omega] at e5
  obtain ⟨m, hm⟩ : ∃ m, g.2.1 = m + 1 := ⟨g.2.1 - 1, by omega⟩
  have er : gLr (gWb g o) g.2.1 = if gAr9 (gWb g o) m then nI m else gLr (gWb g o) m := by rw [hm]; rfl
  rw [e5, er]
  unfold gJo
  rw [show g.2.1 - 1 = m by omega]
  cases hh : gAr9 (gWb g o) m with
  | true => exact ⟨fun _ => rfl, fun _ => rfl⟩
  | false =>
    refine ⟨fun h => ?_, fun h => by cases h⟩
    exfalso
    have h' : gLr (gWb g o) m = nI m := h
    rcases lt m with l | ⟨y, y1, y2⟩
    · rw [l] at h'
      exact gm1 (show m < 50 by omega) h'.symm
    · rw [y2, nI_eq (by omega) (by omega)] at h'
      omega
theorem gP39_ok : gP39 gInv := by
  intro xi xu fg xh xk ac LG G mi mh mk h x1 x2 x3 x4
  obtain ⟨g, past, h1, h2, h3, h4, h5, h6, h7⟩ := h
  obtain ⟨hok, hg, hx, hm⟩ := id h3
  have hr := hok.1.2.1
  have bad : ∀ (v t : Int32) (z : Nat), ((z = 2 ∧ t = 1) ∨ (z = 4 ∧ t = 2)) → ∃ (out : Int32 ⊕ Nat) (outM : Int32 × Int32 × Int32 × (Nat → Int32) × (Nat → Int32)), some (Sum.inr z : Int32 ⊕ Nat) = some out ∧ some (v, t, mi 11, mh 10, mh 11) = some outM ∧ ((∃ o, out = .inl o ∧ outM.1 = o ∧ outM.2.1 = 0 ∧ gInv xi xu fg xh xk ac LG G (gset (gset mi 0 outM.2.1) 11 outM.2.2.1) (gset (gset mh 10 outM.2.2.2.1) 11 outM.2.2.2.2) mk) ∨ (∃ z, out = .inr z ∧ ((z = 2 ∧ outM.2.1 = 1) ∨ (z = 4 ∧ outM.2.1 = 2)) ∧ gInv xi xu fg xh xk ac LG G (gset (gset mi 0 outM.2.1) 11 outM.2.2.1) (gset (gset mh 10 outM.2.2.2.1) 11 outM.2.2.2.2) mk)) := fun v t z hz => ⟨_, _, rfl, rfl, Or.inr ⟨z, rfl, hz, g, past, h1, h2, h3, h4, h5, h6, h7⟩⟩
  unfold zf_X8_drawn zf_X9_drawn
  rw [show (6 : Int32) = nI 6 from rfl]
  rcases gchance 6 (by decide) x2 x3 with ⟨a, b, hab, hb1, hb6, rfl, rfl, e1⟩ | ⟨e1, hn⟩
  · rw [e1, Option.bind_some, gchT9 hab hb1 hb6, Option.bind_some, if_neg (show ¬ (1 : Int32) = 0 by decide), gIn, Option.bind_some]
    dsimp only [Sum.elim_inl]
    unfold zf_X8_drawn_18
    by_cases c0 : x4 < 0
    · unfold zf_X9_drawn_28
      rw [if_pos c0, if_pos c0, if_pos rfl, if_neg (show ¬ (2 : Int32) ≤ 0 by decide)]
      exact bad _ _ _ (Or.inr ⟨rfl, rfl⟩)
    rw [if_neg c0, if_neg c0]
    by_cases c1 : ¬ x4 ≤ 3
    · unfold zf_X9_drawn_28
      rw [if_neg c1, if_neg c1, if_pos rfl, if_neg (show ¬ (2 : Int32) ≤ 0 by decide)]
      exact bad _ _ _ (Or.inr ⟨rfl, rfl⟩)
    replace c1 : x4 ≤ 3 := Decidable.not_not.mp c1
    obtain ⟨w, hw3, rfl⟩ := gnI (n := 3) (by decide) c0 c1
    have bz : ¬ nI b = 0 := fun e => by have := (nI_eq (show b < 2 ^ 31 by omega) (show 0 < 2 ^ 31 by decide)).mp e; omega
    have bl : ¬ nI b ≤ 0 := nI_nle (by omega) (by omega)
    obtain ⟨op, eo, ko⟩ := gdrawO hok hx x1 (nI a) (nI b) bl
    obtain ⟨sd, io', ei, ki⟩ := gdrawnM hok hm x1 (nI a) (nI b) bz (mh 10)
    obtain ⟨w', ew, kw⟩ := gdoesJoin hok.1 hm.2.2.2 ki (mh 11)
    rw [← hm.1, ← hm.2.1] at ew
    have hop : ∀ i, i < 64 → gbt (op ||| (G fg).2.2.2.2.2.1) i = gOd g x1 (nI a) (nI b) i := fun i hi => by
      rw [gbt_or, ko i hi, (hx.2.2.2 i hi).1]
      rfl
    obtain ⟨cl, ef, kf⟩ := gflood hok.1 (fun i hi => (hx.2.2.1 i hi).2.2) hop (gOd_may x1 (nI a) (nI b))
    rw [← hx.1] at ef
    have good : ∀ v : Int32, ∃ (out : Int32 ⊕ Nat) (outM : Int32 × Int32 × Int32 × (Nat → Int32) × (Nat → Int32)), some (Sum.inl v : Int32 ⊕ Nat) = some out ∧ some (v, (0 : Int32), sd, io', w') = some outM ∧ ((∃ o, out = .inl o ∧ outM.1 = o ∧ outM.2.1 = 0 ∧ gInv xi xu fg xh xk ac LG G (gset (gset mi 0 outM.2.1) 11 outM.2.2.1) (gset (gset mh 10 outM.2.2.2.1) 11 outM.2.2.2.2) mk) ∨ (∃ z, out = .inr z ∧ ((z = 2 ∧ outM.2.1 = 1) ∨ (z = 4 ∧ outM.2.1 = 2)) ∧ gInv xi xu fg xh xk ac LG G (gset (gset mi 0 outM.2.1) 11 outM.2.2.1) (gset (gset mh 10 outM.2.2.2.1) 11 outM.2.2.2.2) mk)) := fun v => ⟨_, _, rfl, rfl, Or.inl ⟨_, rfl, rfl, rfl, g, past, h1, h2, h3, h4, h5, h6, h7⟩⟩
    have cD : zf_J13_bitCount_95d88 op = some (nI (gct (gDw g x1 (nI a) (nI b)) 50)) := by
      rw [gbc]
      congr 2
      show gct (fun i => gbt op i) 64 = _
      rw [gct_cong (f' := gDw g x1 (nI a) (nI b)) (fun i hi => ko i hi)]
      exact gct_stop 64 (fun i hi => by
        cases hh : gDw g x1 (nI a) (nI b) i with
        | false => rfl
        | true =>
          have := gDw_is hh
          rw [gIs64 hok.1 hi] at this
          cases this) (by omega)
    unfold zf_X9_drawn_28
    rw [if_pos c1, if_pos c1, if_neg (show ¬ (1 : Int32) = 0 by decide), if_pos (show (0 : Int32) ≤ 0 by decide), eo, Option.bind_some, ei, Option.bind_some]
    dsimp only
    rw [ew, Option.bind_some]
    dsimp only
    rw [gwetM2 kw, Option.bind_some, ef, Option.bind_some, glastC kf, Option.bind_some, gcntC hok.1 kf, cD, Option.bind_some, Option.bind_some]
    have hJ := gLr_J hok.1 (gOd g x1 (nI a) (nI b))
    have zr : (G fg).2.1 - 1 = nI (g.2.1 - 1) := by rw [hx.2.1, show (1 : Int32) = nI 1 from rfl, gsub (by omega)]
    rcases (show w = 0 ∨ w = 1 ∨ w = 2 ∨ w = 3 by omega) with rfl | rfl | rfl | rfl
    · rw [if_neg (show ¬ nI 0 = (2 : Int32) by decide), if_neg (show ¬ nI 0 = (1 : Int32) by decide), if_neg (show ¬ nI 0 = (3 : Int32) by decide), if_pos (show nI 0 = (0 : Int32) from rfl), zr]
      cases hh : gJo g (gOd g x1 (nI a) (nI b)) with
      | true =>
        rw [if_pos (hJ.mpr hh), if_neg (show ¬ gbI true = 0 by decide)]
        exact good 1
      | false =>
        rw [if_neg (fun e => by have := hJ.mp e; rw [hh] at this; cases this), if_pos (show gbI false = 0 from rfl)]
        exact good 0
    · rw [if_neg (show ¬ nI 1 = (2 : Int32) by decide), if_pos (show nI 1 = (1 : Int32) from rfl), if_neg (show ¬ nI 1 = (0 : Int32) by decide), if_pos (show nI 1 = (1 : Int32) from rfl)]
      exact good _
    · rw [if_pos (show nI 2 = (2 : Int32) from rfl), if_neg (show ¬ nI 2 = (0 : Int32) by decide), if_neg (show ¬ nI 2 = (1 : Int32) by decide), if_pos (show nI 2 = (2 : Int32) from rfl)]
      exact good _
    · rw [if_neg (show ¬ nI 3 = (2 : Int32) by decide), if_neg (show ¬ nI 3 = (1 : Int32) by decide), if_pos (show nI 3 = (3 : Int32) from rfl), if_neg (show ¬ nI 3 = (0 : Int32) by decide), if_neg (show ¬ nI 3 = (1 : Int32) by decide), if_neg (show ¬ nI 3 = (2 : Int32) by decide)]
      exact good _
  · unfold zf_X9_drawn_28
    rw [e1, Option.bind_some, gchN9 hn, Option.bind_some, if_pos rfl, if_neg (show ¬ (1 : Int32) ≤ 0 by decide)]
    dsimp only [Sum.elim_inr]
    exact bad _ _ _ (Or.inl ⟨rfl, rfl⟩)
