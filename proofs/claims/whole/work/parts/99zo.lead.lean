/-! leader, rank: the cases -/
theorem gfreeI {g : gG} (hw : gWf g) {d : zGD} (hx : gRX g d) {p : Nat} (hp : p < 50) : zf_X2_isFree d.2.2.2.2.2.2.2 (nI p) = some (gbI (gIs g 0 p)) := by
  unfold zf_X2_isFree
  simp only [gbt_test _ (show p < 64 by omega), (hx.2.2.2 p (by omega)).2.2]
  show (if gIs g 0 p = false then some 0 else some 1) = some (gbI (gIs g 0 p))
  cases gIs g 0 p <;> rfl
theorem gchOf {g : gG} (hok : gOk g) {fc fr : Int32} {ct cs : Nat → Int32} (hM : gRM g fc fr ct cs) (D : gD9) (hD : gLdD g D) (dc : Nat → Int64) {p : Nat} (hp : gTh p g.1 g.2.1 = true) (h0 : gHow g p = 0) {a b : Nat} (hab : a ≤ b) (hb : b ≤ 6) : ∃ (ct' : Nat → Int32) (M : gD9) (dc' : Nat → Int64), zf_X9_chanceOf fc fr D.1 ct cs D.2.1 D.2.2.1 D.2.2.2.1 D.2.2.2.2.1 D.2.2.2.2.2.1 D.2.2.2.2.2.2.1 D.2.2.2.2.2.2.2.1 D.2.2.2.2.2.2.2.2.1 D.2.2.2.2.2.2.2.2.2.1 D.2.2.2.2.2.2.2.2.2.2 dc (nI p) (nI a) (nI b) = some (gDec g (lN a) (lN (b - a)) p, (0 : Int32), ct', M.2.1, M.2.2.1, M.2.2.2.1, M.2.2.2.2.1, M.2.2.2.2.2.1, M.2.2.2.2.2.2.1, M.2.2.2.2.2.2.2.1, M.2.2.2.2.2.2.2.2.1, M.2.2.2.2.2.2.2.2.2.1, M.2.2.2.2.2.2.2.2.2.2, dc') ∧ gRM g fc fr ct' cs ∧ gLdD g ((0 : Int32), M.2.1, M.2.2.1, M.2.2.2.1, M.2.2.2.2.1, M.2.2.2.2.2.1, M.2.2.2.2.2.2.1, M.2.2.2.2.2.2.2.1, M.2.2.2.2.2.2.2.2.1, M.2.2.2.2.2.2.2.2.2.1, M.2.2.2.2.2.2.2.2.2.2) := by
  obtain ⟨ct', M, dc', e, hM', m0, kd⟩ := glaysDec hok hM D hD dc hp h0
  have f24 := hok.2
  have f1 : 0 < gFree g := by
    obtain ⟨-, e1⟩ := gTl_ok hok hp h0 (h := 1) (Or.inl rfl)
    omega
  refine ⟨ct', M, dc', ?_, hM', gld0 m0⟩
  unfold zf_X9_chanceOf
  rw [gX9free hok.1 hM, Option.bind_some, e, Option.bind_some]
  dsimp only
  rw [show nI (gFree g) - 1 = nI (gFree g - 1) by rw [show (1 : Int32) = nI 1 from rfl, gsub (by omega)]]
  rw [gsumI (f := fun d : Int64 × Int32 => zf_X9_chanceOf_l19 dc' (nI a) (nI b) (nI (gFree g - 1)) d.1 d.2) (fun k => (lN (gJ (gTell g p 1) k) - lN (gJ (gTell g p 2) k)) * (gPw (lN a) k * gPw (lN (b - a)) (gFree g - 1 - k))) (gFree g) (by omega) (fun j v hj => ?_) (fun v => ?_), Option.bind_some]
  · rfl
  · dsimp only
    unfold zf_X9_chanceOf_l19
    rw [if_neg (by rw [nI_ltI (by omega) (by omega)]; omega), if_pos (ggN (by omega) (by decide)), nI_l (by omega), gpow9 (by omega), Option.bind_some, gsub hab, nI_l (by omega), gsub (show j ≤ gFree g - 1 by omega), gpow9 (by omega), Option.bind_some, nI_clamp (by omega), kd j (by omega), nI_1, gPw_n, gPw_n, Int64.mul_assoc]
  · dsimp only
    unfold zf_X9_chanceOf_l19
    rw [if_pos (by rw [nI_ltI (by omega) (by omega)]; omega)]
theorem gDec_n {g : gG} (hok : gOk g) {p : Nat} (hp : gTh p g.1 g.2.1 = true) (h0 : gHow g p = 0) {a b : Nat} (hab : a ≤ b) (hb : b ≤ 6) : ∃ n, n < 2 ^ 63 ∧ gDec g (lN a) (lN (b - a)) p = lN n := by
  obtain ⟨ok1, -⟩ := gTl_ok hok hp h0 (h := 1) (Or.inl rfl)
  have le := gUp_le ok1 a (b - a)
  rw [show a + (b - a) = b by omega] at le
  have p63 := gpow63 hb ok1.2
  have mn := gDec_pos hok hp h0 a (b - a)
  exact ⟨gUp (gTell g p 1) a (b - a) - gUp (gTell g p 2) a (b - a), by omega, by rw [gDec_U hok hp h0, lN_sub mn]⟩
/-- the best so far -/
def gBe (g : gG) (t : Nat → Int64) : Nat → Option Nat
  | 0 => none
  | n + 1 => if gIs g 0 n then (match gBe g t n with
    | none => some n
    | some q => if t q < t n then some n else some q) else gBe g t n
theorem gBe_is {g : gG} {t : Nat → Int64} : ∀ n q, gBe g t n = some q → q < n ∧ gIs g 0 q = true := by
  intro n
  induction n with
  | zero => intro q h; cases h
  | succ n ih =>
    intro q h
    have h' : (if gIs g 0 n then (match gBe g t n with
      | none => some n
      | some q => if t q < t n then some n else some q) else gBe g t n) = some q := h
    by_cases f : gIs g 0 n = true
    · rw [if_pos f] at h'
      cases hb : gBe g t n with
      | none =>
        rw [hb] at h'
        rw [← Option.some.inj h']
        exact ⟨Nat.lt_succ_self n, f⟩
      | some r0 =>
        rw [hb] at h'
        dsimp only at h'
        by_cases z : t r0 < t n
        · rw [if_pos z] at h'
          rw [← Option.some.inj h']
          exact ⟨Nat.lt_succ_self n, f⟩
        · rw [if_neg z] at h'
          rw [← Option.some.inj h']
          obtain ⟨a0, b0⟩ := ih r0 hb
          exact ⟨by omega, b0⟩
    · rw [if_neg f] at h'
      obtain ⟨a0, b0⟩ := ih q h'
      exact ⟨by omega, b0⟩
theorem gIs_sp {g : gG} {h p : Nat} (hp : gIs g h p = true) : gTh p g.1 g.2.1 = true ∧ gHow g p = h := by
  unfold gIs at hp
  rw [Bool.and_eq_true] at hp
  exact ⟨hp.1, of_decide_eq_true hp.2⟩
theorem gleadC {g : gG} (hok : gOk g) {d : zGD} (hx : gRX g d) {ch t : Nat → Int64} (hch : ∀ p, gIs g 0 p = true → ch p = t p) : zit (fun e : Int32 × Int32 => zf_X8_leader_l20 ch d e.1 e.2) zfu ((-1 : Int32), (0 : Int32)) = some (gAns (gBe g t 50)) := by
  have e := gitr (f := fun e : Int32 × Int32 => zf_X8_leader_l20 ch d e.1 e.2) (fun j => (gAns (gBe g t j), nI j)) 50 (n := zfu) (b := gAns (gBe g t 50)) (gfu (by decide)) ?_ ?_
  · exact e
  · intro j hj
    dsimp only
    unfold zf_X8_leader_l20 zf_X8_leader_56 zf_X8_leader_60
    rw [if_neg (gl50 hj), gfreeI hok.1 hx hj, Option.bind_some, nI_1]
    have nx : gBe g t (j + 1) = if gIs g 0 j then (match gBe g t j with
      | none => some j
      | some q => if t q < t j then some j else some q) else gBe g t j := rfl
    rw [nx]
    by_cases f : gIs g 0 j = true
    · rw [f, if_neg (by decide), if_pos rfl]
      cases hb : gBe g t j with
      | none =>
        rw [show gAns none = -1 from rfl, if_pos (by decide)]
        rfl
      | some q =>
        obtain ⟨q1, q2⟩ := gBe_is j q hb
        rw [show gAns (some q) = nI q from rfl, if_neg (nI_pos (by omega)), if_pos (ggN (by omega) (by decide)), if_pos (ggN (by omega) (by decide)), nI_clamp (by omega), nI_clamp (by omega), hch j f, hch q q2]
        dsimp only
        by_cases z : t q < t j
        · rw [if_neg (by rw [lg_cmp_le]; exact Int64.not_le.mpr z), if_pos z]
          rfl
        · rw [if_pos (by rw [lg_cmp_le]; exact Int64.not_lt.mp z), if_neg z]
          rfl
    · have ff : gIs g 0 j = false := by cases hh : gIs g 0 j with | false => rfl | true => exact absurd hh f
      rw [ff, if_pos (show gbI false = 0 from rfl), if_neg (by decide)]
  · dsimp only
    unfold zf_X8_leader_l20
    rw [if_pos (by decide)]
def gMo (t : Nat → Int64) : Option Nat → Int64
  | none => -1
  | some q => t q
abbrev gL13 : Type := Int32 × (Nat → Int32) × (Nat → Int32) × (Nat → Int32) × (Nat → Int64) × (Nat → Int32) × (Nat → Int32) × (Nat → Int32) × (Nat → Int32) × (Nat → Int32) × (Nat → Int64) × (Nat → Int32) × (Nat → Int64)
/-- isLaid, told, many .. given, decided -/
def gSt13 (g : gG) (fc fr : Int32) (cs : Nat → Int32) (E : gL13) : Prop := gRM g fc fr E.2.1 cs ∧ gLdD g (E.1, E.2.2.1, E.2.2.2.1, E.2.2.2.2.1, E.2.2.2.2.2.1, E.2.2.2.2.2.2.1, E.2.2.2.2.2.2.2.1, E.2.2.2.2.2.2.2.2.1, E.2.2.2.2.2.2.2.2.2.1, E.2.2.2.2.2.2.2.2.2.2.1, E.2.2.2.2.2.2.2.2.2.2.2.1)
theorem gleadM {g : gG} (hok : gOk g) {fc fr : Int32} {cs : Nat → Int32} {a b : Nat} (hab : a ≤ b) (hb : b ≤ 6) (E0 : gL13) (h0 : gSt13 g fc fr cs E0) : ∃ E : gL13, zit (fun d : Int32 × Int64 × Int32 × gL13 => zf_X9_leader_l36 fc fr cs (nI a) (nI b) d.1 d.2.1 d.2.2.1 d.2.2.2.1 d.2.2.2.2.1 d.2.2.2.2.2.1 d.2.2.2.2.2.2.1 d.2.2.2.2.2.2.2.1 d.2.2.2.2.2.2.2.2.1 d.2.2.2.2.2.2.2.2.2.1 d.2.2.2.2.2.2.2.2.2.2.1 d.2.2.2.2.2.2.2.2.2.2.2.1 d.2.2.2.2.2.2.2.2.2.2.2.2.1 d.2.2.2.2.2.2.2.2.2.2.2.2.2.1 d.2.2.2.2.2.2.2.2.2.2.2.2.2.2.1 d.2.2.2.2.2.2.2.2.2.2.2.2.2.2.2) zfu ((-1 : Int32), (-1 : Int64), (0 : Int32), E0) = some (gAns (gBe g (gDec g (lN a) (lN (b - a))) 50), E) ∧ gSt13 g fc fr cs E := by
  have hH := gitH (f := fun d : Int32 × Int64 × Int32 × gL13 => zf_X9_leader_l36 fc fr cs (nI a) (nI b) d.1 d.2.1 d.2.2.1 d.2.2.2.1 d.2.2.2.2.1 d.2.2.2.2.2.1 d.2.2.2.2.2.2.1 d.2.2.2.2.2.2.2.1 d.2.2.2.2.2.2.2.2.1 d.2.2.2.2.2.2.2.2.2.1 d.2.2.2.2.2.2.2.2.2.2.1 d.2.2.2.2.2.2.2.2.2.2.2.1 d.2.2.2.2.2.2.2.2.2.2.2.2.1 d.2.2.2.2.2.2.2.2.2.2.2.2.2.1 d.2.2.2.2.2.2.2.2.2.2.2.2.2.2.1 d.2.2.2.2.2.2.2.2.2.2.2.2.2.2.2) (fun j d => d.1 = gAns (gBe g (gDec g (lN a) (lN (b - a))) j) ∧ d.2.1 = gMo (gDec g (lN a) (lN (b - a))) (gBe g (gDec g (lN a) (lN (b - a))) j) ∧ d.2.2.1 = nI j ∧ gSt13 g fc fr cs d.2.2.2) (fun d => d.1 = gAns (gBe g (gDec g (lN a) (lN (b - a))) 50) ∧ gSt13 g fc fr cs d.2) 50 (n := zfu) (gfu (by decide)) (a := ((-1 : Int32), (-1 : Int64), (0 : Int32), E0)) ⟨rfl, rfl, rfl, h0⟩ ?_ ?_
  · obtain ⟨⟨x, E⟩, e, k1, k2⟩ := hH
    dsimp only at k1 k2
    subst k1
    exact ⟨E, e, k2⟩
  · rintro j ⟨x3, x4, x6, E⟩ hj ⟨rfl, rfl, rfl, k1, k2⟩
    dsimp only at k1 k2 ⊢
    have ip := gisP hj hok.1.1 hok.1.2.1
    rw [← k1.1, ← k1.2.1] at ip
    have nx : gBe g (gDec g (lN a) (lN (b - a))) (j + 1) = if gIs g 0 j then (match gBe g (gDec g (lN a) (lN (b - a))) j with
      | none => some j
      | some q => if gDec g (lN a) (lN (b - a)) q < gDec g (lN a) (lN (b - a)) j then some j else some q) else gBe g (gDec g (lN a) (lN (b - a))) j := rfl
    unfold zf_X9_leader_l36 zf_X9_leader_92
    rw [if_neg (gl50 hj), ip, Option.bind_some, nI_1, nx]
    have skip : gIs g 0 j = false → ∃ a', some (Sum.inl (gAns (gBe g (gDec g (lN a) (lN (b - a))) j), gMo (gDec g (lN a) (lN (b - a))) (gBe g (gDec g (lN a) (lN (b - a))) j), nI (j + 1), E) : (Int32 × Int64 × Int32 × gL13) ⊕ (Int32 × gL13)) = some (Sum.inl a') ∧ a'.1 = gAns (if gIs g 0 j then (match gBe g (gDec g (lN a) (lN (b - a))) j with
      | none => some j
      | some q => if gDec g (lN a) (lN (b - a)) q < gDec g (lN a) (lN (b - a)) j then some j else some q) else gBe g (gDec g (lN a) (lN (b - a))) j) ∧ a'.2.1 = gMo (gDec g (lN a) (lN (b - a))) (if gIs g 0 j then (match gBe g (gDec g (lN a) (lN (b - a))) j with
      | none => some j
      | some q => if gDec g (lN a) (lN (b - a)) q < gDec g (lN a) (lN (b - a)) j then some j else some q) else gBe g (gDec g (lN a) (lN (b - a))) j) ∧ a'.2.2.1 = nI (j + 1) ∧ gSt13 g fc fr cs a'.2.2.2 := by
      intro ff
      rw [ff, if_neg (by decide)]
      exact ⟨_, rfl, rfl, rfl, rfl, k1, k2⟩
    cases ht : gTh j g.1 g.2.1 with
    | false =>
      rw [if_pos (show gbI false = 0 from rfl)]
      exact skip (by unfold gIs; rw [ht]; rfl)
    | true =>
      have h2 := gHow2 hok.1 j
      rw [if_neg (show ¬ gbI true = 0 by decide), ghow hok.1 k1 ht, Option.bind_some]
      by_cases z : gHow g j = 0
      · have f : gIs g 0 j = true := by unfold gIs; rw [ht, z]; rfl
        obtain ⟨ct', M, dc', ec, hM', hD'⟩ := gchOf hok k1 (E.1, E.2.2.1, E.2.2.2.1, E.2.2.2.2.1, E.2.2.2.2.2.1, E.2.2.2.2.2.2.1, E.2.2.2.2.2.2.2.1, E.2.2.2.2.2.2.2.2.1, E.2.2.2.2.2.2.2.2.2.1, E.2.2.2.2.2.2.2.2.2.2.1, E.2.2.2.2.2.2.2.2.2.2.2.1) k2 E.2.2.2.2.2.2.2.2.2.2.2.2 ht z hab hb
        dsimp only at ec
        obtain ⟨n, n63, en⟩ := gDec_n hok ht z hab hb
        rw [if_pos (show nI (gHow g j) = (0 : Int32) by rw [z]; rfl), ec, Option.bind_some, f, if_pos rfl]
        dsimp only
        cases hb' : gBe g (gDec g (lN a) (lN (b - a))) j with
        | none =>
          have c : 0 < lg_cmp (gDec g (lN a) (lN (b - a)) j) (gMo (gDec g (lN a) (lN (b - a))) none) := by
            rw [lg_cmp_gt, en]
            show (-1 : Int64) < lN n
            rw [Int64.lt_iff_toInt_lt, gLi n63]
            show (-1 : Int) < n
            omega
          rw [if_pos c]
          exact ⟨_, rfl, rfl, rfl, rfl, hM', hD'⟩
        | some q =>
          dsimp only
          by_cases w : gDec g (lN a) (lN (b - a)) q < gDec g (lN a) (lN (b - a)) j
          · rw [if_pos (show 0 < lg_cmp (gDec g (lN a) (lN (b - a)) j) (gMo (gDec g (lN a) (lN (b - a))) (some q)) by rw [lg_cmp_gt]; exact w), if_pos w]
            exact ⟨_, rfl, rfl, rfl, rfl, hM', hD'⟩
          · rw [if_neg (show ¬ 0 < lg_cmp (gDec g (lN a) (lN (b - a)) j) (gMo (gDec g (lN a) (lN (b - a))) (some q)) by rw [lg_cmp_gt]; exact w), if_neg w]
            exact ⟨_, rfl, rfl, rfl, rfl, hM', hD'⟩
      · rw [if_neg (show ¬ nI (gHow g j) = (0 : Int32) by rw [show (0 : Int32) = nI 0 from rfl, nI_eq (by omega) (by decide)]; exact z)]
        exact skip (by unfold gIs; rw [ht, decide_eq_false z]; rfl)
  · rintro ⟨x3, x4, x6, E⟩ ⟨rfl, rfl, rfl, k1, k2⟩
    dsimp only at k1 k2 ⊢
    unfold zf_X9_leader_l36
    rw [if_pos (by decide)]
    exact ⟨_, rfl, rfl, k1, k2⟩
theorem gCcS3 {xi : Nat → Int32} {xu : Nat → Option Nat} {xh : Nat → Nat → Int32} {xk : Nat → Nat → Int64} {LG : List Nat} {G : Nat → zGD} (h : gCc xi xu xh xk LG G) : gCc (gset (gset (gset (gset (gset (gset xi 7 (xi 7)) 8 (xi 8)) 9 (xi 9)) 10 (xi 10)) 16 (xi 16)) 17 (xi 17)) (gset xu 4 (xu 4)) (gset (gset (gset (gset (gset (gset (gset xh 1 (xh 1)) 2 (xh 2)) 3 (xh 3)) 4 (xh 4)) 5 (xh 5)) 6 (xh 6)) 7 (xh 7)) (gset (gset (gset xk 7 (xk 7)) 8 (xk 8)) 9 (xk 9)) LG G := by
  simp only [gsid]
  exact h
theorem gP35_ok : gP35 gInv := by
  intro xi xu fg xh xk ac LG G mi mh mk h x1 x2
  obtain ⟨g, past, h1, h2, h3, h4, h5, h6, h7⟩ := h
  obtain ⟨hok, hg, hx, hm⟩ := id h3
  unfold zf_X8_leader zf_X9_leader
  rw [show (6 : Int32) = nI 6 from rfl]
  rcases gchance 6 (by decide) x1 x2 with ⟨a, b, hab, hb1, hb6, rfl, rfl, e1⟩ | ⟨e1, hn⟩
  · obtain ⟨T, eT, hT, cT⟩ := gdecBy hok hg hx h5 hab hb6
    obtain ⟨E, eE, k1, k2⟩ := gleadM hok hab hb6 (mi 10, mh 4, mh 12, mh 13, mk 0, mh 14, mh 15, mh 16, mh 10, mh 17, mk 1, mh 18, mk 2) ⟨hm, h6⟩
    rw [e1, Option.bind_some, gchT9 hab hb1 hb6, Option.bind_some, if_neg (show ¬ (1 : Int32) = 0 by decide)]
    dsimp only [Sum.elim_inl]
    unfold zf_X9_leader_14
    rw [if_pos (show (0 : Int32) ≤ 0 by decide), eT, Option.bind_some, gleadC hok hx hT, Option.bind_some, eE, Option.bind_some]
    exact ⟨_, _, rfl, rfl, Or.inl ⟨_, rfl, rfl, rfl, g, past, h1, h2, ⟨hok, hg, hx, k1⟩, h4, cT, k2, h7⟩⟩
  · rw [e1, Option.bind_some, gchN9 hn, Option.bind_some, if_pos rfl]
    dsimp only [Sum.elim_inr]
    unfold zf_X9_leader_14
    rw [if_neg (show ¬ (1 : Int32) ≤ 0 by decide)]
    exact ⟨_, _, rfl, rfl, Or.inr ⟨_, rfl, ⟨rfl, rfl⟩, g, past, h1, h2, h3, h4, gCcS3 h5, h6, h7⟩⟩
def gRk (g : gG) (t : Nat → Int64) (q p : Nat) : Bool := gIs g 0 p && decide (t q < t p)
theorem grankC {g : gG} (hok : gOk g) {d : zGD} (hx : gRX g d) {ch t : Nat → Int64} (hch : ∀ p, gIs g 0 p = true → ch p = t p) {q : Nat} (hq : gIs g 0 q = true) (q50 : q < 50) : zit (fun e : Int32 × Int32 => zf_X8_rank_l40 ch (nI q) d e.1 e.2) zfu ((0 : Int32), (0 : Int32)) = some (nI (gct (gRk g t q) 50)) := by
  have e := gitr (f := fun e : Int32 × Int32 => zf_X8_rank_l40 ch (nI q) d e.1 e.2) (fun j => (nI (gct (gRk g t q) j), nI j)) 50 (n := zfu) (b := nI (gct (gRk g t q) 50)) (gfu (by decide)) ?_ ?_
  · exact e
  · intro j hj
    dsimp only
    unfold zf_X8_rank_l40 zf_X8_rank_76
    rw [if_neg (gl50 hj), gfreeI hok.1 hx hj, Option.bind_some, nI_1, nI_1, gctS]
    by_cases f : gIs g 0 j = true
    · rw [f, if_neg (by decide), if_pos (ggN hj (by decide)), if_pos (ggN q50 (by decide)), nI_clamp (by omega), nI_clamp (by omega), hch j f, hch q hq]
      by_cases z : t q < t j
      · rw [if_neg (by rw [lg_cmp_le]; exact Int64.not_le.mpr z), show gRk g t q j = true from by unfold gRk; rw [f, decide_eq_true z]; rfl]
        rfl
      · rw [if_pos (by rw [lg_cmp_le]; exact Int64.not_lt.mp z), show gRk g t q j = false from by unfold gRk; rw [f, decide_eq_false z]; rfl]
        rfl
    · have ff : gIs g 0 j = false := by cases hh : gIs g 0 j with | false => rfl | true => exact absurd hh f
      rw [ff, if_pos (show gbI false = 0 from rfl), show gRk g t q j = false from by unfold gRk; rw [ff]; rfl]
      rfl
  · dsimp only
    unfold zf_X8_rank_l40
    rw [if_pos (by decide)]
theorem grankM {g : gG} (hok : gOk g) {fc fr : Int32} {cs : Nat → Int32} {a b : Nat} (hab : a ≤ b) (hb : b ≤ 6) {q : Nat} (E0 : gL13) (h0 : gSt13 g fc fr cs E0) : ∃ E : gL13, zit (fun d : Int32 × Int32 × gL13 => zf_X9_rank_l78 fc fr cs (nI a) (nI b) (gDec g (lN a) (lN (b - a)) q) d.1 d.2.1 d.2.2.1 d.2.2.2.1 d.2.2.2.2.1 d.2.2.2.2.2.1 d.2.2.2.2.2.2.1 d.2.2.2.2.2.2.2.1 d.2.2.2.2.2.2.2.2.1 d.2.2.2.2.2.2.2.2.2.1 d.2.2.2.2.2.2.2.2.2.2.1 d.2.2.2.2.2.2.2.2.2.2.2.1 d.2.2.2.2.2.2.2.2.2.2.2.2.1 d.2.2.2.2.2.2.2.2.2.2.2.2.2.1 d.2.2.2.2.2.2.2.2.2.2.2.2.2.2) zfu ((0 : Int32), (0 : Int32), E0) = some (nI (gct (gRk g (gDec g (lN a) (lN (b - a))) q) 50), E) ∧ gSt13 g fc fr cs E := by
  have hH := gitH (f := fun d : Int32 × Int32 × gL13 => zf_X9_rank_l78 fc fr cs (nI a) (nI b) (gDec g (lN a) (lN (b - a)) q) d.1 d.2.1 d.2.2.1 d.2.2.2.1 d.2.2.2.2.1 d.2.2.2.2.2.1 d.2.2.2.2.2.2.1 d.2.2.2.2.2.2.2.1 d.2.2.2.2.2.2.2.2.1 d.2.2.2.2.2.2.2.2.2.1 d.2.2.2.2.2.2.2.2.2.2.1 d.2.2.2.2.2.2.2.2.2.2.2.1 d.2.2.2.2.2.2.2.2.2.2.2.2.1 d.2.2.2.2.2.2.2.2.2.2.2.2.2.1 d.2.2.2.2.2.2.2.2.2.2.2.2.2.2) (fun j d => d.1 = nI (gct (gRk g (gDec g (lN a) (lN (b - a))) q) j) ∧ d.2.1 = nI j ∧ gSt13 g fc fr cs d.2.2) (fun d => d.1 = nI (gct (gRk g (gDec g (lN a) (lN (b - a))) q) 50) ∧ gSt13 g fc fr cs d.2) 50 (n := zfu) (gfu (by decide)) (a := ((0 : Int32), (0 : Int32), E0)) ⟨rfl, rfl, h0⟩ ?_ ?_
  · obtain ⟨⟨x, E⟩, e, k1, k2⟩ := hH
    dsimp only at k1 k2
    subst k1
    exact ⟨E, e, k2⟩
  · rintro j ⟨x9, x10, E⟩ hj ⟨rfl, rfl, k1, k2⟩
    dsimp only at k1 k2 ⊢
    have ip := gisP hj hok.1.1 hok.1.2.1
    rw [← k1.1, ← k1.2.1] at ip
    unfold zf_X9_rank_l78 zf_X9_rank_126 zf_X9_rank_129
    rw [if_neg (gl50 hj), ip, Option.bind_some, nI_1, gctS]
    have skip : gIs g 0 j = false → ∃ a', some (Sum.inl (nI (gct (gRk g (gDec g (lN a) (lN (b - a))) q) j), nI (j + 1), E) : (Int32 × Int32 × gL13) ⊕ (Int32 × gL13)) = some (Sum.inl a') ∧ a'.1 = nI (gct (gRk g (gDec g (lN a) (lN (b - a))) q) j + (if gRk g (gDec g (lN a) (lN (b - a))) q j then 1 else 0)) ∧ a'.2.1 = nI (j + 1) ∧ gSt13 g fc fr cs a'.2.2 := by
      intro ff
      rw [show gRk g (gDec g (lN a) (lN (b - a))) q j = false from by unfold gRk; rw [ff]; rfl]
      exact ⟨_, rfl, rfl, rfl, k1, k2⟩
    cases ht : gTh j g.1 g.2.1 with
    | false =>
      rw [if_pos (show gbI false = 0 from rfl)]
      exact skip (by unfold gIs; rw [ht]; rfl)
    | true =>
      have h2 := gHow2 hok.1 j
      rw [if_neg (show ¬ gbI true = 0 by decide), ghow hok.1 k1 ht, Option.bind_some]
      by_cases z : gHow g j = 0
      · have f : gIs g 0 j = true := by unfold gIs; rw [ht, z]; rfl
        obtain ⟨ct', M, dc', ec, hM', hD'⟩ := gchOf hok k1 (E.1, E.2.2.1, E.2.2.2.1, E.2.2.2.2.1, E.2.2.2.2.2.1, E.2.2.2.2.2.2.1, E.2.2.2.2.2.2.2.1, E.2.2.2.2.2.2.2.2.1, E.2.2.2.2.2.2.2.2.2.1, E.2.2.2.2.2.2.2.2.2.2.1, E.2.2.2.2.2.2.2.2.2.2.2.1) k2 E.2.2.2.2.2.2.2.2.2.2.2.2 ht z hab hb
        dsimp only at ec
        rw [if_pos (show nI (gHow g j) = (0 : Int32) by rw [z]; rfl), ec, Option.bind_some]
        dsimp only
        by_cases w : gDec g (lN a) (lN (b - a)) q < gDec g (lN a) (lN (b - a)) j
        · rw [if_neg (show ¬ lg_cmp (gDec g (lN a) (lN (b - a)) j) (gDec g (lN a) (lN (b - a)) q) ≤ 0 by rw [lg_cmp_le]; exact Int64.not_le.mpr w), show gRk g (gDec g (lN a) (lN (b - a))) q j = true from by unfold gRk; rw [f, decide_eq_true w]; rfl, nI_1]
          exact ⟨_, rfl, rfl, rfl, hM', hD'⟩
        · rw [if_pos (show lg_cmp (gDec g (lN a) (lN (b - a)) j) (gDec g (lN a) (lN (b - a)) q) ≤ 0 by rw [lg_cmp_le]; exact Int64.not_lt.mp w), show gRk g (gDec g (lN a) (lN (b - a))) q j = false from by unfold gRk; rw [f, decide_eq_false w]; rfl, show (0 : Int32) = nI 0 from rfl, nI_add]
          exact ⟨_, rfl, rfl, rfl, hM', hD'⟩
      · rw [if_neg (show ¬ nI (gHow g j) = (0 : Int32) by rw [show (0 : Int32) = nI 0 from rfl, nI_eq (by omega) (by decide)]; exact z)]
        exact skip (by unfold gIs; rw [ht, decide_eq_false z]; rfl)
  · rintro ⟨x9, x10, E⟩ ⟨rfl, rfl, k1, k2⟩
    dsimp only at k1 k2 ⊢
    unfold zf_X9_rank_l78
    rw [if_pos (by decide)]
    exact ⟨_, rfl, rfl, k1, k2⟩
theorem gP36_ok : gP36 gInv := by
  intro xi xu fg xh xk ac LG G mi mh mk h x1 x2 x3 x4 x5 hb3
  obtain ⟨g, past, h1, h2, h3, h4, h5, h6, h7⟩ := h
  obtain ⟨hok, hg, hx, hm⟩ := id h3
  unfold zf_X8_rank zf_X9_rank
  rw [show zf_X9_pipeAt (mi 7) (mi 8) x1 x2 x3 = zf_X9_pipeAt (nI g.1) (nI g.2.1) x1 x2 x3 from by rw [hm.1, hm.2.1], show (6 : Int32) = nI 6 from rfl]
  rcases gpipe hok.1 hx x1 x2 x3 hb3 with ⟨p, hp, h50, e1, e2⟩ | ⟨e1, e2⟩
  · rw [e1, e2, Option.bind_some, Option.bind_some, if_neg (gm1 h50)]
    dsimp only [Sum.elim_inl]
    rcases gchance 6 (by decide) x4 x5 with ⟨a, b, hab, hb1, hb6, rfl, rfl, e3⟩ | ⟨e3, hn⟩
    · have h2w := gHow2 hok.1 p
      rw [e3, gchT9 hab hb1 hb6, Option.bind_some, Option.bind_some, if_neg (show ¬ (1 : Int32) = 0 by decide), ghow hok.1 hm hp, Option.bind_some]
      dsimp only [Sum.elim_inl]
      rw [gdemF hok.1 hx hp, Option.bind_some]
      by_cases hz : gHow g p = 0
      · have isp : gIs g 0 p = true := by unfold gIs; rw [hp, hz]; rfl
        rw [if_pos hz, if_pos (show nI (gHow g p) = (0 : Int32) by rw [hz]; rfl)]
        dsimp only [Sum.elim_inl]
        obtain ⟨T, eT, hT, cT⟩ := gdecBy hok hg hx h5 hab hb6
        obtain ⟨ct', M, dc', ec, hM', hD'⟩ := gchOf hok hm (mi 10, mh 12, mh 13, mk 0, mh 14, mh 15, mh 16, mh 10, mh 17, mk 1, mh 18) h6 (mk 2) hp hz hab hb6
        dsimp only at ec
        obtain ⟨E, eE, k1, k2⟩ := grankM hok hab hb6 (q := p) ((0 : Int32), ct', M.2.1, M.2.2.1, M.2.2.2.1, M.2.2.2.2.1, M.2.2.2.2.2.1, M.2.2.2.2.2.2.1, M.2.2.2.2.2.2.2.1, M.2.2.2.2.2.2.2.2.1, M.2.2.2.2.2.2.2.2.2.1, M.2.2.2.2.2.2.2.2.2.2, dc') ⟨hM', hD'⟩
        unfold zf_X9_rank_48
        rw [if_pos (show (0 : Int32) ≤ 0 by decide), eT, Option.bind_some, grankC hok hx hT isp h50, Option.bind_some, ec, Option.bind_some]
        dsimp only
        rw [eE, Option.bind_some]
        exact ⟨_, _, rfl, rfl, Or.inl ⟨_, rfl, rfl, rfl, g, past, h1, h2, ⟨hok, hg, hx, k1⟩, h4, cT, k2, h7⟩⟩
      · rw [if_neg hz, if_neg (show ¬ nI (gHow g p) = (0 : Int32) by rw [show (0 : Int32) = nI 0 from rfl, nI_eq (by omega) (by decide)]; exact hz)]
        dsimp only [Sum.elim_inr]
        unfold zf_X9_rank_48
        rw [if_neg (show ¬ (3 : Int32) ≤ 0 by decide)]
        exact ⟨_, _, rfl, rfl, Or.inr ⟨_, rfl, Or.inr (Or.inr ⟨rfl, rfl⟩), g, past, h1, h2, h3, h4, gCcS3 h5, h6, h7⟩⟩
    · rw [e3, gchN9 hn, Option.bind_some, Option.bind_some, if_pos rfl]
      dsimp only [Sum.elim_inr]
      unfold zf_X9_rank_48
      rw [if_neg (show ¬ (2 : Int32) ≤ 0 by decide)]
      exact ⟨_, _, rfl, rfl, Or.inr ⟨_, rfl, Or.inr (Or.inl ⟨rfl, rfl⟩), g, past, h1, h2, h3, h4, gCcS3 h5, h6, h7⟩⟩
  · rw [e1, e2, Option.bind_some, Option.bind_some, if_pos rfl]
    dsimp only [Sum.elim_inr]
    unfold zf_X9_rank_48
    rw [if_neg (show ¬ (1 : Int32) ≤ 0 by decide)]
    exact ⟨_, _, rfl, rfl, Or.inr ⟨_, rfl, Or.inl ⟨rfl, rfl⟩, g, past, h1, h2, h3, h4, gCcS3 h5, h6, h7⟩⟩
