/-! trial: the searches -/
theorem gbnT : ∀ (a b : Fin 64), zf_X9_bits (nI (64 * a.val + b.val)) = zf_J6_bitCount_0f7a4 (nI (64 * a.val + b.val)) := by decide +kernel
def gBn (m : Nat) : Int32 := (zf_J6_bitCount_0f7a4 (nI m)).getD 0
theorem gBnC (m : Nat) : zf_J6_bitCount_0f7a4 (nI m) = some (gBn m) := rfl
theorem gBnM {m : Nat} (h : m < 4096) : zf_X9_bits (nI m) = some (gBn m) := by
  have t := gbnT ⟨m / 64, by omega⟩ ⟨m % 64, by omega⟩
  dsimp only at t
  rw [Nat.div_add_mod] at t
  rw [t, gBnC]
def gM9 (g : gG) (x : Int32) (m : Nat) : Bool := gJb g m && decide (gBn m = x)
def gL9 (g : gG) (m : Nat) : Bool := decide (gTry g m = 2)
def gPj (M : Nat → Bool) (x : Int32) (m : Nat) : Bool := M m && decide (nI (gct M m) = x)
theorem gTry0 {g : gG} {m : Nat} : (gTry g m = 0 ↔ gJb g m = false) ∧ gTry g m ≤ 2 := by
  unfold gTry
  cases gJb g m with
  | false => exact ⟨⟨fun _ => rfl, fun _ => rfl⟩, (show (0 : Nat) ≤ 2 by decide)⟩
  | true =>
    rw [if_pos rfl]
    cases (List.range 12).any (fun i => m.testBit i && gJb g (m ^^^ 2 ^ i)) with
    | false => exact ⟨⟨fun h => absurd h (by decide), fun h => by cases h⟩, by decide⟩
    | true => exact ⟨⟨fun h => absurd h (by decide), fun h => by cases h⟩, by decide⟩
theorem gpow12 {n : Nat} (h : n ≤ 12) : 2 ^ n ≤ 4096 ∧ 0 < 2 ^ n := ⟨Nat.pow_le_pow_right (by decide) h, Nat.pow_pos (by decide)⟩
theorem gjaC {g : gG} (h12 : gFree g ≤ 12) {fd : Nat → Int32} (hf : ∀ c, c < 2 ^ gFree g → fd c = nI (gTry g c)) (x1 x2 : Int32) : zf_X7_joiningAt (nI (2 ^ gFree g)) fd x1 x2 = some (gAns (gfi (gPj (gM9 g x1) x2) (2 ^ gFree g) 0)) := by
  obtain ⟨p1, p2⟩ := gpow12 h12
  have hF := gitF (f := fun d : Int32 × Int32 => zf_X7_joiningAt_l5 (nI (2 ^ gFree g)) fd x1 x2 d.1 d.2) (gPj (gM9 g x1) x2) (fun j d => d.1 = nI (gct (gM9 g x1) j) ∧ d.2 = nI j) (fun v b => b = gS1 v) (2 ^ gFree g) ?_ ?_ ?_ (n := zfu) (gfu (by omega)) (a := ((0 : Int32), (0 : Int32))) ⟨rfl, rfl⟩
  · obtain ⟨b, e, rfl⟩ := hF
    unfold zf_X7_joiningAt
    rw [e, Option.bind_some]
    cases gfi (gPj (gM9 g x1) x2) (2 ^ gFree g) 0 with
    | none => rfl
    | some m => rfl
  · rintro j ⟨x3, x4⟩ hj ⟨rfl, rfl⟩ hp
    dsimp only
    have hp' : (gM9 g x1 j && decide (nI (gct (gM9 g x1) j) = x2)) = true := hp
    unfold gM9 at hp'
    rw [Bool.and_eq_true, Bool.and_eq_true, decide_eq_true_eq, decide_eq_true_eq] at hp'
    obtain ⟨⟨q1, q2⟩, q3⟩ := hp'
    unfold zf_X7_joiningAt_l5
    have nz : ¬ nI (gTry g j) = (0 : Int32) := by
      intro e
      have := (nI_eq (a := gTry g j) (b := 0) (by have := (gTry0 (g := g) (m := j)).2; omega) (by decide)).mp e
      rw [gTry0.1.mp this] at q1
      cases q1
    rw [if_neg (gle50 (by omega) (by omega) hj), if_pos (ggN (show j < 4096 by omega) (by decide)), nI_clamp (by omega), hf j hj, if_neg nz, gBnC, Option.bind_some, if_pos q2, if_pos (show nI (gct (gM9 g x1) j) = x2 from q3)]
    exact ⟨_, rfl, rfl⟩
  · rintro j ⟨x3, x4⟩ hj ⟨rfl, rfl⟩ hp
    dsimp only
    have hp' : (gM9 g x1 j && decide (nI (gct (gM9 g x1) j) = x2)) = false := hp
    unfold zf_X7_joiningAt_l5 zf_X7_joiningAt_44
    rw [if_neg (gle50 (by omega) (by omega) hj), if_pos (ggN (show j < 4096 by omega) (by decide)), nI_clamp (by omega), hf j hj, gBnC, Option.bind_some]
    have me : gM9 g x1 j = (gJb g j && decide (gBn j = x1)) := rfl
    cases hb : gJb g j with
    | false =>
      have z : nI (gTry g j) = (0 : Int32) := by rw [gTry0.1.mpr hb]; rfl
      rw [if_pos z, nI_1]
      exact ⟨_, rfl, by dsimp only; rw [gctS, me, hb]; rfl, rfl⟩
    | true =>
      have nz : ¬ nI (gTry g j) = (0 : Int32) := by
        intro e
        have := (nI_eq (a := gTry g j) (b := 0) (by have := (gTry0 (g := g) (m := j)).2; omega) (by decide)).mp e
        rw [gTry0.1.mp this] at hb
        cases hb
      rw [if_neg nz]
      by_cases q2 : gBn j = x1
      · have mt : gM9 g x1 j = true := by rw [me, hb, decide_eq_true q2]; rfl
        rw [mt, Bool.true_and] at hp'
        rw [if_pos q2, if_neg (of_decide_eq_false hp'), nI_1, nI_1]
        exact ⟨_, rfl, by dsimp only; rw [gctS, mt]; rfl, rfl⟩
      · have mf : gM9 g x1 j = false := by rw [me, decide_eq_false q2, Bool.and_false]
        rw [if_neg q2, nI_1]
        exact ⟨_, rfl, by dsimp only; rw [gctS, mf]; rfl, rfl⟩
  · rintro ⟨x3, x4⟩ ⟨rfl, rfl⟩
    dsimp only
    unfold zf_X7_joiningAt_l5
    rw [if_pos (Int32.le_refl _)]
    exact ⟨_, rfl, rfl⟩
theorem glcC {g : gG} (h12 : gFree g ≤ 12) {fd : Nat → Int32} (hf : ∀ c, c < 2 ^ gFree g → fd c = nI (gTry g c)) : zf_X7_leastCount (nI (2 ^ gFree g)) fd = some (nI (gct (gL9 g) (2 ^ gFree g))) := by
  obtain ⟨p1, p2⟩ := gpow12 h12
  unfold zf_X7_leastCount
  have e := gitr (f := fun d : Int32 × Int32 => zf_X7_leastCount_l4 (nI (2 ^ gFree g)) fd d.1 d.2) (fun j => (nI (gct (gL9 g) j), nI j)) (2 ^ gFree g) (n := zfu) (b := nI (gct (gL9 g) (2 ^ gFree g))) (gfu (by omega)) ?_ ?_
  · have e' : zit (fun d : Int32 × Int32 => zf_X7_leastCount_l4 (nI (2 ^ gFree g)) fd d.1 d.2) zfu ((0 : Int32), (0 : Int32)) = some (nI (gct (gL9 g) (2 ^ gFree g))) := e
    rw [e']
    rfl
  · intro j hj
    dsimp only
    have ty := (gTry0 (g := g) (m := j)).2
    unfold zf_X7_leastCount_l4 zf_X7_leastCount_25
    rw [if_neg (gle50 (by omega) (by omega) hj), if_pos (ggN (show j < 4096 by omega) (by decide)), nI_clamp (by omega), hf j hj, gctS]
    by_cases q : gTry g j = 2
    · have l9 : gL9 g j = true := decide_eq_true q
      rw [if_pos (show nI (gTry g j) = (2 : Int32) by rw [q]; rfl), l9, nI_1, nI_1]
      rfl
    · have l9 : gL9 g j = false := decide_eq_false q
      rw [if_neg (show ¬ nI (gTry g j) = (2 : Int32) by rw [show (2 : Int32) = nI 2 from rfl, nI_eq (by omega) (by decide)]; exact q), l9, nI_1]
      rfl
  · dsimp only
    unfold zf_X7_leastCount_l4
    rw [if_pos (Int32.le_refl _)]
theorem glaC {g : gG} (h12 : gFree g ≤ 12) {fd : Nat → Int32} (hf : ∀ c, c < 2 ^ gFree g → fd c = nI (gTry g c)) (x1 : Int32) : zf_X7_leastAt (nI (2 ^ gFree g)) fd x1 = some (gAns (gfi (gPj (gL9 g) x1) (2 ^ gFree g) 0)) := by
  obtain ⟨p1, p2⟩ := gpow12 h12
  have hF := gitF (f := fun d : Int32 × Int32 => zf_X7_leastAt_l4 (nI (2 ^ gFree g)) fd x1 d.1 d.2) (gPj (gL9 g) x1) (fun j d => d.1 = nI (gct (gL9 g) j) ∧ d.2 = nI j) (fun v b => b = gS1 v) (2 ^ gFree g) ?_ ?_ ?_ (n := zfu) (gfu (by omega)) (a := ((0 : Int32), (0 : Int32))) ⟨rfl, rfl⟩
  · obtain ⟨b, e, rfl⟩ := hF
    unfold zf_X7_leastAt
    rw [e, Option.bind_some]
    cases gfi (gPj (gL9 g) x1) (2 ^ gFree g) 0 with
    | none => rfl
    | some m => rfl
  · rintro j ⟨x3, x4⟩ hj ⟨rfl, rfl⟩ hp
    dsimp only
    have hp' : (gL9 g j && decide (nI (gct (gL9 g) j) = x1)) = true := hp
    rw [Bool.and_eq_true, decide_eq_true_eq] at hp'
    have q : gTry g j = 2 := of_decide_eq_true hp'.1
    unfold zf_X7_leastAt_l4
    rw [if_neg (gle50 (by omega) (by omega) hj), if_pos (ggN (show j < 4096 by omega) (by decide)), nI_clamp (by omega), hf j hj, if_pos (show nI (gTry g j) = (2 : Int32) by rw [q]; rfl), if_pos hp'.2]
    exact ⟨_, rfl, rfl⟩
  · rintro j ⟨x3, x4⟩ hj ⟨rfl, rfl⟩ hp
    dsimp only
    have hp' : (gL9 g j && decide (nI (gct (gL9 g) j) = x1)) = false := hp
    have ty := (gTry0 (g := g) (m := j)).2
    unfold zf_X7_leastAt_l4 zf_X7_leastAt_32
    rw [if_neg (gle50 (by omega) (by omega) hj), if_pos (ggN (show j < 4096 by omega) (by decide)), nI_clamp (by omega), hf j hj]
    by_cases q : gTry g j = 2
    · have l9 : gL9 g j = true := decide_eq_true q
      rw [l9, Bool.true_and] at hp'
      rw [if_pos (show nI (gTry g j) = (2 : Int32) by rw [q]; rfl), if_neg (of_decide_eq_false hp'), nI_1, nI_1]
      exact ⟨_, rfl, by dsimp only; rw [gctS, l9]; rfl, rfl⟩
    · have l9 : gL9 g j = false := decide_eq_false q
      rw [if_neg (show ¬ nI (gTry g j) = (2 : Int32) by rw [show (2 : Int32) = nI 2 from rfl, nI_eq (by omega) (by decide)]; exact q), nI_1]
      exact ⟨_, rfl, by dsimp only; rw [gctS, l9]; rfl, rfl⟩
  · rintro ⟨x3, x4⟩ ⟨rfl, rfl⟩
    dsimp only
    unfold zf_X7_leastAt_l4
    rw [if_pos (Int32.le_refl _)]
    exact ⟨_, rfl, rfl⟩
theorem gneg9 {x : Int32} (h : x < 0) {a : Nat} (ha : a < 2 ^ 31) : ¬ nI a = x := by
  intro e
  rw [← e] at h
  exact nI_pos ha h
theorem gPj_neg {M : Nat → Bool} {x : Int32} (h : x < 0) {n : Nat} (hn : n ≤ 4096) : gfi (gPj M x) n 0 = none := by
  refine gfi_none n 0 (fun j _ h2 => ?_)
  have := gct_le M j
  show (M j && decide (nI (gct M j) = x)) = false
  rw [decide_eq_false (gneg9 h (by omega)), Bool.and_false]
theorem gtrM {g : gG} (hok : gOk g) (h12 : gFree g ≤ 12) {fc fr : Int32} {ct cs : Nat → Int32} (hM : gRM g fc fr ct cs) {o io : Nat → Int32} (wt : Nat → Int32) (hq : gQr g o) (hio : gIo g io) (x1 x2 : Int32) : ∃ b, zit (fun d : Int32 × Int32 × (Nat → Int32) × (Nat → Int32) => zf_X9_tried_l36 fc fr (nI (gFree g)) cs o x1 x2 d.1 d.2.1 d.2.2.1 d.2.2.2) zfu (x2, (0 : Int32), io, wt) = some b ∧ ((gfi (gPj (gM9 g x1) x2) (2 ^ gFree g) 0 = none ∧ ∃ io' w', b = .inl (io', w')) ∨ ∃ m, gfi (gPj (gM9 g x1) x2) (2 ^ gFree g) 0 = some m ∧ ∃ io' w', b = .inr (nI m, io', w')) := by
  obtain ⟨p1, p2⟩ := gpow12 h12
  have sh := gshl12 ⟨gFree g, by omega⟩
  dsimp only at sh
  by_cases neg : x2 < 0
  · have eu : zfu = 999999 + 1 := rfl
    have st : zf_X9_tried_l36 fc fr (nI (gFree g)) cs o x1 x2 x2 (0 : Int32) io wt = some (.inr (.inl (io, wt))) := by
      unfold zf_X9_tried_l36
      rw [sh, if_neg (show ¬ nI (2 ^ gFree g) ≤ (0 : Int32) from nI_nle p2 (by omega)), if_pos neg]
    refine ⟨.inl (io, wt), ?_, Or.inl ⟨gPj_neg neg p1, _, _, rfl⟩⟩
    rw [eu]
    unfold zit
    dsimp only
    rw [st]
    rfl
  · refine gitF (f := fun d : Int32 × Int32 × (Nat → Int32) × (Nat → Int32) => zf_X9_tried_l36 fc fr (nI (gFree g)) cs o x1 x2 d.1 d.2.1 d.2.2.1 d.2.2.2) (gPj (gM9 g x1) x2) (fun j d => d.1 + nI (gct (gM9 g x1) j) = x2 ∧ d.2.1 = nI j ∧ gIo g d.2.2.1) (fun v b => (v = none ∧ ∃ io' w', b = .inl (io', w')) ∨ ∃ m, v = some m ∧ ∃ io' w', b = .inr (nI m, io', w')) (2 ^ gFree g) ?_ ?_ ?_ (n := zfu) (gfu (by omega)) (a := (x2, (0 : Int32), io, wt)) ⟨Int32.add_zero x2, rfl, hio⟩
    · rintro j ⟨x3, x4, io1, w1⟩ hj ⟨k0, rfl, k1⟩ hp
      dsimp only at k0 k1 ⊢
      have hp' : (gM9 g x1 j && decide (nI (gct (gM9 g x1) j) = x2)) = true := hp
      unfold gM9 at hp'
      rw [Bool.and_eq_true, Bool.and_eq_true, decide_eq_true_eq, decide_eq_true_eq] at hp'
      obtain ⟨⟨q1, q2⟩, q3⟩ := hp'
      have q3' : nI (gct (gM9 g x1) j) = x2 := q3
      have x30 : x3 = 0 := by
        have e := Int32.add_sub_cancel x3 (nI (gct (gM9 g x1) j))
        rw [k0, q3', Int32.sub_self] at e
        exact e.symm
      obtain ⟨io2, w2, e2, k2⟩ := gjbM hok h12 hM w1 hq k1 hj
      unfold zf_X9_tried_l36
      rw [sh, if_neg (gle50 (by omega) (by omega) hj), if_neg neg, gBnM (by omega), Option.bind_some, if_pos q2, e2, Option.bind_some, q1]
      dsimp only
      rw [if_neg (show ¬ gbI true = 0 by decide), if_pos x30]
      exact ⟨_, rfl, Or.inr ⟨j, rfl, _, _, rfl⟩⟩
    · rintro j ⟨x3, x4, io1, w1⟩ hj ⟨k0, rfl, k1⟩ hp
      dsimp only at k0 k1 ⊢
      have hp' : (gM9 g x1 j && decide (nI (gct (gM9 g x1) j) = x2)) = false := hp
      have me : gM9 g x1 j = (gJb g j && decide (gBn j = x1)) := rfl
      obtain ⟨io2, w2, e2, k2⟩ := gjbM hok h12 hM w1 hq k1 hj
      unfold zf_X9_tried_l36 zf_X9_tried_82
      rw [sh, if_neg (gle50 (by omega) (by omega) hj), if_neg neg, gBnM (by omega), Option.bind_some, e2, Option.bind_some]
      dsimp only
      by_cases q2 : gBn j = x1
      · rw [if_pos q2]
        cases hb : gJb g j with
        | false =>
          have mf : gM9 g x1 j = false := by rw [me, hb]; rfl
          rw [if_pos (show gbI false = 0 from rfl), nI_1]
          exact ⟨_, rfl, by dsimp only; rw [gctS, mf]; exact k0, rfl, k2⟩
        | true =>
          have mt : gM9 g x1 j = true := by rw [me, hb, decide_eq_true q2]; rfl
          rw [mt, Bool.true_and] at hp'
          have x30 : ¬ x3 = 0 := by
            intro e
            rw [e, Int32.zero_add] at k0
            exact of_decide_eq_false hp' k0
          rw [if_neg (show ¬ gbI true = 0 by decide), if_neg x30, nI_1]
          refine ⟨_, rfl, ?_, rfl, k2⟩
          dsimp only
          rw [gctS, mt, if_pos rfl, nI_succ, Int32.add_comm (nI (gct (gM9 g x1) j)) 1, Int32.add_assoc x3, ← Int32.add_assoc (-1) 1, show (-1 : Int32) + 1 = 0 from by decide, Int32.zero_add]
          exact k0
      · have mf : gM9 g x1 j = false := by rw [me, decide_eq_false q2, Bool.and_false]
        rw [if_neg q2, nI_1]
        exact ⟨_, rfl, by dsimp only; rw [gctS, mf]; exact k0, rfl, k1⟩
    · rintro ⟨x3, x4, io1, w1⟩ ⟨k0, rfl, k1⟩
      dsimp only at k0 k1 ⊢
      unfold zf_X9_tried_l36
      rw [sh, if_pos (Int32.le_refl _)]
      exact ⟨_, rfl, Or.inl ⟨rfl, _, _, rfl⟩⟩
theorem gjuM {g : gG} (hok : gOk g) (h12 : gFree g ≤ 12) {fc fr : Int32} {ct cs : Nat → Int32} (hM : gRM g fc fr ct cs) {o io : Nat → Int32} (wt : Nat → Int32) (hq : gQr g o) (hio : gIo g io) (x1 : Int32) : ∃ b, zit (fun d : Int32 × Int32 × (Nat → Int32) × (Nat → Int32) => zf_X9_just_l35 fc fr (nI (gFree g)) cs o x1 d.1 d.2.1 d.2.2.1 d.2.2.2) zfu ((0 : Int32), (0 : Int32), io, wt) = some b ∧ ((gfi (gPj (gL9 g) x1) (2 ^ gFree g) 0 = none ∧ ∃ io' w', b = .inl (nI (gct (gL9 g) (2 ^ gFree g)), io', w')) ∨ ∃ m, gfi (gPj (gL9 g) x1) (2 ^ gFree g) 0 = some m ∧ ∃ io' w', b = .inr (nI m, io', w')) := by
  obtain ⟨p1, p2⟩ := gpow12 h12
  have sh := gshl12 ⟨gFree g, by omega⟩
  dsimp only at sh
  refine gitF (f := fun d : Int32 × Int32 × (Nat → Int32) × (Nat → Int32) => zf_X9_just_l35 fc fr (nI (gFree g)) cs o x1 d.1 d.2.1 d.2.2.1 d.2.2.2) (gPj (gL9 g) x1) (fun j d => d.1 = nI (gct (gL9 g) j) ∧ d.2.1 = nI j ∧ gIo g d.2.2.1) (fun v b => (v = none ∧ ∃ io' w', b = .inl (nI (gct (gL9 g) (2 ^ gFree g)), io', w')) ∨ ∃ m, v = some m ∧ ∃ io' w', b = .inr (nI m, io', w')) (2 ^ gFree g) ?_ ?_ ?_ (n := zfu) (gfu (by omega)) (a := ((0 : Int32), (0 : Int32), io, wt)) ⟨rfl, rfl, hio⟩
  · rintro j ⟨x3, x4, io1, w1⟩ hj ⟨rfl, rfl, k1⟩ hp
    dsimp only at k1 ⊢
    have hp' : (gL9 g j && decide (nI (gct (gL9 g) j) = x1)) = true := hp
    rw [Bool.and_eq_true, decide_eq_true_eq] at hp'
    obtain ⟨io2, w2, e2, k2⟩ := gisJ hok h12 hM w1 hq k1 hj
    have l9 : decide (gTry g j = 2) = true := hp'.1
    unfold zf_X9_just_l35
    rw [sh, if_neg (gle50 (by omega) (by omega) hj), e2, Option.bind_some, l9]
    dsimp only
    rw [if_neg (show ¬ gbI true = 0 by decide), if_pos hp'.2]
    exact ⟨_, rfl, Or.inr ⟨j, rfl, _, _, rfl⟩⟩
  · rintro j ⟨x3, x4, io1, w1⟩ hj ⟨rfl, rfl, k1⟩ hp
    dsimp only at k1 ⊢
    have hp' : (gL9 g j && decide (nI (gct (gL9 g) j) = x1)) = false := hp
    obtain ⟨io2, w2, e2, k2⟩ := gisJ hok h12 hM w1 hq k1 hj
    have l9 : decide (gTry g j = 2) = gL9 g j := rfl
    unfold zf_X9_just_l35 zf_X9_just_66
    rw [sh, if_neg (gle50 (by omega) (by omega) hj), e2, Option.bind_some, l9]
    dsimp only
    cases hb : gL9 g j with
    | false =>
      rw [if_pos (show gbI false = 0 from rfl), nI_1]
      exact ⟨_, rfl, by dsimp only; rw [gctS, hb]; rfl, rfl, k2⟩
    | true =>
      rw [hb, Bool.true_and] at hp'
      rw [if_neg (show ¬ gbI true = 0 by decide), if_neg (of_decide_eq_false hp'), nI_1, nI_1]
      exact ⟨_, rfl, by dsimp only; rw [gctS, hb]; rfl, rfl, k2⟩
  · rintro ⟨x3, x4, io1, w1⟩ ⟨rfl, rfl, k1⟩
    dsimp only at k1 ⊢
    unfold zf_X9_just_l35
    rw [sh, if_pos (Int32.le_refl _)]
    exact ⟨_, rfl, Or.inl ⟨rfl, _, _, rfl⟩⟩
