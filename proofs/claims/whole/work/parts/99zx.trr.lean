/-! trial: the reference -/
theorem gbitT3 : ∀ (a b : Fin 64) (k : Fin 12), ((zshr (nI (64 * a.val + b.val)) (nI k.val)) &&& (1 : Int32)) = nI (if (64 * a.val + b.val).testBit k.val then 1 else 0) := by decide +kernel
theorem gbitT2 (m : Fin 4096) (k : Fin 12) : ((zshr (nI m.val) (nI k.val)) &&& (1 : Int32)) = nI (if m.val.testBit k.val then 1 else 0) := by
  have t := gbitT3 ⟨m.val / 64, by omega⟩ ⟨m.val % 64, by omega⟩ k
  dsimp only at t
  rw [Nat.div_add_mod] at t
  exact t
theorem gshl12 : ∀ n : Fin 13, zshl (1 : Int32) (nI n.val) = nI (2 ^ n.val) := by decide +kernel
theorem gxorI (a b : Nat) : nI a ^^^ nI b = nI (a ^^^ b) := by
  apply Int32.toBitVec_inj.mp
  rw [Int32.toBitVec_xor]
  show BitVec.ofNat 32 a ^^^ BitVec.ofNat 32 b = BitVec.ofNat 32 (a ^^^ b)
  apply BitVec.eq_of_getLsbD_eq
  intro i hi
  rw [BitVec.getLsbD_xor, BitVec.getLsbD_ofNat, BitVec.getLsbD_ofNat, BitVec.getLsbD_ofNat, Nat.testBit_xor]
  cases decide (i < 32) <;> simp
theorem gandI (a b : Nat) : nI a &&& nI b = nI (a &&& b) := by
  apply Int32.toBitVec_inj.mp
  rw [Int32.toBitVec_and]
  show BitVec.ofNat 32 a &&& BitVec.ofNat 32 b = BitVec.ofNat 32 (a &&& b)
  apply BitVec.eq_of_getLsbD_eq
  intro i hi
  rw [BitVec.getLsbD_and, BitVec.getLsbD_ofNat, BitVec.getLsbD_ofNat, BitVec.getLsbD_ofNat, Nat.testBit_and]
  cases decide (i < 32) <;> simp
theorem gclrI {m k : Nat} (h : m.testBit k = true) : nI m &&& (nI (2 ^ k) ^^^ (-1 : Int32)) = nI (m ^^^ 2 ^ k) := by
  apply Int32.toBitVec_inj.mp
  rw [Int32.toBitVec_and, Int32.toBitVec_xor]
  show BitVec.ofNat 32 m &&& (BitVec.ofNat 32 (2 ^ k) ^^^ BitVec.allOnes 32) = BitVec.ofNat 32 (m ^^^ 2 ^ k)
  apply BitVec.eq_of_getLsbD_eq
  intro i hi
  rw [BitVec.getLsbD_and, BitVec.getLsbD_xor, BitVec.getLsbD_ofNat, BitVec.getLsbD_ofNat, BitVec.getLsbD_ofNat, BitVec.getLsbD_allOnes, Nat.testBit_xor, Nat.testBit_two_pow, decide_eq_true hi]
  by_cases e : k = i
  · rw [← e, h, decide_eq_true rfl]; rfl
  · rw [decide_eq_false e]
    cases m.testBit i <;> rfl
theorem glfM {g : gG} (hok : gOk g) {fc fr : Int32} {ct cs : Nat → Int32} (hM : gRM g fc fr ct cs) (io o : Nat → Int32) : ∃ io' o', zf_X9_laysFree fc fr ct cs io o = some (nI (gFree g), io', o') ∧ gQr g o' ∧ ∀ p, gTh p g.1 g.2.1 = true → io' p = gbI (gIs g 1 p) := by
  have hw := hok.1
  have hr := hw.2.1
  have h24 := hok.2
  have hH := gitH (f := fun d : Int32 × Int32 × (Nat → Int32) × (Nat → Int32) => zf_X9_laysFree_l7 fc fr ct cs d.1 d.2.1 d.2.2.1 d.2.2.2) (fun j e => e.2.1 = nI (gct (gIs g 0) j) ∧ e.1 = nI j ∧ (∀ p, p < j → gIs g 0 p = true → e.2.2.2 (gct (gIs g 0) p) = nI p) ∧ ∀ p, p < j → gTh p g.1 g.2.1 = true → e.2.2.1 p = gbI (gIs g 1 p)) (fun b => b.1 = nI (gFree g) ∧ gQr g b.2.2 ∧ ∀ p, gTh p g.1 g.2.1 = true → b.2.1 p = gbI (gIs g 1 p)) 50 (n := zfu) (gfu (by decide)) (a := ((0 : Int32), (0 : Int32), io, o)) ⟨rfl, rfl, fun p h => by omega, fun p h => by omega⟩ ?_ ?_
  · obtain ⟨⟨n, io', o'⟩, e, k1, k2, k3⟩ := hH
    dsimp only at k1 k2 k3
    subst k1
    refine ⟨io', o', ?_, k2, k3⟩
    unfold zf_X9_laysFree
    rw [e]
    rfl
  · rintro j ⟨x4, x3, io1, oo⟩ hj ⟨rfl, rfl, k, ki⟩
    dsimp only at k ki ⊢
    have ip := gisP hj hw.1 hw.2.1
    rw [← hM.1, ← hM.2.1] at ip
    have z : zgd (nI j) 50 = true := ggN hj (by decide)
    unfold zf_X9_laysFree_l7
    rw [if_neg (gl50 hj), ip, Option.bind_some]
    cases ht : gTh j g.1 g.2.1 with
    | false =>
      have nf : gIs g 0 j = false := by unfold gIs; rw [ht]; rfl
      unfold zf_X9_laysFree_75
      rw [if_pos (show gbI false = 0 from rfl), nI_1]
      refine ⟨_, rfl, by dsimp only; rw [gctS, nf]; rfl, rfl, fun p hp h => ?_, fun p hp h => ?_⟩
      · by_cases e : p = j
        · rw [e, nf] at h; cases h
        · exact k p (by omega) h
      · by_cases e : p = j
        · rw [e, ht] at h; cases h
        · exact ki p (by omega) h
    | true =>
      have h2 := gHow2 hw j
      have upd1 : ∀ v : Bool, v = gIs g 1 j → ∀ p, p < j + 1 → gTh p g.1 g.2.1 = true → upd io1 j (vp_nar .boolean (gbI v)) p = gbI (gIs g 1 p) := by
        intro v hv p hp h
        by_cases e : p = j
        · rw [e, gupS, gnar, hv]
        · rw [gupN e]; exact ki p (by omega) h
      have i0 : gIs g 0 j = decide (gHow g j = 0) := by unfold gIs; rw [ht]; rfl
      have i1 : gIs g 1 j = decide (gHow g j = 1) := by unfold gIs; rw [ht]; rfl
      have oN : gIs g 0 j = false → ∀ p, p < j + 1 → gIs g 0 p = true → oo (gct (gIs g 0) p) = nI p := by
        intro nf p hp h
        by_cases e : p = j
        · rw [e, nf] at h; cases h
        · exact k p (by omega) h
      unfold zf_X9_laysFree_43 zf_X9_laysFree_75
      simp only [ghow hw hM ht, Option.bind_some, z, if_true]
      rw [if_neg (show ¬ gbI true = 0 by decide), nI_clamp (by omega)]
      by_cases q0 : gHow g j = 0
      · have f : gIs g 0 j = true := by rw [i0, decide_eq_true q0]
        have lt := (gct_free hok f).1
        have e0 : nI (gHow g j) = (0 : Int32) := by rw [q0]; rfl
        rw [if_neg (show ¬ nI (gHow g j) = (1 : Int32) by rw [q0]; decide), if_pos e0, if_pos (ggN (show gct (gIs g 0) j < 24 by omega) (by decide)), nI_1, nI_1, nI_clamp (by omega)]
        refine ⟨_, rfl, by dsimp only; rw [gctS, f]; rfl, rfl, fun p hp h => ?_, upd1 false (by rw [i1, q0]; rfl)⟩
        dsimp only
        by_cases c : p = j
        · rw [c, gupS]
        · have m := gct_mono (gIs g 0) (show p + 1 ≤ j by omega)
          rw [gctS, h, if_pos rfl] at m
          rw [gupN (by omega)]
          exact k p (by omega) h
      · have f : gIs g 0 j = false := by rw [i0, decide_eq_false q0]
        have e0 : ¬ nI (gHow g j) = (0 : Int32) := by rw [show (0 : Int32) = nI 0 from rfl, nI_eq (by omega) (by decide)]; exact q0
        by_cases q1 : gHow g j = 1
        · rw [if_pos (show nI (gHow g j) = (1 : Int32) by rw [q1]; rfl), if_neg e0, nI_1]
          exact ⟨_, rfl, by dsimp only; rw [gctS, f]; rfl, rfl, oN f, upd1 true (by rw [i1, decide_eq_true q1])⟩
        · rw [if_neg (show ¬ nI (gHow g j) = (1 : Int32) by rw [show (1 : Int32) = nI 1 from rfl, nI_eq (by omega) (by decide)]; exact q1), if_neg e0, nI_1]
          exact ⟨_, rfl, by dsimp only; rw [gctS, f]; rfl, rfl, oN f, upd1 false (by rw [i1, decide_eq_false q1])⟩
  · rintro ⟨x4, x3, io1, oo⟩ ⟨rfl, rfl, k, ki⟩
    dsimp only at k ki ⊢
    unfold zf_X9_laysFree_l7
    rw [if_pos (by decide)]
    exact ⟨_, rfl, rfl, fun p hp => k p (gct_free hok hp).2 hp, fun p hp => ki p (gTh50 hr.2 hp) hp⟩
def gIo (g : gG) (io : Nat → Int32) : Prop := ∀ p, gTh p g.1 g.2.1 = true → gIs g 0 p = false → io p = gbI (gIs g 1 p)
theorem gJbJo {g : gG} (hw : gWf g) (c : Nat) : gJo g (fun p => gTh p g.1 g.2.1 && gEff g (gAs g c) p) = gJb g c := by
  apply Bool.eq_iff_iff.mpr
  rw [← gWsJo hw]
  unfold gJb
  rw [decide_eq_true_eq]
theorem gct_eq {g : gG} {p s : Nat} (hp : gIs g 0 p = true) (hs : gIs g 0 s = true) (h : gct (gIs g 0) p = gct (gIs g 0) s) : p = s := by
  rcases Nat.lt_trichotomy p s with l | l | l
  · have m := gct_mono (gIs g 0) (show p + 1 ≤ s by omega)
    rw [gctS, hp, if_pos rfl] at m
    omega
  · exact l
  · have m := gct_mono (gIs g 0) (show s + 1 ≤ p by omega)
    rw [gctS, hs, if_pos rfl] at m
    omega
theorem gjbM {g : gG} (hok : gOk g) (h12 : gFree g ≤ 12) {fc fr : Int32} {ct cs : Nat → Int32} (hM : gRM g fc fr ct cs) {o io : Nat → Int32} (wt : Nat → Int32) (hq : gQr g o) (hio : gIo g io) {c : Nat} (hc : c < 2 ^ gFree g) : ∃ io' w', zf_X9_joinsBy fc fr (nI (gFree g)) cs io wt o (nI c) = some (gbI (gJb g c), io', w') ∧ gIo g io' := by
  have hw := hok.1
  have c4 : c < 4096 := Nat.lt_of_lt_of_le hc (Nat.pow_le_pow_right (by decide) h12)
  have hH := gitH (f := fun d : Int32 × (Nat → Int32) => zf_X9_joinsBy_l2 (nI (gFree g)) o (nI c) d.1 d.2) (fun j d => d.1 = nI j ∧ gIo g d.2 ∧ ∀ p, gIs g 0 p = true → gct (gIs g 0) p < j → d.2 p = gbI (c.testBit (gct (gIs g 0) p))) (fun io' => gIo g io' ∧ ∀ p, gIs g 0 p = true → io' p = gbI (c.testBit (gct (gIs g 0) p))) (gFree g) (n := zfu) (gfu (by omega)) (a := ((0 : Int32), io)) ⟨rfl, hio, fun p _ h => by omega⟩ ?_ ?_
  · obtain ⟨io', e, k1, k2⟩ := hH
    have kio : ∀ p, gTh p g.1 g.2.1 = true → io' p = gbI (gTh p g.1 g.2.1 && gEff g (gAs g c) p) := by
      intro p hp
      rw [hp, Bool.true_and]
      cases hf : gIs g 0 p with
      | true =>
        rw [k2 p hf]
        unfold gEff
        rw [if_pos (gIs_sp hf).2]
        rfl
      | false =>
        rw [k1 p hp hf]
        have n0 : ¬ gHow g p = 0 := by
          intro q
          unfold gIs at hf
          rw [hp, q] at hf
          cases hf
        unfold gEff gIs
        rw [if_neg n0, hp]
        rfl
    obtain ⟨w', ew, -⟩ := gdoesJoin hw hM.2.2.2 (o := fun p => gTh p g.1 g.2.1 && gEff g (gAs g c) p) kio wt
    rw [← hM.1, ← hM.2.1, gJbJo hw] at ew
    refine ⟨io', w', ?_, k1⟩
    unfold zf_X9_joinsBy
    rw [e, Option.bind_some, ew, Option.bind_some, if_pos (gbIb _)]
  · rintro j ⟨x2, io1⟩ hj ⟨rfl, k1, k2⟩
    dsimp only at k1 k2 ⊢
    obtain ⟨s, s1, s2, s3⟩ := gnth hj
    have os : o j = nI s := by rw [← s3]; exact hq s s2
    have bt := gbitT2 ⟨c, c4⟩ ⟨j, by omega⟩
    dsimp only at bt
    unfold zf_X9_joinsBy_l2 zf_X9_joinsBy_34
    rw [if_neg (gle50 (by omega) (by omega) hj), if_pos (ggN (show j < 24 by omega) (by decide)), nI_clamp (by omega), os, if_pos (ggN s1 (by decide)), if_pos (ggN s1 (by decide)), bt, nI_1, nI_clamp (by omega)]
    have fin : ∀ v : Bool, v = c.testBit j → gIo g (upd io1 s (vp_nar .boolean (gbI v))) ∧ ∀ p, gIs g 0 p = true → gct (gIs g 0) p < j + 1 → upd io1 s (vp_nar .boolean (gbI v)) p = gbI (c.testBit (gct (gIs g 0) p)) := by
      intro v hv
      refine ⟨fun p hp hf => ?_, fun p hp hl => ?_⟩
      · rw [gupN (fun e => by rw [e, s2] at hf; cases hf)]
        exact k1 p hp hf
      · by_cases e : p = s
        · rw [e, gupS, gnar, hv, s3]
        · rw [gupN e]
          refine k2 p hp ?_
          have : gct (gIs g 0) p ≠ j := fun q => e (gct_eq hp s2 (by rw [q, s3]))
          omega
    cases hb : c.testBit j with
    | true =>
      rw [if_pos rfl, if_pos (show nI 1 = (1 : Int32) from rfl)]
      obtain ⟨f1, f2⟩ := fin true hb.symm
      exact ⟨_, rfl, rfl, f1, f2⟩
    | false =>
      rw [if_neg (show ¬ (false = true) by decide), if_neg (show ¬ nI 0 = (1 : Int32) by decide)]
      obtain ⟨f1, f2⟩ := fin false hb.symm
      exact ⟨_, rfl, rfl, f1, f2⟩
  · rintro ⟨x2, io1⟩ ⟨rfl, k1, k2⟩
    dsimp only at k1 k2 ⊢
    unfold zf_X9_joinsBy_l2
    rw [if_pos (Int32.le_refl _)]
    exact ⟨_, rfl, k1, fun p hp => k2 p hp (gct_free hok hp).1⟩
theorem gTry2 {g : gG} (h12 : gFree g ≤ 12) {c : Nat} (hc : c < 2 ^ gFree g) : gTry g c = 2 ↔ gJb g c = true ∧ ∀ i, i < gFree g → (c.testBit i && gJb g (c ^^^ 2 ^ i)) = false := by
  unfold gTry
  cases hj : gJb g c with
  | false => rw [if_neg (by decide)]; exact ⟨fun h => by omega, fun h => by cases h.1⟩
  | true =>
    rw [if_pos rfl]
    cases ha : (List.range 12).any (fun i => c.testBit i && gJb g (c ^^^ 2 ^ i)) with
    | true =>
      rw [if_pos rfl]
      refine ⟨fun h => by omega, fun h => ?_⟩
      obtain ⟨i, i1, i2⟩ := List.any_eq_true.mp ha
      by_cases l : i < gFree g
      · rw [h.2 i l] at i2; cases i2
      · rw [Nat.testBit_lt_two_pow (Nat.lt_of_lt_of_le hc (Nat.pow_le_pow_right (by decide) (show gFree g ≤ i by omega)))] at i2
        cases i2
    | false =>
      rw [if_neg (by decide)]
      refine ⟨fun _ => ⟨rfl, fun i hi => ?_⟩, fun _ => rfl⟩
      have := List.any_eq_false.mp ha i (List.mem_range.mpr (by omega))
      cases hh : (c.testBit i && gJb g (c ^^^ 2 ^ i)) with
      | false => rfl
      | true => exact absurd hh this
theorem gisJ {g : gG} (hok : gOk g) (h12 : gFree g ≤ 12) {fc fr : Int32} {ct cs : Nat → Int32} (hM : gRM g fc fr ct cs) {o io : Nat → Int32} (wt : Nat → Int32) (hq : gQr g o) (hio : gIo g io) {c : Nat} (hc : c < 2 ^ gFree g) : ∃ io' w', zf_X9_isJust fc fr (nI (gFree g)) cs io wt o (nI c) = some (gbI (decide (gTry g c = 2)), io', w') ∧ gIo g io' := by
  have c4 : c < 4096 := Nat.lt_of_lt_of_le hc (Nat.pow_le_pow_right (by decide) h12)
  obtain ⟨io1, w1, e1, k1⟩ := gjbM hok h12 hM wt hq hio hc
  unfold zf_X9_isJust
  rw [e1, Option.bind_some]
  dsimp only
  cases hj : gJb g c with
  | false =>
    rw [if_pos (show gbI false = 0 from rfl), decide_eq_false (fun h => by have := ((gTry2 h12 hc).mp h).1; rw [hj] at this; cases this)]
    exact ⟨_, _, rfl, k1⟩
  | true =>
    rw [if_neg (show ¬ gbI true = 0 by decide)]
    have hF := gitF (f := fun d : Int32 × (Nat → Int32) × (Nat → Int32) => zf_X9_isJust_l12 fc fr (nI (gFree g)) cs o (nI c) d.1 d.2.1 d.2.2) (fun i => c.testBit i && gJb g (c ^^^ 2 ^ i)) (fun j d => d.1 = nI j ∧ gIo g d.2.1) (fun v b => (v = none ∧ ∃ io' w', b = .inl (io', w') ∧ gIo g io') ∨ (∃ i, v = some i) ∧ ∃ io' w', b = .inr (io', w') ∧ gIo g io') (gFree g) ?_ ?_ ?_ (n := zfu) (gfu (by omega)) (a := ((0 : Int32), io1, w1)) ⟨rfl, k1⟩
    · obtain ⟨b, e2, kb⟩ := hF
      rw [e2, Option.bind_some]
      rcases kb with ⟨kn, io2, w2, rfl, k2⟩ | ⟨⟨i, ki⟩, io2, w2, rfl, k2⟩
      · have t2 : gTry g c = 2 := by
          refine (gTry2 h12 hc).mpr ⟨hj, fun i hi => ?_⟩
          cases hh : (c.testBit i && gJb g (c ^^^ 2 ^ i)) with
          | false => rfl
          | true =>
            exfalso
            have key : ∀ m k, gfi (fun i => c.testBit i && gJb g (c ^^^ 2 ^ i)) m k = none → ∀ j, k ≤ j → j < k + m → (c.testBit j && gJb g (c ^^^ 2 ^ j)) = false := by
              intro m
              induction m with
              | zero => intro k _ j h1 h2; omega
              | succ m ih =>
                intro k h j h1 h2
                have h' : (if (c.testBit k && gJb g (c ^^^ 2 ^ k)) = true then some k else gfi (fun i => c.testBit i && gJb g (c ^^^ 2 ^ i)) m (k + 1)) = none := h
                by_cases q : (c.testBit k && gJb g (c ^^^ 2 ^ k)) = true
                · rw [if_pos q] at h'; cases h'
                · rw [if_neg q] at h'
                  by_cases e : j = k
                  · rw [e]; exact Bool.eq_false_iff.mpr q
                  · exact ih (k + 1) h' j (by omega) (by omega)
            rw [key _ _ kn i (by omega) (by omega)] at hh
            cases hh
        rw [decide_eq_true t2]
        exact ⟨_, _, rfl, k2⟩
      · have t2 : ¬ gTry g c = 2 := by
          intro h
          have a := ((gTry2 h12 hc).mp h).2
          rw [gfi_none (gFree g) 0 (fun j _ h2 => a j (by omega))] at ki
          cases ki
        rw [decide_eq_false t2]
        exact ⟨_, _, rfl, k2⟩
    · rintro j ⟨x2, io2, w2⟩ hj' ⟨rfl, k2⟩ hp
      dsimp only at k2 ⊢
      have hp' : (c.testBit j && gJb g (c ^^^ 2 ^ j)) = true := hp
      rw [Bool.and_eq_true] at hp'
      have bt := gbitT2 ⟨c, c4⟩ ⟨j, by omega⟩
      dsimp only at bt
      have sh := gshl12 ⟨j, by omega⟩
      dsimp only at sh
      obtain ⟨io3, w3, e3, k3⟩ := gjbM hok h12 hM w2 hq k2 (c := c ^^^ 2 ^ j) (Nat.xor_lt_two_pow hc (Nat.pow_lt_pow_right (by decide) hj'))
      unfold zf_X9_isJust_l12
      rw [if_neg (gle50 (by omega) (by omega) hj'), bt, hp'.1, if_pos (show nI (if true = true then 1 else 0) = (1 : Int32) from rfl), sh, gclrI hp'.1, e3, Option.bind_some, hp'.2]
      dsimp only
      rw [if_neg (show ¬ gbI true = 0 by decide)]
      exact ⟨_, rfl, Or.inr ⟨⟨_, rfl⟩, _, _, rfl, k3⟩⟩
    · rintro j ⟨x2, io2, w2⟩ hj' ⟨rfl, k2⟩ hp
      dsimp only at k2 ⊢
      have hp' : (c.testBit j && gJb g (c ^^^ 2 ^ j)) = false := hp
      have bt := gbitT2 ⟨c, c4⟩ ⟨j, by omega⟩
      dsimp only at bt
      have sh := gshl12 ⟨j, by omega⟩
      dsimp only at sh
      unfold zf_X9_isJust_l12 zf_X9_isJust_45
      rw [if_neg (gle50 (by omega) (by omega) hj'), bt, nI_1]
      cases hb : c.testBit j with
      | false =>
        rw [if_neg (show ¬ nI (if false = true then 1 else 0) = (1 : Int32) by decide)]
        exact ⟨_, rfl, rfl, k2⟩
      | true =>
        rw [hb, Bool.true_and] at hp'
        obtain ⟨io3, w3, e3, k3⟩ := gjbM hok h12 hM w2 hq k2 (c := c ^^^ 2 ^ j) (Nat.xor_lt_two_pow hc (Nat.pow_lt_pow_right (by decide) hj'))
        rw [if_pos (show nI (if true = true then 1 else 0) = (1 : Int32) from rfl), sh, gclrI hb, e3, Option.bind_some, hp']
        dsimp only
        rw [if_pos (show gbI false = 0 from rfl)]
        exact ⟨_, rfl, rfl, k3⟩
    · rintro ⟨x2, io2, w2⟩ ⟨rfl, k2⟩
      dsimp only at k2 ⊢
      unfold zf_X9_isJust_l12
      rw [if_pos (Int32.le_refl _)]
      exact ⟨_, rfl, Or.inl ⟨rfl, _, _, rfl, k2⟩⟩
