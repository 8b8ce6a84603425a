/-! drain -/
def gDr (g : gG) (w : Nat → Bool) (j : Nat) : gG := (g.1, g.2.1, fun p => if p < j then (if gIs g 0 p then (if w p then 1 else 2) else g.2.2.1 p) else g.2.2.1 p, g.2.2.2)
theorem gDr_wf {g : gG} (hw : gWf g) (w : Nat → Bool) (j : Nat) : gWf (gDr g w j) := by
  refine ⟨hw.1, hw.2.1, fun p => ⟨?_, fun ht => ?_⟩, hw.2.2.2⟩
  · show (if p < j then (if gIs g 0 p then (if w p then 1 else 2) else g.2.2.1 p) else g.2.2.1 p) ≤ 2
    have := (hw.2.2.1 p).1
    by_cases q : p < j
    · rw [if_pos q]
      cases gIs g 0 p with
      | true => rw [if_pos rfl]; cases w p <;> decide
      | false => exact this
    · rw [if_neg q]; exact this
  · have ht' : gTh p g.1 g.2.1 = false := ht
    have nf : gIs g 0 p = false := by unfold gIs; rw [ht']; rfl
    show (if p < j then (if gIs g 0 p then (if w p then 1 else 2) else g.2.2.1 p) else g.2.2.1 p) = 0
    rw [nf, (hw.2.2.1 p).2 ht']
    simp
theorem gDr_how {g : gG} (w : Nat → Bool) (j p : Nat) (hp : gTh p g.1 g.2.1 = true) : gHow (gDr g w j) p = if p < j ∧ gHow g p = 0 then (if w p then 1 else 2) else gHow g p := by
  by_cases st : (g.2.2.2 (gFr p) || g.2.2.2 (gTo p)) = true
  · have e1 : gHow (gDr g w j) p = 2 := if_pos st
    have e2 : gHow g p = 2 := if_pos st
    rw [e1, e2, if_neg (fun h => by have := h.2; omega)]
  · have e1 : gHow (gDr g w j) p = (if p < j then (if gIs g 0 p then (if w p then 1 else 2) else g.2.2.1 p) else g.2.2.1 p) := if_neg st
    have e2 : gHow g p = g.2.2.1 p := if_neg st
    have is0 : gIs g 0 p = decide (gHow g p = 0) := by unfold gIs; rw [hp]; rfl
    rw [e1, is0]
    by_cases q : p < j
    · rw [if_pos q]
      by_cases z : gHow g p = 0
      · rw [decide_eq_true z, if_pos rfl, if_pos (show p < j ∧ gHow g p = 0 from ⟨q, z⟩)]
      · rw [decide_eq_false z, if_neg (by decide), if_neg (fun h => z h.2), e2]
    · rw [if_neg q, if_neg (fun h => q h.1), e2]
theorem gDr_is {g : gG} (w : Nat → Bool) {p : Nat} (h50 : p < 50) : gIs (gDr g w 50) 0 p = false ∧ gIs (gDr g w 50) 1 p = ((gIs g 0 p && w p) || gIs g 1 p) := by
  cases ht : gTh p g.1 g.2.1 with
  | false =>
    have t' : gTh p (gDr g w 50).1 (gDr g w 50).2.1 = false := ht
    unfold gIs
    rw [t', ht]
    exact ⟨rfl, rfl⟩
  | true =>
    have t' : gTh p (gDr g w 50).1 (gDr g w 50).2.1 = true := ht
    unfold gIs
    rw [t', ht, gDr_how w 50 p ht]
    by_cases z : gHow g p = 0
    · rw [if_pos (show p < 50 ∧ gHow g p = 0 from ⟨h50, z⟩), z]
      cases w p <;> exact ⟨rfl, rfl⟩
    · rw [if_neg (fun h => z h.2), decide_eq_false z]
      exact ⟨rfl, by simp⟩
theorem gDr_free {g : gG} (w : Nat → Bool) : gFree (gDr g w 50) = 0 := by
  show gct (gIs (gDr g w 50) 0) 50 = 0
  rw [gct_cong (f' := fun _ => false) (fun p hp => (gDr_is w hp).1)]
  decide
theorem gdrained {g : gG} (hok : gOk g) {d : zGD} (hx : gRX g d) {op : Int64} {w : Nat → Bool} (hop : ∀ i, i < 64 → gbt op i = (gIs g 0 i && w i)) : ∃ d', zf_X2_drained (nI g.1) (nI g.2.1) d.2.2.1 d.2.2.2.1 d.2.2.2.2.1 d.2.2.2.2.2.2.2 op = some d' ∧ gRX (gDr g w 50) d' := by
  have hw := hok.1
  have rt : gRT (gDr g w 50) (d.2.2.1 ||| op) (d.2.2.2.1 ||| (d.2.2.2.2.2.2.2 &&& (op ^^^ (-1 : Int64)))) d.2.2.2.2.1 := by
    intro i hi
    obtain ⟨a1, a2, a3⟩ := hx.2.2.1 i hi
    obtain ⟨-, -, b3⟩ := hx.2.2.2 i hi
    rw [gbt_or, gbt_or, gbt_and, gbt_not _ hi, a1, a2, hop i hi, b3]
    have tv : (gDr g w 50).2.2.1 i = if i < 50 then (if gIs g 0 i then (if w i then 1 else 2) else g.2.2.1 i) else g.2.2.1 i := rfl
    rw [tv]
    refine ⟨?_, ?_, a3⟩
    · cases hf : gIs g 0 i with
      | false => rw [Bool.false_and, Bool.or_false, if_neg (show ¬ (false = true) by decide), ite_self]
      | true =>
        have t0 := gtold0 (gIs_sp hf).2
        have h50 := gTh50 hw.2.1.2 (gIs_sp hf).1
        rw [t0, if_pos h50, if_pos rfl]
        cases w i <;> rfl
    · show _ = decide ((if i < 50 then (if gIs g 0 i then (if w i then 1 else 2) else g.2.2.1 i) else g.2.2.1 i) = 2)
      have b4 : (gTh i g.1 g.2.1 && decide (gHow g i = 0)) = gIs g 0 i := rfl
      rw [b4]
      cases hf : gIs g 0 i with
      | false => rw [Bool.false_and, Bool.or_false, if_neg (show ¬ (false = true) by decide), ite_self]
      | true =>
        have t0 := gtold0 (gIs_sp hf).2
        have h50 := gTh50 hw.2.1.2 (gIs_sp hf).1
        rw [t0, if_pos h50, if_pos rfl]
        cases w i <;> rfl
  obtain ⟨d', e, k⟩ := gX2init (gDr_wf hw w 50) rt
  refine ⟨d', ?_, k⟩
  unfold zf_X2_drained
  have e' : zf_X2_init (nI g.1) (nI g.2.1) (d.2.2.1 ||| op) (d.2.2.2.1 ||| (d.2.2.2.2.2.2.2 &&& (op ^^^ (-1 : Int64)))) d.2.2.2.2.1 = some d' := e
  rw [e']
  rfl
theorem gdrainM {g : gG} (hok : gOk g) {fc fr : Int32} {ct cs : Nat → Int32} (hM : gRM g fc fr ct cs) (s a b : Int32) (hb : ¬ b = 0) (io : Nat → Int32) : ∃ sd ct' io', zit (fun d : Int32 × Int32 × (Nat → Int32) × (Nat → Int32) => zf_X9_drain_l38 fc fr cs a b d.1 d.2.1 d.2.2.1 d.2.2.2) zfu ((0 : Int32), s, ct, io) = some (sd, ct', io') ∧ gRM (gDr g (gDw g s a b) 50) fc fr ct' cs ∧ ∀ p, gTh p g.1 g.2.1 = true → io' p = gbI (gIs (gDr g (gDw g s a b) 50) 1 p) := by
  have hw := hok.1
  have hr := hw.2.1
  let w := gDw g s a b
  have tl : ∀ j p, (gDr g w j).2.2.1 p = if p < j then (if gIs g 0 p then (if w p then 1 else 2) else g.2.2.1 p) else g.2.2.1 p := fun j p => rfl
  have hH := gitH (f := fun d : Int32 × Int32 × (Nat → Int32) × (Nat → Int32) => zf_X9_drain_l38 fc fr cs a b d.1 d.2.1 d.2.2.1 d.2.2.2) (fun j d => d.1 = nI j ∧ d.2.1 = gSd g s j ∧ gRM (gDr g w j) fc fr d.2.2.1 cs ∧ ∀ p, p < j → gTh p g.1 g.2.1 = true → d.2.2.2 p = gbI (gIs (gDr g w 50) 1 p)) (fun d => gRM (gDr g w 50) fc fr d.2.1 cs ∧ ∀ p, gTh p g.1 g.2.1 = true → d.2.2 p = gbI (gIs (gDr g w 50) 1 p)) 50 (n := zfu) (gfu (by decide)) (a := ((0 : Int32), s, ct, io)) ⟨rfl, rfl, ⟨hM.1, hM.2.1, fun p hp => by rw [tl, if_neg (by omega)]; exact hM.2.2.1 p hp, hM.2.2.2⟩, fun p h => by omega⟩ ?_ ?_
  · obtain ⟨⟨sd, ct', io'⟩, e, k1, k2⟩ := hH
    exact ⟨sd, ct', io', e, k1, k2⟩
  · rintro j ⟨x4, sd, ct1, io1⟩ hj ⟨rfl, rfl, kM, k⟩
    dsimp only at kM k ⊢
    have ip := gisP hj hw.1 hw.2.1
    rw [← hM.1, ← hM.2.1] at ip
    have z : zgd (nI j) 50 = true := ggN hj (by decide)
    unfold zf_X9_drain_l38
    rw [if_neg (gl50 hj), ip, Option.bind_some]
    have ns : gSd g s (j + 1) = (if gIs g 0 j then gNx (gSd g s j) else gSd g s j) := rfl
    have fin : ∀ (sd2 : Int32) (ct2 : Nat → Int32), sd2 = gSd g s (j + 1) → gRM (gDr g w (j + 1)) fc fr ct2 cs → gTh j g.1 g.2.1 = true → ∃ a', zf_X9_drain_87 sd2 ct2 cs io1 (nI j) = some (.inl a') ∧ a'.1 = nI (j + 1) ∧ a'.2.1 = gSd g s (j + 1) ∧ gRM (gDr g w (j + 1)) fc fr a'.2.2.1 cs ∧ ∀ p, p < j + 1 → gTh p g.1 g.2.1 = true → a'.2.2.2 p = gbI (gIs (gDr g w 50) 1 p) := by
      intro sd2 ct2 hs hM2 ht
      have wf2 := gDr_wf hw w (j + 1)
      have ht2 : gTh j (gDr g w (j + 1)).1 (gDr g w (j + 1)).2.1 = true := ht
      have h2 := gHow2 wf2 j
      have eqh : gHow (gDr g w (j + 1)) j = gHow (gDr g w 50) j := by
        rw [gDr_how w (j + 1) j ht, gDr_how w 50 j ht]
        by_cases q : gHow g j = 0
        · rw [if_pos (show j < j + 1 ∧ gHow g j = 0 from ⟨by omega, q⟩), if_pos (show j < 50 ∧ gHow g j = 0 from ⟨hj, q⟩)]
        · rw [if_neg (fun h => q h.2), if_neg (fun h => q h.2)]
      have is1 : gIs (gDr g w 50) 1 j = decide (gHow (gDr g w (j + 1)) j = 1) := by
        rw [eqh]
        unfold gIs
        rw [show gTh j (gDr g w 50).1 (gDr g w 50).2.1 = true from ht]
        rfl
      unfold zf_X9_drain_87 zf_X9_drain_108 zf_X9_drain_109
      rw [ghow wf2 hM2 ht2, Option.bind_some, if_pos z, if_pos z, nI_clamp (by omega), nI_1]
      have up1 : ∀ v : Bool, v = gIs (gDr g w 50) 1 j → ∀ p, p < j + 1 → gTh p g.1 g.2.1 = true → upd io1 j (vp_nar .boolean (gbI v)) p = gbI (gIs (gDr g w 50) 1 p) := by
        intro v hv p hp h
        by_cases e : p = j
        · rw [e, gupS, gnar, hv]
        · rw [gupN e]; exact k p (by omega) h
      by_cases q : gHow (gDr g w (j + 1)) j = 1
      · rw [if_pos (show nI (gHow (gDr g w (j + 1)) j) = (1 : Int32) by rw [q]; rfl)]
        exact ⟨_, rfl, rfl, hs, hM2, up1 true (by rw [is1, decide_eq_true q])⟩
      · rw [if_neg (show ¬ nI (gHow (gDr g w (j + 1)) j) = (1 : Int32) by rw [show (1 : Int32) = nI 1 from rfl, nI_eq (by omega) (by decide)]; exact q)]
        exact ⟨_, rfl, rfl, hs, hM2, up1 false (by rw [is1, decide_eq_false q])⟩
    have same : gIs g 0 j = false → gRM (gDr g w (j + 1)) fc fr ct1 cs := by
      intro nf
      refine ⟨kM.1, kM.2.1, fun p hp => ?_, kM.2.2.2⟩
      rw [kM.2.2.1 p hp, tl, tl]
      congr 1
      by_cases e : p = j
      · rw [e, if_neg (Nat.lt_irrefl j), if_pos (by omega), nf, if_neg (by decide)]
      · by_cases q : p < j
        · rw [if_pos q, if_pos (show p < j + 1 by omega)]
        · rw [if_neg q, if_neg (show ¬ p < j + 1 by omega)]
    cases ht : gTh j g.1 g.2.1 with
    | false =>
      have nf : gIs g 0 j = false := by unfold gIs; rw [ht]; rfl
      unfold zf_X9_drain_109
      rw [if_pos (show gbI false = 0 from rfl), nI_1]
      refine ⟨_, rfl, rfl, by rw [ns, nf]; rfl, same nf, fun p hp h => ?_⟩
      by_cases e : p = j
      · rw [e, ht] at h; cases h
      · exact k p (by omega) h
    | true =>
      have wf1 := gDr_wf hw w j
      have h2 := gHow2 wf1 j
      have ht1 : gTh j (gDr g w j).1 (gDr g w j).2.1 = true := ht
      have eh : gHow (gDr g w j) j = gHow g j := by rw [gDr_how w j j ht, if_neg (fun h => by have := h.1; omega)]
      rw [if_neg (show ¬ gbI true = 0 by decide), ghow wf1 kM ht1, Option.bind_some, eh]
      rw [eh] at h2
      by_cases q0 : gHow g j = 0
      · have f : gIs g 0 j = true := by unfold gIs; rw [ht, q0]; rfl
        unfold zf_X9_drain_86
        rw [if_pos (show nI (gHow g j) = (0 : Int32) by rw [q0]; rfl), gdraws _ _ hb, Option.bind_some, if_pos z, if_pos z, nI_clamp (by omega)]
        dsimp only
        have newM : ∀ v : Nat, v = (if w j then 1 else 2) → gRM (gDr g w (j + 1)) fc fr (upd ct1 j (nI v)) cs := by
          intro v hv
          refine ⟨kM.1, kM.2.1, fun p hp => ?_, kM.2.2.2⟩
          rw [tl]
          by_cases e : p = j
          · rw [e, gupS, if_pos (by omega), f, if_pos rfl, hv]
          · rw [gupN e, kM.2.2.1 p hp, tl]
            congr 1
            by_cases q : p < j
            · rw [if_pos q, if_pos (show p < j + 1 by omega)]
            · rw [if_neg q, if_neg (show ¬ p < j + 1 by omega)]
        have sn : gNx (gSd g s j) = gSd g s (j + 1) := by rw [ns, f, if_pos rfl]
        by_cases c : a ≤ gBt5 (gNx (gSd g s j)) b
        · have nd : w j = false := by show gDw g s a b j = false; unfold gDw; rw [decide_eq_true c]; simp
          rw [if_pos c]
          exact fin _ _ sn (newM 2 (by rw [nd]; rfl)) ht
        · have nd : w j = true := by show gDw g s a b j = true; unfold gDw; rw [f, decide_eq_false c]; rfl
          rw [if_neg c]
          exact fin _ _ sn (newM 1 (by rw [nd]; rfl)) ht
      · have f : gIs g 0 j = false := by unfold gIs; rw [ht, decide_eq_false q0]; rfl
        rw [if_neg (show ¬ nI (gHow g j) = (0 : Int32) by rw [show (0 : Int32) = nI 0 from rfl, nI_eq (by omega) (by decide)]; exact q0)]
        exact fin _ _ (by rw [ns, f]; rfl) (same f) ht
  · rintro ⟨x4, sd, ct1, io1⟩ ⟨rfl, rfl, kM, k⟩
    dsimp only at kM k ⊢
    unfold zf_X9_drain_l38
    rw [if_pos (by decide)]
    exact ⟨_, rfl, kM, fun p hp => k p (gTh50 hr.2 hp) hp⟩
theorem gP9_ok : gP9 gInv := by
  intro xi xu fg xh xk ac LG G mi mh mk h x1 x2 x3
  obtain ⟨g, past, h1, h2, h3, h4, h5, h6, h7⟩ := h
  obtain ⟨hok, hg, hx, hm⟩ := id h3
  unfold zf_X8_drain zf_X9_drain
  rw [show (6 : Int32) = nI 6 from rfl]
  rcases gchance 6 (by decide) x2 x3 with ⟨a, b, hab, hb1, hb6, rfl, rfl, e1⟩ | ⟨e1, hn⟩
  · have bz : ¬ nI b = 0 := fun e => by have := (nI_eq (show b < 2 ^ 31 by omega) (show 0 < 2 ^ 31 by decide)).mp e; omega
    have bl : ¬ nI b ≤ 0 := nI_nle (by omega) (by omega)
    obtain ⟨op, eo, ko⟩ := gdrawO hok hx x1 (nI a) (nI b) bl
    obtain ⟨sd, ct', io', ei, kM, ki⟩ := gdrainM hok hm x1 (nI a) (nI b) bz (mh 10)
    obtain ⟨d', ed, hx'⟩ := gdrained hok hx (w := gDw g x1 (nI a) (nI b)) (op := op) (fun i hi => by
      rw [ko i hi]
      cases hh : gDw g x1 (nI a) (nI b) i with
      | false => rw [Bool.and_false]
      | true => rw [gDw_is hh]; rfl)
    rw [← hx.1, ← hx.2.1] at ed
    have wf' := gDr_wf hok.1 (gDw g x1 (nI a) (nI b)) 50
    obtain ⟨w', ew, kw⟩ := gdoesJoin wf' (cs := mh 5) (io := io') (o := gIs (gDr g (gDw g x1 (nI a) (nI b)) 50) 1) hm.2.2.2 ki (mh 11)
    have ew' : zf_X9_doesJoin (mi 7) (mi 8) (mh 5) io' (mh 11) = some (gbI (gJo (gDr g (gDw g x1 (nI a) (nI b)) 50) (gIs (gDr g (gDw g x1 (nI a) (nI b)) 50) 1)), w') := by
      rw [hm.1, hm.2.1]
      exact ew
    have ej := gjoinsBy wf' (st := d'.2.2.2.2.1) (op := d'.2.2.2.2.2.1) (o := gIs (gDr g (gDw g x1 (nI a) (nI b)) 50) 1) (fun i hi => (hx'.2.2.1 i hi).2.2) (fun i hi => (hx'.2.2.2 i hi).1) (fun p hp => (gIs_sp hp).1)
    rw [← hx'.1, ← hx'.2.1] at ej
    obtain ⟨n, ac', pt', ps', pc', pr', r1, r2, r3⟩ := gact h4 hok hg hx hm
    rw [e1, Option.bind_some, gchT9 hab hb1 hb6, Option.bind_some, if_neg (show ¬ (1 : Int32) = 0 by decide)]
    dsimp only [Sum.elim_inl]
    unfold zf_X9_drain_14
    rw [if_pos (show (0 : Int32) ≤ 0 by decide), r2, Option.bind_some, ei, Option.bind_some]
    dsimp only
    rw [ew', Option.bind_some, if_pos (gbIb _), eo, Option.bind_some, ed, Option.bind_some, r1, Option.bind_some, ej, Option.bind_some, if_pos (gbIb _)]
    refine ⟨_, _, rfl, rfl, Or.inl ⟨_, rfl, rfl, rfl, fun q hq => ?_⟩⟩
    obtain ⟨he, k1, k2, k3, k4⟩ := gInvAct (xi := xi) (mh := mh) (mi := mi) (fg := fg) hq r3 h5 hx'
    exact ⟨gDr g (gDw g x1 (nI a) (nI b)) 50, gPast past g, h1, h2, ⟨⟨wf', by rw [gDr_free]; omega⟩, k3, k4, hm.1, hm.2.1, kM.2.2⟩, k1, k2, gld0 h6.1, h7⟩
  · rw [e1, Option.bind_some, gchN9 hn, Option.bind_some, if_pos rfl]
    dsimp only [Sum.elim_inr]
    unfold zf_X9_drain_14
    rw [if_neg (show ¬ (1 : Int32) ≤ 0 by decide)]
    exact ⟨_, _, rfl, rfl, Or.inr ⟨_, rfl, ⟨rfl, rfl⟩, g, past, h1, h2, h3, h4, h5, h6, h7⟩⟩
