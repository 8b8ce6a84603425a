/-! trial: tried and just -/
theorem gWsL9 {c s : Nat} (hc : c ≤ 5) (hs : s < gSz c) : gWs c s < 32 := by
  have t := List.all_eq_true.mp (gwpT ⟨c, by omega⟩) s (List.mem_range.mpr hs)
  rw [Bool.and_eq_true] at t
  have a := of_decide_eq_true t.1
  have b := of_decide_eq_true (List.all_eq_true.mp t.2 c (List.mem_range.mpr (by omega)))
  dsimp only at a b
  omega
theorem gand0 {m i : Nat} : m &&& 2 ^ i = 0 ↔ m.testBit i = false := by
  constructor
  · intro h
    have e := Nat.testBit_and m (2 ^ i) i
    rw [h, Nat.zero_testBit, Nat.testBit_two_pow, decide_eq_true rfl, Bool.and_true] at e
    exact e.symm
  · intro h
    apply Nat.eq_of_testBit_eq
    intro t
    rw [Nat.testBit_and, Nat.testBit_two_pow, Nat.zero_testBit]
    by_cases w : i = t
    · rw [← w, h]; rfl
    · rw [decide_eq_false w, Bool.and_false]
theorem gneeds {g : gG} (h12 : gFree g ≤ 12) {fd : Nat → Int32} (hf : ∀ m, m < 2 ^ gFree g → (fd m = 0 ↔ gJb g m = false)) {m : Nat} (hm : m < 2 ^ gFree g) : zf_X7_needsAll fd (nI m) = some (gbI (!(List.range 12).any (fun i => m.testBit i && gJb g (m ^^^ 2 ^ i)))) := by
  have m4 : m < 4096 := Nat.lt_of_lt_of_le hm (gpow12 h12).1
  have lo : ∀ i, m.testBit i = true → i < gFree g := by
    intro i hi
    by_cases l : i < gFree g
    · exact l
    · rw [Nat.testBit_lt_two_pow (Nat.lt_of_lt_of_le hm (Nat.pow_le_pow_right (by decide) (show gFree g ≤ i by omega)))] at hi
      cases hi
  have bits : ∀ i, i < 12 → (nI m &&& zshl (1 : Int32) (nI i) = 0 ↔ m.testBit i = false) ∧ nI m ^^^ zshl (1 : Int32) (nI i) = nI (m ^^^ 2 ^ i) ∧ m ^^^ 2 ^ i < 4096 := by
    intro i hi
    have sh := gshl12 ⟨i, by omega⟩
    dsimp only at sh
    have l : m &&& 2 ^ i ≤ m := Nat.and_le_left
    rw [sh, gandI, gxorI, show (0 : Int32) = nI 0 from rfl, nI_eq (by omega) (by decide), gand0]
    exact ⟨Iff.rfl, rfl, Nat.xor_lt_two_pow (n := 12) m4 (Nat.pow_lt_pow_right (by decide) hi)⟩
  have hF := gitF (f := fun d : Int32 => zf_X7_needsAll_l2 fd (nI m) d) (fun i => m.testBit i && gJb g (m ^^^ 2 ^ i)) (fun j d => d = nI j) (fun v b => b = gS2 v) 12 ?_ ?_ ?_ (n := zfu) (gfu (by decide)) (a := (0 : Int32)) rfl
  · obtain ⟨b, e, rfl⟩ := hF
    unfold zf_X7_needsAll
    rw [e, Option.bind_some]
    cases ha : (List.range 12).any (fun i => m.testBit i && gJb g (m ^^^ 2 ^ i)) with
    | false =>
      rw [gfi_none 12 0 (fun j _ h2 => by
        have := List.any_eq_false.mp ha j (List.mem_range.mpr (by omega))
        cases hh : (m.testBit j && gJb g (m ^^^ 2 ^ j)) with
        | false => rfl
        | true => exact absurd hh this)]
      rfl
    | true =>
      obtain ⟨i, i1, i2⟩ := List.any_eq_true.mp ha
      have i1 := List.mem_range.mp i1
      cases hh : gfi (fun i => m.testBit i && gJb g (m ^^^ 2 ^ i)) 12 0 with
      | some k => rfl
      | none =>
        exfalso
        have key : ∀ n k, gfi (fun i => m.testBit i && gJb g (m ^^^ 2 ^ i)) n k = none → ∀ j, k ≤ j → j < k + n → (m.testBit j && gJb g (m ^^^ 2 ^ j)) = false := by
          intro n
          induction n with
          | zero => intro k _ j h1 h2; omega
          | succ n ih =>
            intro k h j h1 h2
            have h' : (if (m.testBit k && gJb g (m ^^^ 2 ^ k)) = true then some k else gfi (fun i => m.testBit i && gJb g (m ^^^ 2 ^ i)) n (k + 1)) = none := h
            by_cases q : (m.testBit k && gJb g (m ^^^ 2 ^ k)) = true
            · rw [if_pos q] at h'; cases h'
            · rw [if_neg q] at h'
              by_cases e : j = k
              · rw [e]; exact Bool.eq_false_iff.mpr q
              · exact ih (k + 1) h' j (by omega) (by omega)
        rw [key 12 0 hh i (by omega) (by omega)] at i2
        cases i2
  · rintro j _ hj rfl hp
    have hp' : (m.testBit j && gJb g (m ^^^ 2 ^ j)) = true := hp
    rw [Bool.and_eq_true] at hp'
    obtain ⟨b1, b2, b3⟩ := bits j hj
    have lt : m ^^^ 2 ^ j < 2 ^ gFree g := Nat.xor_lt_two_pow hm (Nat.pow_lt_pow_right (by decide) (lo j hp'.1))
    unfold zf_X7_needsAll_l2
    rw [if_neg (show ¬ (12 : Int32) ≤ nI j from gle50 (a := 12) (by decide) (by omega) hj), if_neg (fun q => by have := b1.mp q; rw [hp'.1] at this; cases this), b2, if_pos (ggN b3 (by decide)), nI_clamp (by omega), if_neg (fun q => by have := (hf _ lt).mp q; rw [hp'.2] at this; cases this)]
    exact ⟨_, rfl, rfl⟩
  · rintro j _ hj rfl hp
    have hp' : (m.testBit j && gJb g (m ^^^ 2 ^ j)) = false := hp
    obtain ⟨b1, b2, b3⟩ := bits j hj
    unfold zf_X7_needsAll_l2 zf_X7_needsAll_31
    rw [if_neg (show ¬ (12 : Int32) ≤ nI j from gle50 (a := 12) (by decide) (by omega) hj), b2, if_pos (ggN b3 (by decide)), nI_clamp (show m ^^^ 2 ^ j < 2 ^ 31 by omega), nI_1]
    cases hb : m.testBit j with
    | false =>
      rw [if_pos (b1.mpr hb)]
      exact ⟨_, rfl, rfl⟩
    | true =>
      rw [hb, Bool.true_and] at hp'
      have lt : m ^^^ 2 ^ j < 2 ^ gFree g := Nat.xor_lt_two_pow hm (Nat.pow_lt_pow_right (by decide) (lo j hb))
      rw [if_neg (fun q => by have := b1.mp q; rw [hb] at this; cases this), if_pos ((hf _ lt).mpr hp')]
      exact ⟨_, rfl, rfl⟩
  · rintro _ rfl
    unfold zf_X7_needsAll_l2
    rw [if_pos (by decide)]
    exact ⟨_, rfl, rfl⟩
theorem gfolT {g : gG} (hok : gOk g) (h12 : gFree g ≤ 12) {d : zGD} (hx : gRX g d) {codes wt mvA sp ss rs : Nat → Int32} (hcd : ∀ s, s < gSz g.1 → codes s = nI (gCd g.1 s)) (hl : gLz g wt mvA sp ss rs) (fd : Nat → Int32) {u : Option Nat} {q : Nat} (hu : u ≠ some q) (fs : Int32) : ∃ fd', zf_X7_follow u fs (nI g.1) (nI (gSz g.1)) (nI (gRS g.1 g.2.1)) d.2.2.2.2.1 d.2.2.2.2.2.1 d.2.2.2.2.2.2.1 d.2.2.2.2.2.2.2 fd codes wt mvA sp ss q = some (some q, nI (2 ^ gFree g), fd') ∧ ∀ c, c < 2 ^ gFree g → fd' c = nI (gTry g c) := by
  have hw := hok.1
  have hsz := gSzle hw.1.2
  obtain ⟨p1, p2⟩ := gpow12 h12
  obtain ⟨f1, e1, k1⟩ := gfindS hok h12 hx hcd hl fd
  have h2 := gitH (f := fun e : Int32 × (Nat → Int32) => zf_X7_follow_l20 (nI (2 ^ gFree g)) wt e.1 e.2) (fun j e => e.1 = nI j ∧ ∀ m, m < 2 ^ gFree g → e.2 m = if m < j then gbI (gJb g m) else nI (gSf g (gAs g m) (gRS g.1 g.2.1))) (fun o => ∀ m, m < 2 ^ gFree g → o m = gbI (gJb g m)) (2 ^ gFree g) (n := zfu) (gfu (by omega)) (a := ((0 : Int32), f1)) ⟨rfl, fun m hm => by rw [if_neg (by omega)]; exact k1 m hm⟩ ?_ ?_
  · obtain ⟨f2, e2, k2⟩ := h2
    have h3 := gitH (f := fun e : Int32 × (Nat → Int32) => zf_X7_follow_l64 (nI (2 ^ gFree g)) e.1 e.2) (fun j e => e.1 = nI j ∧ ∀ m, m < 2 ^ gFree g → e.2 m = if m < j then nI (gTry g m) else gbI (gJb g m)) (fun o => ∀ m, m < 2 ^ gFree g → o m = nI (gTry g m)) (2 ^ gFree g) (n := zfu) (gfu (by omega)) (a := ((0 : Int32), f2)) ⟨rfl, fun m hm => by rw [if_neg (by omega)]; exact k2 m hm⟩ ?_ ?_
    · obtain ⟨f3, e3, k3⟩ := h3
      refine ⟨f3, ?_, k3⟩
      unfold zf_X7_follow
      rw [if_neg hu, e1, Option.bind_some]
      dsimp only
      rw [e2, Option.bind_some, e3]
      rfl
    · rintro j ⟨x2, f3⟩ hj ⟨rfl, k⟩
      dsimp only at k ⊢
      have kj := k j hj
      rw [if_neg (Nat.lt_irrefl j)] at kj
      have z : zgd (nI j) 4096 = true := ggN (by omega) (by decide)
      have hz : ∀ m, m < 2 ^ gFree g → (f3 m = 0 ↔ gJb g m = false) := by
        intro m hm
        rw [k m hm]
        by_cases w : m < j
        · have t2 := (gTry0 (g := g) (m := m)).2
          rw [if_pos w, show (0 : Int32) = nI 0 from rfl, nI_eq (by omega) (by decide)]
          exact gTry0.1
        · rw [if_neg w]; exact gbI0 _
      have nx : ∀ f4 : Nat → Int32, f4 j = nI (gTry g j) → (∀ m, m ≠ j → f4 m = f3 m) → ∀ m, m < 2 ^ gFree g → f4 m = if m < j + 1 then nI (gTry g m) else gbI (gJb g m) := by
        intro f4 h4 h5 m hm
        by_cases w : m = j
        · rw [w, if_pos (show j < j + 1 by omega)]; exact h4
        · rw [h5 m w, k m hm]
          by_cases l : m < j
          · rw [if_pos l, if_pos (show m < j + 1 by omega)]
          · rw [if_neg l, if_neg (show ¬ m < j + 1 by omega)]
      unfold zf_X7_follow_l64 zf_X7_follow_96
      rw [if_neg (gle50 (by omega) (by omega) hj), if_pos z, if_pos z, nI_clamp (by omega), kj, nI_1]
      have tr : gTry g j = if gJb g j then (if (List.range 12).any (fun i => j.testBit i && gJb g (j ^^^ 2 ^ i)) then 1 else 2) else 0 := rfl
      cases hb : gJb g j with
      | false =>
        rw [if_pos (show gbI false = 0 from rfl)]
        rw [hb, if_neg (by decide)] at tr
        rw [hb] at kj
        exact ⟨_, rfl, rfl, nx f3 (by rw [kj, tr]; rfl) (fun _ _ => rfl)⟩
      | true =>
        rw [if_neg (show ¬ gbI true = 0 by decide), gneeds h12 hz hj, Option.bind_some]
        rw [hb, if_pos rfl] at tr
        rw [hb] at kj
        cases ha : (List.range 12).any (fun i => j.testBit i && gJb g (j ^^^ 2 ^ i)) with
        | true =>
          rw [if_pos (show gbI (!true) = 0 from rfl)]
          rw [ha, if_pos rfl] at tr
          exact ⟨_, rfl, rfl, nx f3 (by rw [kj, tr]; rfl) (fun _ _ => rfl)⟩
        | false =>
          rw [if_neg (show ¬ gbI (!false) = 0 by decide)]
          rw [ha, if_neg (by decide)] at tr
          exact ⟨_, rfl, rfl, nx (upd f3 j (2 : Int32)) (by rw [gupS, tr]; rfl) (fun m hm => gupN hm)⟩
    · rintro ⟨x2, f3⟩ ⟨rfl, k⟩
      dsimp only at k ⊢
      unfold zf_X7_follow_l64
      rw [if_pos (Int32.le_refl _)]
      refine ⟨_, rfl, fun m hm => ?_⟩
      rw [k m hm, if_pos hm]
  · rintro j ⟨x2, f3⟩ hj ⟨rfl, k⟩
    dsimp only at k ⊢
    have kj := k j hj
    rw [if_neg (Nat.lt_irrefl j)] at kj
    have z : zgd (nI j) 4096 = true := ggN (by omega) (by decide)
    have sl := gSf_lt hw (gAs g j) (gRS g.1 g.2.1) (Nat.le_refl _)
    have w32 := gWsL9 hw.1.2 sl
    have nx : ∀ v : Int32, v = gbI (gJb g j) → ∀ m, m < 2 ^ gFree g → upd f3 j v m = if m < j + 1 then gbI (gJb g m) else nI (gSf g (gAs g m) (gRS g.1 g.2.1)) := by
      intro v hv m hm
      by_cases w : m = j
      · rw [w, gupS, if_pos (show j < j + 1 by omega)]; exact hv
      · rw [gupN w, k m hm]
        by_cases l : m < j
        · rw [if_pos l, if_pos (show m < j + 1 by omega)]
        · rw [if_neg l, if_neg (show ¬ m < j + 1 by omega)]
    unfold zf_X7_follow_l20 zf_X7_follow_55
    rw [if_neg (gle50 (by omega) (by omega) hj), if_pos z, if_pos z, if_pos z, nI_clamp (by omega), kj, if_pos (ggN (show gSf g (gAs g j) (gRS g.1 g.2.1) < 132 by omega) (by decide)), nI_clamp (by omega), hl.1 _ sl, nI_1]
    by_cases w : gWs g.1 (gSf g (gAs g j) (gRS g.1 g.2.1)) = 0
    · have jb : gJb g j = false := by unfold gJb; exact decide_eq_false (fun q => q w)
      rw [if_pos (show nI (gWs g.1 (gSf g (gAs g j) (gRS g.1 g.2.1))) = (0 : Int32) by rw [w]; rfl)]
      exact ⟨_, rfl, rfl, nx _ (by rw [jb]; rfl)⟩
    · have jb : gJb g j = true := by unfold gJb; exact decide_eq_true w
      rw [if_neg (show ¬ nI (gWs g.1 (gSf g (gAs g j) (gRS g.1 g.2.1))) = (0 : Int32) from nI_ne0 (by omega) (by omega))]
      exact ⟨_, rfl, rfl, nx _ (by rw [jb]; rfl)⟩
  · rintro ⟨x2, f3⟩ ⟨rfl, k⟩
    dsimp only at k ⊢
    unfold zf_X7_follow_l20
    rw [if_pos (Int32.le_refl _)]
    refine ⟨_, rfl, fun m hm => ?_⟩
    rw [k m hm, if_pos hm]
theorem gdemT {xi : Nat → Int32} {xu : Nat → Option Nat} {fg : Nat} {xh : Nat → Nat → Int32} {xk : Nat → Nat → Int64} {LG : List Nat} {G : Nat → zGD} {g : gG} (hok : gOk g) (h12 : gFree g ≤ 12) (hg : fg ∈ LG) (hx : gRX g (G fg)) (hc : gCc xi xu xh xk LG G) : ∃ cd' wt' mv' sp' ss' rs' lg' fd', zf_X8_demandTrial fg (xi 7) (xi 8) (xi 9) (xi 10) (xu 2) (xi 13) (xh 1) (xh 2) (xh 3) (xh 4) (xh 5) (xh 6) (xh 7) (xh 9) (G fg) = some (.inl (nI g.1, nI g.2.1, nI (gSz g.1), nI (gRS g.1 g.2.1), some fg, nI (2 ^ gFree g), cd', wt', mv', sp', ss', rs', lg', fd')) ∧ (∀ c, c < 2 ^ gFree g → fd' c = nI (gTry g c)) ∧ gCc (gset (gset (gset (gset (gset xi 7 (nI g.1)) 8 (nI g.2.1)) 9 (nI (gSz g.1))) 10 (nI (gRS g.1 g.2.1))) 13 (nI (2 ^ gFree g))) (gset xu 2 (some fg)) (gset (gset (gset (gset (gset (gset (gset (gset xh 1 cd') 2 wt') 3 mv') 4 sp') 5 ss') 6 rs') 7 lg') 9 fd') xk LG G := by
  obtain ⟨h1, h2, h3, h4, h5, h6, h7, h8⟩ := hc
  have hcw := hok.1.1
  have hrw := hok.1.2.1
  obtain ⟨cd', wt', mv', sp', ss', rs', lg', e1, f1, f2, f3, f4⟩ := gfit (lg := xh 7) h1 hcw hrw
  have hl : gLz g wt' mv' sp' ss' rs' := ⟨fun s hs => (f1 s hs).2, f2, f3, f4⟩
  have hcd : ∀ s, s < gSz g.1 → cd' s = nI (gCd g.1 s) := fun s hs => (f1 s hs).1
  have key : ∃ fd', zf_X7_follow (xu 2) (xi 13) (nI g.1) (nI (gSz g.1)) (nI (gRS g.1 g.2.1)) (G fg).2.2.2.2.1 (G fg).2.2.2.2.2.1 (G fg).2.2.2.2.2.2.1 (G fg).2.2.2.2.2.2.2 (xh 9) cd' wt' mv' sp' ss' fg = some (some fg, nI (2 ^ gFree g), fd') ∧ ∀ c, c < 2 ^ gFree g → fd' c = nI (gTry g c) := by
    by_cases hq : xu 2 = some fg
    · obtain ⟨-, g', k1, k12, k2, k3, k4⟩ := h8 fg hq
      have : g' = g := gRXu k1.1 hok.1 k2 hx
      subst this
      unfold zf_X7_follow
      rw [if_pos hq, hq, k3]
      exact ⟨_, rfl, k4⟩
    · exact gfolT hok h12 hx hcd hl (xh 9) hq (xi 13)
  obtain ⟨fd', e2, k2⟩ := key
  refine ⟨cd', wt', mv', sp', ss', rs', lg', fd', ?_, k2, ?_⟩
  · unfold zf_X8_demandTrial
    have e3 : zf_X4_fit (xi 7) (xi 8) (xi 9) (xi 10) (xh 1) (xh 2) (xh 3) (xh 4) (xh 5) (xh 6) (xh 7) (G fg).1 (G fg).2.1 = some (nI g.1, nI g.2.1, nI (gSz g.1), nI (gRS g.1 g.2.1), cd', wt', mv', sp', ss', rs', lg') := by
      rw [hx.1, hx.2.1]
      exact e1
    rw [gX2free hok.1 hx, Option.bind_some, if_pos (show nI (gFree g) ≤ (12 : Int32) from nI_le (b := 12) h12 (by decide)), e3, Option.bind_some]
    dsimp only
    rw [e2]
    rfl
  · refine ⟨Or.inr ⟨g.1, g.2.1, hcw, hrw, rfl, rfl, rfl, rfl, f1, f2, f3, f4⟩, h2, h3, h4, h5, h6, h7, fun q hq => ?_⟩
    obtain rfl := Option.some.inj (hq : some fg = some q)
    exact ⟨hg, g, hok, h12, hx, rfl, k2⟩
theorem gdemN {xi : Nat → Int32} {xu : Nat → Option Nat} {fg : Nat} {xh : Nat → Nat → Int32} {G : Nat → zGD} {g : gG} (hok : gOk g) (h12 : ¬ gFree g ≤ 12) (hx : gRX g (G fg)) : zf_X8_demandTrial fg (xi 7) (xi 8) (xi 9) (xi 10) (xu 2) (xi 13) (xh 1) (xh 2) (xh 3) (xh 4) (xh 5) (xh 6) (xh 7) (xh 9) (G fg) = some (.inr (3, xi 7, xi 8, xi 9, xi 10, xu 2, xi 13, xh 1, xh 2, xh 3, xh 4, xh 5, xh 6, xh 7, xh 9)) := by
  have h24 := hok.2
  unfold zf_X8_demandTrial
  rw [gX2free hok.1 hx, Option.bind_some, if_neg (show ¬ nI (gFree g) ≤ (12 : Int32) by rw [show (12 : Int32) = nI 12 from rfl, nI_leI (by omega) (by decide)]; exact h12)]
theorem gP21_ok : gP21 gInv := by
  intro xi xu fg xh xk ac LG G mi mh mk h x1 x2
  obtain ⟨g, past, h1, h2, h3, h4, h5, h6, h7⟩ := h
  obtain ⟨hok, hg, hx, hm⟩ := id h3
  have h24 := hok.2
  unfold zf_X8_tried zf_X9_tried zf_X9_tried_15
  rw [gX9free hok.1 hm, Option.bind_some]
  by_cases h12 : gFree g ≤ 12
  · obtain ⟨cd', wt', mv', sp', ss', rs', lg', fd', e1, k1, k2⟩ := gdemT hok h12 hg hx h5
    obtain ⟨io', o', e2, qM, kio⟩ := glfM hok hm (mh 10) (mh 19)
    obtain ⟨b, e3, kb⟩ := gtrM hok h12 hm (mh 11) qM (fun p hp _ => kio p hp) x1 x2
    rw [e1, Option.bind_some, if_pos (show nI (gFree g) ≤ (12 : Int32) from nI_le (b := 12) h12 (by decide)), if_pos (show (0 : Int32) ≤ 0 by decide), e2, Option.bind_some]
    dsimp only [Sum.elim_inl]
    rw [gjaC h12 k1, Option.bind_some, e3, Option.bind_some]
    rcases kb with ⟨kn, io2, w2, rfl⟩ | ⟨m, km, io2, w2, rfl⟩
    · rw [kn]
      exact ⟨_, _, rfl, rfl, Or.inl ⟨_, rfl, rfl, rfl, g, past, h1, h2, h3, h4, k2, h6, h7⟩⟩
    · rw [km]
      exact ⟨_, _, rfl, rfl, Or.inl ⟨_, rfl, rfl, rfl, g, past, h1, h2, h3, h4, k2, h6, h7⟩⟩
  · rw [gdemN hok h12 hx, Option.bind_some, if_neg (show ¬ nI (gFree g) ≤ (12 : Int32) by rw [show (12 : Int32) = nI 12 from rfl, nI_leI (by omega) (by decide)]; exact h12), if_neg (show ¬ (1 : Int32) ≤ 0 by decide)]
    dsimp only [Sum.elim_inr]
    exact ⟨_, _, rfl, rfl, Or.inr ⟨_, rfl, ⟨rfl, rfl⟩, g, past, h1, h2, h3, h4, h5, h6, h7⟩⟩
theorem gP22_ok : gP22 gInv := by
  intro xi xu fg xh xk ac LG G mi mh mk h x1
  obtain ⟨g, past, h1, h2, h3, h4, h5, h6, h7⟩ := h
  obtain ⟨hok, hg, hx, hm⟩ := id h3
  have h24 := hok.2
  unfold zf_X8_just zf_X9_just zf_X9_just_15
  rw [gX9free hok.1 hm, Option.bind_some]
  by_cases h12 : gFree g ≤ 12
  · obtain ⟨cd', wt', mv', sp', ss', rs', lg', fd', e1, k1, k2⟩ := gdemT hok h12 hg hx h5
    obtain ⟨io', o', e2, qM, kio⟩ := glfM hok hm (mh 10) (mh 19)
    obtain ⟨b, e3, kb⟩ := gjuM hok h12 hm (mh 11) qM (fun p hp _ => kio p hp) x1
    rw [e1, Option.bind_some, if_pos (show nI (gFree g) ≤ (12 : Int32) from nI_le (b := 12) h12 (by decide)), if_pos (show (0 : Int32) ≤ 0 by decide), e2, Option.bind_some]
    dsimp only [Sum.elim_inl]
    rw [glcC h12 k1, glaC h12 k1, Option.bind_some, Option.bind_some, e3, Option.bind_some]
    by_cases hn : x1 = -1
    · have none9 : gfi (gPj (gL9 g) x1) (2 ^ gFree g) 0 = none := gPj_neg (by rw [hn]; decide) (gpow12 h12).1
      rcases kb with ⟨-, io2, w2, rfl⟩ | ⟨m, km, -⟩
      · rw [if_pos hn]
        dsimp only [Sum.elim_inl]
        rw [if_pos hn]
        exact ⟨_, _, rfl, rfl, Or.inl ⟨_, rfl, rfl, rfl, g, past, h1, h2, h3, h4, k2, h6, h7⟩⟩
      · rw [none9] at km
        cases km
    · rw [if_neg hn]
      rcases kb with ⟨kn, io2, w2, rfl⟩ | ⟨m, km, io2, w2, rfl⟩
      · rw [kn]
        dsimp only [Sum.elim_inl]
        rw [if_neg hn]
        exact ⟨_, _, rfl, rfl, Or.inl ⟨_, rfl, rfl, rfl, g, past, h1, h2, h3, h4, k2, h6, h7⟩⟩
      · rw [km]
        dsimp only [Sum.elim_inr]
        exact ⟨_, _, rfl, rfl, Or.inl ⟨_, rfl, rfl, rfl, g, past, h1, h2, h3, h4, k2, h6, h7⟩⟩
  · rw [gdemN hok h12 hx, Option.bind_some, if_neg (show ¬ nI (gFree g) ≤ (12 : Int32) by rw [show (12 : Int32) = nI 12 from rfl, nI_leI (by omega) (by decide)]; exact h12), if_neg (show ¬ (1 : Int32) ≤ 0 by decide)]
    dsimp only [Sum.elim_inr]
    exact ⟨_, _, rfl, rfl, Or.inr ⟨_, rfl, ⟨rfl, rfl⟩, g, past, h1, h2, h3, h4, h5, h6, h7⟩⟩
