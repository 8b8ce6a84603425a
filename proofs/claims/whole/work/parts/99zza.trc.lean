/-! trial: the class follows all choices -/
theorem gblT : ∀ (p : Fin 50) (i : Fin 64), gbt ((zlshl (1 : Int64) (nI p.val)) - (1 : Int64)) i.val = decide (i.val < p.val) := by decide +kernel
theorem gbitOf {g : gG} (hok : gOk g) (h12 : gFree g ≤ 12) {d : zGD} (hx : gRX g d) {p : Nat} (hp : gIs g 0 p = true) : zf_X7_bitOf d.2.2.2.2.2.2.2 (nI p) = some (nI (2 ^ gct (gIs g 0) p)) := by
  obtain ⟨lt, h50⟩ := gct_free hok hp
  unfold zf_X7_bitOf
  rw [gbc, Option.bind_some]
  have e : gcn (d.2.2.2.2.2.2.2 &&& ((zlshl (1 : Int64) (nI p)) - (1 : Int64))) = gct (gIs g 0) p := by
    show gct (fun i => gbt (d.2.2.2.2.2.2.2 &&& ((zlshl (1 : Int64) (nI p)) - (1 : Int64))) i) 64 = _
    rw [gct_cong (f' := fun i => gIs g 0 i && decide (i < p)) (fun i hi => by
      have t := gblT ⟨p, h50⟩ ⟨i, hi⟩
      dsimp only at t
      rw [gbt_and, t, (hx.2.2.2 i hi).2.2]
      rfl), gct_stop (a := p) 64 (fun i hi => by rw [decide_eq_false (show ¬ i < p by omega), Bool.and_false]) (by omega)]
    exact gct_cong (fun i hi => by rw [decide_eq_true hi, Bool.and_true])
  rw [e]
  have sh := gshl12 ⟨gct (gIs g 0) p, by omega⟩
  dsimp only at sh
  rw [sh]
def gDm (g : gG) : Nat → Nat
  | 0 => 0
  | i + 1 => if gHow g (gStep g i).1 = 0 then gDm g i ||| 2 ^ gct (gIs g 0) (gStep g i).1 else gDm g i
theorem gStne {g : gG} (hw : gWf g) {i j : Nat} (hij : i < j) (hj : j < gRS g.1 g.2.1) : (gStep g i).1 ≠ (gStep g j).1 := by
  have hc := hw.1
  have hr := hw.2.1
  have hp := List.isPerm_iff.mp (gStP ⟨g.1, by omega⟩ ⟨g.2.1, by omega⟩ hc.1 hr.1)
  simp only at hp
  have hlen : (gSteps g.1 g.2.1).length = gRS g.1 g.2.1 := (gsyT ⟨g.1, by omega⟩ ⟨g.2.1, by omega⟩ hc.1).1
  have nd : ((gSteps g.1 g.2.1).map (fun q => q.1)).Nodup := hp.nodup_iff.mpr (List.Pairwise.filter _ List.nodup_range)
  have e : ∀ k, (hk : k < (gSteps g.1 g.2.1).length) → gStep g k = (gSteps g.1 g.2.1)[k] := by
    intro k hk
    unfold gStep
    rw [List.getD_eq_getElem?_getD, List.getElem?_eq_getElem hk]
    rfl
  have := List.pairwise_iff_getElem.mp nd i j (by rw [List.length_map]; omega) (by rw [List.length_map]; omega) hij
  rw [List.getElem_map, List.getElem_map] at this
  rw [e i (by omega), e j (by omega)]
  exact this
theorem gDm_bit {g : gG} : ∀ i b, (gDm g i).testBit b = true ↔ ∃ j, j < i ∧ gHow g (gStep g j).1 = 0 ∧ gct (gIs g 0) (gStep g j).1 = b := by
  intro i
  induction i with
  | zero =>
    intro b
    show (0 : Nat).testBit b = true ↔ _
    rw [Nat.zero_testBit]
    exact ⟨fun h => (by cases h), fun ⟨j, h, _⟩ => by omega⟩
  | succ i ih =>
    intro b
    unfold gDm
    by_cases q : gHow g (gStep g i).1 = 0
    · rw [if_pos q, Nat.testBit_or, Bool.or_eq_true, ih, Nat.testBit_two_pow, decide_eq_true_eq]
      constructor
      · rintro (⟨j, j1, j2⟩ | h)
        · exact ⟨j, by omega, j2⟩
        · exact ⟨i, by omega, q, h⟩
      · rintro ⟨j, j1, j2, j3⟩
        by_cases w : j = i
        · rw [w] at j3; exact Or.inr j3
        · exact Or.inl ⟨j, by omega, j2, j3⟩
    · rw [if_neg q, ih]
      constructor
      · rintro ⟨j, j1, j2⟩
        exact ⟨j, by omega, j2⟩
      · rintro ⟨j, j1, j2, j3⟩
        by_cases w : j = i
        · rw [w] at j2; exact absurd j2 q
        · exact ⟨j, by omega, j2, j3⟩
theorem gSt_is {g : gG} (hw : gWf g) {i : Nat} (hi : i < gRS g.1 g.2.1) (h : gHow g (gStep g i).1 = 0) : gIs g 0 (gStep g i).1 = true := by
  unfold gIs
  rw [(gStE hw hi).1, h]
  rfl
theorem gDm_new {g : gG} (hw : gWf g) {i : Nat} (hi : i < gRS g.1 g.2.1) (h : gHow g (gStep g i).1 = 0) : (gDm g i).testBit (gct (gIs g 0) (gStep g i).1) = false := by
  cases hh : (gDm g i).testBit (gct (gIs g 0) (gStep g i).1) with
  | false => rfl
  | true =>
    obtain ⟨j, j1, j2, j3⟩ := (gDm_bit i _).mp hh
    exact absurd (gct_eq (gSt_is hw (by omega) j2) (gSt_is hw hi h) j3) (gStne hw j1 hi)
theorem gDm_sz {g : gG} (hok : gOk g) (h12 : gFree g ≤ 12) : ∀ i, i ≤ gRS g.1 g.2.1 → gDm g i < 4096 ∧ gPk 32 (gDm g i) = gFs g i := by
  intro i
  induction i with
  | zero => intro _; exact ⟨(show (0 : Nat) < 4096 by decide), (show gPk 32 0 = 0 by decide)⟩
  | succ i ih =>
    intro hi
    obtain ⟨a, b⟩ := ih (by omega)
    rw [gFsS]
    unfold gDm
    by_cases q : gHow g (gStep g i).1 = 0
    · have is := gSt_is hok.1 (show i < gRS g.1 g.2.1 by omega) q
      have lt := (gct_free hok is).1
      rw [if_pos q, if_pos q, gPk_or 32 _ _ (by omega) (gDm_new hok.1 (by omega) q), b]
      exact ⟨Nat.or_lt_two_pow (n := 12) a (Nat.pow_lt_pow_right (by decide) (by omega)), rfl⟩
    · rw [if_neg q, if_neg q]
      exact ⟨a, b⟩
theorem gSf_lt {g : gG} (hw : gWf g) (a : Nat → Bool) : ∀ i, i ≤ gRS g.1 g.2.1 → gSf g a i < gSz g.1 := by
  intro i
  induction i with
  | zero => intro _; exact (gS0_lt hw).1
  | succ i ih =>
    intro hi
    have h := ih (by omega)
    unfold gSf
    split
    · exact (gMvI' hw.1.2 (gStE hw (by omega)).2 h).2
    · exact h
theorem gSf_cong {g : gG} {a a' : Nat → Bool} : ∀ i, (∀ j, j < i → gHow g (gStep g j).1 = 0 → a (gStep g j).1 = a' (gStep g j).1) → gSf g a i = gSf g a' i := by
  intro i
  induction i with
  | zero => intro _; rfl
  | succ i ih =>
    intro h
    unfold gSf
    rw [ih (fun j hj => h j (by omega))]
    have e : gEff g a (gStep g i).1 = gEff g a' (gStep g i).1 := by
      unfold gEff
      by_cases q : gHow g (gStep g i).1 = 0
      · rw [if_pos q, if_pos q]; exact h i (by omega) q
      · rw [if_neg q, if_neg q]
    rw [e]
theorem gmaT : ∀ (p : Fin 50) (h : Fin 3), zf_X4_movesAll (nI p.val) (nI h.val) = some (gbI (decide (h.val = if p.val % 2 = 0 then 1 else 2))) := by decide +kernel
theorem gfindS {g : gG} (hok : gOk g) (h12 : gFree g ≤ 12) {d : zGD} (hx : gRX g d) {codes wt mvA sp ss rs : Nat → Int32} (hcd : ∀ s, s < gSz g.1 → codes s = nI (gCd g.1 s)) (hl : gLz g wt mvA sp ss rs) (fd : Nat → Int32) : ∃ fd', zf_X7_findStates (nI g.1) (nI (gSz g.1)) (nI (gRS g.1 g.2.1)) d.2.2.2.2.1 d.2.2.2.2.2.1 d.2.2.2.2.2.2.1 d.2.2.2.2.2.2.2 fd codes mvA sp ss = some (nI (2 ^ gFree g), fd') ∧ ∀ m, m < 2 ^ gFree g → fd' m = nI (gSf g (gAs g m) (gRS g.1 g.2.1)) := by
  have hw := hok.1
  have h40 := gRS40 hw
  have hsz := gSzle hw.1.2
  have hH := gitH (f := fun e : Int32 × Int32 × Int32 × (Nat → Int32) => zf_X7_findStates_l26 (nI (gRS g.1 g.2.1)) d.2.2.2.2.2.1 d.2.2.2.2.2.2.1 d.2.2.2.2.2.2.2 mvA sp ss e.1 e.2.1 e.2.2.1 e.2.2.2) (fun i e => e.1 = nI (gDm g i) ∧ e.2.1 = nI i ∧ e.2.2.1 = nI (2 ^ gFs g i) ∧ ∀ m, m &&& gDm g i = m → e.2.2.2 m = nI (gSf g (gAs g m) i)) (fun b => b.1 = nI (2 ^ gFree g) ∧ ∀ m, m < 2 ^ gFree g → b.2 m = nI (gSf g (gAs g m) (gRS g.1 g.2.1))) (gRS g.1 g.2.1) (n := zfu) (gfu (by omega)) (a := ((0 : Int32), (0 : Int32), (1 : Int32), upd fd 0 (nI (gS0 g)))) ⟨rfl, rfl, rfl, fun m hm => ?_⟩ ?_ ?_
  · obtain ⟨⟨n, fd'⟩, e, k1, k2⟩ := hH
    dsimp only at k1 k2
    subst k1
    refine ⟨fd', ?_, k2⟩
    unfold zf_X7_findStates
    rw [gstart hw hx hcd, Option.bind_some, if_pos (show zgd (0 : Int32) 4096 = true from ggN (j := 0) (by decide) (by decide))]
    show Option.bind (zit (fun e : Int32 × Int32 × Int32 × (Nat → Int32) => zf_X7_findStates_l26 (nI (gRS g.1 g.2.1)) d.2.2.2.2.2.1 d.2.2.2.2.2.2.1 d.2.2.2.2.2.2.2 mvA sp ss e.1 e.2.1 e.2.2.1 e.2.2.2) zfu ((0 : Int32), (0 : Int32), (1 : Int32), upd fd 0 (nI (gS0 g)))) _ = _
    rw [e]
    rfl
  · have hm' : m = 0 := by
      have : m &&& 0 = m := hm
      rw [Nat.and_zero] at this
      exact this.symm
    rw [hm']
    exact (gupS : upd fd 0 (nI (gS0 g)) 0 = nI (gS0 g))
  · rintro i ⟨x1, x2, sz, f1⟩ hi ⟨rfl, rfl, rfl, k⟩
    dsimp only at k ⊢
    obtain ⟨hp, hv⟩ := gStE hw hi
    have h50 := gTh50 hw.2.1.2 hp
    obtain ⟨e1, e2⟩ := hl.2.2.1 i hi
    obtain ⟨dl, dk⟩ := gDm_sz hok h12 i (by omega)
    have fl : gFs g (i + 1) ≤ gFree g := by rw [← gFs_all hw]; exact gFs_mono g (by omega)
    have hFS := gFsS g i
    have h2 := gHow2 hw (gStep g i).1
    have z : zgd (nI i) 40 = true := ggN (by omega) (by decide)
    have hsl : (gStep g i).2 < 9 := by
      have hc := hw.1
      unfold gVs at hv
      simp only [Bool.or_eq_true, Bool.and_eq_true, decide_eq_true_eq] at hv
      omega
    have hmv : ∀ s, s < gSz g.1 → zf_X4_moved mvA (nI (gStep g i).2) (nI s) = some (nI (gMv g.1 (gStep g i).2 s)) := fun s hs => gmvd (by omega) hsl (gLz_mv hl hv hs)
    have hmo : zf_X4_movesOpen (nI (gStep g i).1) = some (gbI (decide ((gStep g i).1 % 2 = 0))) := gmoT ⟨_, h50⟩
    have hma := gmaT ⟨_, h50⟩ ⟨gHow g (gStep g i).1, by omega⟩
    dsimp only at hma
    have ks : ∀ m, m &&& gDm g i = m → f1 m = nI (gSf g (gAs g m) i) ∧ gSf g (gAs g m) i < gSz g.1 := fun m hm => ⟨k m hm, gSf_lt hw _ i (by omega)⟩
    have pw : ∀ n, n ≤ gFree g → 2 ^ n ≤ 4096 := fun n hn => (show 2 ^ n ≤ 2 ^ 12 from Nat.pow_le_pow_right (by decide) (by omega))
    unfold zf_X7_findStates_l26 zf_X7_findStates_119
    rw [if_neg (gle50 (by omega) (by omega) hi), if_pos z, if_pos z, nI_clamp (show i < 2 ^ 31 by omega), e1, e2, gfreeB hw hx hp, Option.bind_some]
    have sf : ∀ a, gSf g a (i + 1) = if gEff g a (gStep g i).1 = decide ((gStep g i).1 % 2 = 0) then gMv g.1 (gStep g i).2 (gSf g a i) else gSf g a i := fun a => rfl
    by_cases h0 : gHow g (gStep g i).1 = 0
    · have is := gSt_is hw hi h0
      have lt := (gct_free hok is).1
      have bD := gDm_new hw hi h0
      have dm : gDm g (i + 1) = gDm g i ||| 2 ^ gct (gIs g 0) (gStep g i).1 := if_pos h0
      rw [hFS, if_pos h0] at fl
      have pk : 2 ^ (gPk 32 (gDm g i) + 1) ≤ 4096 := by rw [dk]; exact pw _ fl
      obtain ⟨f2, q1, q2⟩ := gdvC dl pk (show gct (gIs g 0) (gStep g i).1 < 12 by omega) bD hmv ks (decide ((gStep g i).1 % 2 = 0))
      rw [dk] at q1
      rw [decide_eq_true h0, if_neg (show ¬ gbI true = 0 by decide), gbitOf hok h12 hx is, Option.bind_some, hmo, Option.bind_some, q1, Option.bind_some, gorI, nI_1]
      refine ⟨_, rfl, by rw [dm], rfl, by rw [hFS, if_pos h0], fun m hm => ?_⟩
      dsimp only
      rw [dm] at hm
      have ef : gEff g (gAs g m) (gStep g i).1 = m.testBit (gct (gIs g 0) (gStep g i).1) := if_pos h0
      rw [sf, ef]
      cases hb : m.testBit (gct (gIs g 0) (gStep g i).1) with
      | false =>
        have sub : m &&& gDm g i = m := by
          apply Nat.eq_of_testBit_eq
          intro t
          have u := congrArg (fun v => v.testBit t) hm
          have u' : (m &&& (gDm g i ||| 2 ^ gct (gIs g 0) (gStep g i).1)).testBit t = m.testBit t := u
          rw [Nat.testBit_and, Nat.testBit_or, Nat.testBit_two_pow] at u'
          rw [Nat.testBit_and]
          by_cases w : gct (gIs g 0) (gStep g i).1 = t
          · rw [← w, hb]; rfl
          · rw [decide_eq_false w, Bool.or_false] at u'; exact u'
        rw [(q2 m sub).1]
        cases decide ((gStep g i).1 % 2 = 0) <;> rfl
      | true =>
        have sub : (m &&& gDm g i) &&& gDm g i = m &&& gDm g i := by rw [Nat.and_assoc, Nat.and_self]
        have me : (m &&& gDm g i) ||| 2 ^ gct (gIs g 0) (gStep g i).1 = m := by
          apply Nat.eq_of_testBit_eq
          intro t
          have u' : (m &&& (gDm g i ||| 2 ^ gct (gIs g 0) (gStep g i).1)).testBit t = m.testBit t := congrArg (fun v => v.testBit t) hm
          rw [Nat.testBit_and, Nat.testBit_or, Nat.testBit_two_pow] at u'
          rw [Nat.testBit_or, Nat.testBit_and, Nat.testBit_two_pow]
          by_cases w : gct (gIs g 0) (gStep g i).1 = t
          · rw [← w, hb, decide_eq_true rfl, Bool.or_true]
          · rw [decide_eq_false w, Bool.or_false] at u' ⊢; exact u'
        have same : gSf g (gAs g m) i = gSf g (gAs g (m &&& gDm g i)) i := by
          refine gSf_cong i (fun j hj hf => ?_)
          have t : (gDm g i).testBit (gct (gIs g 0) (gStep g j).1) = true := (gDm_bit i _).mpr ⟨j, hj, hf, rfl⟩
          show m.testBit _ = (m &&& gDm g i).testBit _
          rw [Nat.testBit_and, t, Bool.and_true]
        have q3 := (q2 _ sub).2
        rw [me] at q3
        rw [q3, same]
        cases decide ((gStep g i).1 % 2 = 0) <;> rfl
    · have dm : gDm g (i + 1) = gDm g i := if_neg h0
      have ef : ∀ a, gEff g a (gStep g i).1 = decide (gHow g (gStep g i).1 = 1) := fun a => if_neg h0
      rw [decide_eq_false h0, if_pos (show gbI false = 0 from rfl), gstat hw hx hp, Option.bind_some, hma, Option.bind_some, nI_1]
      have cond : (decide (gHow g (gStep g i).1 = 1) = decide ((gStep g i).1 % 2 = 0)) ↔ gHow g (gStep g i).1 = (if (gStep g i).1 % 2 = 0 then 1 else 2) := by
        by_cases ev : (gStep g i).1 % 2 = 0
        · rw [if_pos ev, decide_eq_true ev, decide_eq_true_eq]
        · rw [if_neg ev, decide_eq_false ev, decide_eq_false_iff_not]
          omega
      by_cases mo : gHow g (gStep g i).1 = (if (gStep g i).1 % 2 = 0 then 1 else 2)
      · have pk : 2 ^ gPk 32 (gDm g i) ≤ 4096 := by rw [dk]; rw [hFS, if_neg h0] at fl; exact pw _ fl
        obtain ⟨f2, q1, q2⟩ := gmaC dl pk hmv ks
        rw [dk] at q1
        rw [decide_eq_true mo, if_neg (show ¬ gbI true = 0 by decide), q1, Option.bind_some]
        refine ⟨_, rfl, by rw [dm], rfl, by rw [hFS, if_neg h0]; rfl, fun m hm => ?_⟩
        rw [dm] at hm
        dsimp only
        rw [q2 m hm, sf, ef, if_pos (cond.mpr mo)]
      · rw [decide_eq_false mo, if_pos (show gbI false = 0 from rfl)]
        refine ⟨_, rfl, by rw [dm], rfl, by rw [hFS, if_neg h0]; rfl, fun m hm => ?_⟩
        rw [dm] at hm
        dsimp only
        rw [k m hm, sf, ef, if_neg (fun q => mo (cond.mp q))]
  · rintro ⟨x1, x2, sz, f1⟩ ⟨rfl, rfl, rfl, k⟩
    dsimp only at k ⊢
    unfold zf_X7_findStates_l26
    rw [if_pos (Int32.le_refl _)]
    refine ⟨_, rfl, by rw [gFs_all hw], fun m hm => k m ?_⟩
    apply Nat.eq_of_testBit_eq
    intro t
    rw [Nat.testBit_and]
    by_cases l : t < gFree g
    · obtain ⟨s, s1, s2, s3⟩ := gnth l
      have th := gIs_sp s2
      have mem : ∃ j, j < gRS g.1 g.2.1 ∧ (gStep g j).1 = s := by
        have hc := hw.1
        have hr := hw.2.1
        have hpm := List.isPerm_iff.mp (gStP ⟨g.1, by omega⟩ ⟨g.2.1, by omega⟩ hc.1 hr.1)
        simp only at hpm
        have hlen : (gSteps g.1 g.2.1).length = gRS g.1 g.2.1 := (gsyT ⟨g.1, by omega⟩ ⟨g.2.1, by omega⟩ hc.1).1
        have : s ∈ (gSteps g.1 g.2.1).map (fun q => q.1) := hpm.mem_iff.mpr (List.mem_filter.mpr ⟨List.mem_range.mpr s1, th.1⟩)
        obtain ⟨q, hq, qe⟩ := List.mem_map.mp this
        obtain ⟨j, hj, je⟩ := List.mem_iff_getElem.mp hq
        refine ⟨j, by omega, ?_⟩
        unfold gStep
        rw [List.getD_eq_getElem?_getD, List.getElem?_eq_getElem hj, je]
        exact qe
      obtain ⟨j, j1, j2⟩ := mem
      rw [(gDm_bit _ t).mpr ⟨j, j1, by rw [j2]; exact th.2, by rw [j2]; exact s3⟩, Bool.and_true]
    · rw [Nat.testBit_lt_two_pow (Nat.lt_of_lt_of_le hm (Nat.pow_le_pow_right (by decide) (show gFree g ≤ t by omega)))]
      rfl
