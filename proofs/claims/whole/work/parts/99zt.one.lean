/-! one by one -/
theorem gand15 (x : Int32) : ∃ m, m < 32768 ∧ x &&& (32767 : Int32) = nI m := by
  refine ⟨(x.toBitVec &&& 32767#32).toNat, ?_, ?_⟩
  · rw [BitVec.toNat_and]
    exact Nat.lt_of_le_of_lt Nat.and_le_right (by decide)
  · apply Int32.toBitVec_inj.mp
    rw [Int32.toBitVec_and]
    show x.toBitVec &&& 32767#32 = BitVec.ofNat 32 (x.toBitVec &&& 32767#32).toNat
    rw [BitVec.ofNat_toNat, BitVec.setWidth_eq]
theorem gBt5N (s : Int32) {b : Nat} (h0 : 0 < b) (hb : b ≤ 24) : ∃ q, q < b ∧ gBt5 s (nI b) = nI q := by
  unfold gBt5
  obtain ⟨m, hm, e⟩ := gand15 (zushr s (16 : Int32))
  rw [e]
  refine ⟨m % b, Nat.mod_lt _ h0, ?_⟩
  show nI m - nI m / nI b * nI b = _
  have h1 : m / b * b ≤ m := Nat.div_mul_le_self m b
  rw [gdiv (by omega) (by omega), gmul, gsub h1]
  congr 1
  have := Nat.div_add_mod m b
  rw [Nat.mul_comm] at this
  omega
def gShf : Nat → Int32 → (Nat → Int32) → (Nat → Int32)
  | 0, _, o => o
  | m + 1, s, o => gShf m (gNx s) (upd (upd o (m + 1) (o (gBt5 (gNx s) (nI (m + 2))).toNatClampNeg)) (gBt5 (gNx s) (nI (m + 2))).toNatClampNeg (o (m + 1)))
theorem gShf_same {n : Nat} (hn : n ≤ 24) : ∀ m s o o', (m = 0 ∨ m < n) → (∀ i, i < n → o i = o' i) → ∀ i, i < n → gShf m s o i = gShf m s o' i := by
  intro m
  induction m with
  | zero => intro s o o' _ h i hi; exact h i hi
  | succ m ih =>
    intro s o o' hm h i hi
    obtain ⟨q, hq, e⟩ := gBt5N (gNx s) (b := m + 2) (by omega) (by omega)
    unfold gShf
    rw [e, nI_clamp (show q < 2 ^ 31 by omega)]
    refine ih _ _ _ (by omega) (fun i hi => ?_) i hi
    by_cases a : i = q
    · rw [a, gupS, gupS]; exact h _ (by omega)
    · rw [gupN a, gupN a]
      by_cases b : i = m + 1
      · rw [b, gupS, gupS]; exact h _ (by omega)
      · rw [gupN b, gupN b]; exact h _ hi
theorem gShf_in {n : Nat} (hn : n ≤ 24) {T : Int32 → Prop} : ∀ m s o, (m = 0 ∨ m < n) → (∀ i, i < n → T (o i)) → ∀ i, i < n → T (gShf m s o i) := by
  intro m
  induction m with
  | zero => intro s o _ h i hi; exact h i hi
  | succ m ih =>
    intro s o hm h i hi
    obtain ⟨q, hq, e⟩ := gBt5N (gNx s) (b := m + 2) (by omega) (by omega)
    unfold gShf
    rw [e, nI_clamp (show q < 2 ^ 31 by omega)]
    refine ih _ _ (by omega) (fun i hi => ?_) i hi
    by_cases a : i = q
    · rw [a, gupS]; exact h _ (by omega)
    · rw [gupN a]
      by_cases b : i = m + 1
      · rw [b, gupS]; exact h _ (by omega)
      · rw [gupN b]; exact h _ hi
theorem gdn1 (m : Nat) : nI (m + 1) + (-1 : Int32) = nI m := by rw [← nI_pred m]; exact (Int32.sub_eq_add_neg _ _).symm
theorem gshC {n : Nat} (hn : n ≤ 24) (s : Int32) (o : Nat → Int32) : zit (fun d : Int32 × Int32 × (Nat → Int32) => zf_X8_orderBy_l48 d.1 d.2.1 d.2.2) zfu (s, nI n, o) = some (gShf (n - 1) s o) := by
  have one : ∀ k s o, k < 2 → zf_X8_orderBy_l48 s (nI k) o = some (.inr o) := by
    intro k s o hk
    unfold zf_X8_orderBy_l48
    rw [if_pos (show nI k < (2 : Int32) from nI_lt (b := 2) hk (by decide))]
  have key : ∀ m f s o, m < 24 → m < f → zit (fun d : Int32 × Int32 × (Nat → Int32) => zf_X8_orderBy_l48 d.1 d.2.1 d.2.2) f (s, nI (m + 1), o) = some (gShf m s o) := by
    intro m
    induction m with
    | zero =>
      intro f s o _ hf
      obtain ⟨f, rfl⟩ : ∃ q, f = q + 1 := ⟨f - 1, by omega⟩
      unfold zit
      dsimp only
      rw [one 1 s o (by decide)]
      rfl
    | succ m ih =>
      intro f s o hm hf
      obtain ⟨f, rfl⟩ : ∃ q, f = q + 1 := ⟨f - 1, by omega⟩
      obtain ⟨q, hq, e⟩ := gBt5N (gNx s) (b := m + 2) (by omega) (by omega)
      have st : zf_X8_orderBy_l48 s (nI (m + 1 + 1)) o = some (.inl (gNx s, nI (m + 1), upd (upd o (m + 1) (o q)) q (o (m + 1)))) := by
        unfold zf_X8_orderBy_l48 zf_X8_nextSeed zf_X8_seedBits
        rw [if_neg (show ¬ nI (m + 1 + 1) < (2 : Int32) from nI_nlt (b := 2) (by omega) (by omega)), Option.bind_some, Option.bind_some, if_neg (nI_ne0 (by omega) (by omega)), nI_pred, if_pos (ggN (show m + 1 < 24 by omega) (by decide)), if_pos (ggN (show m + 1 < 24 by omega) (by decide))]
        have ew : zrem ((zushr ((1103515245 : Int32) * s + (12345 : Int32)) (16 : Int32)) &&& (32767 : Int32)) (nI (m + 1 + 1)) = nI q := e
        rw [ew, if_pos (ggN (show q < 24 by omega) (by decide)), if_pos (ggN (show q < 24 by omega) (by decide)), nI_clamp (show q < 2 ^ 31 by omega), nI_clamp (show m + 1 < 2 ^ 31 by omega), gdn1]
        rfl
      unfold zit
      dsimp only
      rw [st]
      show zit _ f _ = _
      rw [ih f _ _ (by omega) (by omega)]
      show _ = some (gShf m (gNx s) (upd (upd o (m + 1) (o (gBt5 (gNx s) (nI (m + 2))).toNatClampNeg)) (gBt5 (gNx s) (nI (m + 2))).toNatClampNeg (o (m + 1))))
      rw [e, nI_clamp (show q < 2 ^ 31 by omega)]
  by_cases z : n = 0
  · subst z
    have eu : zfu = 999999 + 1 := rfl
    rw [eu]
    unfold zit
    dsimp only
    rw [one 0 s o (by decide)]
    rfl
  · have := key (n - 1) zfu s o (by omega) (gfu (by omega))
    rw [show n - 1 + 1 = n by omega] at this
    exact this
theorem gshM {n : Nat} (hn : n ≤ 24) (s : Int32) (o : Nat → Int32) : ∃ sd, zit (fun d : Int32 × Int32 × (Nat → Int32) => zf_X9_oneByOne_l88 d.1 d.2.1 d.2.2) zfu (nI n, s, o) = some (sd, gShf (n - 1) s o) := by
  have one : ∀ k s o, k < 2 → zf_X9_oneByOne_l88 (nI k) s o = some (.inr (s, o)) := by
    intro k s o hk
    unfold zf_X9_oneByOne_l88
    rw [if_pos (show nI k < (2 : Int32) from nI_lt (b := 2) hk (by decide))]
  have key : ∀ m f s o, m < 24 → m < f → ∃ sd, zit (fun d : Int32 × Int32 × (Nat → Int32) => zf_X9_oneByOne_l88 d.1 d.2.1 d.2.2) f (nI (m + 1), s, o) = some (sd, gShf m s o) := by
    intro m
    induction m with
    | zero =>
      intro f s o _ hf
      obtain ⟨f, rfl⟩ : ∃ q, f = q + 1 := ⟨f - 1, by omega⟩
      refine ⟨s, ?_⟩
      unfold zit
      dsimp only
      rw [one 1 s o (by decide)]
      rfl
    | succ m ih =>
      intro f s o hm hf
      obtain ⟨f, rfl⟩ : ∃ q, f = q + 1 := ⟨f - 1, by omega⟩
      obtain ⟨q, hq, e⟩ := gBt5N (gNx s) (b := m + 2) (by omega) (by omega)
      have st : zf_X9_oneByOne_l88 (nI (m + 1 + 1)) s o = some (.inl (nI (m + 1), gNx s, upd (upd o (m + 1) (o q)) q (o (m + 1)))) := by
        unfold zf_X9_oneByOne_l88
        have e' : gBt5 (gNx s) (nI (m + 1 + 1)) = nI q := e
        rw [if_neg (show ¬ nI (m + 1 + 1) < (2 : Int32) from nI_nlt (b := 2) (by omega) (by omega)), gdraws _ _ (nI_ne0 (by omega) (by omega)), Option.bind_some, nI_pred, e']
        dsimp only
        rw [if_pos (ggN (show m + 1 < 24 by omega) (by decide)), if_pos (ggN (show q < 24 by omega) (by decide)), if_pos (ggN (show m + 1 < 24 by omega) (by decide)), if_pos (ggN (show q < 24 by omega) (by decide)), nI_clamp (show q < 2 ^ 31 by omega), nI_clamp (show m + 1 < 2 ^ 31 by omega), gdn1]
      obtain ⟨sd, h⟩ := ih f (gNx s) (upd (upd o (m + 1) (o q)) q (o (m + 1))) (by omega) (by omega)
      refine ⟨sd, ?_⟩
      unfold zit
      dsimp only
      rw [st]
      show zit _ f _ = _
      rw [h]
      show _ = some (sd, gShf m (gNx s) (upd (upd o (m + 1) (o (gBt5 (gNx s) (nI (m + 2))).toNatClampNeg)) (gBt5 (gNx s) (nI (m + 2))).toNatClampNeg (o (m + 1))))
      rw [e, nI_clamp (show q < 2 ^ 31 by omega)]
  by_cases z : n = 0
  · subst z
    refine ⟨s, ?_⟩
    have eu : zfu = 999999 + 1 := rfl
    rw [eu]
    unfold zit
    dsimp only
    rw [one 0 s o (by decide)]
    rfl
  · have := key (n - 1) zfu s o (by omega) (gfu (by omega))
    rw [show n - 1 + 1 = n by omega] at this
    exact this
/-- the free pipes in their order -/
def gQr (g : gG) (o : Nat → Int32) : Prop := ∀ p, gIs g 0 p = true → o (gct (gIs g 0) p) = nI p
theorem gnth {g : gG} {i : Nat} (hi : i < gFree g) : ∃ s, s < 50 ∧ gIs g 0 s = true ∧ gct (gIs g 0) s = i := by
  have hl : i < ((List.range 50).filter (gIs g 0)).length := hi
  obtain ⟨a, b, c⟩ := (gfilG (gIs g 0) 50).mp (List.getElem?_eq_getElem hl)
  exact ⟨_, a, b, c⟩
theorem gQr_same {g : gG} {o o' : Nat → Int32} (h : gQr g o) (h' : gQr g o') : ∀ i, i < gFree g → o i = o' i := by
  intro i hi
  obtain ⟨s, -, b, c⟩ := gnth hi
  rw [← c, h s b, h' s b]
theorem gQr_in {g : gG} {o : Nat → Int32} (h : gQr g o) : ∀ i, i < gFree g → ∃ p, p < 50 ∧ gIs g 0 p = true ∧ o i = nI p := by
  intro i hi
  obtain ⟨s, a, b, c⟩ := gnth hi
  exact ⟨s, a, b, by rw [← c, h s b]⟩
theorem gct_free {g : gG} (hok : gOk g) {p : Nat} (h : gIs g 0 p = true) : gct (gIs g 0) p < gFree g ∧ p < 50 := by
  have h50 := gTh50 hok.1.2.1.2 (gIs_sp h).1
  have m := gct_mono (gIs g 0) (show p + 1 ≤ 50 by omega)
  rw [gctS, h, if_pos rfl] at m
  exact ⟨m, h50⟩
theorem gordC {g : gG} (hok : gOk g) {d : zGD} (hx : gRX g d) (o : Nat → Int32) : ∃ o', zit (fun e : Int32 × Int32 × (Nat → Int32) => zf_X8_orderBy_l4 d e.1 e.2.1 e.2.2) zfu ((0 : Int32), (0 : Int32), o) = some (nI (gFree g), o') ∧ gQr g o' := by
  have hw := hok.1
  have h24 := hok.2
  have hW := gitW (f := fun e : Int32 × Int32 × (Nat → Int32) => zf_X8_orderBy_l4 d e.1 e.2.1 e.2.2) (fun e => ∃ j, j ≤ 50 ∧ e.1 = nI (gct (gIs g 0) j) ∧ e.2.1 = nI j ∧ ∀ p, p < j → gIs g 0 p = true → e.2.2 (gct (gIs g 0) p) = nI p) (fun e => 50 - e.2.1.toNatClampNeg) (fun b => b.1 = nI (gFree g) ∧ gQr g b.2) ?_ zfu ((0 : Int32), (0 : Int32), o) ⟨0, by omega, rfl, rfl, fun p h => by omega⟩ (show 50 - (0 : Int32).toNatClampNeg < zfu from gfu (by decide))
  · obtain ⟨⟨n, o'⟩, e, k1, k2⟩ := hW
    dsimp only at k1 k2
    subst k1
    exact ⟨o', e, k2⟩
  · rintro ⟨x2, x3, oo⟩ ⟨j, hj, rfl, rfl, k⟩
    dsimp only at k ⊢
    have cj : gct (gIs g 0) j ≤ gFree g := gct_mono _ hj
    unfold zf_X8_orderBy_l4
    by_cases q : j = 50
    · subst q
      rw [if_pos (by decide)]
      exact Or.inr ⟨_, rfl, rfl, fun p hp => k p (gct_free hok hp).2 hp⟩
    have hj' : j < 50 := by omega
    rw [if_neg (gl50 hj')]
    by_cases full : gct (gIs g 0) j = 24
    · have ef : gct (gIs g 0) j = gFree g := by omega
      rw [if_pos (show (24 : Int32) ≤ nI (gct (gIs g 0) j) by rw [full]; decide)]
      refine Or.inr ⟨_, rfl, by dsimp only; rw [ef], fun p hp => ?_⟩
      by_cases c : p < j
      · exact k p c hp
      · have := (gct_free hok hp).1
        have m := gct_mono (gIs g 0) (show j ≤ p by omega)
        omega
    have lt : gct (gIs g 0) j < 24 := by omega
    rw [if_neg (gle24 lt), gfreeI hw hx hj', Option.bind_some]
    unfold zf_X8_orderBy_37
    rw [nI_1]
    have mu : 50 - (nI (j + 1)).toNatClampNeg < 50 - (nI j).toNatClampNeg := by
      rw [nI_clamp (by omega), nI_clamp (by omega)]; omega
    cases hf : gIs g 0 j with
    | false =>
      rw [if_pos (show gbI false = 0 from rfl)]
      refine Or.inl ⟨_, rfl, ⟨j + 1, by omega, by dsimp only; rw [gctS, hf]; rfl, rfl, fun p hp h => ?_⟩, mu⟩
      by_cases c : p = j
      · rw [c, hf] at h; cases h
      · exact k p (by omega) h
    | true =>
      rw [if_neg (show ¬ gbI true = 0 by decide), if_pos (ggN lt (by decide)), nI_1, nI_clamp (by omega)]
      refine Or.inl ⟨_, rfl, ⟨j + 1, by omega, by dsimp only; rw [gctS, hf]; rfl, rfl, fun p hp h => ?_⟩, mu⟩
      dsimp only
      by_cases c : p = j
      · rw [c, gupS]
      · have m := gct_mono (gIs g 0) (show p + 1 ≤ j by omega)
        rw [gctS, h, if_pos rfl] at m
        rw [gupN (by omega)]
        exact k p (by omega) h
theorem gordM {g : gG} (hok : gOk g) {fc fr : Int32} {ct cs : Nat → Int32} (hM : gRM g fc fr ct cs) (io o : Nat → Int32) : ∃ io' o', zit (fun d : Int32 × Int32 × (Nat → Int32) × (Nat → Int32) => zf_X9_oneByOne_l10 fc fr ct cs d.1 d.2.1 d.2.2.1 d.2.2.2) zfu ((0 : Int32), (0 : Int32), io, o) = some (nI (gFree g), io', o') ∧ gQr g o' ∧ ∀ p, gTh p g.1 g.2.1 = true → io' p = gbI (gIs g 1 p) := by
  have hw := hok.1
  have hr := hw.2.1
  have h24 := hok.2
  have hH := gitH (f := fun d : Int32 × Int32 × (Nat → Int32) × (Nat → Int32) => zf_X9_oneByOne_l10 fc fr ct cs d.1 d.2.1 d.2.2.1 d.2.2.2) (fun j e => e.1 = nI (gct (gIs g 0) j) ∧ e.2.1 = nI j ∧ (∀ p, p < j → gIs g 0 p = true → e.2.2.2 (gct (gIs g 0) p) = nI p) ∧ ∀ p, p < j → gTh p g.1 g.2.1 = true → e.2.2.1 p = gbI (gIs g 1 p)) (fun b => b.1 = nI (gFree g) ∧ gQr g b.2.2 ∧ ∀ p, gTh p g.1 g.2.1 = true → b.2.1 p = gbI (gIs g 1 p)) 50 (n := zfu) (gfu (by decide)) (a := ((0 : Int32), (0 : Int32), io, o)) ⟨rfl, rfl, fun p h => by omega, fun p h => by omega⟩ ?_ ?_
  · obtain ⟨⟨n, io', o'⟩, e, k1, k2, k3⟩ := hH
    dsimp only at k1 k2 k3
    subst k1
    exact ⟨io', o', e, k2, k3⟩
  · rintro j ⟨x3, x4, io1, oo⟩ hj ⟨rfl, rfl, k, ki⟩
    dsimp only at k ki ⊢
    have ip := gisP hj hw.1 hw.2.1
    rw [← hM.1, ← hM.2.1] at ip
    have z : zgd (nI j) 50 = true := ggN hj (by decide)
    unfold zf_X9_oneByOne_l10
    rw [if_neg (gl50 hj), ip, Option.bind_some]
    cases ht : gTh j g.1 g.2.1 with
    | false =>
      have nf : gIs g 0 j = false := by unfold gIs; rw [ht]; rfl
      unfold zf_X9_oneByOne_74
      rw [if_pos (show gbI false = 0 from rfl), nI_1]
      refine ⟨_, rfl, by dsimp only; rw [gctS, nf]; rfl, rfl, fun p hp h => ?_, fun p hp h => ?_⟩
      · by_cases e : p = j
        · rw [e, nf] at h; cases h
        · exact k p (by omega) h
      · by_cases e : p = j
        · rw [e, ht] at h; cases h
        · exact ki p (by omega) h
    | true =>
      have h2 := gHow2 hw j
      have upd1 : ∀ v : Bool, v = gIs g 1 j → ∀ p, p < j + 1 → gTh p g.1 g.2.1 = true → upd io1 j (vp_nar .boolean (gbI v)) p = gbI (gIs g 1 p) := by
        intro v hv p hp h
        by_cases e : p = j
        · rw [e, gupS, gnar, hv]
        · rw [gupN e]; exact ki p (by omega) h
      have i0 : gIs g 0 j = decide (gHow g j = 0) := by unfold gIs; rw [ht]; rfl
      have i1 : gIs g 1 j = decide (gHow g j = 1) := by unfold gIs; rw [ht]; rfl
      have oN : gIs g 0 j = false → ∀ p, p < j + 1 → gIs g 0 p = true → oo (gct (gIs g 0) p) = nI p := by
        intro nf p hp h
        by_cases e : p = j
        · rw [e, nf] at h; cases h
        · exact k p (by omega) h
      unfold zf_X9_oneByOne_50 zf_X9_oneByOne_74
      simp only [ghow hw hM ht, Option.bind_some, z, if_true]
      rw [if_neg (show ¬ gbI true = 0 by decide), nI_1, nI_clamp (by omega)]
      by_cases q0 : gHow g j = 0
      · have f : gIs g 0 j = true := by rw [i0, decide_eq_true q0]
        have lt := (gct_free hok f).1
        have e0 : nI (gHow g j) = (0 : Int32) := by rw [q0]; rfl
        rw [if_neg (show ¬ nI (gHow g j) = (1 : Int32) by rw [q0]; decide), if_pos e0, if_pos (ggN (show gct (gIs g 0) j < 24 by omega) (by decide)), nI_1, nI_clamp (by omega)]
        refine ⟨_, rfl, by dsimp only; rw [gctS, f]; rfl, rfl, fun p hp h => ?_, upd1 false (by rw [i1, q0]; rfl)⟩
        dsimp only
        by_cases c : p = j
        · rw [c, gupS]
        · have m := gct_mono (gIs g 0) (show p + 1 ≤ j by omega)
          rw [gctS, h, if_pos rfl] at m
          rw [gupN (by omega)]
          exact k p (by omega) h
      · have f : gIs g 0 j = false := by rw [i0, decide_eq_false q0]
        have e0 : ¬ nI (gHow g j) = (0 : Int32) := by rw [show (0 : Int32) = nI 0 from rfl, nI_eq (by omega) (by decide)]; exact q0
        by_cases q1 : gHow g j = 1
        · rw [if_pos (show nI (gHow g j) = (1 : Int32) by rw [q1]; rfl), if_neg e0, nI_1]
          exact ⟨_, rfl, by dsimp only; rw [gctS, f]; rfl, rfl, oN f, upd1 true (by rw [i1, decide_eq_true q1])⟩
        · rw [if_neg (show ¬ nI (gHow g j) = (1 : Int32) by rw [show (1 : Int32) = nI 1 from rfl, nI_eq (by omega) (by decide)]; exact q1), if_neg e0, nI_1]
          exact ⟨_, rfl, by dsimp only; rw [gctS, f]; rfl, rfl, oN f, upd1 false (by rw [i1, decide_eq_false q1])⟩
  · rintro ⟨x3, x4, io1, oo⟩ ⟨rfl, rfl, k, ki⟩
    dsimp only at k ki ⊢
    unfold zf_X9_oneByOne_l10
    rw [if_pos (by decide)]
    exact ⟨_, rfl, rfl, fun p hp => k p (gct_free hok hp).2 hp, fun p hp => ki p (gTh50 hr.2 hp) hp⟩
/-- what is open when some are opened -/
def gOi (g : gG) (o : Nat → Int32) (j p : Nat) : Bool := gIs g 1 p || (decide (p < 50) && (List.range j).any (fun i => decide (o i = nI p)))
theorem gOi_cong {g : gG} {o o' : Nat → Int32} {n : Nat} (h : ∀ i, i < n → o i = o' i) {j : Nat} (hj : j ≤ n) : gOi g o j = gOi g o' j := by
  funext p
  unfold gOi
  congr 2
  apply Bool.eq_iff_iff.mpr
  simp only [List.any_eq_true, List.mem_range, decide_eq_true_eq]
  exact ⟨fun ⟨i, a, b⟩ => ⟨i, a, by rw [← h i (by omega)]; exact b⟩, fun ⟨i, a, b⟩ => ⟨i, a, by rw [h i (by omega)]; exact b⟩⟩
theorem gOi_s {g : gG} {o : Nat → Int32} {j q : Nat} (hq : q < 50) (h : o j = nI q) (p : Nat) : gOi g o (j + 1) p = (gOi g o j p || decide (p = q)) := by
  unfold gOi
  rw [List.range_succ, List.any_append, List.any_cons, List.any_nil, Bool.or_false, h]
  by_cases hp : p < 50
  · rw [decide_eq_true hp, Bool.true_and, Bool.true_and, decide_eq_decide.mpr (show nI q = nI p ↔ p = q by rw [nI_eq (by omega) (by omega)]; omega), Bool.or_assoc]
  · rw [decide_eq_false hp, decide_eq_false (show ¬ p = q by omega), Bool.or_false]
    rfl
theorem gOi_0 {g : gG} {o : Nat → Int32} : gOi g o 0 = gIs g 1 := by
  funext p
  unfold gOi
  show (gIs g 1 p || (decide (p < 50) && false)) = _
  rw [Bool.and_false, Bool.or_false]
theorem gOi_may {g : gG} {o : Nat → Int32} (ho : ∀ i, i < gFree g → ∃ p, p < 50 ∧ gIs g 0 p = true ∧ o i = nI p) {j : Nat} (hj : j ≤ gFree g) : gMay g (gOi g o j) := by
  intro p h
  unfold gOi at h
  simp only [Bool.or_eq_true, Bool.and_eq_true, List.any_eq_true, List.mem_range, decide_eq_true_eq] at h
  rcases h with h | ⟨h50, i, a, b⟩
  · exact (gIs_sp h).1
  · obtain ⟨q, q1, q2, q3⟩ := ho i (by omega)
    rw [q3, nI_eq (by omega) (by omega)] at b
    rw [← b]
    exact (gIs_sp q2).1
theorem gsrC {g : gG} (hok : gOk g) {d : zGD} (hx : gRX g d) {o : Nat → Int32} (ho : ∀ i, i < gFree g → ∃ p, p < 50 ∧ gIs g 0 p = true ∧ o i = nI p) (h0 : gJo g (gIs g 1) = false) : ∃ b, zit (fun e : Int64 × Int32 => zf_X8_oneByOne_l39 o (nI (gFree g)) d e.1 e.2) zfu (d.2.2.2.2.2.1, (0 : Int32)) = some b ∧ ((∃ t, t < gFree g ∧ gJo g (gOi g o (t + 1)) = true ∧ (∀ j, j < t + 1 → gJo g (gOi g o j) = false) ∧ b = .inr (nI t)) ∨ ((∀ j, j ≤ gFree g → gJo g (gOi g o j) = false) ∧ b = .inl ())) := by
  have h24 := hok.2
  refine gitW (f := fun e : Int64 × Int32 => zf_X8_oneByOne_l39 o (nI (gFree g)) d e.1 e.2) (fun e => ∃ j, j ≤ gFree g ∧ e.2 = nI j ∧ (∀ i, i ≤ j → gJo g (gOi g o i) = false) ∧ ∀ i, i < 64 → gbt e.1 i = gOi g o j i) (fun e => 24 - e.2.toNatClampNeg) _ ?_ zfu (d.2.2.2.2.2.1, (0 : Int32)) ⟨0, by omega, rfl, fun i hi => by rw [show i = 0 by omega, gOi_0]; exact h0, fun i hi => by rw [gOi_0]; exact (hx.2.2.2 i hi).1⟩ (show 24 - (0 : Int32).toNatClampNeg < zfu from gfu (by decide))
  rintro ⟨x3, x6⟩ ⟨j, hj, rfl, k, kb⟩
  dsimp only at kb ⊢
  unfold zf_X8_oneByOne_l39
  by_cases q : j = gFree g
  · rw [q, if_pos (Int32.le_refl _)]
    exact Or.inr ⟨_, rfl, Or.inr ⟨fun i hi => k i (by omega), rfl⟩⟩
  · have hj' : j < gFree g := by omega
    obtain ⟨p, p1, p2, p3⟩ := ho j hj'
    have kb' : ∀ i, i < 64 → gbt (x3 ||| zlshl (1 : Int64) (nI p)) i = gOi g o (j + 1) i := by
      intro i hi
      rw [gbt_or, kb i hi, gbt_bit i (show p < 64 by omega), gOi_s p1 p3]
    have ej := gjoinsBy hok.1 (st := d.2.2.2.2.1) (op := x3 ||| zlshl (1 : Int64) (nI p)) (o := gOi g o (j + 1)) (fun i hi => (hx.2.2.1 i hi).2.2) kb' (gOi_may ho (by omega))
    rw [← hx.1, ← hx.2.1] at ej
    rw [if_neg (gle50 (by omega) (by omega) hj'), if_pos (ggN (show j < 24 by omega) (by decide)), nI_clamp (by omega), p3, ej, Option.bind_some, nI_1]
    cases hh : gJo g (gOi g o (j + 1)) with
    | false =>
      rw [if_pos (show gbI false = 0 from rfl)]
      refine Or.inl ⟨_, rfl, ⟨j + 1, by omega, rfl, fun i hi => ?_, kb'⟩, ?_⟩
      · by_cases c : i = j + 1
        · rw [c]; exact hh
        · exact k i (by omega)
      · show 24 - (nI (j + 1)).toNatClampNeg < 24 - j
        rw [nI_clamp (by omega)]; omega
    | true =>
      rw [if_neg (show ¬ gbI true = 0 by decide)]
      exact Or.inr ⟨_, rfl, Or.inl ⟨j, hj', hh, fun i hi => k i (by omega), rfl⟩⟩
theorem gsrM {g : gG} (hok : gOk g) {fc fr : Int32} {ct cs : Nat → Int32} (hM : gRM g fc fr ct cs) {o io : Nat → Int32} (ho : ∀ i, i < gFree g → ∃ p, p < 50 ∧ gIs g 0 p = true ∧ o i = nI p) (hio : ∀ p, gTh p g.1 g.2.1 = true → io p = gbI (gIs g 1 p)) (wt : Nat → Int32) : ∃ b, zit (fun d : Int32 × (Nat → Int32) × (Nat → Int32) => zf_X9_oneByOne_l147 fc fr cs o (nI (gFree g)) d.1 d.2.1 d.2.2) zfu ((0 : Int32), io, wt) = some b ∧ ((∃ t, t ≤ gFree g ∧ gJo g (gOi g o t) = true ∧ (∀ j, j < t → gJo g (gOi g o j) = false) ∧ ∃ io' w', b = .inl (nI t, io', w')) ∨ ((∀ j, j ≤ gFree g → gJo g (gOi g o j) = false) ∧ ∃ io' w', b = .inr (io', w'))) := by
  have h24 := hok.2
  refine gitW (f := fun d : Int32 × (Nat → Int32) × (Nat → Int32) => zf_X9_oneByOne_l147 fc fr cs o (nI (gFree g)) d.1 d.2.1 d.2.2) (fun e => ∃ j, j ≤ gFree g ∧ e.1 = nI j ∧ (∀ i, i < j → gJo g (gOi g o i) = false) ∧ ∀ p, gTh p g.1 g.2.1 = true → e.2.1 p = gbI (gOi g o j p)) (fun e => 25 - e.1.toNatClampNeg) _ ?_ zfu ((0 : Int32), io, wt) ⟨0, by omega, rfl, fun i hi => by omega, fun p hp => by rw [gOi_0]; exact hio p hp⟩ (show 25 - (0 : Int32).toNatClampNeg < zfu from gfu (by decide))
  rintro ⟨x4, io1, w1⟩ ⟨j, hj, rfl, k, kb⟩
  dsimp only at kb ⊢
  unfold zf_X9_oneByOne_l147
  obtain ⟨w', ew, -⟩ := gdoesJoin hok.1 hM.2.2.2 kb w1
  rw [← hM.1, ← hM.2.1] at ew
  rw [ew, Option.bind_some]
  dsimp only
  cases hh : gJo g (gOi g o j) with
  | true =>
    rw [if_neg (show ¬ gbI true = 0 by decide)]
    exact Or.inr ⟨_, rfl, Or.inl ⟨j, hj, hh, k, _, _, rfl⟩⟩
  | false =>
    have k' : ∀ i, i < j + 1 → gJo g (gOi g o i) = false := by
      intro i hi
      by_cases c : i = j
      · rw [c]; exact hh
      · exact k i (by omega)
    rw [if_pos (show gbI false = 0 from rfl)]
    by_cases q : j = gFree g
    · rw [if_pos (show nI j = nI (gFree g) by rw [q])]
      exact Or.inr ⟨_, rfl, Or.inr ⟨fun i hi => k' i (by omega), _, _, rfl⟩⟩
    · have hj' : j < gFree g := by omega
      obtain ⟨p, p1, p2, p3⟩ := ho j hj'
      rw [if_neg (show ¬ nI j = nI (gFree g) by rw [nI_eq (by omega) (by omega)]; exact q), if_pos (ggN (show j < 24 by omega) (by decide)), nI_clamp (show j < 2 ^ 31 by omega), p3, if_pos (ggN p1 (by decide)), nI_1, nI_clamp (show p < 2 ^ 31 by omega)]
      refine Or.inl ⟨_, rfl, ⟨j + 1, by omega, rfl, k', fun p' hp' => ?_⟩, ?_⟩
      · show upd io1 p (vp_nar .boolean (gbI true)) p' = _
        rw [gOi_s p1 p3, gnar]
        by_cases c : p' = p
        · rw [c, gupS, decide_eq_true rfl, Bool.or_true]
        · rw [gupN c, kb p' hp', decide_eq_false c, Bool.or_false]
      · show 25 - (nI (j + 1)).toNatClampNeg < 25 - j
        rw [nI_clamp (by omega)]; omega
theorem gP40_ok : gP40 gInv := by
  intro xi xu fg xh xk ac LG G mi mh mk h x1 x2 hx2
  obtain ⟨g, past, h1, h2, h3, h4, h5, h6, h7⟩ := h
  obtain ⟨hok, hg, hx, hm⟩ := id h3
  have h24 := hok.2
  obtain ⟨io', o', eM, qM, kio⟩ := gordM hok hm (mh 10) (mh 19)
  obtain ⟨sd, eS⟩ := gshM h24 x1 o'
  have mm : gFree g - 1 = 0 ∨ gFree g - 1 < gFree g := by omega
  have hoM := gShf_in h24 (T := fun v => ∃ p, p < 50 ∧ gIs g 0 p = true ∧ v = nI p) (gFree g - 1) x1 o' mm (gQr_in qM)
  obtain ⟨bM, eB, kB⟩ := gsrM hok hm hoM kio (mh 11)
  have ej := gjoinsBy hok.1 (st := (G fg).2.2.2.2.1) (op := (G fg).2.2.2.2.2.1) (o := gIs g 1) (fun i hi => (hx.2.2.1 i hi).2.2) (fun i hi => (hx.2.2.2 i hi).1) (fun p hp => (gIs_sp hp).1)
  rw [← hx.1, ← hx.2.1] at ej
  have fin : ∀ (v : Int32) (oc sdv : Int32) (oC ioM wM oM : Nat → Int32), ∃ (out : Int32 × (Nat → Int32)) (outM : Int32 × Int32 × Int32 × (Nat → Int32) × (Nat → Int32) × (Nat → Int32)), some (v, oC) = some out ∧ some (v, oc, sdv, ioM, wM, oM) = some outM ∧ outM.1 = out.1 ∧ gInv xi xu fg (gset xh 11 out.2) xk ac LG G (gset (gset mi 0 outM.2.1) 11 outM.2.2.1) (gset (gset (gset mh 10 outM.2.2.2.1) 11 outM.2.2.2.2.1) 19 outM.2.2.2.2.2) mk := fun v oc sdv oC ioM wM oM => ⟨_, _, rfl, rfl, rfl, g, past, h1, h2, h3, h4, h5, h6, h7⟩
  unfold zf_X8_oneByOne zf_X9_oneByOne
  rw [ej, Option.bind_some, eM, Option.bind_some]
  dsimp only
  rw [eS, Option.bind_some]
  dsimp only
  rw [eB, Option.bind_some]
  cases hj : gJo g (gIs g 1) with
  | true =>
    rw [if_neg (show ¬ gbI true = 0 by decide)]
    rcases kB with ⟨t, t1, t2, t3, ioF, wF, rfl⟩ | ⟨k, -⟩
    · have t0 : t = 0 := by
        by_cases c : t = 0
        · exact c
        · have := t3 0 (by omega)
          rw [gOi_0, hj] at this
          cases this
      subst t0
      dsimp only [Sum.elim_inl]
      rcases hx2 with rfl | rfl
      · rw [if_pos rfl, if_pos rfl]
        exact fin _ _ _ _ _ _ _
      · rw [if_neg (show ¬ (1 : Int32) = 0 by decide), if_neg (show ¬ (1 : Int32) = 0 by decide), if_pos (show nI 0 = (0 : Int32) from rfl)]
        exact fin _ _ _ _ _ _ _
    · have := k 0 (by omega)
      rw [gOi_0, hj] at this
      cases this
  | false =>
    obtain ⟨o2, eC, qC⟩ := gordC hok hx (xh 11)
    have same := gShf_same h24 (gFree g - 1) x1 o2 o' mm (gQr_same qC qM)
    have hoC := gShf_in h24 (T := fun v => ∃ p, p < 50 ∧ gIs g 0 p = true ∧ v = nI p) (gFree g - 1) x1 o2 mm (gQr_in qC)
    obtain ⟨bC, eD, kD⟩ := gsrC hok hx hoC hj
    have cg : ∀ j, j ≤ gFree g → gOi g (gShf (gFree g - 1) x1 o2) j = gOi g (gShf (gFree g - 1) x1 o') j := fun j hj => gOi_cong same hj
    unfold zf_X8_orderBy zf_X8_orderBy_43
    rw [if_pos (show gbI false = 0 from rfl), eC, Option.bind_some]
    dsimp only
    rw [gshC h24, Option.bind_some, Option.bind_some]
    dsimp only
    rw [eD, Option.bind_some]
    rcases kD with ⟨t, t1, t2, t3, rfl⟩ | ⟨k, rfl⟩
    · rcases kB with ⟨u, u1, u2, u3, ioF, wF, rfl⟩ | ⟨k', ioF, wF, rfl⟩
      · have tu : u = t + 1 := by
          rcases Nat.lt_trichotomy u (t + 1) with l | l | l
          · have := t3 u l
            rw [cg u u1, u2] at this
            cases this
          · exact l
          · have := u3 (t + 1) l
            rw [← cg (t + 1) (by omega), t2] at this
            cases this
        subst tu
        dsimp only [Sum.elim_inl, Sum.elim_inr]
        rcases hx2 with rfl | rfl
        · rw [if_pos rfl, if_pos rfl, nI_1]
          exact fin _ _ _ _ _ _ _
        · rw [if_neg (show ¬ (1 : Int32) = 0 by decide), if_neg (show ¬ (1 : Int32) = 0 by decide), if_neg (nI_ne0 (by omega) (by omega)), nI_pred, if_pos (ggN (show t < 24 by omega) (by decide)), if_pos (ggN (show t < 24 by omega) (by decide)), nI_clamp (by omega), same t t1]
          exact fin _ _ _ _ _ _ _
      · have := k' (t + 1) (by omega)
        rw [← cg (t + 1) (by omega), t2] at this
        cases this
    · rcases kB with ⟨u, u1, u2, u3, ioF, wF, rfl⟩ | ⟨k', ioF, wF, rfl⟩
      · have := k u u1
        rw [cg u u1, u2] at this
        cases this
      · dsimp only [Sum.elim_inl, Sum.elim_inr]
        exact fin _ _ _ _ _ _ _
