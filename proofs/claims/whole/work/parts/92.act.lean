/-! an act: what was is remembered -/
theorem gext_in {o : Option Nat} {LG LG1 : List Nat} {G G1 : Nat → zGD} (h : zext LG G LG1 G1) (ho : zin o LG = true) : zin o LG1 = true := by
  cases o with
  | none => rfl
  | some q => exact decide_eq_true ((h q (of_decide_eq_true ho)).1)
theorem gCc_ext {xi : Nat → Int32} {xu : Nat → Option Nat} {xh : Nat → Nat → Int32} {xk : Nat → Nat → Int64} {LG LG1 : List Nat} {G G1 : Nat → zGD} (he : zext LG G LG1 G1) (h : gCc xi xu xh xk LG G) : gCc xi xu xh xk LG1 G1 := by
  obtain ⟨h1, h2, h3, h4, h5, h6, h7, h8⟩ := h
  refine ⟨h1, h2, h3, gext_in he h4, fun q hq => ?_, fun q hq => ?_, fun q hq => ?_, fun q hq => ?_⟩
  · obtain ⟨a, g, b, c, d⟩ := h5 q hq
    exact ⟨(he q a).1, g, b, by rw [(he q a).2]; exact c, d⟩
  · obtain ⟨a, g, p, b, c, d⟩ := h6 q hq
    exact ⟨(he q a).1, g, p, b, by rw [(he q a).2]; exact c, d⟩
  · obtain ⟨a, g, s, t, b, c, d⟩ := h7 q hq
    exact ⟨(he q a).1, g, s, t, b, by rw [(he q a).2]; exact c, d⟩
  · obtain ⟨a, g, b, b2, c, d⟩ := h8 q hq
    exact ⟨(he q a).1, g, b, b2, by rw [(he q a).2]; exact c, d⟩
theorem gPs_ext {past : List gG} {na ma : Int32} {ac : Nat → Option Nat} {LG LG1 : List Nat} {G G1 : Nat → zGD} {pt ps pc pr : Nat → Int32} (he : zext LG G LG1 G1) (h : gPs past na ma ac LG G pt ps pc pr) : gPs past na ma ac LG1 G1 pt ps pc pr := by
  obtain ⟨h1, h2, h3, h4⟩ := h
  refine ⟨h1, h2, h3, fun i g hi => ?_⟩
  obtain ⟨a, ⟨q, b, c, d⟩, e⟩ := h4 i g hi
  exact ⟨a, ⟨q, (he q b).1, c, by rw [(he q b).2]; exact d⟩, e⟩
theorem gvS {α : Type} (f : Nat → α) (i : Nat) (v : α) : va_up f i v i = v := if_pos rfl
theorem gvN {α : Type} (f : Nat → α) {i j : Nat} (v : α) (h : j ≠ i) : va_up f i v j = f j := if_neg h
/-- a row of grids shifted by one place -/
def gsf (ac : Nat → Option Nat) (n : Nat) : Nat → Option Nat := fun q => if q < n then ac (q + 1) else ac q
theorem gactL (LG : List Nat) (ac : Nat → Option Nat) (h : ∀ i, i < 16 → zin (ac i) LG = true) : zit (fun d : Int32 × (Nat → Option Nat) => zf_X8_act_l11 LG d.1 d.2) zfu ((1 : Int32), ac) = some (gsf ac 15) := by
  have e := gitr (f := fun d : Int32 × (Nat → Option Nat) => zf_X8_act_l11 LG d.1 d.2) (fun j => (nI (j + 1), gsf ac j)) 15 (n := zfu) (b := gsf ac 15) (gfu (by decide)) ?_ ?_
  · rw [← e]
    have e0 : gsf ac 0 = ac := by funext q; unfold gsf; rw [if_neg (by omega)]
    simp only [e0]
    rfl
  · intro j hj
    dsimp only
    unfold zf_X8_act_l11
    have e1 : gsf ac j (j + 1) = ac (j + 1) := by unfold gsf; rw [if_neg (by omega)]
    rw [if_neg (show ¬ (16 : Int32) ≤ nI (j + 1) from gle50 (a := 16) (by decide) (by omega) (by omega)), if_pos (ggN (by omega) (by decide)), nI_pred, if_pos (ggN (by omega) (by decide)), nI_clamp (by omega), nI_clamp (by omega), e1, if_pos (h (j + 1) (by omega)), nI_1]
    have e2 : va_up (gsf ac j) j (ac (j + 1)) = gsf ac (j + 1) := by
      funext q
      unfold va_up gsf
      by_cases hq : q = j
      · subst hq
        rw [if_pos rfl, if_pos (by omega)]
      · rw [if_neg hq]
        by_cases h2 : q < j
        · rw [if_pos h2, if_pos (by omega)]
        · rw [if_neg h2, if_neg (by omega)]
    rw [e2]
  · dsimp only
    unfold zf_X8_act_l11
    rw [if_pos (by decide)]
/-- a loop that shifts a row of ints -/
theorem gshift {f : Int32 × (Nat → Int32) → Option ((Int32 × (Nat → Int32)) ⊕ (Nat → Int32))} (b m : Nat) (a : Nat → Int32) (hm : m < 1000) (hf : ∀ j c, j < m → (∀ q, j ≤ q → c q = a q) → f (nI j, c) = some (.inl (nI (j + 1), upd c j (c (b + j))))) (hb : ∀ c, f (nI m, c) = some (.inr c)) : zit f zfu ((0 : Int32), a) = some (gcp a a b m) := by
  have e := gitr (f := f) (fun j => (nI j, gcp a a b j)) m (n := zfu) (b := gcp a a b m) (Nat.lt_of_lt_of_le hm (by decide)) ?_ (hb _)
  · rw [← e]
    simp only [gcp0]
    rfl
  · intro j hj
    have hc : ∀ q, j ≤ q → gcp a a b j q = a q := fun q hq => by
      unfold gcp
      rw [if_neg (by omega)]
    rw [hf j _ hj hc, hc (b + j) (by omega), gcpS]
/-- a loop that puts a row of ints into another from a place on -/
theorem gstore {f : Int32 × (Nat → Int32) → Option ((Int32 × (Nat → Int32)) ⊕ (Nat → Int32))} (b m : Nat) (a v : Nat → Int32) (hm : m < 1000) (hf : ∀ j c, j < m → f (nI j, c) = some (.inl (nI (j + 1), upd c (b + j) (v j)))) (hb : ∀ c, f (nI m, c) = some (.inr c)) : zit f zfu ((0 : Int32), a) = some (gput a b v m) := by
  have e := gitr (f := f) (fun j => (nI j, gput a b v j)) m (n := zfu) (b := gput a b v m) (Nat.lt_of_lt_of_le hm (by decide)) ?_ (hb _)
  · rw [← e]
    simp only [gput0]
    rfl
  · intro j hj
    rw [hf j _ hj, gputS]
theorem grem121 (fc fr : Int32) (a : Nat) (ha : a < 16) (tl st pt ps pc pr : Nat → Int32) (hst : ∀ k, k < 25 → vp_nar .boolean (st k) = st k) : zf_X9_remembers_121 fc fr (nI a) tl st pt ps pc pr = some (nI (a + 1), 0, gput pt (50 * a) tl 50, gput ps (25 * a) st 25, upd pc a fc, upd pr a fr) := by
  unfold zf_X9_remembers_121
  have e1 : zit (fun d : Int32 × (Nat → Int32) => zf_X9_remembers_l123 (nI a) tl d.1 d.2) zfu ((0 : Int32), pt) = some (gput pt (50 * a) tl 50) := by
    refine gstore (50 * a) 50 pt tl (by decide) (fun j c hj => ?_) (fun c => ?_)
    · dsimp only
      unfold zf_X9_remembers_l123
      have c1 : ((50 : Int32) * nI a) + nI j = nI (50 * a + j) := by rw [show (50 : Int32) = nI 50 from rfl, gmul, nI_add]
      rw [c1, if_neg (show ¬ (50 : Int32) ≤ nI j from gle50 (a := 50) (by decide) (by omega) hj), if_pos (ggN hj (by decide)), if_pos (ggN (by omega) (by decide)), nI_clamp (by omega), nI_clamp (by omega), nI_1]
    · dsimp only
      unfold zf_X9_remembers_l123
      rw [if_pos (by decide)]
  have e2 : zit (fun d : Int32 × (Nat → Int32) => zf_X9_remembers_l157 (nI a) st d.1 d.2) zfu ((0 : Int32), ps) = some (gput ps (25 * a) st 25) := by
    refine gstore (25 * a) 25 ps st (by decide) (fun j c hj => ?_) (fun c => ?_)
    · dsimp only
      unfold zf_X9_remembers_l157
      have c1 : ((25 : Int32) * nI a) + nI j = nI (25 * a + j) := by rw [show (25 : Int32) = nI 25 from rfl, gmul, nI_add]
      rw [c1, if_neg (show ¬ (25 : Int32) ≤ nI j from gle50 (a := 25) (by decide) (by omega) hj), if_pos (ggN hj (by decide)), if_pos (ggN (by omega) (by decide)), nI_clamp (by omega), nI_clamp (by omega), nI_1, hst j hj]
    · dsimp only
      unfold zf_X9_remembers_l157
      rw [if_pos (by decide)]
  have z : zgd (nI a) 16 = true := ggN ha (by decide)
  rw [e1, e2]
  simp only [Option.bind_some, z, if_true, nI_clamp (show a < 2 ^ 31 by omega), nI_1]
theorem gput_in {bs v : Nat → Int32} {n m q : Nat} (h : q < m) : gput bs n v m (n + q) = v q := by
  unfold gput
  rw [if_pos (by omega), Nat.add_sub_cancel_left]
theorem gput_out {bs v : Nat → Int32} {n m q : Nat} (h : q < n) : gput bs n v m q = bs q := by
  unfold gput
  rw [if_neg (by omega)]
/-- what is remembered behind an act -/
def gPast (past : List gG) (g : gG) : List gG := (if past.length = 16 then past.drop 1 else past) ++ [g]
theorem gpast1 {past : List gG} {g : gG} {na ma : Int32} {ac : Nat → Option Nat} {LG : List Nat} {G : Nat → zGD} {pt ps pc pr : Nat → Int32} {fg a : Nat} {tl st : Nat → Int32} (ha : past.length = a) (ha15 : a < 16) (h : gPs past na ma ac LG G pt ps pc pr) (hok : gOk g) (hg : fg ∈ LG) (hx : gRX g (G fg)) (ht : ∀ p, p < 50 → tl p = nI (g.2.2.1 p)) (hs : ∀ k, k < 25 → st k = gbI (g.2.2.2 k)) : gPs (past ++ [g]) (nI (a + 1)) (nI (a + 1)) (va_up ac a (some fg)) LG G (gput pt (50 * a) tl 50) (gput ps (25 * a) st 25) (upd pc a (nI g.1)) (upd pr a (nI g.2.1)) := by
  obtain ⟨h1, h2, h3, h4⟩ := h
  have hl : (past ++ [g]).length = a + 1 := by simp [ha]
  refine ⟨by omega, by rw [hl], by rw [hl], fun i g' hi => ?_⟩
  by_cases hia : i < a
  · rw [List.getElem?_append_left (by omega)] at hi
    obtain ⟨b1, ⟨q, b2, b3, b4⟩, b5, b6, b7, b8⟩ := h4 i g' hi
    refine ⟨b1, ⟨q, b2, ?_, b4⟩, ?_, ?_, fun p hp => ?_, fun k hk => ?_⟩
    · rw [gvN _ _ (by omega), b3]
    · rw [gupN (by omega), b5]
    · rw [gupN (by omega), b6]
    · rw [gput_out (by omega), b7 p hp]
    · rw [gput_out (by omega), b8 k hk]
  · have hi2 : i = a := by
      have := (List.getElem?_eq_some_iff.mp hi).1
      omega
    subst hi2
    rw [List.getElem?_append_right (by omega), ha, Nat.sub_self] at hi
    obtain rfl : g = g' := by simpa using hi
    refine ⟨hok, ⟨fg, hg, gvS _ _ _, hx⟩, gupS, gupS, fun p hp => ?_, fun k hk => ?_⟩
    · rw [gput_in hp, ht p hp]
    · rw [gput_in hk, hs k hk]
theorem gdrop {past : List gG} {na ma : Int32} {ac : Nat → Option Nat} {LG : List Nat} {G : Nat → zGD} {pt ps pc pr : Nat → Int32} (hl : past.length = 16) (h : gPs past na ma ac LG G pt ps pc pr) : gPs (past.drop 1) (nI 15) (nI 15) (gsf ac 15) LG G (gcp pt pt 50 750) (gcp ps ps 25 375) (gcp pc pc 1 15) (gcp pr pr 1 15) := by
  obtain ⟨h1, h2, h3, h4⟩ := h
  have hd : (past.drop 1).length = 15 := by rw [List.length_drop, hl]
  refine ⟨by omega, by rw [hd], by rw [hd], fun i g hi => ?_⟩
  have hi15 : i < 15 := by
    have := (List.getElem?_eq_some_iff.mp hi).1
    omega
  rw [List.getElem?_drop] at hi
  obtain ⟨b1, ⟨q, b2, b3, b4⟩, b5, b6, b7, b8⟩ := h4 (1 + i) g hi
  refine ⟨b1, ⟨q, b2, ?_, b4⟩, ?_, ?_, fun p hp => ?_, fun k hk => ?_⟩
  · unfold gsf
    rw [if_pos hi15, Nat.add_comm i 1, b3]
  · unfold gcp
    rw [if_pos hi15, b5]
  · unfold gcp
    rw [if_pos hi15, b6]
  · unfold gcp
    rw [if_pos (by omega), ← b7 p hp]
    congr 1
    omega
  · unfold gcp
    rw [if_pos (by omega), ← b8 k hk]
    congr 1
    omega
/-- an act of both -/
theorem gact {past : List gG} {g : gG} {na ma fc fr : Int32} {ac : Nat → Option Nat} {LG : List Nat} {G : Nat → zGD} {tl st pt ps pc pr : Nat → Int32} {fg : Nat} (h : gPs past na ma ac LG G pt ps pc pr) (hok : gOk g) (hg : fg ∈ LG) (hx : gRX g (G fg)) (hm : gRM g fc fr tl st) : ∃ n ac' pt' ps' pc' pr', zf_X8_act na fg ac LG = some (n, ac') ∧ zf_X9_remembers fc fr ma tl st pt ps pc pr = some (n, 0, pt', ps', pc', pr') ∧ gPs (gPast past g) n n ac' LG G pt' ps' pc' pr' := by
  obtain ⟨h1, h2, h3, h4⟩ := id h
  have hst : ∀ k, k < 25 → vp_nar .boolean (st k) = st k := fun k hk => by rw [hm.2.2.2 k hk]; exact gnar _
  unfold zf_X8_act zf_X9_remembers gPast
  rw [h2, h3, hm.1, hm.2.1]
  by_cases hl : past.length = 16
  · rw [hl, if_neg (by decide), if_pos (by decide), if_pos rfl]
    have hin : ∀ i, i < 16 → zin (ac i) LG = true := by
      intro i hi
      obtain ⟨g', hg'⟩ : ∃ g', past[i]? = some g' := ⟨past[i]'(by omega), List.getElem?_eq_getElem (by omega)⟩
      obtain ⟨-, ⟨q, b2, b3, -⟩, -⟩ := h4 i g' hg'
      rw [b3]
      exact decide_eq_true b2
    have e1 : zit (fun d : Int32 × (Nat → Int32) => zf_X9_remembers_l11 d.1 d.2) zfu ((0 : Int32), pt) = some (gcp pt pt 50 750) := by
      refine gshift 50 750 pt (by decide) (fun j c hj hc => ?_) (fun c => ?_)
      · dsimp only
        unfold zf_X9_remembers_l11
        rw [show (50 : Int32) = nI 50 from rfl, nI_add, if_neg (show ¬ (750 : Int32) ≤ nI j from gle50 (a := 750) (by decide) (by omega) hj), if_pos (ggN (by omega) (by decide)), if_pos (ggN (by omega) (by decide)), nI_clamp (by omega), nI_clamp (by omega), nI_1, Nat.add_comm j 50]
      · dsimp only
        unfold zf_X9_remembers_l11
        rw [if_pos (by decide)]
    have e2 : zit (fun d : Int32 × (Nat → Int32) => zf_X9_remembers_l41 d.1 d.2) zfu ((0 : Int32), ps) = some (gcp ps ps 25 375) := by
      refine gshift 25 375 ps (by decide) (fun j c hj hc => ?_) (fun c => ?_)
      · dsimp only
        unfold zf_X9_remembers_l41
        have hv : vp_nar .boolean (c (25 + j)) = c (25 + j) := by
          rw [hc (25 + j) (by omega)]
          obtain ⟨g', hg'⟩ : ∃ g', past[(25 + j) / 25]? = some g' := ⟨past[(25 + j) / 25]'(by omega), List.getElem?_eq_getElem (by omega)⟩
          obtain ⟨-, -, -, -, -, b8⟩ := h4 _ g' hg'
          have b := b8 ((25 + j) % 25) (by omega)
          rw [show 25 * ((25 + j) / 25) + (25 + j) % 25 = 25 + j from by omega] at b
          rw [b]
          exact gnar _
        rw [show (25 : Int32) = nI 25 from rfl, nI_add, if_neg (show ¬ (375 : Int32) ≤ nI j from gle50 (a := 375) (by decide) (by omega) hj), if_pos (ggN (by omega) (by decide)), if_pos (ggN (by omega) (by decide)), nI_clamp (by omega), nI_clamp (by omega), nI_1, Nat.add_comm j 25, hv]
      · dsimp only
        unfold zf_X9_remembers_l41
        rw [if_pos (by decide)]
    have e3 : zit (fun d : Int32 × (Nat → Int32) × (Nat → Int32) => zf_X9_remembers_l71 d.1 d.2.1 d.2.2) zfu ((0 : Int32), pc, pr) = some (gcp pc pc 1 15, gcp pr pr 1 15) := by
      have e := gitr (f := fun d : Int32 × (Nat → Int32) × (Nat → Int32) => zf_X9_remembers_l71 d.1 d.2.1 d.2.2) (fun j => (nI j, gcp pc pc 1 j, gcp pr pr 1 j)) 15 (n := zfu) (b := (gcp pc pc 1 15, gcp pr pr 1 15)) (gfu (by decide)) ?_ ?_
      · rw [← e]
        simp only [gcp0]
        rfl
      · intro j hj
        dsimp only
        unfold zf_X9_remembers_l71
        have q1 : gcp pc pc 1 j (j + 1) = pc (1 + j) := by unfold gcp; rw [if_neg (by omega), Nat.add_comm]
        have q2 : gcp pr pr 1 j (j + 1) = pr (1 + j) := by unfold gcp; rw [if_neg (by omega), Nat.add_comm]
        rw [nI_1, if_neg (show ¬ (15 : Int32) ≤ nI j from gle50 (a := 15) (by decide) (by omega) hj), if_pos (ggN (by omega) (by decide)), if_pos (ggN (by omega) (by decide)), if_pos (ggN (by omega) (by decide)), if_pos (ggN (by omega) (by decide)), nI_clamp (by omega), nI_clamp (by omega), q1, q2, gcpS, gcpS]
      · dsimp only
        unfold zf_X9_remembers_l71
        rw [if_pos (by decide)]
    rw [gactL LG ac hin, e1, e2, e3]
    simp only [Option.bind_some]
    rw [show nI 16 - 1 = nI 15 from rfl, grem121 _ _ 15 (by decide) _ _ _ _ _ _ hst]
    unfold zf_X8_act_43
    rw [if_pos (by decide)]
    have hd : (past.drop 1).length = 15 := by rw [List.length_drop, hl]
    exact ⟨_, _, _, _, _, _, rfl, rfl, gpast1 hd (by decide) (gdrop hl h) hok hg hx hm.2.2.1 hm.2.2.2⟩
  · have hlt : past.length < 16 := by omega
    have c1 : nI past.length < 16 := by
      rw [show (16 : Int32) = nI 16 from rfl, nI_ltI (by omega) (by decide)]
      exact hlt
    have c2 : ¬ nI past.length = 16 := by
      rw [show (16 : Int32) = nI 16 from rfl, nI_eq (by omega) (by decide)]
      omega
    rw [if_pos c1, if_neg c2, if_neg hl, grem121 _ _ past.length hlt _ _ _ _ _ _ hst]
    unfold zf_X8_act_43
    rw [if_pos (ggN hlt (by decide)), nI_clamp (by omega), nI_1]
    exact ⟨_, _, _, _, _, _, rfl, rfl, gpast1 rfl hlt h hok hg hx hm.2.2.1 hm.2.2.2⟩
