/-! would, decides -/
theorem gwOp {jn sj : Nat → Int64} (wo : Nat → Int64) : ∃ wo', zit (fun d : Int32 × (Nat → Int64) => zf_X8_joiningWith_l80 jn sj d.1 d.2) zfu ((0 : Int32), vp_updL wo (24 : Int32).toNatClampNeg (0 : Int64)) = some wo' ∧ wo' 24 = 0 ∧ ∀ k, k < 24 → wo' k = jn (k + 1) - sj (k + 1) := by
  have hH := gitH (f := fun d : Int32 × (Nat → Int64) => zf_X8_joiningWith_l80 jn sj d.1 d.2) (fun j d => d.1 = nI j ∧ d.2 24 = 0 ∧ ∀ k, k < j → d.2 k = jn (k + 1) - sj (k + 1)) (fun d => d 24 = 0 ∧ ∀ k, k < 24 → d k = jn (k + 1) - sj (k + 1)) 24 (n := zfu) (gfu (by decide)) (a := ((0 : Int32), vp_updL wo (24 : Int32).toNatClampNeg (0 : Int64))) ⟨rfl, by
    show vp_updL wo (24 : Int32).toNatClampNeg (0 : Int64) 24 = 0
    rw [show (24 : Int32).toNatClampNeg = 24 from nI_clamp (n := 24) (by decide)]
    exact guLS, fun k h => by omega⟩ ?_ ?_
  · exact hH
  · rintro j ⟨x, w⟩ hj ⟨rfl, h1, h2⟩
    dsimp only at h1 h2 ⊢
    unfold zf_X8_joiningWith_l80
    rw [if_neg (gle24 hj), nI_1, if_pos (ggN (by omega) (by decide)), if_pos (ggN (by omega) (by decide)), if_pos (ggN (by omega) (by decide)), nI_clamp (by omega), nI_clamp (by omega)]
    refine ⟨_, rfl, rfl, ?_, fun k hk => ?_⟩
    · dsimp only
      rw [guLN (by omega)]; exact h1
    · dsimp only
      by_cases e : k = j
      · rw [e, guLS]
      · rw [guLN e]; exact h2 k (by omega)
  · rintro ⟨x, w⟩ ⟨rfl, h1, h2⟩
    dsimp only at h1 h2 ⊢
    unfold zf_X8_joiningWith_l80
    rw [if_pos (by decide)]
    exact ⟨_, rfl, h1, h2⟩
theorem gJ_open {g : gG} (hok : gOk g) {p : Nat} (hp : gTh p g.1 g.2.1 = true) (h0 : gHow g p = 0) (k : Nat) : lN (gJ g (k + 1)) - lN (gJ (gTell g p 2) (k + 1)) = lN (gJ (gTell g p 1) k) := by
  have e := gJ_split hok hp h0 (k + 1)
  rw [if_neg (by omega), Nat.add_sub_cancel] at e
  rw [lN_sub (by omega)]
  congr 1
  omega
theorem gjw {xi : Nat → Int32} {xu : Nat → Option Nat} {fg : Nat} {xh : Nat → Nat → Int32} {xk : Nat → Nat → Int64} {LG : List Nat} {G : Nat → zGD} {g : gG} (hok : gOk g) (hg : fg ∈ LG) (hx : gRX g (G fg)) (hc : gCc xi xu xh xk LG G) {p : Nat} (hp : gTh p g.1 g.2.1 = true) (h0 : gHow g p = 0) {h : Nat} (hh : h = 1 ∨ h = 2) : ∃ (T : gT8) (us' : Int32) (wo' cn' tt' : Nat → Int64) (fd' : Nat → Int32) (jn' : Nat → Int64), zf_X8_joiningWith fg (xu 0) (xi 2) (xi 7) (xi 8) (xi 9) (xi 10) (xi 11) (xu 1) (xi 12) (xi 14) (xi 15) (xk 3) (xh 1) (xh 2) (xh 3) (xh 4) (xh 5) (xh 6) (xh 7) (xk 0) (xk 1) (xh 8) (xk 2) (xk 4) (xk 5) (xh 10) (xk 6) 16500 660 3300 132 (nI p) (nI h) (G fg) = some (some fg, nI p, T.1, T.2.1, T.2.2.1, T.2.2.2.1, T.2.2.2.2.1, T.2.2.2.2.2.1, us', wo', T.2.2.2.2.2.2.1, T.2.2.2.2.2.2.2.1, T.2.2.2.2.2.2.2.2.1, T.2.2.2.2.2.2.2.2.2.1, T.2.2.2.2.2.2.2.2.2.2.1, T.2.2.2.2.2.2.2.2.2.2.2.1, T.2.2.2.2.2.2.2.2.2.2.2.2.1, T.2.2.2.2.2.2.2.2.2.2.2.2.2.1, T.2.2.2.2.2.2.2.2.2.2.2.2.2.2.1, T.2.2.2.2.2.2.2.2.2.2.2.2.2.2.2.1, T.2.2.2.2.2.2.2.2.2.2.2.2.2.2.2.2, cn', tt', fd', jn') ∧ gJn (gTell g p 2) jn' ∧ (h = 1 → ∀ k, k < 25 → wo' k = lN (gJ (gTell g p 1) k)) ∧ ∀ LG1 G1 sg, zext LG G LG1 G1 → zin sg LG1 = true → gCc (gset (gset (gset (gset (gset (gset (gset xi 2 (nI p)) 7 T.1) 8 T.2.1) 9 T.2.2.1) 10 T.2.2.2.1) 12 T.2.2.2.2.2.1) 15 us') (gset (gset (gset xu 0 (some fg)) 1 T.2.2.2.2.1) 3 sg) (gset (gset (gset (gset (gset (gset (gset (gset (gset xh 1 T.2.2.2.2.2.2.1) 2 T.2.2.2.2.2.2.2.1) 3 T.2.2.2.2.2.2.2.2.1) 4 T.2.2.2.2.2.2.2.2.2.1) 5 T.2.2.2.2.2.2.2.2.2.2.1) 6 T.2.2.2.2.2.2.2.2.2.2.2.1) 7 T.2.2.2.2.2.2.2.2.2.2.2.2.1) 8 T.2.2.2.2.2.2.2.2.2.2.2.2.2.2.2.1) 10 fd') (gset (gset (gset (gset (gset (gset (gset xk 3 wo') 0 T.2.2.2.2.2.2.2.2.2.2.2.2.2.1) 1 T.2.2.2.2.2.2.2.2.2.2.2.2.2.2.1) 2 T.2.2.2.2.2.2.2.2.2.2.2.2.2.2.2.2) 4 cn') 5 tt') 6 jn') LG1 G1 := by
  obtain ⟨T, eT, hT, cT⟩ := gcountD hok hg hx hc
  have b1 : xi 14 = 1 := hc.2.2.1
  obtain ⟨hok2, ef2⟩ := gTl_ok hok hp h0 (h := 2) (Or.inr rfl)
  obtain ⟨hok1, ef1⟩ := gTl_ok hok hp h0 (h := 1) (Or.inl rfl)
  have f24 := hok.2
  have isp : gIs g 0 p = true := by unfold gIs; rw [hp, h0]; rfl
  have fin : ∀ (us' : Int32) (cn' tt' : Nat → Int64) (fd' : Nat → Int32) (jn' : Nat → Int64), gJn (gTell g p 2) jn' → ∃ wo', zf_X8_joiningWith_56 (some fg) (nI p) T.1 T.2.1 T.2.2.1 T.2.2.2.1 T.2.2.2.2.1 T.2.2.2.2.2.1 us' (xk 3) T.2.2.2.2.2.2.1 T.2.2.2.2.2.2.2.1 T.2.2.2.2.2.2.2.2.1 T.2.2.2.2.2.2.2.2.2.1 T.2.2.2.2.2.2.2.2.2.2.1 T.2.2.2.2.2.2.2.2.2.2.2.1 T.2.2.2.2.2.2.2.2.2.2.2.2.1 T.2.2.2.2.2.2.2.2.2.2.2.2.2.1 T.2.2.2.2.2.2.2.2.2.2.2.2.2.2.1 T.2.2.2.2.2.2.2.2.2.2.2.2.2.2.2.1 T.2.2.2.2.2.2.2.2.2.2.2.2.2.2.2.2 cn' tt' fd' jn' (nI h) = some (some fg, nI p, T.1, T.2.1, T.2.2.1, T.2.2.2.1, T.2.2.2.2.1, T.2.2.2.2.2.1, us', wo', T.2.2.2.2.2.2.1, T.2.2.2.2.2.2.2.1, T.2.2.2.2.2.2.2.2.1, T.2.2.2.2.2.2.2.2.2.1, T.2.2.2.2.2.2.2.2.2.2.1, T.2.2.2.2.2.2.2.2.2.2.2.1, T.2.2.2.2.2.2.2.2.2.2.2.2.1, T.2.2.2.2.2.2.2.2.2.2.2.2.2.1, T.2.2.2.2.2.2.2.2.2.2.2.2.2.2.1, T.2.2.2.2.2.2.2.2.2.2.2.2.2.2.2.1, T.2.2.2.2.2.2.2.2.2.2.2.2.2.2.2.2, cn', tt', fd', jn') ∧ (h = 1 → ∀ k, k < 25 → wo' k = lN (gJ (gTell g p 1) k)) := by
    intro us' cn' tt' fd' jn' hj
    unfold zf_X8_joiningWith_56
    rcases hh with rfl | rfl
    · obtain ⟨wo', e, w1, w2⟩ := gwOp (jn := T.2.2.2.2.2.2.2.2.2.2.2.2.2.2.2.2) (sj := jn') (xk 3)
      rw [if_neg (show ¬ nI 1 = (2 : Int32) by decide), if_pos (show zgd (24 : Int32) 25 = true by decide), e, Option.bind_some]
      refine ⟨wo', rfl, fun _ k hk => ?_⟩
      by_cases q : k = 24
      · subst q
        rw [w1, gJ_far hok1.1 (by omega)]
        rfl
      · rw [w2 k (by omega), hT.2.2.2.2.2.2.1 (k + 1) (by omega), hj (k + 1) (by omega), gJ_open hok hp h0]
    · rw [if_pos (show nI 2 = (2 : Int32) from rfl)]
      exact ⟨xk 3, rfl, fun h => absurd h (by decide)⟩
  have gc : ∀ (us' : Int32) (wo' cn' tt' : Nat → Int64) (fd' : Nat → Int32) (jn' : Nat → Int64), gJn (gTell g p 2) jn' → ∀ LG1 G1 sg, zext LG G LG1 G1 → zin sg LG1 = true → gCc (gset (gset (gset (gset (gset (gset (gset xi 2 (nI p)) 7 T.1) 8 T.2.1) 9 T.2.2.1) 10 T.2.2.2.1) 12 T.2.2.2.2.2.1) 15 us') (gset (gset (gset xu 0 (some fg)) 1 T.2.2.2.2.1) 3 sg) (gset (gset (gset (gset (gset (gset (gset (gset (gset xh 1 T.2.2.2.2.2.2.1) 2 T.2.2.2.2.2.2.2.1) 3 T.2.2.2.2.2.2.2.2.1) 4 T.2.2.2.2.2.2.2.2.2.1) 5 T.2.2.2.2.2.2.2.2.2.2.1) 6 T.2.2.2.2.2.2.2.2.2.2.2.1) 7 T.2.2.2.2.2.2.2.2.2.2.2.2.1) 8 T.2.2.2.2.2.2.2.2.2.2.2.2.2.2.2.1) 10 fd') (gset (gset (gset (gset (gset (gset (gset xk 3 wo') 0 T.2.2.2.2.2.2.2.2.2.2.2.2.2.1) 1 T.2.2.2.2.2.2.2.2.2.2.2.2.2.2.1) 2 T.2.2.2.2.2.2.2.2.2.2.2.2.2.2.2.2) 4 cn') 5 tt') 6 jn') LG1 G1 := by
    intro us' wo' cn' tt' fd' jn' hj LG1 G1 sg he hs
    obtain ⟨k1, k2, k3, k4, k5, k6, k7, k8⟩ := gCc_ext he cT
    refine ⟨k1, k2, k3, hs, k5, fun q hq => ?_, k7, k8⟩
    have hq' : some fg = some q := hq
    obtain rfl := Option.some.inj hq'
    refine ⟨(he fg hg).1, g, p, hok, ?_, rfl, isp, hj⟩
    rw [(he fg hg).2]
    exact hx
  unfold zf_X8_joiningWith
  rw [eT, Option.bind_some]
  have new : ∃ (us' : Int32) (wo' cn' tt' : Nat → Int64) (fd' : Nat → Int32) (jn' : Nat → Int64), zf_X8_joiningWith_27 fg T.1 T.2.1 T.2.2.1 T.2.2.2.1 T.2.2.2.2.1 T.2.2.2.2.2.1 (xi 14) (xi 15) (xk 3) T.2.2.2.2.2.2.1 T.2.2.2.2.2.2.2.1 T.2.2.2.2.2.2.2.2.1 T.2.2.2.2.2.2.2.2.2.1 T.2.2.2.2.2.2.2.2.2.2.1 T.2.2.2.2.2.2.2.2.2.2.2.1 T.2.2.2.2.2.2.2.2.2.2.2.2.1 T.2.2.2.2.2.2.2.2.2.2.2.2.2.1 T.2.2.2.2.2.2.2.2.2.2.2.2.2.2.1 T.2.2.2.2.2.2.2.2.2.2.2.2.2.2.2.1 T.2.2.2.2.2.2.2.2.2.2.2.2.2.2.2.2 (xk 4) (xk 5) (xh 10) (xk 6) 3300 132 (nI p) (nI h) (G fg) = some (some fg, nI p, T.1, T.2.1, T.2.2.1, T.2.2.2.1, T.2.2.2.2.1, T.2.2.2.2.2.1, us', wo', T.2.2.2.2.2.2.1, T.2.2.2.2.2.2.2.1, T.2.2.2.2.2.2.2.2.1, T.2.2.2.2.2.2.2.2.2.1, T.2.2.2.2.2.2.2.2.2.2.1, T.2.2.2.2.2.2.2.2.2.2.2.1, T.2.2.2.2.2.2.2.2.2.2.2.2.1, T.2.2.2.2.2.2.2.2.2.2.2.2.2.1, T.2.2.2.2.2.2.2.2.2.2.2.2.2.2.1, T.2.2.2.2.2.2.2.2.2.2.2.2.2.2.2.1, T.2.2.2.2.2.2.2.2.2.2.2.2.2.2.2.2, cn', tt', fd', jn') ∧ gJn (gTell g p 2) jn' ∧ (h = 1 → ∀ k, k < 25 → wo' k = lN (gJ (gTell g p 1) k)) := by
    obtain ⟨d', ed, hx'⟩ := gwithP hok.1 hx hp (show 2 ≤ 2 by decide)
    obtain ⟨fu', cn', tt', fd', jn', ef, hj, -⟩ := gfollow hok2 hx' (codes := T.2.2.2.2.2.2.1) hT.2.2.2.2.1 (wt := T.2.2.2.2.2.2.2.1) (mvA := T.2.2.2.2.2.2.2.2.1) (sp := T.2.2.2.2.2.2.2.2.2.1) (ss := T.2.2.2.2.2.2.2.2.2.2.1) (rs := T.2.2.2.2.2.2.2.2.2.2.2.1) hT.2.2.2.2.2.1 (bl := 1) (nc := 3300) (nt := 132) (q := 0) (Or.inl rfl) (by decide) (by decide) (by decide) (by decide) (fg := none) (by intro h; cases h) (xi 15) (xk 4) (xk 5) (xh 10) (xk 6)
    obtain ⟨wo', e', w⟩ := fin fu' cn' tt' fd' jn' hj
    refine ⟨fu', wo', cn', tt', fd', jn', ?_, hj, w⟩
    unfold zf_X8_joiningWith_27
    have ed' : zf_X2_withPipe (G fg).1 (G fg).2.1 (G fg).2.2.1 (G fg).2.2.2.1 (G fg).2.2.2.2.1 (nI p) (2 : Int32) = some d' := ed
    have ef' : zf_X1_follow (xi 14) none (xi 15) T.1 T.2.2.1 d'.2.1 d'.2.2.2.2.1 d'.2.2.2.2.2.1 d'.2.2.2.2.2.2.1 d'.2.2.2.2.2.2.2 (xk 4) (xk 5) (xh 10) (xk 6) T.2.2.2.2.2.2.1 T.2.2.2.2.2.2.2.1 T.2.2.2.2.2.2.2.2.1 T.2.2.2.2.2.2.2.2.2.1 T.2.2.2.2.2.2.2.2.2.2.1 T.2.2.2.2.2.2.2.2.2.2.2.1 3300 132 0 = some (some 0, fu', cn', tt', fd', jn') := by
      rw [b1, hT.1, hT.2.2.1]
      exact ef
    rw [ed', Option.bind_some, ef', Option.bind_some]
    exact e'
  by_cases a : xu 0 = some fg
  · rw [if_pos a]
    by_cases b : xi 2 = nI p
    · obtain ⟨-, g', p', o1, o2, o3, o4, o5⟩ := hc.2.2.2.2.2.1 fg a
      have eg : g' = g := gRXu o1.1 hok.1 o2 hx
      subst eg
      have p50 : p' < 50 := by
        have : gTh p' g'.1 g'.2.1 = true := by unfold gIs at o4; cases hh : gTh p' g'.1 g'.2.1 with | true => rfl | false => rw [hh] at o4; cases o4
        exact gTh50 hok.1.2.1.2 this
      have ep : p' = p := (nI_eq (by omega) (by have := gTh50 hok.1.2.1.2 hp; omega)).mp (o3.symm.trans b)
      subst ep
      obtain ⟨wo', e', w⟩ := fin (xi 15) (xk 4) (xk 5) (xh 10) (xk 6) o5
      rw [if_pos b, a, b]
      exact ⟨T, xi 15, wo', xk 4, xk 5, xh 10, xk 6, e', o5, w, gc _ _ _ _ _ _ o5⟩
    · rw [if_neg b]
      obtain ⟨us', wo', cn', tt', fd', jn', e', hj, w⟩ := new
      exact ⟨T, us', wo', cn', tt', fd', jn', e', hj, w, gc _ _ _ _ _ _ hj⟩
  · rw [if_neg a]
    obtain ⟨us', wo', cn', tt', fd', jn', e', hj, w⟩ := new
    exact ⟨T, us', wo', cn', tt', fd', jn', e', hj, w, gc _ _ _ _ _ _ hj⟩
