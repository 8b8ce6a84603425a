/-! would, decides: the cases -/
theorem gCcS2 {xi : Nat → Int32} {xu : Nat → Option Nat} {xh : Nat → Nat → Int32} {xk : Nat → Nat → Int64} {LG : List Nat} {G : Nat → zGD} (h : gCc xi xu xh xk LG G) : gCc (gset (gset (gset (gset (gset (gset (gset xi 2 (xi 2)) 7 (xi 7)) 8 (xi 8)) 9 (xi 9)) 10 (xi 10)) 12 (xi 12)) 15 (xi 15)) (gset (gset xu 0 (xu 0)) 1 (xu 1)) (gset (gset (gset (gset (gset (gset (gset (gset (gset xh 1 (xh 1)) 2 (xh 2)) 3 (xh 3)) 4 (xh 4)) 5 (xh 5)) 6 (xh 6)) 7 (xh 7)) 8 (xh 8)) 10 (xh 10)) (gset (gset (gset (gset (gset (gset (gset xk 3 (xk 3)) 0 (xk 0)) 1 (xk 1)) 2 (xk 2)) 4 (xk 4)) 5 (xk 5)) 6 (xk 6)) LG G := by
  simp only [gsid]
  exact h
theorem gTell0 {g : gG} {p : Nat} (h : g.2.2.1 p = 0) : gTell g p 0 = g := by
  obtain ⟨c, r, t, s⟩ := g
  unfold gTell
  dsimp only at h ⊢
  congr 2
  congr 1
  funext q
  by_cases e : q = p
  · rw [if_pos e, e, h]
  · rw [if_neg e]
theorem gtold0 {g : gG} {p : Nat} (h0 : gHow g p = 0) : g.2.2.1 p = 0 := by
  have st := gHow_st (show gHow g p ≠ 2 by omega)
  unfold gHow at h0
  rw [st.1, st.2, if_neg (by decide)] at h0
  exact h0
theorem gdemF {g : gG} (hw : gWf g) {d : zGD} (hx : gRX g d) {p : Nat} (hp : gTh p g.1 g.2.1 = true) : zf_X8_demandFree (nI p) d = some (if gHow g p = 0 then .inl () else .inr 3) := by
  unfold zf_X8_demandFree
  rw [gfreeB hw hx hp, Option.bind_some]
  by_cases q : gHow g p = 0
  · rw [if_pos q, decide_eq_true q, if_neg (by decide)]
  · rw [if_neg q, decide_eq_false q, if_pos (show gbI false = 0 from rfl)]
theorem gupback {g : gG} {ct : Nat → Int32} {p : Nat} (hp : p < 50) (ht : g.2.2.1 p = 0) (hc : ∀ q, q < 50 → ct q = nI (g.2.2.1 q)) (v : Int32) : ∀ q, q < 50 → upd (upd ct p v) p (0 : Int32) q = nI (g.2.2.1 q) := by
  intro q hq
  by_cases e : q = p
  · rw [e, gupS, ht]; rfl
  · rw [gupN e, gupN e]; exact hc q hq
theorem gP28_ok : gP28 gInv := by
  intro xi xu fg xh xk ac LG G mi mh mk h x1 x2 x3 x4 x5 x6 x7 hb3 hb7
  obtain ⟨g, past, h1, h2, h3, h4, h5, h6, h7⟩ := h
  obtain ⟨hok, hg, hx, hm⟩ := id h3
  have f24 := hok.2
  unfold zf_X8_would zf_X9_would
  rw [show zf_X9_pipeAt (mi 7) (mi 8) x1 x2 x3 = zf_X9_pipeAt (nI g.1) (nI g.2.1) x1 x2 x3 from by rw [hm.1, hm.2.1], show (6 : Int32) = nI 6 from rfl]
  rcases gpipe hok.1 hx x1 x2 x3 hb3 with ⟨p, hp, h50, e1, e2⟩ | ⟨e1, e2⟩
  · rw [e1, e2, Option.bind_some, Option.bind_some, if_neg (gm1 h50)]
    dsimp only [Sum.elim_inl]
    rcases gchance 6 (by decide) x5 x6 with ⟨a, b, hab, hb1, hb6, rfl, rfl, e3⟩ | ⟨e3, hn⟩
    · rw [e3, gchT9 hab hb1 hb6, Option.bind_some, Option.bind_some, if_neg (show ¬ (1 : Int32) = 0 by decide), gIn, Option.bind_some]
      dsimp only [Sum.elim_inl]
      unfold zf_X8_demandHow zf_X8_demandHow_9
      by_cases c0 : x4 < 0
      · rw [if_pos c0, if_pos c0, if_pos rfl]
        unfold zf_X9_would_40 zf_X9_would_58
        rw [if_neg (show ¬ (2 : Int32) ≤ 0 by decide)]
        exact ⟨_, _, rfl, rfl, Or.inr ⟨_, rfl, Or.inr (Or.inl ⟨rfl, rfl⟩), g, past, h1, h2, h3, h4, gCcS2 h5, h6, h7⟩⟩
      rw [if_neg c0, if_neg c0]
      by_cases c1 : ¬ x4 ≤ 2
      · rw [if_neg c1, if_neg c1, if_pos rfl]
        unfold zf_X9_would_40 zf_X9_would_58
        rw [if_neg (show ¬ (2 : Int32) ≤ 0 by decide)]
        exact ⟨_, _, rfl, rfl, Or.inr ⟨_, rfl, Or.inr (Or.inl ⟨rfl, rfl⟩), g, past, h1, h2, h3, h4, gCcS2 h5, h6, h7⟩⟩
      replace c1 : x4 ≤ 2 := Decidable.not_not.mp c1
      rw [if_pos c1, if_pos c1, if_neg (show ¬ (1 : Int32) = 0 by decide), Option.bind_some]
      dsimp only [Sum.elim_inl]
      obtain ⟨w, hw2, rfl⟩ := gnI (n := 2) (by decide) c0 c1
      have h2w := gHow2 hok.1 p
      rw [gdemF hok.1 hx hp, ghow hok.1 hm hp, Option.bind_some, Option.bind_some]
      by_cases hz : gHow g p = 0
      · rw [if_pos hz, if_pos (show nI (gHow g p) = (0 : Int32) by rw [hz]; rfl)]
        dsimp only [Sum.elim_inl]
        have t0 := gtold0 hz
        have hm' : gRM (gTell g p w) (mi 7) (mi 8) (upd (mh 4) p (nI w)) (mh 5) := gRMT hm
        have ok' : gOk (gTell g p w) := by
          by_cases w0 : w = 0
          · rw [w0, gTell0 t0]; exact hok
          · exact (gTl_ok hok hp hz (show w = 1 ∨ w = 2 by omega)).1
        have f24' := ok'.2
        have hD' : gLdD (gTell g p w) ((0 : Int32), mh 12, mh 13, mk 0, mh 14, mh 15, mh 16, mh 10, mh 17, mk 1, mh 18) := gld0 h6.1
        obtain ⟨M, eM, m2⟩ := gupper ok' hm' _ hD' hab hb6
        dsimp only at eM
        have p63 := gpow63 hb6 f24'
        have le := gUp_le ok' a (b - a)
        rw [show a + (b - a) = b by omega] at le
        have bp : 0 < b ^ gFree (gTell g p w) := Nat.pow_pos (by omega)
        unfold zf_X9_would_58
        rw [if_pos (show (0 : Int32) ≤ 0 by decide), if_pos (ggN h50 (by decide)), nI_clamp (by omega), eM, Option.bind_some, gX9free ok'.1 hm', Option.bind_some, nI_l (by omega), gpow9 (by omega), Option.bind_some, gpart (by omega) p63 bp, Option.bind_some, if_pos (ggN h50 (by decide))]
        have hu := gupback h50 t0 hm.2.2.1 (nI w)
        by_cases w0 : w = 0
        · subst w0
          rw [gTell0 t0] at le p63 bp ⊢
          obtain ⟨T, eT, hT, cT⟩ := gcountD hok hg hx h5
          rw [if_pos (show nI 0 = (0 : Int32) from rfl)]
          have ev : zf_X8_value fg (xi 7) (xi 8) (xi 9) (xi 10) (xi 11) (xu 1) (xi 12) (xh 1) (xh 2) (xh 3) (xh 4) (xh 5) (xh 6) (xh 7) (xk 0) (xk 1) (xh 8) (xk 2) 16500 660 (nI a) (nI b) x7 (G fg) = some (.inl ((if x7 = 0 then lN (gUp g a (b - a) / Nat.gcd (gUp g a (b - a)) (b ^ gFree g)) else lN (b ^ gFree g / Nat.gcd (gUp g a (b - a)) (b ^ gFree g))), T)) := by
            unfold zf_X8_value
            rw [show (6 : Int32) = nI 6 from rfl, e3, Option.bind_some]
            dsimp only [Sum.elim_inl]
            rw [gX2free hok.1 hx, Option.bind_some, eT, Option.bind_some, gweigh hT.2.2.2.2.2.2.1 f24 hab hb6, Option.bind_some, gpow8 (by omega) (by omega), Option.bind_some, show gSum (fun k => gJ g k * (a ^ k * (b - a) ^ (gFree g - k))) (gFree g + 1) = gUp g a (b - a) from rfl, glowest (by omega) p63 bp, Option.bind_some]
          rw [ev, Option.bind_some]
          dsimp only [Sum.elim_inl]
          refine ⟨_, _, rfl, rfl, Or.inl ⟨_, rfl, rfl, rfl, fun LG1 G1 sg he hs => ?_⟩⟩
          obtain ⟨k1, k2, k3, k4, k5, k6, k7, k8⟩ := gCc_ext he cT
          refine ⟨g, past, h1, h2, ⟨hok, (he fg hg).1, by rw [(he fg hg).2]; exact hx, hm.1, hm.2.1, hu, hm.2.2.2⟩, gPs_ext he h4, ⟨k1, k2, k3, hs, k5, k6, k7, k8⟩, gld0 m2.1, h7⟩
        · obtain ⟨okw, efw⟩ := gTl_ok hok hp hz (show w = 1 ∨ w = 2 by omega)
          obtain ⟨T, us', wo', cn', tt', fd', jn', ej, hj, hwo, gc⟩ := gjw hok hg hx h5 hp hz (h := w) (by omega)
          have fe : gFree g - 1 = gFree (gTell g p w) := by omega
          rw [if_neg (show ¬ nI w = (0 : Int32) from fun e => w0 ((nI_eq (by omega) (by decide)).mp e)), gX2free hok.1 hx, Option.bind_some, ej, Option.bind_some, show nI (gFree g) - 1 = nI (gFree (gTell g p w)) by rw [show (1 : Int32) = nI 1 from rfl, gsub (by omega), fe]]
          rcases (show w = 1 ∨ w = 2 by omega) with rfl | rfl
          · rw [if_neg (show ¬ nI 1 = (2 : Int32) by decide), gweigh (hwo rfl) f24' hab hb6, Option.bind_some, gpow8 (by omega) (by omega), Option.bind_some, show gSum (fun k => gJ (gTell g p 1) k * (a ^ k * (b - a) ^ (gFree (gTell g p 1) - k))) (gFree (gTell g p 1) + 1) = gUp (gTell g p 1) a (b - a) from rfl, glowest (by omega) p63 bp, Option.bind_some]
            refine ⟨_, _, rfl, rfl, Or.inl ⟨_, rfl, rfl, rfl, fun LG1 G1 sg he hs => ?_⟩⟩
            exact ⟨g, past, h1, h2, ⟨hok, (he fg hg).1, by rw [(he fg hg).2]; exact hx, hm.1, hm.2.1, hu, hm.2.2.2⟩, gPs_ext he h4, gc LG1 G1 sg he hs, gld0 m2.1, h7⟩
          · rw [if_pos (show nI 2 = (2 : Int32) from rfl), gweigh hj f24' hab hb6, Option.bind_some, gpow8 (by omega) (by omega), Option.bind_some, show gSum (fun k => gJ (gTell g p 2) k * (a ^ k * (b - a) ^ (gFree (gTell g p 2) - k))) (gFree (gTell g p 2) + 1) = gUp (gTell g p 2) a (b - a) from rfl, glowest (by omega) p63 bp, Option.bind_some]
            refine ⟨_, _, rfl, rfl, Or.inl ⟨_, rfl, rfl, rfl, fun LG1 G1 sg he hs => ?_⟩⟩
            exact ⟨g, past, h1, h2, ⟨hok, (he fg hg).1, by rw [(he fg hg).2]; exact hx, hm.1, hm.2.1, hu, hm.2.2.2⟩, gPs_ext he h4, gc LG1 G1 sg he hs, gld0 m2.1, h7⟩
      · rw [if_neg hz, if_neg (show ¬ nI (gHow g p) = (0 : Int32) by rw [show (0 : Int32) = nI 0 from rfl, nI_eq (by omega) (by decide)]; exact hz)]
        dsimp only [Sum.elim_inr]
        unfold zf_X9_would_58
        rw [if_neg (show ¬ (3 : Int32) ≤ 0 by decide)]
        exact ⟨_, _, rfl, rfl, Or.inr ⟨_, rfl, Or.inr (Or.inr ⟨rfl, rfl⟩), g, past, h1, h2, h3, h4, gCcS2 h5, h6, h7⟩⟩
    · rw [e3, gchN9 hn, Option.bind_some, Option.bind_some, if_pos rfl]
      dsimp only [Sum.elim_inr]
      unfold zf_X9_would_40 zf_X9_would_58
      rw [if_neg (show ¬ (2 : Int32) ≤ 0 by decide)]
      exact ⟨_, _, rfl, rfl, Or.inr ⟨_, rfl, Or.inr (Or.inl ⟨rfl, rfl⟩), g, past, h1, h2, h3, h4, gCcS2 h5, h6, h7⟩⟩
  · rw [e1, e2, Option.bind_some, Option.bind_some, if_pos rfl]
    dsimp only [Sum.elim_inr]
    unfold zf_X9_would_58
    rw [if_neg (show ¬ (1 : Int32) ≤ 0 by decide)]
    exact ⟨_, _, rfl, rfl, Or.inr ⟨_, rfl, Or.inl ⟨rfl, rfl⟩, g, past, h1, h2, h3, h4, gCcS2 h5, h6, h7⟩⟩
abbrev gDD : Type := Int32 × (Nat → Int32) × (Nat → Int32) × (Nat → Int64) × (Nat → Int32) × (Nat → Int32) × (Nat → Int32) × (Nat → Int32) × (Nat → Int32) × (Nat → Int64) × (Nat → Int32) × (Nat → Int64)
theorem gdc29 {g : gG} (hok : gOk g) {fc fr : Int32} {ct cs : Nat → Int32} (hM : gRM g fc fr ct cs) (D : gD9) (hD : gLdD g D) (dc : Nat → Int64) {w : Nat} (hw : w < 2) : ∃ (M : gD9) (dc' : Nat → Int64), zit (fun d : Int32 × gDD => zf_X9_laysDecides_l29 fc fr ct cs (nI w) d.1 d.2.1 d.2.2.1 d.2.2.2.1 d.2.2.2.2.1 d.2.2.2.2.2.1 d.2.2.2.2.2.2.1 d.2.2.2.2.2.2.2.1 d.2.2.2.2.2.2.2.2.1 d.2.2.2.2.2.2.2.2.2.1 d.2.2.2.2.2.2.2.2.2.2.1 d.2.2.2.2.2.2.2.2.2.2.2.1 d.2.2.2.2.2.2.2.2.2.2.2.2) zfu ((0 : Int32), D.1, D.2.1, D.2.2.1, D.2.2.2.1, D.2.2.2.2.1, D.2.2.2.2.2.1, D.2.2.2.2.2.2.1, D.2.2.2.2.2.2.2.1, D.2.2.2.2.2.2.2.2.1, D.2.2.2.2.2.2.2.2.2.1, D.2.2.2.2.2.2.2.2.2.2, dc) = some (M.1, M.2.1, M.2.2.1, M.2.2.2.1, M.2.2.2.2.1, M.2.2.2.2.2.1, M.2.2.2.2.2.2.1, M.2.2.2.2.2.2.2.1, M.2.2.2.2.2.2.2.2.1, M.2.2.2.2.2.2.2.2.2.1, M.2.2.2.2.2.2.2.2.2.2, dc') ∧ gLdD g M ∧ ∀ k, k < 25 → dc' k = if w = 0 then lN (gJ g k) else dc k - lN (gJ g k) := by
  have hH := gitH (f := fun d : Int32 × gDD => zf_X9_laysDecides_l29 fc fr ct cs (nI w) d.1 d.2.1 d.2.2.1 d.2.2.2.1 d.2.2.2.2.1 d.2.2.2.2.2.1 d.2.2.2.2.2.2.1 d.2.2.2.2.2.2.2.1 d.2.2.2.2.2.2.2.2.1 d.2.2.2.2.2.2.2.2.2.1 d.2.2.2.2.2.2.2.2.2.2.1 d.2.2.2.2.2.2.2.2.2.2.2.1 d.2.2.2.2.2.2.2.2.2.2.2.2) (fun j d => d.1 = nI j ∧ gLdD g (d.2.1, d.2.2.1, d.2.2.2.1, d.2.2.2.2.1, d.2.2.2.2.2.1, d.2.2.2.2.2.2.1, d.2.2.2.2.2.2.2.1, d.2.2.2.2.2.2.2.2.1, d.2.2.2.2.2.2.2.2.2.1, d.2.2.2.2.2.2.2.2.2.2.1, d.2.2.2.2.2.2.2.2.2.2.2.1) ∧ (∀ k, k < j → d.2.2.2.2.2.2.2.2.2.2.2.2 k = if w = 0 then lN (gJ g k) else dc k - lN (gJ g k)) ∧ ∀ k, j ≤ k → d.2.2.2.2.2.2.2.2.2.2.2.2 k = dc k) (fun d => gLdD g (d.1, d.2.1, d.2.2.1, d.2.2.2.1, d.2.2.2.2.1, d.2.2.2.2.2.1, d.2.2.2.2.2.2.1, d.2.2.2.2.2.2.2.1, d.2.2.2.2.2.2.2.2.1, d.2.2.2.2.2.2.2.2.2.1, d.2.2.2.2.2.2.2.2.2.2.1) ∧ ∀ k, k < 25 → d.2.2.2.2.2.2.2.2.2.2.2 k = if w = 0 then lN (gJ g k) else dc k - lN (gJ g k)) 25 (n := zfu) (gfu (by decide)) (a := ((0 : Int32), D.1, D.2.1, D.2.2.1, D.2.2.2.1, D.2.2.2.2.1, D.2.2.2.2.2.1, D.2.2.2.2.2.2.1, D.2.2.2.2.2.2.2.1, D.2.2.2.2.2.2.2.2.1, D.2.2.2.2.2.2.2.2.2.1, D.2.2.2.2.2.2.2.2.2.2, dc)) ⟨rfl, hD, fun k h => by omega, fun k _ => rfl⟩ ?_ ?_
  · obtain ⟨b, e, q1, q2⟩ := hH
    exact ⟨(b.1, b.2.1, b.2.2.1, b.2.2.2.1, b.2.2.2.2.1, b.2.2.2.2.2.1, b.2.2.2.2.2.2.1, b.2.2.2.2.2.2.2.1, b.2.2.2.2.2.2.2.2.1, b.2.2.2.2.2.2.2.2.2.1, b.2.2.2.2.2.2.2.2.2.2.1), b.2.2.2.2.2.2.2.2.2.2.2, e, q1, q2⟩
  · rintro j ⟨x, E⟩ hj ⟨rfl, hE, hk, hk2⟩
    dsimp only at hE hk hk2 ⊢
    obtain ⟨M', e, m1, m2'⟩ := gjoinsOf hok hM (E.1, E.2.1, E.2.2.1, E.2.2.2.1, E.2.2.2.2.1, E.2.2.2.2.2.1, E.2.2.2.2.2.2.1, E.2.2.2.2.2.2.2.1, E.2.2.2.2.2.2.2.2.1, E.2.2.2.2.2.2.2.2.2.1, E.2.2.2.2.2.2.2.2.2.2.1) hE hj
    dsimp only at e
    have z25 : zgd (nI j) 25 = true := ggN hj (by decide)
    unfold zf_X9_laysDecides_l29 zf_X9_laysDecides_64
    rw [if_neg (gle25 hj), e, Option.bind_some, Option.bind_some, nI_clamp (by omega), nI_1]
    have fin : ∀ v, v = (if w = 0 then lN (gJ g j) else dc j - lN (gJ g j)) → ∃ a', (if zgd (nI j) 25 = true then some (Sum.inl (nI (j + 1), M'.1, M'.2.1, M'.2.2.1, M'.2.2.2.1, M'.2.2.2.2.1, M'.2.2.2.2.2.1, M'.2.2.2.2.2.2.1, M'.2.2.2.2.2.2.2.1, M'.2.2.2.2.2.2.2.2.1, M'.2.2.2.2.2.2.2.2.2.1, M'.2.2.2.2.2.2.2.2.2.2, vp_updL E.2.2.2.2.2.2.2.2.2.2.2 j v) : (Int32 × gDD) ⊕ gDD) else none) = some (.inl a') ∧ a'.1 = nI (j + 1) ∧ gLdD g (a'.2.1, a'.2.2.1, a'.2.2.2.1, a'.2.2.2.2.1, a'.2.2.2.2.2.1, a'.2.2.2.2.2.2.1, a'.2.2.2.2.2.2.2.1, a'.2.2.2.2.2.2.2.2.1, a'.2.2.2.2.2.2.2.2.2.1, a'.2.2.2.2.2.2.2.2.2.2.1, a'.2.2.2.2.2.2.2.2.2.2.2.1) ∧ (∀ k, k < j + 1 → a'.2.2.2.2.2.2.2.2.2.2.2.2 k = if w = 0 then lN (gJ g k) else dc k - lN (gJ g k)) ∧ ∀ k, j + 1 ≤ k → a'.2.2.2.2.2.2.2.2.2.2.2.2 k = dc k := by
      intro v hv
      rw [if_pos z25]
      refine ⟨_, rfl, rfl, m2', fun k hk' => ?_, fun k hk' => ?_⟩
      · dsimp only
        by_cases q : k = j
        · rw [q, guLS, hv]
        · rw [guLN q]; exact hk k (by omega)
      · dsimp only
        rw [guLN (by omega)]; exact hk2 k (by omega)
    by_cases w0 : w = 0
    · rw [if_pos (by rw [w0]; rfl)]
      exact fin _ (by rw [if_pos w0])
    · rw [if_neg (by rw [show (0 : Int32) = nI 0 from rfl, nI_eq (by omega) (by decide)]; exact w0), if_pos z25]
      exact fin _ (by rw [if_neg w0, hk2 j (Nat.le_refl _)])
  · rintro ⟨x, E⟩ ⟨rfl, hE, hk, hk2⟩
    dsimp only at hE hk hk2 ⊢
    unfold zf_X9_laysDecides_l29
    rw [if_pos (by decide)]
    exact ⟨_, rfl, hE, hk⟩
/-- how many choices of the others a free pipe decides, laid by the reference; told and laid are as before -/
theorem glaysDec {g : gG} (hok : gOk g) {fc fr : Int32} {ct cs : Nat → Int32} (hM : gRM g fc fr ct cs) (D : gD9) (hD : gLdD g D) (dc : Nat → Int64) {p : Nat} (hp : gTh p g.1 g.2.1 = true) (h0 : gHow g p = 0) : ∃ (ct' : Nat → Int32) (M : gD9) (dc' : Nat → Int64), zf_X9_laysDecides fc fr D.1 ct cs D.2.1 D.2.2.1 D.2.2.2.1 D.2.2.2.2.1 D.2.2.2.2.2.1 D.2.2.2.2.2.2.1 D.2.2.2.2.2.2.2.1 D.2.2.2.2.2.2.2.2.1 D.2.2.2.2.2.2.2.2.2.1 D.2.2.2.2.2.2.2.2.2.2 dc (nI p) = some ((0 : Int32), ct', M.2.1, M.2.2.1, M.2.2.2.1, M.2.2.2.2.1, M.2.2.2.2.2.1, M.2.2.2.2.2.2.1, M.2.2.2.2.2.2.2.1, M.2.2.2.2.2.2.2.2.1, M.2.2.2.2.2.2.2.2.2.1, M.2.2.2.2.2.2.2.2.2.2, dc') ∧ gRM g fc fr ct' cs ∧ (∀ i, i < 100000 → M.2.2.2.2.1 i = 0) ∧ ∀ k, k < 25 → dc' k = lN (gJ (gTell g p 1) k) - lN (gJ (gTell g p 2) k) := by
  have h50 := gTh50 hok.1.2.1.2 hp
  have t0 := gtold0 h0
  obtain ⟨ok1, -⟩ := gTl_ok hok hp h0 (h := 1) (Or.inl rfl)
  obtain ⟨ok2, -⟩ := gTl_ok hok hp h0 (h := 2) (Or.inr rfl)
  have hM1 : gRM (gTell g p 1) fc fr (upd ct p (1 : Int32)) cs := gRMT hM
  have hM2 : gRM (gTell g p 2) fc fr (upd (upd ct p (1 : Int32)) p (2 : Int32)) cs := by
    refine ⟨hM.1, hM.2.1, fun q hq => ?_, hM.2.2.2⟩
    show _ = nI (if q = p then 2 else g.2.2.1 q)
    by_cases e : q = p
    · rw [if_pos e, e, gupS]; rfl
    · rw [if_neg e, gupN e, gupN e]; exact hM.2.2.1 q hq
  obtain ⟨M1, dc1, e1, m1, k1⟩ := gdc29 ok1 hM1 ((0 : Int32), D.2.1, D.2.2.1, D.2.2.2.1, D.2.2.2.2.1, D.2.2.2.2.2.1, D.2.2.2.2.2.2.1, D.2.2.2.2.2.2.2.1, D.2.2.2.2.2.2.2.2.1, D.2.2.2.2.2.2.2.2.2.1, D.2.2.2.2.2.2.2.2.2.2) (gld0 hD.1) dc (w := 0) (by decide)
  obtain ⟨M2, dc2, e2, m2, k2⟩ := gdc29 ok2 hM2 ((0 : Int32), M1.2.1, M1.2.2.1, M1.2.2.2.1, M1.2.2.2.2.1, M1.2.2.2.2.2.1, M1.2.2.2.2.2.2.1, M1.2.2.2.2.2.2.2.1, M1.2.2.2.2.2.2.2.2.1, M1.2.2.2.2.2.2.2.2.2.1, M1.2.2.2.2.2.2.2.2.2.2) (gld0 m1.1) dc1 (w := 1) (by decide)
  dsimp only at e1 e2
  have e1' : zit (fun d : Int32 × gDD => zf_X9_laysDecides_l29 fc fr (upd ct p (1 : Int32)) cs (0 : Int32) d.1 d.2.1 d.2.2.1 d.2.2.2.1 d.2.2.2.2.1 d.2.2.2.2.2.1 d.2.2.2.2.2.2.1 d.2.2.2.2.2.2.2.1 d.2.2.2.2.2.2.2.2.1 d.2.2.2.2.2.2.2.2.2.1 d.2.2.2.2.2.2.2.2.2.2.1 d.2.2.2.2.2.2.2.2.2.2.2.1 d.2.2.2.2.2.2.2.2.2.2.2.2) zfu ((0 : Int32), (0 : Int32), D.2.1, D.2.2.1, D.2.2.2.1, D.2.2.2.2.1, D.2.2.2.2.2.1, D.2.2.2.2.2.2.1, D.2.2.2.2.2.2.2.1, D.2.2.2.2.2.2.2.2.1, D.2.2.2.2.2.2.2.2.2.1, D.2.2.2.2.2.2.2.2.2.2, dc) = some (M1.1, M1.2.1, M1.2.2.1, M1.2.2.2.1, M1.2.2.2.2.1, M1.2.2.2.2.2.1, M1.2.2.2.2.2.2.1, M1.2.2.2.2.2.2.2.1, M1.2.2.2.2.2.2.2.2.1, M1.2.2.2.2.2.2.2.2.2.1, M1.2.2.2.2.2.2.2.2.2.2, dc1) := e1
  have e2' : zit (fun d : Int32 × gDD => zf_X9_laysDecides_l29 fc fr (upd (upd ct p (1 : Int32)) p (2 : Int32)) cs (1 : Int32) d.1 d.2.1 d.2.2.1 d.2.2.2.1 d.2.2.2.2.1 d.2.2.2.2.2.1 d.2.2.2.2.2.2.1 d.2.2.2.2.2.2.2.1 d.2.2.2.2.2.2.2.2.1 d.2.2.2.2.2.2.2.2.2.1 d.2.2.2.2.2.2.2.2.2.2.1 d.2.2.2.2.2.2.2.2.2.2.2.1 d.2.2.2.2.2.2.2.2.2.2.2.2) zfu ((0 : Int32), (0 : Int32), M1.2.1, M1.2.2.1, M1.2.2.2.1, M1.2.2.2.2.1, M1.2.2.2.2.2.1, M1.2.2.2.2.2.2.1, M1.2.2.2.2.2.2.2.1, M1.2.2.2.2.2.2.2.2.1, M1.2.2.2.2.2.2.2.2.2.1, M1.2.2.2.2.2.2.2.2.2.2, dc1) = some (M2.1, M2.2.1, M2.2.2.1, M2.2.2.2.1, M2.2.2.2.2.1, M2.2.2.2.2.2.1, M2.2.2.2.2.2.2.1, M2.2.2.2.2.2.2.2.1, M2.2.2.2.2.2.2.2.2.1, M2.2.2.2.2.2.2.2.2.2.1, M2.2.2.2.2.2.2.2.2.2.2, dc2) := e2
  refine ⟨upd (upd (upd ct p 1) p 2) p 0, M2, dc2, ?_, ⟨hM.1, hM.2.1, fun q hq => ?_, hM.2.2.2⟩, m2.1, fun k hk => ?_⟩
  · unfold zf_X9_laysDecides
    have s0 : zf_X9_laysDecides_l2 fc fr cs (nI p) (0 : Int32) D.1 ct D.2.1 D.2.2.1 D.2.2.2.1 D.2.2.2.2.1 D.2.2.2.2.2.1 D.2.2.2.2.2.2.1 D.2.2.2.2.2.2.2.1 D.2.2.2.2.2.2.2.2.1 D.2.2.2.2.2.2.2.2.2.1 D.2.2.2.2.2.2.2.2.2.2 dc = some (.inl ((1 : Int32), M1.1, upd ct p (1 : Int32), M1.2.1, M1.2.2.1, M1.2.2.2.1, M1.2.2.2.2.1, M1.2.2.2.2.2.1, M1.2.2.2.2.2.2.1, M1.2.2.2.2.2.2.2.1, M1.2.2.2.2.2.2.2.2.1, M1.2.2.2.2.2.2.2.2.2.1, M1.2.2.2.2.2.2.2.2.2.2, dc1)) := by
      unfold zf_X9_laysDecides_l2 zf_X9_laysDecides_21
      rw [if_neg (by decide), if_pos rfl, if_pos (ggN h50 (by decide)), nI_clamp (by omega), e1', Option.bind_some]
      rfl
    have s1 : zf_X9_laysDecides_l2 fc fr cs (nI p) (1 : Int32) M1.1 (upd ct p (1 : Int32)) M1.2.1 M1.2.2.1 M1.2.2.2.1 M1.2.2.2.2.1 M1.2.2.2.2.2.1 M1.2.2.2.2.2.2.1 M1.2.2.2.2.2.2.2.1 M1.2.2.2.2.2.2.2.2.1 M1.2.2.2.2.2.2.2.2.2.1 M1.2.2.2.2.2.2.2.2.2.2 dc1 = some (.inl ((2 : Int32), M2.1, upd (upd ct p (1 : Int32)) p (2 : Int32), M2.2.1, M2.2.2.1, M2.2.2.2.1, M2.2.2.2.2.1, M2.2.2.2.2.2.1, M2.2.2.2.2.2.2.1, M2.2.2.2.2.2.2.2.1, M2.2.2.2.2.2.2.2.2.1, M2.2.2.2.2.2.2.2.2.2.1, M2.2.2.2.2.2.2.2.2.2.2, dc2)) := by
      unfold zf_X9_laysDecides_l2 zf_X9_laysDecides_21
      rw [if_neg (by decide), if_neg (show ¬ (1 : Int32) = 0 by decide), if_pos (ggN h50 (by decide)), nI_clamp (by omega), e2', Option.bind_some]
      rfl
    have s2 : zf_X9_laysDecides_l2 fc fr cs (nI p) (2 : Int32) M2.1 (upd (upd ct p (1 : Int32)) p (2 : Int32)) M2.2.1 M2.2.2.1 M2.2.2.2.1 M2.2.2.2.2.1 M2.2.2.2.2.2.1 M2.2.2.2.2.2.2.1 M2.2.2.2.2.2.2.2.1 M2.2.2.2.2.2.2.2.2.1 M2.2.2.2.2.2.2.2.2.2.1 M2.2.2.2.2.2.2.2.2.2.2 dc2 = some (.inr (M2.1, upd (upd ct p (1 : Int32)) p (2 : Int32), M2.2.1, M2.2.2.1, M2.2.2.2.1, M2.2.2.2.2.1, M2.2.2.2.2.2.1, M2.2.2.2.2.2.2.1, M2.2.2.2.2.2.2.2.1, M2.2.2.2.2.2.2.2.2.1, M2.2.2.2.2.2.2.2.2.2.1, M2.2.2.2.2.2.2.2.2.2.2, dc2)) := by
      unfold zf_X9_laysDecides_l2
      rw [if_pos (by decide)]
    have e := gitr (f := fun d : Int32 × Int32 × (Nat → Int32) × (Nat → Int32) × (Nat → Int32) × (Nat → Int64) × (Nat → Int32) × (Nat → Int32) × (Nat → Int32) × (Nat → Int32) × (Nat → Int32) × (Nat → Int64) × (Nat → Int32) × (Nat → Int64) => zf_X9_laysDecides_l2 fc fr cs (nI p) d.1 d.2.1 d.2.2.1 d.2.2.2.1 d.2.2.2.2.1 d.2.2.2.2.2.1 d.2.2.2.2.2.2.1 d.2.2.2.2.2.2.2.1 d.2.2.2.2.2.2.2.2.1 d.2.2.2.2.2.2.2.2.2.1 d.2.2.2.2.2.2.2.2.2.2.1 d.2.2.2.2.2.2.2.2.2.2.2.1 d.2.2.2.2.2.2.2.2.2.2.2.2.1 d.2.2.2.2.2.2.2.2.2.2.2.2.2) (fun j => if j = 0 then ((0 : Int32), D.1, ct, D.2.1, D.2.2.1, D.2.2.2.1, D.2.2.2.2.1, D.2.2.2.2.2.1, D.2.2.2.2.2.2.1, D.2.2.2.2.2.2.2.1, D.2.2.2.2.2.2.2.2.1, D.2.2.2.2.2.2.2.2.2.1, D.2.2.2.2.2.2.2.2.2.2, dc) else if j = 1 then ((1 : Int32), M1.1, upd ct p (1 : Int32), M1.2.1, M1.2.2.1, M1.2.2.2.1, M1.2.2.2.2.1, M1.2.2.2.2.2.1, M1.2.2.2.2.2.2.1, M1.2.2.2.2.2.2.2.1, M1.2.2.2.2.2.2.2.2.1, M1.2.2.2.2.2.2.2.2.2.1, M1.2.2.2.2.2.2.2.2.2.2, dc1) else ((2 : Int32), M2.1, upd (upd ct p (1 : Int32)) p (2 : Int32), M2.2.1, M2.2.2.1, M2.2.2.2.1, M2.2.2.2.2.1, M2.2.2.2.2.2.1, M2.2.2.2.2.2.2.1, M2.2.2.2.2.2.2.2.1, M2.2.2.2.2.2.2.2.2.1, M2.2.2.2.2.2.2.2.2.2.1, M2.2.2.2.2.2.2.2.2.2.2, dc2)) 2 (n := zfu) (b := (M2.1, upd (upd ct p (1 : Int32)) p (2 : Int32), M2.2.1, M2.2.2.1, M2.2.2.2.1, M2.2.2.2.2.1, M2.2.2.2.2.2.1, M2.2.2.2.2.2.2.1, M2.2.2.2.2.2.2.2.1, M2.2.2.2.2.2.2.2.2.1, M2.2.2.2.2.2.2.2.2.2.1, M2.2.2.2.2.2.2.2.2.2.2, dc2)) (gfu (by decide)) ?_ ?_
    · have e' : zit (fun d : Int32 × Int32 × (Nat → Int32) × (Nat → Int32) × (Nat → Int32) × (Nat → Int64) × (Nat → Int32) × (Nat → Int32) × (Nat → Int32) × (Nat → Int32) × (Nat → Int32) × (Nat → Int64) × (Nat → Int32) × (Nat → Int64) => zf_X9_laysDecides_l2 fc fr cs (nI p) d.1 d.2.1 d.2.2.1 d.2.2.2.1 d.2.2.2.2.1 d.2.2.2.2.2.1 d.2.2.2.2.2.2.1 d.2.2.2.2.2.2.2.1 d.2.2.2.2.2.2.2.2.1 d.2.2.2.2.2.2.2.2.2.1 d.2.2.2.2.2.2.2.2.2.2.1 d.2.2.2.2.2.2.2.2.2.2.2.1 d.2.2.2.2.2.2.2.2.2.2.2.2.1 d.2.2.2.2.2.2.2.2.2.2.2.2.2) zfu ((0 : Int32), D.1, ct, D.2.1, D.2.2.1, D.2.2.2.1, D.2.2.2.2.1, D.2.2.2.2.2.1, D.2.2.2.2.2.2.1, D.2.2.2.2.2.2.2.1, D.2.2.2.2.2.2.2.2.1, D.2.2.2.2.2.2.2.2.2.1, D.2.2.2.2.2.2.2.2.2.2, dc) = some (M2.1, upd (upd ct p (1 : Int32)) p (2 : Int32), M2.2.1, M2.2.2.1, M2.2.2.2.1, M2.2.2.2.2.1, M2.2.2.2.2.2.1, M2.2.2.2.2.2.2.1, M2.2.2.2.2.2.2.2.1, M2.2.2.2.2.2.2.2.2.1, M2.2.2.2.2.2.2.2.2.2.1, M2.2.2.2.2.2.2.2.2.2.2, dc2) := e
      rw [e', Option.bind_some, if_pos (ggN h50 (by decide)), nI_clamp (by omega)]
    · intro j hj
      rcases (show j = 0 ∨ j = 1 by omega) with rfl | rfl
      · exact s0
      · exact s1
    · exact s2
  · by_cases e : q = p
    · rw [e, gupS, t0]; rfl
    · rw [gupN e, gupN e, gupN e]; exact hM.2.2.1 q hq
  · have a1 := k1 k hk
    have a2 := k2 k hk
    rw [if_pos rfl] at a1
    rw [if_neg (by decide), a1] at a2
    exact a2
theorem gP34_ok : gP34 gInv := by
  intro xi xu fg xh xk ac LG G mi mh mk h x1 x2 x3 x4 hb3
  obtain ⟨g, past, h1, h2, h3, h4, h5, h6, h7⟩ := h
  obtain ⟨hok, hg, hx, hm⟩ := id h3
  have f24 := hok.2
  unfold zf_X8_decides zf_X9_decides
  rw [show zf_X9_pipeAt (mi 7) (mi 8) x1 x2 x3 = zf_X9_pipeAt (nI g.1) (nI g.2.1) x1 x2 x3 from by rw [hm.1, hm.2.1]]
  rcases gpipe hok.1 hx x1 x2 x3 hb3 with ⟨p, hp, h50, e1, e2⟩ | ⟨e1, e2⟩
  · have h2w := gHow2 hok.1 p
    rw [e1, e2, Option.bind_some, Option.bind_some, if_neg (gm1 h50), ghow hok.1 hm hp, Option.bind_some]
    dsimp only [Sum.elim_inl]
    rw [gdemF hok.1 hx hp, Option.bind_some]
    by_cases hz : gHow g p = 0
    · rw [if_pos hz, if_pos (show nI (gHow g p) = (0 : Int32) by rw [hz]; rfl)]
      dsimp only [Sum.elim_inl]
      obtain ⟨ct', M, dc', eM, hm', m0, kd⟩ := glaysDec hok hm (mi 10, mh 12, mh 13, mk 0, mh 14, mh 15, mh 16, mh 10, mh 17, mk 1, mh 18) h6 (mk 2) hp hz
      dsimp only at eM
      unfold zf_X9_decides_34
      rw [if_pos (show (0 : Int32) ≤ 0 by decide), eM, Option.bind_some]
      rcases g25 x4 with ⟨k, hk, rfl⟩ | hn
      · obtain ⟨T, us', wo', cn', tt', fd', jn', ej, hj, -, gc⟩ := gjw hok hg hx h5 hp hz (h := 2) (Or.inr rfl)
        have ej2 : zf_X8_joiningWith fg (xu 0) (xi 2) (xi 7) (xi 8) (xi 9) (xi 10) (xi 11) (xu 1) (xi 12) (xi 14) (xi 15) (xk 3) (xh 1) (xh 2) (xh 3) (xh 4) (xh 5) (xh 6) (xh 7) (xk 0) (xk 1) (xh 8) (xk 2) (xk 4) (xk 5) (xh 10) (xk 6) 16500 660 3300 132 (nI p) (2 : Int32) (G fg) = some (some fg, nI p, T.1, T.2.1, T.2.2.1, T.2.2.2.1, T.2.2.2.2.1, T.2.2.2.2.2.1, us', wo', T.2.2.2.2.2.2.1, T.2.2.2.2.2.2.2.1, T.2.2.2.2.2.2.2.2.1, T.2.2.2.2.2.2.2.2.2.1, T.2.2.2.2.2.2.2.2.2.2.1, T.2.2.2.2.2.2.2.2.2.2.2.1, T.2.2.2.2.2.2.2.2.2.2.2.2.1, T.2.2.2.2.2.2.2.2.2.2.2.2.2.1, T.2.2.2.2.2.2.2.2.2.2.2.2.2.2.1, T.2.2.2.2.2.2.2.2.2.2.2.2.2.2.2.1, T.2.2.2.2.2.2.2.2.2.2.2.2.2.2.2.2, cn', tt', fd', jn') := ej
        have c2 := gc LG G (xu 3) (fun q hq => ⟨hq, rfl⟩) h5.2.2.2.1
        obtain ⟨T2, us2, wo2, cn2, tt2, fd2, jn2, ek, hj2, hwo2, gc2⟩ := gjw hok hg hx c2 hp hz (h := 1) (Or.inl rfl)
        have ek2 : zf_X8_joiningWith fg (some fg) (nI p) T.1 T.2.1 T.2.2.1 T.2.2.2.1 (xi 11) T.2.2.2.2.1 T.2.2.2.2.2.1 (xi 14) us' wo' T.2.2.2.2.2.2.1 T.2.2.2.2.2.2.2.1 T.2.2.2.2.2.2.2.2.1 T.2.2.2.2.2.2.2.2.2.1 T.2.2.2.2.2.2.2.2.2.2.1 T.2.2.2.2.2.2.2.2.2.2.2.1 T.2.2.2.2.2.2.2.2.2.2.2.2.1 T.2.2.2.2.2.2.2.2.2.2.2.2.2.1 T.2.2.2.2.2.2.2.2.2.2.2.2.2.2.1 T.2.2.2.2.2.2.2.2.2.2.2.2.2.2.2.1 T.2.2.2.2.2.2.2.2.2.2.2.2.2.2.2.2 cn' tt' fd' jn' 16500 660 3300 132 (nI p) (1 : Int32) (G fg) = some (some fg, nI p, T2.1, T2.2.1, T2.2.2.1, T2.2.2.2.1, T2.2.2.2.2.1, T2.2.2.2.2.2.1, us2, wo2, T2.2.2.2.2.2.2.1, T2.2.2.2.2.2.2.2.1, T2.2.2.2.2.2.2.2.2.1, T2.2.2.2.2.2.2.2.2.2.1, T2.2.2.2.2.2.2.2.2.2.2.1, T2.2.2.2.2.2.2.2.2.2.2.2.1, T2.2.2.2.2.2.2.2.2.2.2.2.2.1, T2.2.2.2.2.2.2.2.2.2.2.2.2.2.1, T2.2.2.2.2.2.2.2.2.2.2.2.2.2.2.1, T2.2.2.2.2.2.2.2.2.2.2.2.2.2.2.2.1, T2.2.2.2.2.2.2.2.2.2.2.2.2.2.2.2.2, cn2, tt2, fd2, jn2) := ek
        rw [gisC hk, Option.bind_some, if_neg (show ¬ (1 : Int32) = 0 by decide), ej2, Option.bind_some, if_pos (ggN hk (by decide))]
        dsimp only
        rw [ek2, Option.bind_some, if_pos (ggN hk (by decide)), gin25 hk, Option.bind_some, if_neg (show ¬ (1 : Int32) = 0 by decide), if_pos (ggN hk (by decide)), nI_clamp (by omega)]
        dsimp only
        rw [hwo2 rfl k hk, hj k hk, kd k hk]
        refine ⟨_, _, rfl, rfl, Or.inl ⟨_, rfl, rfl, rfl, fun LG1 G1 sg he hs => ?_⟩⟩
        have c3 := gc2 LG1 G1 sg he hs
        exact ⟨g, past, h1, h2, ⟨hok, (he fg hg).1, by rw [(he fg hg).2]; exact hx, hm.1, hm.2.1, hm'.2.2.1, hm.2.2.2⟩, gPs_ext he h4, c3, gld0 m0, h7⟩
      · rw [gisN hn, Option.bind_some, if_pos rfl, gin25N hn, Option.bind_some, if_pos rfl]
        refine ⟨_, _, rfl, rfl, Or.inl ⟨_, rfl, rfl, rfl, fun LG1 G1 sg he hs => ?_⟩⟩
        obtain ⟨k1, k2, k3, k4, k5, k6, k7, k8⟩ := gCc_ext he h5
        exact ⟨g, past, h1, h2, ⟨hok, (he fg hg).1, by rw [(he fg hg).2]; exact hx, hm.1, hm.2.1, hm'.2.2.1, hm.2.2.2⟩, gPs_ext he h4, ⟨k1, k2, k3, hs, k5, k6, k7, k8⟩, gld0 m0, h7⟩
    · rw [if_neg hz, if_neg (show ¬ nI (gHow g p) = (0 : Int32) by rw [show (0 : Int32) = nI 0 from rfl, nI_eq (by omega) (by decide)]; exact hz)]
      dsimp only [Sum.elim_inr]
      unfold zf_X9_decides_34
      rw [if_neg (show ¬ (2 : Int32) ≤ 0 by decide)]
      exact ⟨_, _, rfl, rfl, Or.inr ⟨_, rfl, Or.inr ⟨rfl, rfl⟩, g, past, h1, h2, h3, h4, gCcS2 h5, h6, h7⟩⟩
  · rw [e1, e2, Option.bind_some, Option.bind_some, if_pos rfl]
    dsimp only [Sum.elim_inr]
    unfold zf_X9_decides_34
    rw [if_neg (show ¬ (1 : Int32) ≤ 0 by decide)]
    exact ⟨_, _, rfl, rfl, Or.inr ⟨_, rfl, Or.inl ⟨rfl, rfl⟩, g, past, h1, h2, h3, h4, gCcS2 h5, h6, h7⟩⟩
