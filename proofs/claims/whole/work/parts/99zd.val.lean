/-! value, barred -/
theorem gweigh {jn : Nat → Int64} {J : Nat → Nat} (hj : ∀ k, k < 25 → jn k = lN (J k)) {f a b : Nat} (hf : f ≤ 24) (hab : a ≤ b) (hb : b ≤ 6) : zf_X8_weighed jn 25 (nI f) (nI a) (nI b) = some (lN (gSum (fun k => J k * (a ^ k * (b - a) ^ (f - k))) (f + 1))) := by
  unfold zf_X8_weighed
  rw [gsumL (f := fun d : Int64 × Int32 => zf_X8_weighed_l6 jn 25 (nI f) (nI a) (nI b) d.1 d.2) (fun k => J k * (a ^ k * (b - a) ^ (f - k))) (f + 1) (by omega) (fun j v hj' => ?_) (fun v => ?_)]
  · rfl
  · dsimp only
    unfold zf_X8_weighed_l6
    rw [if_neg (by rw [nI_ltI (by omega) (by omega)]; omega), show Int32.ofNat 25 = nI 25 from rfl, if_neg (gle50 (a := 25) (by decide) (by omega) (by omega)), if_pos (ggN (by omega) (by decide)), gpow8 (by omega) (by omega), Option.bind_some, gsub hab, gsub (show j ≤ f by omega), gpow8 (by omega) (by omega), Option.bind_some, nI_clamp (by omega), hj j (by omega), lN_mul, lN_mul, nI_1]
  · dsimp only
    unfold zf_X8_weighed_l6
    rw [if_pos (by rw [nI_ltI (by omega) (by omega)]; omega)]
def gUp (g : gG) (a d : Nat) : Nat := gSum (fun k => gJ g k * (a ^ k * d ^ (gFree g - k))) (gFree g + 1)
theorem gUp_le {g : gG} (hok : gOk g) (a d : Nat) : gUp g a d ≤ (a + d) ^ gFree g := by
  have h := gwAll hok a d _ (Nat.le_refl _)
  rw [gFs_all hok.1] at h
  rw [← h]
  exact gSum_le fun k _ => Nat.mul_le_mul_right _ (gJ_ct hok.1 k)
theorem gpow63 {b f : Nat} (hb : b ≤ 6) (hf : f ≤ 24) : b ^ f < 2 ^ 63 := by
  have h1 : b ^ f ≤ 6 ^ f := Nat.pow_le_pow_left hb f
  have h2 : 6 ^ f ≤ 6 ^ 24 := Nat.pow_le_pow_right (by decide) hf
  have h3 : 6 ^ 24 < 2 ^ 63 := by decide
  omega
theorem gupper {g : gG} (hok : gOk g) {fc fr : Int32} {ct cs : Nat → Int32} (hM : gRM g fc fr ct cs) (D : gD9) (hD : gLdD g D) {a b : Nat} (hab : a ≤ b) (hb : b ≤ 6) : ∃ M : gD9, zf_X9_upper fc fr D.1 ct cs D.2.1 D.2.2.1 D.2.2.2.1 D.2.2.2.2.1 D.2.2.2.2.2.1 D.2.2.2.2.2.2.1 D.2.2.2.2.2.2.2.1 D.2.2.2.2.2.2.2.2.1 D.2.2.2.2.2.2.2.2.2.1 D.2.2.2.2.2.2.2.2.2.2 (nI a) (nI b) = some (lN (gUp g a (b - a)), M) ∧ gLdD g M := by
  have f24 := hok.2
  unfold zf_X9_upper
  rw [gX9free hok.1 hM, Option.bind_some]
  have hH := gitH (f := fun d : Int64 × Int32 × gD9 => zf_X9_upper_l11 fc fr ct cs (nI a) (nI b) (nI (gFree g)) d.1 d.2.1 d.2.2.1 d.2.2.2.1 d.2.2.2.2.1 d.2.2.2.2.2.1 d.2.2.2.2.2.2.1 d.2.2.2.2.2.2.2.1 d.2.2.2.2.2.2.2.2.1 d.2.2.2.2.2.2.2.2.2.1 d.2.2.2.2.2.2.2.2.2.2.1 d.2.2.2.2.2.2.2.2.2.2.2.1 d.2.2.2.2.2.2.2.2.2.2.2.2) (fun j d => d.1 = lN (gSum (fun k => gJ g k * (a ^ k * (b - a) ^ (gFree g - k))) j) ∧ d.2.1 = nI j ∧ gLdD g d.2.2) (fun d => d.1 = lN (gUp g a (b - a)) ∧ gLdD g d.2) (gFree g + 1) (n := zfu) (gfu (by omega)) (a := ((0 : Int64), (0 : Int32), D)) ⟨rfl, rfl, hD⟩ ?_ ?_
  · obtain ⟨⟨v, M⟩, e, q1, q2⟩ := hH
    dsimp only at q1 q2
    subst q1
    have e' : zit (fun d : Int64 × Int32 × gD9 => zf_X9_upper_l11 fc fr ct cs (nI a) (nI b) (nI (gFree g)) d.1 d.2.1 d.2.2.1 d.2.2.2.1 d.2.2.2.2.1 d.2.2.2.2.2.1 d.2.2.2.2.2.2.1 d.2.2.2.2.2.2.2.1 d.2.2.2.2.2.2.2.2.1 d.2.2.2.2.2.2.2.2.2.1 d.2.2.2.2.2.2.2.2.2.2.1 d.2.2.2.2.2.2.2.2.2.2.2.1 d.2.2.2.2.2.2.2.2.2.2.2.2) zfu ((0 : Int64), (0 : Int32), D.1, D.2.1, D.2.2.1, D.2.2.2.1, D.2.2.2.2.1, D.2.2.2.2.2.1, D.2.2.2.2.2.2.1, D.2.2.2.2.2.2.2.1, D.2.2.2.2.2.2.2.2.1, D.2.2.2.2.2.2.2.2.2.1, D.2.2.2.2.2.2.2.2.2.2) = some (lN (gUp g a (b - a)), M) := e
    rw [e', Option.bind_some]
    exact ⟨M, rfl, q2⟩
  · rintro j ⟨v, x, E⟩ hj ⟨rfl, rfl, hE⟩
    dsimp only at hE ⊢
    obtain ⟨M, e, m1, m2⟩ := gjoinsOf hok hM E hE (k := j) (by omega)
    unfold zf_X9_upper_l11
    rw [if_neg (by rw [nI_ltI (by omega) (by omega)]; omega), e, Option.bind_some, nI_l (by omega), gpow9 (by omega), Option.bind_some, gsub hab, nI_l (by omega), gsub (show j ≤ gFree g by omega), gpow9 (by omega), Option.bind_some, lN_mul, lN_mul, lN_add, nI_1]
    refine ⟨_, rfl, ?_, rfl, m2⟩
    show lN _ = lN (_ + _)
    rw [Nat.mul_assoc]
  · rintro ⟨v, x, E⟩ ⟨rfl, rfl, hE⟩
    dsimp only at hE ⊢
    unfold zf_X9_upper_l11
    rw [if_pos (by rw [nI_ltI (by omega) (by omega)]; omega)]
    exact ⟨_, rfl, rfl, hE⟩
theorem gP26_ok : gP26 gInv := by
  intro xi xu fg xh xk ac LG G mi mh mk h x1 x2 x3 hb3
  obtain ⟨g, past, h1, h2, h3, h4, h5, h6, h7⟩ := h
  obtain ⟨hok, hg, hx, hm⟩ := id h3
  have f24 := hok.2
  unfold zf_X8_value zf_X9_value
  rw [show (6 : Int32) = nI 6 from rfl]
  rcases gchance 6 (by decide) x1 x2 with ⟨a, b, hab, hb1, hb6, rfl, rfl, e1⟩ | ⟨e1, hn⟩
  · obtain ⟨T, eT, hT, cT⟩ := gcountD hok hg hx h5
    have p63 := gpow63 hb6 f24
    have le := gUp_le hok a (b - a)
    rw [show a + (b - a) = b by omega] at le
    rw [e1, Option.bind_some, gchT9 hab hb1 hb6, Option.bind_some, if_neg (show ¬ (1 : Int32) = 0 by decide)]
    dsimp only [Sum.elim_inl]
    rw [gX2free hok.1 hx, Option.bind_some, eT, Option.bind_some, gweigh hT.2.2.2.2.2.2.1 f24 hab hb6, Option.bind_some, gpow8 (by omega) (by omega), Option.bind_some, show gSum (fun k => gJ g k * (a ^ k * (b - a) ^ (gFree g - k))) (gFree g + 1) = gUp g a (b - a) from rfl, glowest (by omega) p63 (Nat.pow_pos (by omega)), Option.bind_some]
    unfold zf_X9_value_14
    rw [if_pos (show (0 : Int32) ≤ 0 by decide)]
    obtain ⟨M', e', m2'⟩ := gupper hok hm (mi 10, mh 12, mh 13, mk 0, mh 14, mh 15, mh 16, mh 10, mh 17, mk 1, mh 18) h6 hab hb6
    dsimp only at e'
    rw [e', Option.bind_some, gX9free hok.1 hm, Option.bind_some, nI_l (by omega), gpow9 (by omega), Option.bind_some, gpart (by omega) p63 (Nat.pow_pos (by omega)), Option.bind_some]
    exact ⟨_, _, rfl, rfl, Or.inl ⟨_, rfl, rfl, rfl, g, past, h1, h2, h3, h4, cT, m2', h7⟩⟩
  · rw [e1, Option.bind_some, gchN9 hn, Option.bind_some, if_pos rfl]
    dsimp only [Sum.elim_inr]
    unfold zf_X9_value_14
    rw [if_neg (show ¬ (1 : Int32) ≤ 0 by decide)]
    exact ⟨_, _, rfl, rfl, Or.inr ⟨_, rfl, ⟨rfl, rfl⟩, g, past, h1, h2, h3, h4, gCcS h5, h6, h7⟩⟩
theorem gJ_sy {g : gG} (hok : gOk g) {k : Nat} (hk : k ≤ gFree g) : gJ g (gFree g - k) ≤ gCt g (gRS g.1 g.2.1) k ∧ gCt g (gRS g.1 g.2.1) (gFree g - k) = gCt g (gRS g.1 g.2.1) k := by
  have f24 := hok.2
  have e : gCt g (gRS g.1 g.2.1) (gFree g - k) = gCt g (gRS g.1 g.2.1) k := by
    rw [gCt_B hok _ (Nat.le_refl _) _ (by omega), gCt_B hok _ (Nat.le_refl _) _ (by omega), gFs_all hok.1]
    exact gBsy ⟨gFree g, by omega⟩ ⟨k, by omega⟩ hk
  exact ⟨by rw [← e]; exact gJ_ct hok.1 _, e⟩
theorem gBv_n {g : gG} (hok : gOk g) (h1 : g.2.1 ≠ 1) {k : Nat} (hk : k ≤ gFree g) : gBv g k = lN (gCt g (gRS g.1 g.2.1) (gFree g - k) - gJ g (gFree g - k)) := by
  have f24 := hok.2
  unfold gBv
  rw [if_neg h1, if_pos hk, gCt_ch hok (by omega), lN_sub (gJ_sy hok hk).1, (gJ_sy hok hk).2]
def gBu2 (g : gG) (a d : Nat) : Nat := if g.2.1 = 1 then 0 else (a + d) ^ gFree g - gUp g a d
theorem gBsum {g : gG} (hok : gOk g) (h1 : g.2.1 ≠ 1) (a d : Nat) : gSum (fun k => (gCt g (gRS g.1 g.2.1) (gFree g - k) - gJ g (gFree g - k)) * (d ^ k * a ^ (gFree g - k))) (gFree g + 1) = gBu2 g a d := by
  have h := gwAll hok a d _ (Nat.le_refl _)
  rw [gFs_all hok.1] at h
  have r := gSum_rev (gFree g) (fun j => (gCt g (gRS g.1 g.2.1) j - gJ g j) * (a ^ j * d ^ (gFree g - j)))
  have e : gSum (fun k => (gCt g (gRS g.1 g.2.1) (gFree g - k) - gJ g (gFree g - k)) * (d ^ k * a ^ (gFree g - k))) (gFree g + 1) = gSum (fun j => (gCt g (gRS g.1 g.2.1) j - gJ g j) * (a ^ j * d ^ (gFree g - j))) (gFree g + 1) := by
    rw [← r]
    refine gSum_cong fun k hk => ?_
    rw [show gFree g - (gFree g - k) = k by omega, Nat.mul_comm (d ^ k)]
  rw [e]
  unfold gBu2
  rw [if_neg h1, ← h]
  have add : gSum (fun j => (gCt g (gRS g.1 g.2.1) j - gJ g j) * (a ^ j * d ^ (gFree g - j))) (gFree g + 1) + gUp g a d = gSum (fun k => gCt g (gRS g.1 g.2.1) k * (a ^ k * d ^ (gFree g - k))) (gFree g + 1) := by
    unfold gUp
    rw [← gSum_add]
    refine gSum_cong fun k _ => ?_
    rw [← Nat.add_mul, Nat.sub_add_cancel (gJ_ct hok.1 k)]
  omega
theorem gbarredM {g : gG} (hok : gOk g) {fc fr : Int32} {ct cs : Nat → Int32} (hM : gRM g fc fr ct cs) (D : gD9) (hD : gLdD g D) {a b : Nat} (hab : a ≤ b) (hb : b ≤ 6) : ∃ M : gD9, zit (fun d : Int64 × Int32 × gD9 => zf_X9_barred_l38 fc fr ct cs (nI a) (nI b) (nI (gFree g)) d.1 d.2.1 d.2.2.1 d.2.2.2.1 d.2.2.2.2.1 d.2.2.2.2.2.1 d.2.2.2.2.2.2.1 d.2.2.2.2.2.2.2.1 d.2.2.2.2.2.2.2.2.1 d.2.2.2.2.2.2.2.2.2.1 d.2.2.2.2.2.2.2.2.2.2.1 d.2.2.2.2.2.2.2.2.2.2.2.1 d.2.2.2.2.2.2.2.2.2.2.2.2) zfu ((0 : Int64), (0 : Int32), D.1, D.2.1, D.2.2.1, D.2.2.2.1, D.2.2.2.2.1, D.2.2.2.2.2.1, D.2.2.2.2.2.2.1, D.2.2.2.2.2.2.2.1, D.2.2.2.2.2.2.2.2.1, D.2.2.2.2.2.2.2.2.2.1, D.2.2.2.2.2.2.2.2.2.2) = some (lN (gBu2 g a (b - a)), M) ∧ gLdD g M := by
  have f24 := hok.2
  let F : Nat → Nat := fun k => if g.2.1 = 1 then 0 else (gCt g (gRS g.1 g.2.1) (gFree g - k) - gJ g (gFree g - k)) * ((b - a) ^ k * a ^ (gFree g - k))
  have hH := gitH (f := fun d : Int64 × Int32 × gD9 => zf_X9_barred_l38 fc fr ct cs (nI a) (nI b) (nI (gFree g)) d.1 d.2.1 d.2.2.1 d.2.2.2.1 d.2.2.2.2.1 d.2.2.2.2.2.1 d.2.2.2.2.2.2.1 d.2.2.2.2.2.2.2.1 d.2.2.2.2.2.2.2.2.1 d.2.2.2.2.2.2.2.2.2.1 d.2.2.2.2.2.2.2.2.2.2.1 d.2.2.2.2.2.2.2.2.2.2.2.1 d.2.2.2.2.2.2.2.2.2.2.2.2) (fun j d => d.1 = lN (gSum F j) ∧ d.2.1 = nI j ∧ gLdD g d.2.2) (fun d => d.1 = lN (gSum F (gFree g + 1)) ∧ gLdD g d.2) (gFree g + 1) (n := zfu) (gfu (by omega)) (a := ((0 : Int64), (0 : Int32), D)) ⟨rfl, rfl, hD⟩ ?_ ?_
  · obtain ⟨⟨v, M⟩, e, q1, q2⟩ := hH
    dsimp only at q1 q2
    subst q1
    refine ⟨M, ?_, q2⟩
    have ef : gSum F (gFree g + 1) = gBu2 g a (b - a) := by
      by_cases r : g.2.1 = 1
      · rw [gSum_z (fun k _ => if_pos r)]
        unfold gBu2
        rw [if_pos r]
      · rw [← gBsum hok r a (b - a)]
        exact gSum_cong fun k _ => if_neg r
    rw [← ef]
    exact e
  · rintro j ⟨v, x, E⟩ hj ⟨rfl, rfl, hE⟩
    dsimp only at hE ⊢
    obtain ⟨M, e, m2⟩ := gbarsOf hok hM E hE (k := j) (by omega)
    unfold zf_X9_barred_l38
    rw [if_neg (by rw [nI_ltI (by omega) (by omega)]; omega), e, Option.bind_some, gsub hab, nI_l (by omega), gpow9 (by omega), Option.bind_some, nI_l (by omega), gsub (show j ≤ gFree g by omega), gpow9 (by omega), Option.bind_some, nI_1]
    refine ⟨_, rfl, ?_, rfl, m2⟩
    show lN (gSum F j) + gBv g j * lN ((b - a) ^ j) * lN (a ^ (gFree g - j)) = lN (gSum F j + F j)
    by_cases r : g.2.1 = 1
    · have f0 : F j = 0 := if_pos r
      rw [f0, show gBv g j = lN 0 from by unfold gBv; rw [if_pos r]; rfl, lN_mul, lN_mul, lN_add]
      simp
    · have f0 : F j = (gCt g (gRS g.1 g.2.1) (gFree g - j) - gJ g (gFree g - j)) * ((b - a) ^ j * a ^ (gFree g - j)) := if_neg r
      rw [f0, gBv_n hok r (by omega), lN_mul, lN_mul, lN_add, Nat.mul_assoc]
  · rintro ⟨v, x, E⟩ ⟨rfl, rfl, hE⟩
    dsimp only at hE ⊢
    unfold zf_X9_barred_l38
    rw [if_pos (by rw [nI_ltI (by omega) (by omega)]; omega)]
    exact ⟨_, rfl, rfl, hE⟩
theorem gP27_ok : gP27 gInv := by
  intro xi xu fg xh xk ac LG G mi mh mk h x1 x2 x3 hb3
  obtain ⟨g, past, h1, h2, h3, h4, h5, h6, h7⟩ := h
  obtain ⟨hok, hg, hx, hm⟩ := id h3
  have f24 := hok.2
  have hr := hok.1.2.1
  unfold zf_X8_barred zf_X9_barred
  rw [show (6 : Int32) = nI 6 from rfl]
  rcases gchance 6 (by decide) x1 x2 with ⟨a, b, hab, hb1, hb6, rfl, rfl, e1⟩ | ⟨e1, hn⟩
  · obtain ⟨M, eM, m2⟩ := gbarredM hok hm (mi 10, mh 12, mh 13, mk 0, mh 14, mh 15, mh 16, mh 10, mh 17, mk 1, mh 18) h6 hab hb6
    dsimp only at eM
    have p63 := gpow63 hb6 f24
    have le := gUp_le hok a (b - a)
    rw [show a + (b - a) = b by omega] at le
    have bp : 0 < b ^ gFree g := Nat.pow_pos (by omega)
    rw [e1, Option.bind_some, gchT9 hab hb1 hb6, Option.bind_some, if_neg (show ¬ (1 : Int32) = 0 by decide)]
    dsimp only [Sum.elim_inl]
    unfold zf_X9_barred_14
    by_cases r : g.2.1 = 1
    · have u0 : gBu2 g a (b - a) = 0 := if_pos r
      rw [gX2free hok.1 hx, Option.bind_some, gpow8 (by omega) (by omega), Option.bind_some, hx.2.1, if_neg (by rw [r]; decide), if_pos (show (0 : Int32) ≤ 0 by decide), gX9free hok.1 hm, Option.bind_some, eM, Option.bind_some, nI_l (by omega), gpow9 (by omega), Option.bind_some, u0, gpart (by decide) p63 bp, Option.bind_some]
      unfold zf_X8_barred_56
      rw [show (0 : Int64) = lN 0 from rfl, glowest (by decide) p63 bp, Option.bind_some]
      exact ⟨_, _, rfl, rfl, Or.inl ⟨_, rfl, rfl, rfl, g, past, h1, h2, h3, h4, gCcS h5, m2, h7⟩⟩
    · have u0 : gBu2 g a (b - a) = b ^ gFree g - gUp g a (b - a) := by unfold gBu2; rw [if_neg r, show a + (b - a) = b by omega]
      obtain ⟨T, eT, hT, cT⟩ := gcountD hok hg hx h5
      rw [gX2free hok.1 hx, Option.bind_some, gpow8 (by omega) (by omega), Option.bind_some, hx.2.1, if_pos (by rw [show (2 : Int32) = nI 2 from rfl, nI_leI (by decide) (by omega)]; omega), eT, Option.bind_some, gweigh hT.2.2.2.2.2.2.1 f24 hab hb6, Option.bind_some, show gSum (fun k => gJ g k * (a ^ k * (b - a) ^ (gFree g - k))) (gFree g + 1) = gUp g a (b - a) from rfl, lN_sub le, if_pos (show (0 : Int32) ≤ 0 by decide), gX9free hok.1 hm, Option.bind_some, eM, Option.bind_some, nI_l (by omega), gpow9 (by omega), Option.bind_some, u0, gpart (by omega) p63 bp, Option.bind_some]
      unfold zf_X8_barred_56
      rw [glowest (by omega) p63 bp, Option.bind_some]
      exact ⟨_, _, rfl, rfl, Or.inl ⟨_, rfl, rfl, rfl, g, past, h1, h2, h3, h4, cT, m2, h7⟩⟩
  · rw [e1, Option.bind_some, gchN9 hn, Option.bind_some, if_pos rfl]
    dsimp only [Sum.elim_inr]
    unfold zf_X9_barred_14
    rw [if_neg (show ¬ (1 : Int32) ≤ 0 by decide)]
    exact ⟨_, _, rfl, rfl, Or.inr ⟨_, rfl, ⟨rfl, rfl⟩, g, past, h1, h2, h3, h4, gCcS h5, h6, h7⟩⟩
