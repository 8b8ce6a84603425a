/-! wetness, depth -/
theorem gSum_mulr (c : Nat) (f : Nat → Nat) (n : Nat) : gSum (fun i => f i * c) n = gSum f n * c := by
  rw [Nat.mul_comm, ← gSum_mul]
  exact gSum_cong fun i _ => Nat.mul_comm _ _
/-- a loop that adds up to something -/
theorem gsumV {f : Int64 × Int32 → Option ((Int64 × Int32) ⊕ Int64)} (v0 : Int64) (F : Nat → Nat) (m : Nat) (hm : m < 1000000) (hs : ∀ j v, j < m → f (v, nI j) = some (.inl (v + lN (F j), nI (j + 1)))) (hb : ∀ v, f (v, nI m) = some (.inr v)) : zit f zfu (v0, (0 : Int32)) = some (v0 + lN (gSum F m)) := by
  have e := gitr (f := f) (fun j => (v0 + lN (gSum F j), nI j)) m (n := zfu) (b := v0 + lN (gSum F m)) (gfu hm) ?_ ?_
  · rw [← e]
    show _ = zit f zfu (v0 + lN 0, nI 0)
    rw [show lN 0 = (0 : Int64) from rfl, Int64.add_zero]
    rfl
  · intro j hj
    rw [hs j _ hj, Int64.add_assoc, lN_add]
    rfl
  · exact hb _
theorem gbc5 : ∀ m : Fin 32, zf_J6_bitCount_0f7a4 (nI m.val) = some (nI (gct m.val.testBit 5)) := by decide +kernel
/-- how much a state of a row weighs -/
def gQw (g : gG) (row a d s : Nat) : Nat := gSum (fun k => gW g row s k * (a ^ k * d ^ (gFs g (gEnd g row) - k))) (gFs g (gEnd g row) + 1)
theorem gQw_all {g : gG} (hok : gOk g) {row : Nat} (hr : row < g.2.1) (a d : Nat) : gSum (gQw g row a d) (gSz g.1) = (a + d) ^ gFs g (gEnd g row) := by
  rw [← gwAll hok a d _ (gEnd_le hok.1 hr)]
  show gSum (fun s => gSum (fun k => gW g row s k * (a ^ k * d ^ (gFs g (gEnd g row) - k))) (gFs g (gEnd g row) + 1)) (gSz g.1) = _
  rw [gSum_swap]
  refine gSum_cong fun k _ => ?_
  rw [gSum_mulr]
  rfl
theorem gQw_le {g : gG} (hok : gOk g) {row : Nat} (hr : row < g.2.1) (a d : Nat) (F : Nat → Nat) (hF : ∀ s, F s ≤ gQw g row a d s) : gSum F (gSz g.1) ≤ (a + d) ^ gFs g (gEnd g row) := by
  rw [← gQw_all hok hr a d]
  exact gSum_le fun s _ => hF s
theorem gQw_z {g : gG} {row a d s : Nat} (h : ∀ k, gW g row s k = 0) : gQw g row a d s = 0 := gSum_z fun k _ => by rw [h, Nat.zero_mul]
theorem gEndL {g : gG} (hw : gWf g) : gFs g (gEnd g (g.2.1 - 1)) = gFree g := by
  have hr := hw.2.1
  show gFs g (gRS g.1 (g.2.1 - 1 + 1)) = _
  rw [Nat.sub_add_cancel hr.1, gFs_all hw]
/-- what a cell of the last row weighs by being wet -/
def gUx (g : gG) (a d x : Nat) : Nat := gSum (fun s => if (gWs g.1 s).testBit x then gQw g (g.2.1 - 1) a d s else 0) (gSz g.1)
theorem gUx_le {g : gG} (hok : gOk g) (a d x : Nat) : gUx g a d x ≤ (a + d) ^ gFree g := by
  have hr := hok.1.2.1
  rw [← gEndL hok.1]
  exact gQw_le hok (by omega) a d _ fun s => by
    by_cases q : (gWs g.1 s).testBit x = true
    · rw [if_pos q]; exact Nat.le_refl _
    · rw [if_neg q]; exact Nat.zero_le _
def gWne (g : gG) (a d : Nat) : Nat := gSum (fun k => gSum (fun s => gct (gWs g.1 s).testBit 5 * gW g (g.2.1 - 1) s k) (gSz g.1) * (a ^ k * d ^ (gFree g - k))) (gFree g + 1)
theorem gct_sum (f : Nat → Bool) (q n : Nat) : gct f n * q = gSum (fun x => if f x then q else 0) n := by
  induction n with
  | zero => rw [gct0, Nat.zero_mul]; rfl
  | succ n ih =>
    show _ = gSum _ n + (if f n then q else 0)
    rw [gctS, Nat.add_mul, ih]
    cases f n <;> simp
theorem gWn_E {g : gG} (hok : gOk g) (a d : Nat) : gWne g a d = gSum (gUx g a d) g.1 := by
  have hc := hok.1.1
  have e1 : gWne g a d = gSum (fun s => gct (gWs g.1 s).testBit 5 * gQw g (g.2.1 - 1) a d s) (gSz g.1) := by
    unfold gWne gQw
    rw [gEndL hok.1]
    rw [gSum_cong (f' := fun k => gSum (fun s => gct (gWs g.1 s).testBit 5 * (gW g (g.2.1 - 1) s k * (a ^ k * d ^ (gFree g - k)))) (gSz g.1)) (fun k _ => by
      rw [← gSum_mulr]
      exact gSum_cong fun s _ => Nat.mul_assoc _ _ _), gSum_swap]
    exact gSum_cong fun s _ => gSum_mul _ _ _
  rw [e1]
  unfold gUx
  rw [gSum_swap]
  refine gSum_cong fun s hs => ?_
  rw [← gct_sum]
  congr 1
  exact gct_cut hc.2 fun i h1 h2 => by rw [gWs_bit hc.2 hs, decide_eq_false (by omega)]; rfl
theorem gwnK {g : gG} (hok : gOk g) {d : zGD} (hx : gRX g d) {cn tt : Nat → Int64} {fd : Nat → Int32} {jn : Nat → Int64} (hF : gFl g cn tt fd jn) {wt mv sp ss rs : Nat → Int32} (hl : gLz g wt mv sp ss rs) {k : Nat} (hk : k < 25) : zit (fun e : Int64 × Int32 => zf_X8_wetness_l40 (nI (gSz g.1)) 5 wt cn 16500 (nI k) d e.1 e.2) zfu ((0 : Int64), (0 : Int32)) = some (lN (gSum (fun s => gct (gWs g.1 s).testBit 5 * gW g (g.2.1 - 1) s k) (gSz g.1))) := by
  have hw := hok.1
  have hr5 := hw.2.1
  have hz := gSzle hw.1.2
  refine gsumL _ _ (by omega) (fun j v hj => ?_) (fun v => ?_)
  · have w32 := gWs32 hw.1.2 hj
    have c5 := gct_le (gWs g.1 j).testBit 5
    have bc := gbc5 ⟨gWs g.1 j, w32⟩
    dsimp only at bc
    dsimp only
    unfold zf_X8_wetness_l40
    rw [if_neg (gle50 (by omega) (by omega) hj), if_pos (ggN (by omega) (by decide)), nI_clamp (by omega), hl.1 j hj, bc, Option.bind_some, hx.2.1, show nI g.2.1 - 1 = nI (g.2.1 - 1) by rw [show (1 : Int32) = nI 1 from rfl, gsub (by omega)], gwaysTo hw hF (by omega) hj hk, Option.bind_some, nI_l (by omega), lN_mul, nI_1]
  · dsimp only
    unfold zf_X8_wetness_l40
    rw [if_pos (Int32.le_refl _)]
theorem gwnC {g : gG} (hok : gOk g) {d : zGD} (hx : gRX g d) {cn tt : Nat → Int64} {fd : Nat → Int32} {jn : Nat → Int64} (hF : gFl g cn tt fd jn) {wt mv sp ss rs : Nat → Int32} (hl : gLz g wt mv sp ss rs) {a b : Nat} (hab : a ≤ b) (hb : b ≤ 6) : zit (fun e : Int64 × Int32 => zf_X8_wetness_l27 (nI (gSz g.1)) 5 wt cn 16500 (nI a) (nI b) (nI (gFree g)) d e.1 e.2) zfu ((0 : Int64), (0 : Int32)) = some (lN (gWne g a (b - a))) := by
  have f24 := hok.2
  refine gsumL (fun k => gSum (fun s => gct (gWs g.1 s).testBit 5 * gW g (g.2.1 - 1) s k) (gSz g.1) * (a ^ k * (b - a) ^ (gFree g - k))) _ (by omega) (fun j v hj => ?_) (fun v => ?_)
  · dsimp only
    unfold zf_X8_wetness_l27
    rw [if_neg (by rw [nI_ltI (by omega) (by omega)]; omega), gwnK hok hx hF hl (by omega), Option.bind_some, gpow8 (by omega) (by omega), Option.bind_some, gsub hab, gsub (show j ≤ gFree g by omega), gpow8 (by omega) (by omega), Option.bind_some, lN_mul, lN_mul, nI_1]
  · dsimp only
    unfold zf_X8_wetness_l27
    rw [if_pos (by rw [nI_ltI (by omega) (by omega)]; omega)]
theorem gwxM {g : gG} (hok : gOk g) {M : gD9} (m1 : M.1 = 1) (m2 : gLdD g M) {a b x : Nat} (hab : a ≤ b) (hb : b ≤ 6) (hx : x < g.1) : zit (fun d : Int64 × Int32 => zf_X9_wetness_l87 (nI g.1) (nI g.2.1) M.2.1 M.2.2.1 M.2.2.2.1 (nI a) (nI b) (nI (gFree g)) ((300 : Int32) * (nI g.2.1 - (1 : Int32))) (nI x) d.1 d.2) zfu ((0 : Int64), (0 : Int32)) = some (lN (gUx g a (b - a) x)) := by
  have hw := hok.1
  have hr5 := hw.2.1
  have hc5 := hw.1
  have f24 := hok.2
  have hr : g.2.1 - 1 < g.2.1 := by omega
  have hlen := gSts_len hw (g.2.1 - 1)
  have hL := gLdR m1 m2 hr
  unfold gUx
  rw [← gSts_sum hok hr (fun s => if (gWs g.1 s).testBit x then gQw g (g.2.1 - 1) a (b - a) s else 0) (fun s hs => by rw [gQw_z hs]; exact ite_self 0)]
  have z5 : nI g.2.1 - 1 = nI (g.2.1 - 1) := by rw [show (1 : Int32) = nI 1 from rfl, gsub (by omega)]
  rw [z5, show (300 : Int32) = nI 300 from rfl, gmul]
  refine gsumL _ _ (by omega) (fun j v hj => ?_) (fun v => ?_)
  · obtain ⟨a1, a2⟩ := hL.2 j _ (ggetD hj)
    obtain ⟨b1, b2⟩ := gSts_good hok hr (List.mem_of_getElem? (ggetD hj))
    have w32 := gWs32 hw.1.2 b1
    dsimp only
    unfold zf_X9_wetness_l87 zf_X9_wetness_186
    have bt := gbitT ⟨gWs g.1 ((gSts g (g.2.1 - 1)).getD j 0), by omega⟩ ⟨x, by omega⟩
    dsimp only at bt
    rw [z5, if_pos (ggN (by omega) (by decide)), nI_clamp (by omega), hL.1, if_neg (gle50 (by omega) (by omega) hj), nI_add, if_pos (ggN (by omega) (by decide)), nI_clamp (by omega), a1, gwetS hw b1 b2, Option.bind_some, bt, nI_1]
    by_cases q : (gWs g.1 ((gSts g (g.2.1 - 1)).getD j 0)).testBit x = true
    · rw [if_pos q, if_pos q, if_neg (show ¬ nI 1 = (0 : Int32) by decide), gsumV v (fun k => gW g (g.2.1 - 1) ((gSts g (g.2.1 - 1)).getD j 0) k * (a ^ k * (b - a) ^ (gFs g (gEnd g (g.2.1 - 1)) - k))) (gFs g (gEnd g (g.2.1 - 1)) + 1) (by rw [gEndL hw]; omega) (fun k w hk => ?_) (fun w => ?_), Option.bind_some]
      · rfl
      · rw [gEndL hw] at hk ⊢
        dsimp only
        unfold zf_X9_wetness_l131
        rw [if_neg (by rw [nI_ltI (by omega) (by omega)]; omega), nI_add, show (25 : Int32) = nI 25 from rfl, gmul, nI_add, if_pos (ggN (by omega) (by decide)), nI_l (by omega), gpow9 (by omega), Option.bind_some, gsub hab, nI_l (by omega), gsub (show k ≤ gFree g by omega), gpow9 (by omega), Option.bind_some, nI_clamp (by omega), a2 k (by omega), lN_mul, lN_mul, nI_1, Nat.mul_assoc]
      · rw [gEndL hw]
        dsimp only
        unfold zf_X9_wetness_l131
        rw [if_pos (by rw [nI_ltI (by omega) (by omega)]; omega)]
    · rw [if_neg q, if_neg q, if_pos (show nI 0 = (0 : Int32) from rfl), show lN 0 = (0 : Int64) from rfl, Int64.add_zero]
  · dsimp only
    unfold zf_X9_wetness_l87
    rw [z5, if_pos (ggN (by omega) (by decide)), nI_clamp (by omega), hL.1, if_pos (Int32.le_refl _)]
theorem gwnM {g : gG} (hok : gOk g) {M : gD9} (m1 : M.1 = 1) (m2 : gLdD g M) {a b : Nat} (hab : a ≤ b) (h1 : 1 ≤ b) (hb : b ≤ 6) : ∃ q r, q * b ^ gFree g + r = gWne g a (b - a) ∧ r < b ^ gFree g ∧ zit (fun d : Int64 × Int64 × Int32 => zf_X9_wetness_l72 (nI g.1) (nI g.2.1) M.2.1 M.2.2.1 M.2.2.2.1 (nI a) (nI b) (nI (gFree g)) (lN (b ^ gFree g)) ((300 : Int32) * (nI g.2.1 - (1 : Int32))) d.1 d.2.1 d.2.2) zfu ((0 : Int64), (0 : Int64), (0 : Int32)) = some (lN q, lN r) := by
  have f24 := hok.2
  have hc5 := hok.1.1
  have p63 := gpow63 hb f24
  have bp : 0 < b ^ gFree g := Nat.pow_pos (by omega)
  have hH := gitH (f := fun d : Int64 × Int64 × Int32 => zf_X9_wetness_l72 (nI g.1) (nI g.2.1) M.2.1 M.2.2.1 M.2.2.2.1 (nI a) (nI b) (nI (gFree g)) (lN (b ^ gFree g)) ((300 : Int32) * (nI g.2.1 - (1 : Int32))) d.1 d.2.1 d.2.2) (fun j d => ∃ q r, d = (lN q, lN r, nI j) ∧ q * b ^ gFree g + r = gSum (gUx g a (b - a)) j ∧ r < b ^ gFree g) (fun d => ∃ q r, d = (lN q, lN r) ∧ q * b ^ gFree g + r = gSum (gUx g a (b - a)) g.1 ∧ r < b ^ gFree g) g.1 (n := zfu) (gfu (by omega)) (a := ((0 : Int64), (0 : Int64), (0 : Int32))) ⟨0, 0, rfl, by rw [Nat.zero_mul]; rfl, bp⟩ ?_ ?_
  · obtain ⟨_, e, q, r, rfl, h2, h3⟩ := hH
    exact ⟨q, r, by rw [gWn_E hok]; exact h2, h3, e⟩
  · rintro j _ hj ⟨q, r, rfl, h2, h3⟩
    dsimp only
    have le := gUx_le hok a (b - a) j
    rw [show a + (b - a) = b by omega] at le
    unfold zf_X9_wetness_l72 zf_X9_wetness_229
    rw [if_neg (gle50 (by omega) (by omega) hj), gwxM hok m1 m2 hab hb hj, Option.bind_some, lN_sub le, nI_1]
    by_cases s : r < b ^ gFree g - gUx g a (b - a) j
    · rw [if_pos (by rw [lg_cmp_lt, gLlt (by omega) (by omega)]; exact s), lN_add]
      refine ⟨_, rfl, q, r + gUx g a (b - a) j, rfl, ?_, by omega⟩
      show _ = gSum (gUx g a (b - a)) j + gUx g a (b - a) j
      omega
    · rw [if_neg (by rw [lg_cmp_lt, gLlt (by omega) (by omega)]; exact s), lN_1, lN_sub (by omega)]
      refine ⟨_, rfl, q + 1, r - (b ^ gFree g - gUx g a (b - a) j), rfl, ?_, by omega⟩
      show _ = gSum (gUx g a (b - a)) j + gUx g a (b - a) j
      rw [Nat.add_mul, Nat.one_mul]
      omega
  · rintro _ ⟨q, r, rfl, h2, h3⟩
    dsimp only
    unfold zf_X9_wetness_l72
    rw [if_pos (Int32.le_refl _)]
    exact ⟨_, rfl, q, r, rfl, h2, h3⟩
theorem gpow5 {b f : Nat} (hb : b ≤ 5) (hf : f ≤ 24) : 5 * b ^ f < 2 ^ 63 := by
  have h1 : b ^ f ≤ 5 ^ f := Nat.pow_le_pow_left hb f
  have h2 : 5 ^ f ≤ 5 ^ 24 := Nat.pow_le_pow_right (by decide) hf
  have h3 : 5 * 5 ^ 24 < 2 ^ 63 := by decide
  omega
theorem gSum_bd {f : Nat → Nat} {n B : Nat} (h : ∀ i, i < n → f i ≤ B) : gSum f n ≤ n * B := by
  induction n with
  | zero => rw [Nat.zero_mul]; exact Nat.le_refl _
  | succ n ih =>
    show gSum f n + f n ≤ _
    rw [Nat.add_mul, Nat.one_mul]
    exact Nat.add_le_add (ih fun i hi => h i (by omega)) (h n (by omega))
theorem gWn_le {g : gG} (hok : gOk g) (a d : Nat) : gWne g a d ≤ 5 * (a + d) ^ gFree g := by
  rw [gWn_E hok]
  exact Nat.le_trans (gSum_bd fun x _ => gUx_le hok a d x) (Nat.mul_le_mul_right _ hok.1.1.2)
theorem gP29_ok : gP29 gInv := by
  intro xi xu fg xh xk ac LG G mi mh mk h x1 x2 x3 hb3
  obtain ⟨g, past, h1, h2, h3, h4, h5, h6, h7⟩ := h
  obtain ⟨hok, hg, hx, hm⟩ := id h3
  have b5 : xi 11 = 5 := h5.2.1
  have f24 := hok.2
  have m19 : zf_X9_wetness_19 (mi 7) (mi 8) (mi 10) (mh 4) (mh 5) (mh 12) (mh 13) (mk 0) (mh 14) (mh 15) (mh 16) (mh 10) (mh 17) (mk 1) (mh 18) x1 x2 x3 = some (0, 1, (mi 10, mh 12, mh 13, mk 0, mh 14, mh 15, mh 16, mh 10, mh 17, mk 1, mh 18)) := by
    unfold zf_X9_wetness_19 zf_X9_wetness_20
    rw [if_neg (show ¬ (1 : Int32) ≤ 0 by decide)]
  unfold zf_X8_wetness zf_X9_wetness
  rw [show (5 : Int32) = nI 5 from rfl, m19]
  rcases gchance 5 (by decide) x1 x2 with ⟨a, b, hab, hb1, hb5, rfl, rfl, e1⟩ | ⟨e1, hn⟩
  · obtain ⟨T, eT, hT, cT⟩ := gcountD hok hg hx h5
    obtain ⟨M, eM, m1, m2⟩ := glaysD hok hm (mi 10, mh 12, mh 13, mk 0, mh 14, mh 15, mh 16, mh 10, mh 17, mk 1, mh 18) h6
    dsimp only at eM
    have p63 := gpow63 (show b ≤ 6 by omega) f24
    have p5 := gpow5 hb5 f24
    have le := gWn_le hok a (b - a)
    rw [show a + (b - a) = b by omega] at le
    have bp : 0 < b ^ gFree g := Nat.pow_pos (by omega)
    obtain ⟨q, r, hqr, hr, eW⟩ := gwnM hok m1 m2 hab hb1 (by omega)
    rw [← hm.1, ← hm.2.1] at eW
    have eC := gwnC hok hx hT.2.2.2.2.2.2 hT.2.2.2.2.2.1 hab (show b ≤ 6 by omega)
    rw [← hT.2.2.1] at eC
    rw [e1, Option.bind_some, gchT9 hab hb1 (by omega), Option.bind_some, if_neg (show ¬ (1 : Int32) = 0 by decide), if_neg (gle6 (by omega))]
    dsimp only [Sum.elim_inl]
    rw [eT, Option.bind_some, gX2free hok.1 hx, Option.bind_some, b5, eC, Option.bind_some, gpow8 (by omega) (by omega), Option.bind_some, glowest (by omega) p63 bp, Option.bind_some]
    unfold zf_X9_wetness_20
    rw [if_pos (show (0 : Int32) ≤ 0 by decide), eM, Option.bind_some, gX9free hok.1 hm, Option.bind_some, nI_l (by omega), gpow9 (by omega), Option.bind_some, eW, Option.bind_some, gdivisor p63 (by omega), Option.bind_some]
    have gg : Nat.gcd (gWne g a (b - a)) (b ^ gFree g) = Nat.gcd (b ^ gFree g) r := by
      rw [← hqr, Nat.gcd_mul_right_add_left, Nat.gcd_comm]
    have gp : 0 < Nat.gcd (b ^ gFree g) r := Nat.gcd_pos_of_pos_left r bp
    have gl : Nat.gcd (b ^ gFree g) r < 2 ^ 63 := Nat.lt_of_le_of_lt (Nat.gcd_le_left r bp) p63
    have n0 : ¬ lN (Nat.gcd (b ^ gFree g) r) = 0 := fun e => by have := (gLz0 gl).mp e; omega
    rw [if_neg n0, gLdiv p63 gl gp, gLdiv (by omega) gl gp, lN_mul, lN_add, gg]
    have ev : gWne g a (b - a) / Nat.gcd (b ^ gFree g) r = q * (b ^ gFree g / Nat.gcd (b ^ gFree g) r) + r / Nat.gcd (b ^ gFree g) r := by
      obtain ⟨A, hA⟩ := Nat.gcd_dvd_left (b ^ gFree g) r
      obtain ⟨R, hR⟩ := Nat.gcd_dvd_right (b ^ gFree g) r
      have k1 : b ^ gFree g / Nat.gcd (b ^ gFree g) r = A := Nat.div_eq_of_eq_mul_right gp hA
      have k2 : r / Nat.gcd (b ^ gFree g) r = R := Nat.div_eq_of_eq_mul_right gp hR
      rw [k1, k2]
      refine Nat.div_eq_of_eq_mul_right gp ?_
      rw [← hqr, Nat.mul_add, ← hR, Nat.mul_left_comm, ← hA]
    rw [ev]
    rcases hb3 with rfl | rfl
    · rw [if_pos rfl, if_pos rfl, if_neg n0]
      exact ⟨_, _, rfl, rfl, Or.inl ⟨_, rfl, rfl, rfl, g, past, h1, h2, h3, h4, cT, m2, h7⟩⟩
    · rw [if_neg (show ¬ (1 : Int32) = 0 by decide), if_neg (show ¬ (1 : Int32) = 0 by decide), if_neg n0]
      exact ⟨_, _, rfl, rfl, Or.inl ⟨_, rfl, rfl, rfl, g, past, h1, h2, h3, h4, cT, m2, h7⟩⟩
  · rw [e1, Option.bind_some]
    dsimp only [Sum.elim_inr]
    by_cases z : x2 < 1 ∨ (6 : Int32) < x2 ∨ x1 < 0 ∨ ¬ x1 ≤ x2
    · rw [gchN9 z, Option.bind_some, if_pos rfl]
      exact ⟨_, _, rfl, rfl, Or.inr ⟨_, rfl, ⟨rfl, rfl⟩, g, past, h1, h2, h3, h4, gCcS h5, h6, h7⟩⟩
    · have e6 : (6 : Int32) ≤ x2 := by
        have n5 : nI 5 < x2 := by
          rcases hn with h | h | h | h
          · exact absurd (Or.inl h) z
          · exact h
          · exact absurd (Or.inr (Or.inr (Or.inl h))) z
          · exact absurd (Or.inr (Or.inr (Or.inr h))) z
        rw [Int32.lt_iff_toInt_lt] at n5
        rw [Int32.le_iff_toInt_le]
        have k5 : (nI 5).toInt = 5 := rfl
        have k6 : (6 : Int32).toInt = 6 := rfl
        omega
      have ch : ∃ v, zf_X9_isChance x1 x2 = some v := by
        unfold zf_X9_isChance
        rw [gIn, Option.bind_some, gIn, Option.bind_some]
        by_cases p : (if x2 < 1 then (0 : Int32) else if x2 ≤ 6 then 1 else 0) = 0
        · rw [if_pos p]; exact ⟨_, rfl⟩
        · rw [if_neg p]
          by_cases p2 : (if x1 < 0 then (0 : Int32) else if x1 ≤ x2 then 1 else 0) = 0
          · rw [if_pos p2]; exact ⟨_, rfl⟩
          · rw [if_neg p2]; exact ⟨_, rfl⟩
      obtain ⟨v, ev⟩ := ch
      rw [ev, Option.bind_some, if_pos e6, ite_self]
      exact ⟨_, _, rfl, rfl, Or.inr ⟨_, rfl, ⟨rfl, rfl⟩, g, past, h1, h2, h3, h4, gCcS h5, h6, h7⟩⟩
