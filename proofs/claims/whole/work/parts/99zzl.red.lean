/-! read: the case -/
theorem gP2_ok : gP2 gInv := by
  intro xi xu fg xh xk ac LG G mi mh mk h
  obtain ⟨g, past, h1, h2, h3, h4, h5, h6, h7⟩ := h
  obtain ⟨L, hL, eL, eT, -, hb⟩ := h1
  have hB : ∀ i, i < L → ∃ z, z < 256 ∧ xh 0 i = nI z := fun i hi => (hb i hi).2
  have ht : ∀ i, i < L → mh 0 i = xh 0 i := fun i hi => (hb i hi).1.symm
  obtain ⟨nt, nh, k25, q25⟩ := gclr1 (mh 1) (mh 2)
  obtain ⟨ns, k53, q53⟩ := gclr2 (mh 3)
  have sz := gsizeB hL hB ht (mi 7) (mi 8) (mi 9) (mi 10) nt nh ns (mh 4) (mh 5)
  rw [show nI 0 = (0 : Int32) from rfl] at sz
  unfold zf_X8_read zf_X9_read zf_X5_init zf_X5_parse zf_X6_restart
  rw [eL, eT, k25, k53]
  simp only [Option.bind_some]
  have bad : ∀ (f : Nat) (w b2 a' nc nr : Int32) (u1 u2 u3 : Nat → Int32), ∃ (out : (Int32 × Int32 × Int32 × Int32 × Int32 × Int32 × zGD) ⊕ (Nat × Int32 × Int32 × Int32 × Int32 × Int32)) (outM : Int32 × Int32 × Int32 × Int32 × Int32 × Int32 × Int32 × Int32 × Int32 × Int32 × Int32 × Int32 × (Nat → Int32) × (Nat → Int32) × (Nat → Int32) × (Nat → Int32) × (Nat → Int32)), some (Sum.inr (2, xi 1, 0, w, b2, nI f)) = some out ∧ some (0, 1, 0, nI L, a', nI f, nc, nr, mi 7, mi 8, mi 9, mi 10, u1, u2, u3, mh 4, mh 5) = some outM ∧ ((∃ o, out = .inl o ∧ outM.1 = o.1 ∧ outM.2.1 = 0 ∧ ∀ q, q ∉ LG → gInv (gset (gset (gset (gset (gset xi 1 o.2.1) 3 o.2.2.1) 4 o.2.2.2.1) 5 o.2.2.2.2.1) 6 o.2.2.2.2.2.1) xu q xh xk ac (LG ++ [q]) (va_up G q o.2.2.2.2.2.2) (gset (gset (gset (gset (gset (gset (gset (gset (gset (gset (gset mi 0 outM.2.1) 1 outM.2.2.1) 2 outM.2.2.2.1) 3 outM.2.2.2.2.1) 4 outM.2.2.2.2.2.1) 5 outM.2.2.2.2.2.2.1) 6 outM.2.2.2.2.2.2.2.1) 7 outM.2.2.2.2.2.2.2.2.1) 8 outM.2.2.2.2.2.2.2.2.2.1) 9 outM.2.2.2.2.2.2.2.2.2.2.1) 10 outM.2.2.2.2.2.2.2.2.2.2.2.1) (gset (gset (gset (gset (gset mh 1 outM.2.2.2.2.2.2.2.2.2.2.2.2.1) 2 outM.2.2.2.2.2.2.2.2.2.2.2.2.2.1) 3 outM.2.2.2.2.2.2.2.2.2.2.2.2.2.2.1) 4 outM.2.2.2.2.2.2.2.2.2.2.2.2.2.2.2.1) 5 outM.2.2.2.2.2.2.2.2.2.2.2.2.2.2.2.2) mk) ∨ (∃ z, out = .inr z ∧ ((z.1 = 2 ∧ outM.2.1 = 1)) ∧ gInv (gset (gset (gset (gset (gset xi 1 z.2.1) 3 z.2.2.1) 4 z.2.2.2.1) 5 z.2.2.2.2.1) 6 z.2.2.2.2.2) xu fg xh xk ac LG G (gset (gset (gset (gset (gset (gset (gset (gset (gset (gset (gset mi 0 outM.2.1) 1 outM.2.2.1) 2 outM.2.2.2.1) 3 outM.2.2.2.2.1) 4 outM.2.2.2.2.2.1) 5 outM.2.2.2.2.2.2.1) 6 outM.2.2.2.2.2.2.2.1) 7 outM.2.2.2.2.2.2.2.2.1) 8 outM.2.2.2.2.2.2.2.2.2.1) 9 outM.2.2.2.2.2.2.2.2.2.2.1) 10 outM.2.2.2.2.2.2.2.2.2.2.2.1) (gset (gset (gset (gset (gset mh 1 outM.2.2.2.2.2.2.2.2.2.2.2.2.1) 2 outM.2.2.2.2.2.2.2.2.2.2.2.2.2.1) 3 outM.2.2.2.2.2.2.2.2.2.2.2.2.2.2.1) 4 outM.2.2.2.2.2.2.2.2.2.2.2.2.2.2.2.1) 5 outM.2.2.2.2.2.2.2.2.2.2.2.2.2.2.2.2) mk)) := fun f w b2 a' nc nr u1 u2 u3 => ⟨_, _, rfl, rfl, Or.inr ⟨_, rfl, ⟨rfl, rfl⟩, g, past, ⟨0, by decide, rfl, rfl, rfl, fun i hi => by omega⟩, h2, h3, h4, h5, h6, h7⟩⟩
  rcases sz with ⟨c, r, a, bg, hc, hr, ha, e1, e2⟩ | ⟨f, x, y, w, bg, a', nc, nr, hf, e1, e2⟩
  · have rd0 : gRd9 (c, r, fun _ => 0, fun _ => false) 0 0 0 nt nh ns := by
      refine ⟨⟨hc, hr, fun p => ⟨Nat.zero_le _, fun _ => rfl⟩, fun k hk => by cases hk⟩, fun i _ => ?_, fun p hp => q25 p hp, fun k hk => q53 k hk⟩
      rw [gbt_zero]
      simp
    obtain ⟨⟨x1, t1, t2, t3, at', b2, ft⟩, ⟨am, fm, u1, u2, u3⟩, z1, z2, z3⟩ := gloopB hL hB ht L a 0 zfu zfu (c, r, fun _ => 0, fun _ => false) 0 0 0 nt nh ns bg rfl rfl ha (by omega) (Nat.zero_le _) (gfu (by omega)) (gfu (by omega)) rd0
    rw [show nI 0 = (0 : Int32) from rfl] at z1
    rw [z2, Option.bind_some] at e2
    dsimp only at z3 e2
    rw [e1, e2, Option.bind_some]
    dsimp only
    rw [z1, Option.bind_some]
    dsimp only
    unfold zf_X5_parse_64 zf_X9_read_190 zf_X9_read_226 zf_X9_read_240
    rcases z3 with ⟨rfl, rfl, rfl, rfl, g', g1, g2, rd⟩ | ⟨rfl, f, hf, rfl, rfl⟩
    · obtain ⟨hw', hT', hN', hS'⟩ := rd
      obtain ⟨d', ed, hx'⟩ := gX2init hw' hT'
      rw [g1, g2] at ed
      have rm : gRM g' (nI c) (nI r) u1 u3 := ⟨by rw [g1], by rw [g2], fun p hp => (hN' p hp).1, hS'⟩
      have fl : gFree g' ≤ 50 := gct_le _ _
      rw [if_neg (show ¬ (1 : Int32) = 0 by decide), ed, Option.bind_some, gX2free hw' hx', Option.bind_some, if_pos rfl, gFreeBy hw' rm, Option.bind_some]
      by_cases q : gFree g' ≤ 24
      · obtain ⟨tl', k270, q270⟩ := gcpy1 u1 (mh 4)
        obtain ⟨st', k296, q296⟩ := gcpy2 hS' (mh 5)
        have rm' : gRM g' (nI c) (nI r) tl' st' := ⟨by rw [g1], by rw [g2], fun p hp => by rw [q270 p hp]; exact (hN' p hp).1, q296⟩
        have le : nI (gFree g') ≤ (24 : Int32) := nI_le (b := 24) q (by decide)
        rw [if_pos le, if_pos le, if_pos rfl, if_pos (show (0 : Int32) ≤ 0 by decide), k270, Option.bind_some, k296, Option.bind_some, Option.bind_some, gX9free hw' rm', Option.bind_some]
        dsimp only [Option.elim]
        rw [gX2free hw' hx', Option.bind_some]
        refine ⟨_, _, rfl, rfl, Or.inl ⟨_, rfl, rfl, rfl, fun z hz => ?_⟩⟩
        have he := zextp (G := G) (d := d') hz
        exact ⟨g', [], ⟨0, by decide, rfl, rfl, rfl, fun i hi => by omega⟩, h2, ⟨⟨hw', q⟩, List.mem_append_right _ (List.mem_singleton.mpr rfl), (by rw [gvS]; exact hx'), rm'⟩, ⟨by decide, rfl, rfl, fun i g h => by simp at h⟩, gCc_ext he h5, gld0 h6.1, h7⟩
      · have nle : ¬ nI (gFree g') ≤ (24 : Int32) := by rw [show (24 : Int32) = nI 24 from rfl, nI_leI (by omega) (by decide)]; exact q
        have n1 : ¬ nI L = -1 := gn1 (by omega)
        unfold zf_X9_wrong
        rw [if_neg nle, if_neg nle, if_pos rfl, Option.bind_some, Option.bind_some, if_neg n1, if_neg (show ¬ (1 : Int32) ≤ 0 by decide)]
        exact bad L _ _ _ _ _ _ _ _
    · have n1 : ¬ nI f = -1 := gn1 (by omega)
      rw [if_pos rfl, if_neg n1, if_neg n1, if_neg (show ¬ (1 : Int32) ≤ 0 by decide)]
      exact bad f _ _ _ _ _ _ _ _
  · rw [e1, e2, Option.bind_some]
    dsimp only
    have zz : zit (fun d : Int32 × Int32 × Int64 × Int64 × Int64 × Int32 × Int32 × Int32 => zf_X5_parse_l14 x y (nI L) (xh 0) d.1 d.2.1 d.2.2.1 d.2.2.2.1 d.2.2.2.2.1 d.2.2.2.2.2.1 d.2.2.2.2.2.2.1 d.2.2.2.2.2.2.2) zfu (0, 0, 0, 0, 0, w, bg, nI f) = some (0, 0, 0, 0, w, bg, nI f) := gzR (a := ((0 : Int32), (0 : Int32), (0 : Int64), (0 : Int64), (0 : Int64), w, bg, nI f)) (b := ((0 : Int32), (0 : Int64), (0 : Int64), (0 : Int64), w, bg, nI f)) gx10 (gfu (by decide))
    rw [zz, Option.bind_some]
    dsimp only
    unfold zf_X5_parse_64
    rw [if_pos rfl]
    exact bad f _ _ _ _ _ _ _ _
