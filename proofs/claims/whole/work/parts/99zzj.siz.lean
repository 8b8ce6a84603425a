/-! reading: the size -/
theorem gone5 {v : Int32} (h1 : ¬ v < 1) (h5 : v ≤ 5) : ∃ c, (1 ≤ c ∧ c ≤ 5) ∧ v = nI c := by
  have h0 : ¬ v < 0 := fun q => h1 (Int32.lt_trans q (by decide))
  obtain ⟨c, hc, rfl⟩ := gnI (n := 5) (by decide) h0 h5
  refine ⟨c, ⟨?_, hc⟩, rfl⟩
  by_cases z : c = 0
  · rw [z] at h1
    exact absurd (show nI 0 < (1 : Int32) by decide) h1
  · omega
theorem gsizeB {bs tp : Nat → Int32} {L : Nat} (hL : L ≤ 400) (hB : ∀ i, i < L → ∃ z, z < 256 ∧ bs i = nI z) (ht : ∀ i, i < L → tp i = bs i) (fc fr acts laid : Int32) (nt nh ns told stone : Nat → Int32) : (∃ c r a bg, (1 ≤ c ∧ c ≤ 5) ∧ (1 ≤ r ∧ r ≤ 5) ∧ a ≤ L ∧ zf_X5_takeSize 0 0 (nI L) (nI 0) (-1) bs = some (1, nI c, nI r, nI a, bg, -1) ∧ ((zf_X9_takes (nI L) (nI 0) (-1) tp "grid").bind fun o75 => if o75.1 = 0 then ((zf_X9_wrong o75.2 (-1)).bind fun o82 => zf_X9_read_85 0 (nI L) o75.2 o82 fc fr acts laid tp nt nh ns told stone) else zf_X9_read_85 0 (nI L) o75.2 (-1) fc fr acts laid tp nt nh ns told stone) = ((zit (fun d : Int32 × Int32 × (Nat → Int32) × (Nat → Int32) × (Nat → Int32) => zf_X9_read_l111 (nI L) (nI c) (nI r) tp d.1 d.2.1 d.2.2.1 d.2.2.2.1 d.2.2.2.2) zfu (nI a, -1, nt, nh, ns)).bind fun o111 => zf_X9_read_190 0 (nI L) o111.1 o111.2.1 (nI c) (nI r) fc fr acts laid o111.2.2.1 o111.2.2.2.1 o111.2.2.2.2 told stone)) ∨ ∃ f x y w bg a' nc nr, f ≤ L ∧ zf_X5_takeSize 0 0 (nI L) (nI 0) (-1) bs = some (0, x, y, w, bg, nI f) ∧ ((zf_X9_takes (nI L) (nI 0) (-1) tp "grid").bind fun o75 => if o75.1 = 0 then ((zf_X9_wrong o75.2 (-1)).bind fun o82 => zf_X9_read_85 0 (nI L) o75.2 o82 fc fr acts laid tp nt nh ns told stone) else zf_X9_read_85 0 (nI L) o75.2 (-1) fc fr acts laid tp nt nh ns told stone) = some (0, 1, 0, nI L, a', nI f, nc, nr, fc, fr, acts, laid, nt, nh, ns, told, stone) := by
  have z0 : 0 ≤ L := Nat.zero_le L
  obtain ⟨p1, p2, -⟩ := gSk_sp bs z0
  obtain ⟨p3, p4, -, -⟩ := gEs_sp bs 97 122 p2
  have lg : ("grid" : String).toList.length = 4 := by decide
  unfold zf_X5_takeSize zf_X9_takes
  simp only [gwrdC hL z0, gisM hL hB ht z0 (show ("grid" : String).toList.length ≤ 9 by decide), Option.bind_some, if_true, gisWC hL p3 p4 (show ("grid" : String).toList.length ≤ 9 by decide), lg]
  generalize gEs bs 97 122 L (gSk bs L 0) = e at p3 p4 ⊢
  generalize gSk bs L 0 = s at p1 p2 p3 ⊢
  cases hG : gIw bs s e "grid" with
  | false =>
    have n1 : ¬ nI s = -1 := gn1 (by omega)
    unfold zf_X6_refuse zf_X9_wrong
    simp only [show (gbI false = 0) = True from eq_true rfl, if_true, Option.bind_some, show zbit (0 : Int32) = true from by decide, gheadF n1]
    exact Or.inr ⟨s, _, _, _, _, _, _, _, p2, rfl, rfl⟩
  | true =>
    have le := gIw_len hG p3
    rw [lg] at le
    have e4 : nI s + nI 4 = nI e := by rw [nI_add, le]
    simp only [show (gbI true = 0) = False from eq_false (by decide), if_false, Option.bind_some, e4, show ((1 : Int32) = 0) = False from eq_false (by decide)]
    unfold zf_X9_read_85
    obtain ⟨q1, q2, -⟩ := gSk_sp bs p4
    rcases gnumB hL hB ht p4 1 5 (-1) with ⟨v, c1, m1, l1, l2, l3⟩ | ⟨w, c1, m1⟩
    · obtain ⟨c, hc, rfl⟩ := gone5 l1 l2
      rw [c1, m1, Option.bind_some, Option.bind_some]
      dsimp only
      rw [if_neg (gn1 (show c < 2 ^ 31 by omega))]
      generalize gSk bs L e = s1 at q1 q2 l3 ⊢
      obtain ⟨q3, q4, -⟩ := gSk_sp bs (show s1 + 1 ≤ L by omega)
      rcases gnumB hL hB ht (show s1 + 1 ≤ L by omega) 1 5 (-1) with ⟨v, c2, m2, l4, l5, l6⟩ | ⟨w, c2, m2⟩
      · obtain ⟨r, hr, rfl⟩ := gone5 l4 l5
        rw [c2, m2, Option.bind_some, Option.bind_some]
        dsimp only
        rw [if_neg (gn1 (show r < 2 ^ 31 by omega))]
        generalize gSk bs L (s1 + 1) = s2 at q3 q4 l6 ⊢
        obtain ⟨q5, q6, -⟩ := gSk_sp bs (show s2 + 1 ≤ L by omega)
        rcases gmarkB hL ht (show s2 + 1 ≤ L by omega) (-1) with ⟨k1, k2, k3⟩ | ⟨k2, k3⟩
        · rw [k2, k3, Option.bind_some, Option.bind_some]
          dsimp only
          rw [if_neg (show ¬ (1 : Int32) = 0 by decide)]
          exact Or.inl ⟨c, r, gSk bs L (s2 + 1) + 1, _, hc, hr, by omega, rfl, rfl⟩
        · rw [k2, k3, Option.bind_some, Option.bind_some]
          dsimp only
          rw [if_pos rfl, gtailF (gn1 (show gSk bs L (s2 + 1) < 2 ^ 31 by omega))]
          exact Or.inr ⟨_, _, _, _, _, _, _, _, q6, rfl, rfl⟩
      · have n1 : ¬ nI (gSk bs L (s1 + 1)) = -1 := gn1 (by omega)
        rw [c2, m2, Option.bind_some, Option.bind_some]
        dsimp only
        rw [if_pos rfl, gmusF n1, Option.bind_some]
        dsimp only
        rw [gtailF n1]
        exact Or.inr ⟨_, _, _, _, _, _, _, _, q4, rfl, rfl⟩
    · have n1 : ¬ nI (gSk bs L e) = -1 := gn1 (by omega)
      rw [c1, m1, Option.bind_some, Option.bind_some]
      dsimp only
      rw [if_pos rfl, gdigF n1, Option.bind_some]
      dsimp only
      rw [gmusF n1, Option.bind_some]
      dsimp only
      rw [gtailF n1]
      exact Or.inr ⟨_, _, _, _, _, _, _, _, q2, rfl, rfl⟩
