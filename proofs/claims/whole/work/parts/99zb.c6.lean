/-! keep, compare, beats -/
theorem gAnsK {g : gG} (n d : Int64) : gAns (gfi (gPL g n d) (gFree g + 1) 0) = -1 ∨ ∃ m, m ≤ gFree g ∧ gAns (gfi (gPL g n d) (gFree g + 1) 0) = nI m := by
  cases hr : gfi (gPL g n d) (gFree g + 1) 0 with
  | none => exact Or.inl rfl
  | some k =>
    have := gfi_lt _ _ _ hr
    exact Or.inr ⟨k, by omega, rfl⟩
theorem gtake {jn kj : Nat → Int64} (x1 x2 : Int32) : ∃ kj', zf_X3_take kj jn 25 x1 x2 = some (1, x1, x2, kj') ∧ ∀ k, k < 25 → kj' k = jn k := by
  unfold zf_X3_take
  have hH := gitH (f := fun d : Int32 × (Nat → Int64) => zf_X3_take_l3 jn 25 d.1 d.2) (fun j d => d.1 = nI j ∧ ∀ k, k < j → d.2 k = jn k) (fun d => ∀ k, k < 25 → d k = jn k) 25 (n := zfu) (gfu (by decide)) (a := ((0 : Int32), kj)) ⟨rfl, fun k h => by omega⟩ ?_ ?_
  · obtain ⟨b, e, h⟩ := hH
    rw [e, Option.bind_some]
    exact ⟨b, rfl, h⟩
  · rintro j ⟨x, w⟩ hj ⟨rfl, h⟩
    dsimp only at h ⊢
    unfold zf_X3_take_l3
    rw [if_neg (gle25 hj), show Int32.ofNat 25 = nI 25 from rfl, if_neg (gle50 (a := 25) (by decide) (by omega) hj), if_pos (ggN hj (by decide)), if_pos (ggN hj (by decide)), nI_clamp (by omega), nI_1]
    refine ⟨_, rfl, rfl, fun k hk => ?_⟩
    dsimp only
    by_cases e : k = j
    · rw [e, guLS]
    · rw [guLN e]; exact h k (by omega)
  · rintro ⟨x, w⟩ ⟨rfl, h⟩
    dsimp only at h ⊢
    unfold zf_X3_take_l3
    rw [if_pos (by decide)]
    exact ⟨_, rfl, h⟩
theorem gP41_ok : gP41 gInv := by
  intro xi xu fg xh xk ac LG G mi mh mk h
  obtain ⟨g, past, h1, h2, h3, h4, h5, h6, h7⟩ := h
  obtain ⟨hok, hg, hx, hm⟩ := id h3
  have b5 : xi 11 = 5 := h5.2.1
  obtain ⟨T, eT, hT, cT⟩ := gleastC hok hg hx h5 1 2
  obtain ⟨M, eM, m2⟩ := gleastM hok hm (mi 10, mh 12, mh 13, mk 0, mh 14, mh 15, mh 16, mh 10, mh 17, mk 1, mh 18) h6 1 2
  dsimp only at eM
  obtain ⟨kj', ek, hk⟩ := gtake (jn := T.2.2.2.2.2.2.2.2.2.2.2.2.2.2.2.2) (kj := xk 10) (nI (gFree g)) (gAns (gfi (gPL g (1 : Int32).toInt64 (2 : Int32).toInt64) (gFree g + 1) 0))
  have hH := gitH (f := fun d : Int32 × (Int32 × (Nat → Int32) × (Nat → Int32) × (Nat → Int64) × (Nat → Int32) × (Nat → Int32) × (Nat → Int32) × (Nat → Int32) × (Nat → Int32) × (Nat → Int64) × (Nat → Int32) × (Nat → Int64)) => zf_X9_keep_l30 (mi 7) (mi 8) (mh 4) (mh 5) d.1 d.2.1 d.2.2.1 d.2.2.2.1 d.2.2.2.2.1 d.2.2.2.2.2.1 d.2.2.2.2.2.2.1 d.2.2.2.2.2.2.2.1 d.2.2.2.2.2.2.2.2.1 d.2.2.2.2.2.2.2.2.2.1 d.2.2.2.2.2.2.2.2.2.2.1 d.2.2.2.2.2.2.2.2.2.2.2.1 d.2.2.2.2.2.2.2.2.2.2.2.2) (fun j d => d.1 = nI j ∧ gLdD g (d.2.1, d.2.2.1, d.2.2.2.1, d.2.2.2.2.1, d.2.2.2.2.2.1, d.2.2.2.2.2.2.1, d.2.2.2.2.2.2.2.1, d.2.2.2.2.2.2.2.2.1, d.2.2.2.2.2.2.2.2.2.1, d.2.2.2.2.2.2.2.2.2.2.1, d.2.2.2.2.2.2.2.2.2.2.2.1) ∧ ∀ k, k < j → d.2.2.2.2.2.2.2.2.2.2.2.2 k = lN (gJ g k)) (fun d => gLdD g (d.1, d.2.1, d.2.2.1, d.2.2.2.1, d.2.2.2.2.1, d.2.2.2.2.2.1, d.2.2.2.2.2.2.1, d.2.2.2.2.2.2.2.1, d.2.2.2.2.2.2.2.2.1, d.2.2.2.2.2.2.2.2.2.1, d.2.2.2.2.2.2.2.2.2.2.1) ∧ ∀ k, k < 25 → d.2.2.2.2.2.2.2.2.2.2.2 k = lN (gJ g k)) 25 (n := zfu) (gfu (by decide)) (a := ((0 : Int32), M.1, M.2.1, M.2.2.1, M.2.2.2.1, M.2.2.2.2.1, M.2.2.2.2.2.1, M.2.2.2.2.2.2.1, M.2.2.2.2.2.2.2.1, M.2.2.2.2.2.2.2.2.1, M.2.2.2.2.2.2.2.2.2.1, M.2.2.2.2.2.2.2.2.2.2, mk 3)) ⟨rfl, m2, fun k h => by omega⟩ ?_ ?_
  · obtain ⟨b, e, q1, q2⟩ := hH
    unfold zf_X8_keep zf_X9_keep
    rw [gX2free hok.1 hx, Option.bind_some, eT, Option.bind_some, b5, gcount2 hok hx hT, Option.bind_some, ek, Option.bind_some, eM, Option.bind_some, gX9free hok.1 hm, Option.bind_some, e, Option.bind_some]
    refine ⟨_, _, rfl, rfl, rfl, g, past, h1, h2, h3, h4, ?_, q1, rfl, Or.inr ⟨rfl, g, hok, rfl, rfl, rfl, gAnsK _ _, fun k hk' => ⟨?_, q2 k hk'⟩⟩⟩
    · exact cT
    · exact (hk k hk').trans (hT.2.2.2.2.2.2.1 k hk')
  · rintro j ⟨x, E⟩ hj ⟨rfl, hE, hk⟩
    dsimp only at hE hk ⊢
    obtain ⟨M', e, m1, m2'⟩ := gjoinsOf hok hm (E.1, E.2.1, E.2.2.1, E.2.2.2.1, E.2.2.2.2.1, E.2.2.2.2.2.1, E.2.2.2.2.2.2.1, E.2.2.2.2.2.2.2.1, E.2.2.2.2.2.2.2.2.1, E.2.2.2.2.2.2.2.2.2.1, E.2.2.2.2.2.2.2.2.2.2.1) hE hj
    dsimp only at e
    unfold zf_X9_keep_l30
    rw [if_neg (gle25 hj), e, Option.bind_some, if_pos (ggN hj (by decide)), nI_clamp (by omega), nI_1]
    refine ⟨_, rfl, rfl, m2', fun k hk' => ?_⟩
    dsimp only
    by_cases q : k = j
    · rw [q, guLS]
    · rw [guLN q]; exact hk k (by omega)
  · rintro ⟨x, E⟩ ⟨rfl, hE, hk⟩
    dsimp only at hE hk ⊢
    unfold zf_X9_keep_l30
    rw [if_pos (by decide)]
    exact ⟨_, rfl, hE, hk⟩
/-- half parted by the free ones: class and reference compare alike -/
theorem gcmp (n m : Nat) (hn : n ≤ 24) (hm : m ≤ 24) (h k : Int32) (hh : h = -1 ∨ ∃ a, a ≤ n ∧ h = nI a) (hk : k = -1 ∨ ∃ a, a ≤ m ∧ k = nI a) (L : gD9) : ∃ u l ku kl v, zf_X3_upper (nI n) h = some u ∧ zf_X3_lower (nI n) h = some l ∧ zf_X3_upper (nI m) k = some ku ∧ zf_X3_lower (nI m) k = some kl ∧ (if u * kl = ku * l then (0 : Int32) else if ku * l ≤ u * kl then 1 else -1) = v ∧ (if nI n = 0 then zf_X9_compare_55 0 L.1 k (nI m) L.2.1 L.2.2.1 L.2.2.2.1 L.2.2.2.2.1 L.2.2.2.2.2.1 L.2.2.2.2.2.2.1 L.2.2.2.2.2.2.2.1 L.2.2.2.2.2.2.2.2.1 L.2.2.2.2.2.2.2.2.2.1 L.2.2.2.2.2.2.2.2.2.2 h (nI n) (0 : Int32) else if h = (-1 : Int32) then zf_X9_compare_55 0 L.1 k (nI m) L.2.1 L.2.2.1 L.2.2.2.1 L.2.2.2.2.1 L.2.2.2.2.2.1 L.2.2.2.2.2.2.1 L.2.2.2.2.2.2.2.1 L.2.2.2.2.2.2.2.2.1 L.2.2.2.2.2.2.2.2.2.1 L.2.2.2.2.2.2.2.2.2.2 h (nI n) (2 : Int32) else zf_X9_compare_55 0 L.1 k (nI m) L.2.1 L.2.2.1 L.2.2.2.1 L.2.2.2.2.1 L.2.2.2.2.2.1 L.2.2.2.2.2.2.1 L.2.2.2.2.2.2.2.1 L.2.2.2.2.2.2.2.2.1 L.2.2.2.2.2.2.2.2.2.1 L.2.2.2.2.2.2.2.2.2.2 h (nI n) h) = some (v, 0, L) := by
  unfold zf_X9_compare_55 zf_X9_compare_65 zf_X9_compare_70 zf_X9_compare_99 zf_X9_compare_116 zf_X9_compare_124 zf_X3_upper zf_X3_lower
  have key : ∀ a b : Nat, a < 1000 → b < 1000 → (0 ≤ nI a - nI b ↔ b ≤ a) ∧ (nI a - nI b ≤ 0 ↔ a ≤ b) ∧ (nI a = nI b ↔ a = b) ∧ (nI b ≤ nI a ↔ b ≤ a) := by
    intro a b ha hb
    have e : (nI a - nI b).toInt = (a : Int) - b := by
      rw [Int32.toInt_sub, nI_toInt (by omega), nI_toInt (by omega)]
      exact Int.bmod_eq_of_le (by omega) (by omega)
    refine ⟨?_, ?_, nI_eq (by omega) (by omega), nI_leI (by omega) (by omega)⟩
    · rw [Int32.le_iff_toInt_le, e, Int32.toInt_zero]; omega
    · rw [Int32.le_iff_toInt_le, e, Int32.toInt_zero]; omega
  have fin : ∀ a b a' b' : Nat, a < 1000 → b < 1000 → a' < 1000 → b' < 1000 → (a = b ↔ a' = b') → (b ≤ a ↔ b' ≤ a') → (if 0 ≤ nI a' - nI b' then if nI a' - nI b' ≤ 0 then some ((0 : Int32), (0 : Int32), L) else some (1, 0, L) else some (-1, 0, L)) = some ((if nI a = nI b then (0 : Int32) else if nI b ≤ nI a then 1 else -1), 0, L) := by
    intro a b a' b' ha hb ha' hb' e1 e2
    obtain ⟨k1, k2, -, -⟩ := key a' b' ha' hb'
    obtain ⟨-, -, k3, k4⟩ := key a b ha hb
    simp only [k1, k2, k3, k4]
    by_cases q : b' ≤ a'
    · rw [if_pos q]
      by_cases r : a' ≤ b'
      · rw [if_pos r, if_pos (e1.mpr (by omega))]
      · rw [if_neg r, if_neg (fun h => r (Nat.le_of_eq (e1.mp h))), if_pos (e2.mpr q)]
    · rw [if_neg q, if_neg (fun h => q (Nat.le_of_eq (e1.mp h).symm)), if_neg (fun h => q (e2.mp h))]
  have z : ∀ a : Nat, a ≤ 24 → (nI a = 0 ↔ a = 0) := fun a ha => nI_eq (by omega) (by decide)
  have m1 : ∀ a : Nat, a ≤ 24 → ¬ nI a = -1 := fun a ha => gm1 (by omega)
  have o1 : (1 : Int32) = nI 1 := rfl
  have o2 : (2 : Int32) = nI 2 := rfl
  have o0 : (0 : Int32) = nI 0 := rfl
  have bd : ∀ {a b : Nat}, a ≤ 24 → b ≤ 24 → a * b < 1000 := fun {a b} ha hb => Nat.lt_of_le_of_lt (Nat.mul_le_mul ha hb) (by decide)
  by_cases n0 : n = 0
  · have zn := (z n hn).mpr n0
    simp only [zn, if_true]
    by_cases m0 : m = 0
    · have zm := (z m hm).mpr m0
      simp only [zm, if_true]
      refine ⟨0, 1, 0, 1, _, rfl, rfl, rfl, rfl, rfl, ?_⟩
      rw [if_pos (show (0 : Int32) ≤ 0 * 1 - 0 * 1 by decide), if_pos (show (0 : Int32) * 1 - 0 * 1 ≤ 0 by decide), if_pos (show (0 : Int32) * 1 = 0 * 1 from rfl)]
    · have zm : ¬ nI m = 0 := fun h => m0 ((z m hm).mp h)
      simp only [zm, if_false]
      rcases hk with rfl | ⟨b, hb, rfl⟩
      · simp only [if_true]
        refine ⟨0, 1, 1, 0, _, rfl, rfl, rfl, rfl, rfl, ?_⟩
        rw [if_neg (show ¬ (0 : Int32) ≤ 0 * 1 - 2 * 1 by decide), if_neg (show ¬ (0 : Int32) * 0 = 1 * 1 by decide), if_neg (show ¬ (1 : Int32) * 1 ≤ 0 * 0 by decide)]
      · have mb := m1 b (by omega)
        simp only [mb, if_false]
        refine ⟨0, 1, nI b, nI m, _, rfl, rfl, rfl, rfl, rfl, ?_⟩
        rw [o0, o1, gmul, gmul]
        exact fin _ _ _ _ (bd (by omega) (by omega)) (bd (by omega) (by omega)) (bd (by omega) (by omega)) (bd (by omega) (by omega)) Iff.rfl Iff.rfl
  · have zn : ¬ nI n = 0 := fun h => n0 ((z n hn).mp h)
    simp only [zn, if_false]
    rcases hh with rfl | ⟨a, ha, rfl⟩
    · simp only [if_true]
      by_cases m0 : m = 0
      · have zm := (z m hm).mpr m0
        simp only [zm, if_true]
        refine ⟨1, 0, 0, 1, _, rfl, rfl, rfl, rfl, rfl, ?_⟩
        rw [if_pos (show (0 : Int32) ≤ 2 * 1 - 0 * 1 by decide), if_neg (show ¬ (2 : Int32) * 1 - 0 * 1 ≤ 0 by decide), if_neg (show ¬ (1 : Int32) * 1 = 0 * 0 by decide), if_pos (show (0 : Int32) * 0 ≤ 1 * 1 by decide)]
      · have zm : ¬ nI m = 0 := fun h => m0 ((z m hm).mp h)
        simp only [zm, if_false]
        rcases hk with rfl | ⟨b, hb, rfl⟩
        · simp only [if_true]
          refine ⟨1, 0, 1, 0, _, rfl, rfl, rfl, rfl, rfl, ?_⟩
          rw [if_pos (show (0 : Int32) ≤ 2 * 1 - 2 * 1 by decide), if_pos (show (2 : Int32) * 1 - 2 * 1 ≤ 0 by decide), if_pos (show (1 : Int32) * 0 = 1 * 0 from rfl)]
        · have mb := m1 b (by omega)
          simp only [mb, if_false]
          refine ⟨1, 0, nI b, nI m, _, rfl, rfl, rfl, rfl, rfl, ?_⟩
          rw [o0, o1, o2, gmul, gmul, gmul, gmul]
          exact fin _ _ _ _ (bd (by omega) (by omega)) (bd (by omega) (by omega)) (bd (by omega) (by omega)) (bd (by omega) (by omega)) (by omega) (by omega)
    · have ma := m1 a (by omega)
      simp only [ma, if_false]
      by_cases m0 : m = 0
      · have zm := (z m hm).mpr m0
        simp only [zm, if_true]
        refine ⟨nI a, nI n, 0, 1, _, rfl, rfl, rfl, rfl, rfl, ?_⟩
        rw [o0, o1, gmul, gmul]
        exact fin _ _ _ _ (bd (by omega) (by omega)) (bd (by omega) (by omega)) (bd (by omega) (by omega)) (bd (by omega) (by omega)) Iff.rfl Iff.rfl
      · have zm : ¬ nI m = 0 := fun h => m0 ((z m hm).mp h)
        simp only [zm, if_false]
        rcases hk with rfl | ⟨b, hb, rfl⟩
        · simp only [if_true]
          refine ⟨nI a, nI n, 1, 0, _, rfl, rfl, rfl, rfl, rfl, ?_⟩
          rw [o0, o1, o2, gmul, gmul, gmul, gmul]
          exact fin _ _ _ _ (bd (by omega) (by omega)) (bd (by omega) (by omega)) (bd (by omega) (by omega)) (bd (by omega) (by omega)) (by omega) (by omega)
        · have mb := m1 b (by omega)
          simp only [mb, if_false]
          refine ⟨nI a, nI n, nI b, nI m, _, rfl, rfl, rfl, rfl, rfl, ?_⟩
          rw [gmul, gmul]
          exact fin _ _ _ _ (bd (by omega) (by omega)) (bd (by omega) (by omega)) (bd (by omega) (by omega)) (bd (by omega) (by omega)) Iff.rfl Iff.rfl
theorem gP42_ok : gP42 gInv := by
  intro xi xu fg xh xk ac LG G mi mh mk h
  obtain ⟨g, past, h1, h2, h3, h4, h5, h6, h7⟩ := h
  obtain ⟨hok, hg, hx, hm⟩ := id h3
  obtain ⟨k0, k1⟩ := id h7
  unfold zf_X8_compare zf_X9_compare zf_X8_demandKept zf_X9_compare_13
  rcases k1 with k1 | ⟨k1, g', hok', f1, f2, f3, f4, f5⟩
  · rw [k1] at k0
    rw [k0, k1, if_pos rfl, if_pos rfl, Option.bind_some, if_neg (show ¬ (1 : Int32) ≤ 0 by decide)]
    exact ⟨_, _, rfl, rfl, Or.inr ⟨_, rfl, ⟨rfl, rfl⟩, g, past, h1, h2, h3, h4, gCcS h5, h6, h7⟩⟩
  · rw [k1] at k0
    obtain ⟨T, eT, hT, cT⟩ := gleastC hok hg hx h5 1 2
    obtain ⟨M, eM, m2⟩ := gleastM hok hm (mi 10, mh 12, mh 13, mk 0, mh 14, mh 15, mh 16, mh 10, mh 17, mk 1, mh 18) h6 1 2
    dsimp only at eM
    obtain ⟨u, l, ku, kl, v, c1, c2, c3, c4, c5, c6⟩ := gcmp (gFree g) (gFree g') hok.2 hok'.2 (gAns (gfi (gPL g (1 : Int32).toInt64 (2 : Int32).toInt64) (gFree g + 1) 0)) (xi 20) (gAnsK _ _) f4 M
    rw [k0, k1, if_neg (show ¬ (1 : Int32) = 0 by decide), if_neg (show ¬ (1 : Int32) = 0 by decide), Option.bind_some, if_pos (show (0 : Int32) ≤ 0 by decide), eM, Option.bind_some, gX9free hok.1 hm, Option.bind_some, f2, f3, f1]
    dsimp only [Sum.elim_inl]
    rw [gX2free hok.1 hx, Option.bind_some, eT, Option.bind_some, c1, Option.bind_some, c4, Option.bind_some, c3, Option.bind_some, c2, Option.bind_some, c6, ← c5]
    by_cases q : u * kl = ku * l
    · rw [if_pos q, if_pos q]
      exact ⟨_, _, rfl, rfl, Or.inl ⟨_, rfl, rfl, rfl, g, past, h1, h2, h3, h4, cT, m2, h7⟩⟩
    · rw [if_neg q, if_neg q]
      by_cases r : ku * l ≤ u * kl
      · rw [if_pos r, if_pos r]
        exact ⟨_, _, rfl, rfl, Or.inl ⟨_, rfl, rfl, rfl, g, past, h1, h2, h3, h4, cT, m2, h7⟩⟩
      · rw [if_neg r, if_neg r]
        exact ⟨_, _, rfl, rfl, Or.inl ⟨_, rfl, rfl, rfl, g, past, h1, h2, h3, h4, cT, m2, h7⟩⟩
/-- is it so somewhere ahead? -/
def gAny (P : Nat → Bool) : Nat → Bool
  | 0 => false
  | n + 1 => gAny P n || P n
theorem gAny_ext {P : Nat → Bool} {a b : Nat} (h : a ≤ b) (hz : ∀ i, a ≤ i → i < b → P i = false) : gAny P b = gAny P a := by
  obtain ⟨k, rfl⟩ : ∃ k, b = a + k := ⟨b - a, by omega⟩
  clear h
  induction k with
  | zero => rfl
  | succ k ih =>
    show (gAny P (a + k) || P (a + k)) = _
    rw [ih (fun i h1 h2 => hz i h1 (by omega)), hz (a + k) (by omega) (by omega), Bool.or_false]
def gPm (g g' : gG) (k : Nat) : Bool := decide (gJ g' k < gJ g k)
theorem gP43_ok : gP43 gInv := by
  intro xi xu fg xh xk ac LG G mi mh mk h
  obtain ⟨g, past, h1, h2, h3, h4, h5, h6, h7⟩ := h
  obtain ⟨hok, hg, hx, hm⟩ := id h3
  obtain ⟨k0, k1⟩ := id h7
  unfold zf_X8_beats zf_X9_beats zf_X8_demandKept
  rcases k1 with k1 | ⟨k1, g', hok', f1, f2, f3, f4, f5⟩
  · rw [k1] at k0
    unfold zf_X9_beats_28
    rw [k0, k1, if_pos rfl, if_pos rfl, Option.bind_some, if_neg (show ¬ (1 : Int32) ≤ 0 by decide)]
    exact ⟨_, _, rfl, rfl, Or.inr ⟨_, rfl, Or.inl ⟨rfl, rfl⟩, g, past, h1, h2, h3, h4, gCcS h5, h6, h7⟩⟩
  · rw [k1] at k0
    have f24 := hok.2
    have f24' := hok'.2
    rw [k0, k1, if_neg (show ¬ (1 : Int32) = 0 by decide), if_neg (show ¬ (1 : Int32) = 0 by decide), Option.bind_some, gX9free hok.1 hm, Option.bind_some, f2, f1]
    dsimp only [Sum.elim_inl]
    rw [gX2free hok.1 hx, Option.bind_some]
    by_cases q : gFree g' = gFree g
    · obtain ⟨T, eT, hT, cT⟩ := gcountD hok hg hx h5
      rw [q, if_pos rfl, if_pos rfl, eT, Option.bind_some]
      unfold zf_X9_beats_28
      rw [if_pos (show (0 : Int32) ≤ 0 by decide)]
      have eC := gitr (f := fun d : Int32 × Int32 × Int32 => zf_X8_beats_l46 (xk 10) T.2.2.2.2.2.2.2.2.2.2.2.2.2.2.2.2 d.1 d.2.1 d.2.2) (fun j => (gbI (gAny (gPm g g') j), (if gAny (gPm g' g) j then (2 : Int32) else 0), nI j)) 25 (n := zfu) (b := (gbI (gAny (gPm g g') 25), (if gAny (gPm g' g) 25 then (2 : Int32) else 0))) (gfu (by decide)) ?_ ?_
      · have hH := gitH (f := fun d : Int32 × Int32 × Int32 × gD9 => zf_X9_beats_l46 (mi 7) (mi 8) (nI (gFree g)) (mh 4) (mh 5) (mk 3) d.1 d.2.1 d.2.2.1 d.2.2.2.1 d.2.2.2.2.1 d.2.2.2.2.2.1 d.2.2.2.2.2.2.1 d.2.2.2.2.2.2.2.1 d.2.2.2.2.2.2.2.2.1 d.2.2.2.2.2.2.2.2.2.1 d.2.2.2.2.2.2.2.2.2.2.1 d.2.2.2.2.2.2.2.2.2.2.2.1 d.2.2.2.2.2.2.2.2.2.2.2.2.1 d.2.2.2.2.2.2.2.2.2.2.2.2.2) (fun j d => d.1 = gbI (gAny (gPm g g') j) ∧ d.2.1 = gbI (gAny (gPm g' g) j) ∧ d.2.2.1 = nI j ∧ gLdD g d.2.2.2) (fun d => d.1 = gbI (gAny (gPm g g') (gFree g + 1)) ∧ d.2.1 = gbI (gAny (gPm g' g) (gFree g + 1)) ∧ gLdD g d.2.2) (gFree g + 1) (n := zfu) (gfu (by omega)) (a := ((0 : Int32), (0 : Int32), (0 : Int32), (mi 10, mh 12, mh 13, mk 0, mh 14, mh 15, mh 16, mh 10, mh 17, mk 1, mh 18))) ⟨rfl, rfl, rfl, h6⟩ ?_ ?_
        · obtain ⟨⟨b1, b2, M⟩, e9, q1, q2, m2⟩ := hH
          dsimp only at q1 q2 m2
          subst q1 q2
          have eC' : zit (fun d : Int32 × Int32 × Int32 => zf_X8_beats_l46 (xk 10) T.2.2.2.2.2.2.2.2.2.2.2.2.2.2.2.2 d.1 d.2.1 d.2.2) zfu ((0 : Int32), (0 : Int32), (0 : Int32)) = some (gbI (gAny (gPm g g') 25), (if gAny (gPm g' g) 25 then (2 : Int32) else 0)) := eC
          have e9' : zit (fun d : Int32 × Int32 × Int32 × gD9 => zf_X9_beats_l46 (mi 7) (mi 8) (nI (gFree g)) (mh 4) (mh 5) (mk 3) d.1 d.2.1 d.2.2.1 d.2.2.2.1 d.2.2.2.2.1 d.2.2.2.2.2.1 d.2.2.2.2.2.2.1 d.2.2.2.2.2.2.2.1 d.2.2.2.2.2.2.2.2.1 d.2.2.2.2.2.2.2.2.2.1 d.2.2.2.2.2.2.2.2.2.2.1 d.2.2.2.2.2.2.2.2.2.2.2.1 d.2.2.2.2.2.2.2.2.2.2.2.2.1 d.2.2.2.2.2.2.2.2.2.2.2.2.2) zfu ((0 : Int32), (0 : Int32), (0 : Int32), mi 10, mh 12, mh 13, mk 0, mh 14, mh 15, mh 16, mh 10, mh 17, mk 1, mh 18) = some (gbI (gAny (gPm g g') (gFree g + 1)), gbI (gAny (gPm g' g) (gFree g + 1)), M) := e9
          rw [eC', Option.bind_some, e9', Option.bind_some]
          rw [gAny_ext (P := gPm g g') (a := gFree g + 1) (b := 25) (by omega) (fun i h1 _ => decide_eq_false (by rw [gJ_far hok.1 (by omega)]; omega)), gAny_ext (P := gPm g' g) (a := gFree g + 1) (b := 25) (by omega) (fun i h1 _ => decide_eq_false (by rw [gJ_far hok'.1 (by omega)]; omega))]
          cases gAny (gPm g g') (gFree g + 1) <;> cases gAny (gPm g' g) (gFree g + 1)
          · exact ⟨_, _, rfl, rfl, Or.inl ⟨_, rfl, rfl, rfl, g, past, h1, h2, h3, h4, cT, m2, h7⟩⟩
          · exact ⟨_, _, rfl, rfl, Or.inl ⟨_, rfl, rfl, rfl, g, past, h1, h2, h3, h4, cT, m2, h7⟩⟩
          · exact ⟨_, _, rfl, rfl, Or.inl ⟨_, rfl, rfl, rfl, g, past, h1, h2, h3, h4, cT, m2, h7⟩⟩
          · exact ⟨_, _, rfl, rfl, Or.inl ⟨_, rfl, rfl, rfl, g, past, h1, h2, h3, h4, cT, m2, h7⟩⟩
        · rintro j ⟨x, y, z, E⟩ hj ⟨rfl, rfl, rfl, hE⟩
          dsimp only at hE ⊢
          have ja := gJ_le hok j
          have jb := gJ_le hok' j
          have fin : ∀ (x s : Bool) (N : gD9), gLdD g N → (s = (gAny (gPm g g') j || gPm g g' j)) → ∃ a', zf_X9_beats_78 (mi 7) (mi 8) N.1 (mh 4) (mh 5) N.2.1 N.2.2.1 N.2.2.2.1 N.2.2.2.2.1 N.2.2.2.2.2.1 N.2.2.2.2.2.2.1 N.2.2.2.2.2.2.2.1 N.2.2.2.2.2.2.2.2.1 N.2.2.2.2.2.2.2.2.2.1 N.2.2.2.2.2.2.2.2.2.2 (mk 3) (gbI (gAny (gPm g' g) j)) (nI j) (gbI s) = some (.inl a') ∧ a'.1 = gbI (gAny (gPm g g') (j + 1)) ∧ a'.2.1 = gbI (gAny (gPm g' g) (j + 1)) ∧ a'.2.2.1 = nI (j + 1) ∧ gLdD g a'.2.2.2 := by
            intro x s N hN hs
            unfold zf_X9_beats_78 zf_X9_beats_98 zf_X9_beats_103
            rw [nI_1]
            cases hy : gAny (gPm g' g) j with
            | true =>
              rw [if_neg (by decide)]
              refine ⟨_, rfl, by rw [hs]; rfl, ?_, rfl, hN⟩
              show (1 : Int32) = gbI (gAny (gPm g' g) j || gPm g' g j)
              rw [hy]; rfl
            | false =>
              obtain ⟨M, e, m1, m2⟩ := gjoinsOf hok hm N hN (k := j) (by omega)
              rw [if_pos (show gbI false = 0 from rfl), e, Option.bind_some, if_pos (ggN (by omega) (by decide)), nI_clamp (by omega), (f5 j (by omega)).2]
              by_cases r : gJ g j < gJ g' j
              · rw [if_neg (by rw [lg_cmp_ge, lN_le (by omega) (by omega)]; omega)]
                refine ⟨_, rfl, by rw [hs]; rfl, ?_, rfl, m2⟩
                show (1 : Int32) = gbI (gAny (gPm g' g) j || decide (gJ g j < gJ g' j))
                rw [hy, decide_eq_true r]; rfl
              · rw [if_pos (by rw [lg_cmp_ge, lN_le (by omega) (by omega)]; omega)]
                refine ⟨_, rfl, by rw [hs]; rfl, ?_, rfl, m2⟩
                show (0 : Int32) = gbI (gAny (gPm g' g) j || decide (gJ g j < gJ g' j))
                rw [hy, decide_eq_false r]; rfl
          unfold zf_X9_beats_l46 zf_X9_beats_73
          rw [if_neg (by rw [nI_ltI (by omega) (by omega)]; omega)]
          cases hy : gAny (gPm g g') j with
          | true =>
            rw [if_neg (by decide)]
            exact fin true true E hE (by rw [hy]; rfl)
          | false =>
            obtain ⟨M, e, m1, m2⟩ := gjoinsOf hok hm E hE (k := j) (by omega)
            rw [if_pos (show gbI false = 0 from rfl), e, Option.bind_some, if_pos (ggN (by omega) (by decide)), nI_clamp (by omega), (f5 j (by omega)).2]
            by_cases r : gJ g' j < gJ g j
            · rw [if_neg (by rw [lg_cmp_le, lN_le (by omega) (by omega)]; omega)]
              exact fin true true M m2 (by rw [hy]; exact (decide_eq_true r).symm)
            · rw [if_pos (by rw [lg_cmp_le, lN_le (by omega) (by omega)]; omega)]
              exact fin true false M m2 (by rw [hy]; exact (decide_eq_false r).symm)
        · rintro ⟨x, y, z, E⟩ ⟨rfl, rfl, rfl, hE⟩
          dsimp only at hE ⊢
          unfold zf_X9_beats_l46
          rw [if_pos (by rw [nI_ltI (by omega) (by omega)]; omega)]
          exact ⟨_, rfl, rfl, rfl, hE⟩
      · intro j hj
        have ja := gJ_le hok j
        have jb := gJ_le hok' j
        dsimp only
        unfold zf_X8_beats_l46 zf_X8_beats_70 zf_X8_beats_88
        have a1 : gAny (gPm g g') (j + 1) = (gAny (gPm g g') j || decide (gJ g' j < gJ g j)) := rfl
        have a2 : gAny (gPm g' g) (j + 1) = (gAny (gPm g' g) j || decide (gJ g j < gJ g' j)) := rfl
        rw [if_neg (gle25 hj), if_pos (ggN hj (by decide)), nI_clamp (by omega), (f5 j hj).1, hT.2.2.2.2.2.2.1 j hj, nI_1, a1, a2]
        simp only [if_pos (ggN hj (show 25 < 2 ^ 31 by decide))]
        simp only [lg_cmp_le, lg_cmp_ge, lN_le (show gJ g j < 2 ^ 31 by omega) (show gJ g' j < 2 ^ 31 by omega), lN_le (show gJ g' j < 2 ^ 31 by omega) (show gJ g j < 2 ^ 31 by omega)]
        rcases Nat.lt_trichotomy (gJ g j) (gJ g' j) with r | r | r
        · rw [if_pos (by omega), if_neg (by omega), decide_eq_false (by omega), decide_eq_true r, Bool.or_false, Bool.or_true]
          rfl
        · rw [if_pos (by omega), if_pos (by omega), decide_eq_false (by omega), decide_eq_false (by omega), Bool.or_false, Bool.or_false]
        · rw [if_neg (by omega), if_pos (by omega), decide_eq_true r, decide_eq_false (by omega), Bool.or_true, Bool.or_false]
          rfl
      · dsimp only
        unfold zf_X8_beats_l46
        rw [if_pos (by decide)]
    · have q' : ¬ nI (gFree g') = nI (gFree g) := by rw [nI_eq (by omega) (by omega)]; exact q
      unfold zf_X9_beats_28
      rw [if_neg q', if_neg q', if_neg (show ¬ (2 : Int32) ≤ 0 by decide)]
      exact ⟨_, _, rfl, rfl, Or.inr ⟨_, rfl, Or.inr ⟨rfl, rfl⟩, g, past, h1, h2, h3, h4, gCcS h5, h6, h7⟩⟩
