/-! mean -/
def gLc (n : Nat) : Nat → Nat
  | 0 => 1
  | k + 1 => gB n k / Nat.gcd (gLc n k) (gB n k) * gLc n k
theorem gLcT : ∀ n : Fin 25, ∀ k : Fin 25, k.val ≤ n.val → gLc n.val k.val < 2 ^ 31 ∧ 0 < gLc n.val k.val := by decide +kernel
def gUc (n : Nat) (J : Nat → Nat) : Nat → Nat
  | 0 => 0
  | k + 1 => gUc n J k * (gB n k / Nat.gcd (gLc n k) (gB n k)) + (gB n k - J k) * (gLc n k / Nat.gcd (gLc n k) (gB n k))
theorem gUcB {n : Nat} (J : Nat → Nat) (k : Nat) : gUc n J k ≤ k * gLc n k := by
  induction k with
  | zero => exact Nat.zero_le _
  | succ k ih =>
    show gUc n J k * (gB n k / Nat.gcd (gLc n k) (gB n k)) + (gB n k - J k) * (gLc n k / Nat.gcd (gLc n k) (gB n k)) ≤ (k + 1) * (gB n k / Nat.gcd (gLc n k) (gB n k) * gLc n k)
    obtain ⟨L1, hL⟩ := Nat.gcd_dvd_left (gLc n k) (gB n k)
    obtain ⟨B1, hB⟩ := Nat.gcd_dvd_right (gLc n k) (gB n k)
    generalize Nat.gcd (gLc n k) (gB n k) = G at hL hB ⊢
    by_cases z : G = 0
    · rw [z, Nat.div_zero, Nat.div_zero, Nat.mul_zero, Nat.mul_zero, Nat.zero_mul, Nat.mul_zero]
      exact Nat.le_refl _
    · have e1 : gB n k / G = B1 := Nat.div_eq_of_eq_mul_right (by omega) hB
      have e2 : gLc n k / G = L1 := Nat.div_eq_of_eq_mul_right (by omega) hL
      rw [e1, e2, Nat.add_mul, Nat.one_mul]
      refine Nat.add_le_add ?_ ?_
      · refine Nat.le_trans (Nat.mul_le_mul_right _ ih) (Nat.le_of_eq ?_)
        ac_rfl
      · refine Nat.le_trans (Nat.mul_le_mul_right _ (Nat.sub_le _ _)) (Nat.le_of_eq ?_)
        rw [hB, hL]
        ac_rfl
theorem gmeanC {n : Nat} (hn : n ≤ 24) {jn : Nat → Int64} {J : Nat → Nat} (hj : ∀ k, k < 25 → jn k = lN (J k)) (hJ : ∀ k, k < n → J k ≤ gB n k) : zit (fun d : Int64 × Int64 × Int32 => zf_X8_mean_l43 jn (nI n) d.1 d.2.1 d.2.2) zfu ((0 : Int64), (1 : Int64), (0 : Int32)) = some (lN (gUc n J n), lN (gLc n n)) := by
  have e := gitr (f := fun d : Int64 × Int64 × Int32 => zf_X8_mean_l43 jn (nI n) d.1 d.2.1 d.2.2) (fun j => (lN (gUc n J j), lN (gLc n j), nI j)) n (n := zfu) (b := (lN (gUc n J n), lN (gLc n n))) (gfu (by omega)) ?_ ?_
  · exact e
  · intro j hj'
    obtain ⟨L1, L2⟩ := gLcT ⟨n, by omega⟩ ⟨j, by omega⟩ (by show j ≤ n; omega)
    obtain ⟨M1, M2⟩ := gLcT ⟨n, by omega⟩ ⟨j + 1, by omega⟩ (by show j + 1 ≤ n; omega)
    obtain ⟨B1, B2⟩ := gBlt ⟨n, by omega⟩ ⟨j, by omega⟩
    dsimp only at L1 L2 M1 M2 B1 B2
    have B2 := B2 (by omega)
    have ec : gch n j = lN (gB n j) := gBch ⟨n, by omega⟩ ⟨j, by omega⟩
    have eL : gLc n (j + 1) = gB n j / Nat.gcd (gLc n j) (gB n j) * gLc n j := rfl
    have eU : gUc n J (j + 1) = gUc n J j * (gB n j / Nat.gcd (gLc n j) (gB n j)) + (gB n j - J j) * (gLc n j / Nat.gcd (gLc n j) (gB n j)) := rfl
    have gp : 0 < Nat.gcd (gLc n j) (gB n j) := Nat.gcd_pos_of_pos_left _ L2
    have d1 : gLc n (j + 1) / gLc n j = gB n j / Nat.gcd (gLc n j) (gB n j) := by rw [eL]; exact Nat.mul_div_cancel _ L2
    have d2 : gLc n (j + 1) / gB n j = gLc n j / Nat.gcd (gLc n j) (gB n j) := by
      obtain ⟨X, hX⟩ := Nat.gcd_dvd_left (gLc n j) (gB n j)
      obtain ⟨Y, hY⟩ := Nat.gcd_dvd_right (gLc n j) (gB n j)
      have e1 : gB n j / Nat.gcd (gLc n j) (gB n j) = Y := Nat.div_eq_of_eq_mul_right gp hY
      have e2 : gLc n j / Nat.gcd (gLc n j) (gB n j) = X := Nat.div_eq_of_eq_mul_right gp hX
      rw [eL, e1, e2]
      refine Nat.div_eq_of_eq_mul_right B2 ?_
      generalize Nat.gcd (gLc n j) (gB n j) = Q at hX hY
      rw [hX, hY]
      ac_rfl
    dsimp only
    unfold zf_X8_mean_l43 zf_X8_mean_112
    rw [if_neg (gle50 (by omega) (by omega) hj'), gchS hn (by omega), Option.bind_some, ec, if_pos (ggN (by omega) (by decide)), glowest (by omega) (by omega) B2, Option.bind_some, if_neg (show ¬ (1 : Int32) = 0 by decide), lN_mul, ← eL, if_neg (by rw [lg_cmp_le, show (0 : Int64) = lN 0 from rfl, gLle (by omega) (by decide)]; omega), if_neg (by rw [lg_cmp_le, show (0 : Int64) = lN 0 from rfl, gLle (by omega) (by decide)]; omega), if_neg (fun h => by have := (gLz0 (by omega)).mp h; omega), if_neg (fun h => by have := (gLz0 (by omega)).mp h; omega), gLdiv (by omega) (by omega) L2, gLdiv (by omega) (by omega) B2, d1, d2, nI_clamp (by omega), hj j (by omega), lN_sub (hJ j hj'), lN_mul, lN_mul, lN_add, ← eU, nI_1]
  · dsimp only
    unfold zf_X8_mean_l43
    rw [if_pos (Int32.le_refl _)]
/-- in lowest terms -/
theorem gred {p q U L : Nat} (h : p * L = U * q) (hg : Nat.gcd p q = 1) (hq : 0 < q) : ∃ t, L = q * t ∧ U = p * t := by
  have d : q ∣ L := by
    refine Nat.Coprime.dvd_of_dvd_mul_left (k := q) (m := p) (n := L) ?_ ?_
    · show Nat.gcd q p = 1
      rw [Nat.gcd_comm]; exact hg
    · rw [h]; exact Nat.dvd_mul_left q U
  obtain ⟨t, ht⟩ := d
  refine ⟨t, ht, ?_⟩
  rw [ht] at h
  have : q * U = q * (p * t) := by
    rw [Nat.mul_comm q U, ← h]
    ac_rfl
  exact Nat.eq_of_mul_eq_mul_left hq this
theorem gredE {p q U L : Nat} (h : p * L = U * q) (hg : Nat.gcd p q = 1) (hq : 0 < q) (hL : 0 < L) : U / Nat.gcd U L = p ∧ L / Nat.gcd U L = q ∧ p ≤ U ∧ q ≤ L := by
  obtain ⟨t, h1, h2⟩ := gred h hg hq
  have t0 : 0 < t := by
    rcases Nat.eq_zero_or_pos t with z | z
    · rw [z, Nat.mul_zero] at h1; omega
    · exact z
  have e : Nat.gcd U L = t := by rw [h1, h2, Nat.gcd_mul_right, hg, Nat.one_mul]
  rw [e]
  refine ⟨?_, ?_, ?_, ?_⟩
  · rw [h2]; exact Nat.mul_div_cancel _ t0
  · rw [h1]; exact Nat.mul_div_cancel _ t0
  · rw [h2]; exact Nat.le_mul_of_pos_right p t0
  · rw [h1]; exact Nat.le_mul_of_pos_right q t0
/-- one more fraction added, both ways -/
theorem gadd1 {p q U L B N0 : Nat} (h : p * L = U * q) (hB : 0 < B) (hL : 0 < L) (hq : 0 < q) : (p * (B / Nat.gcd B N0 / Nat.gcd q (B / Nat.gcd B N0)) + N0 / Nat.gcd B N0 * (q / Nat.gcd q (B / Nat.gcd B N0))) * (B / Nat.gcd L B * L) = (U * (B / Nat.gcd L B) + N0 * (L / Nat.gcd L B)) * (q / Nat.gcd q (B / Nat.gcd B N0) * (B / Nat.gcd B N0)) := by
  have g1 : 0 < Nat.gcd B N0 := Nat.gcd_pos_of_pos_left _ hB
  have g2 : 0 < Nat.gcd L B := Nat.gcd_pos_of_pos_left _ hL
  obtain ⟨A, hA⟩ := Nat.gcd_dvd_left B N0
  obtain ⟨N, hN⟩ := Nat.gcd_dvd_right B N0
  have eA : B / Nat.gcd B N0 = A := Nat.div_eq_of_eq_mul_right g1 hA
  have eN : N0 / Nat.gcd B N0 = N := Nat.div_eq_of_eq_mul_right g1 hN
  rw [eA, eN]
  have g3 : 0 < Nat.gcd q A := Nat.gcd_pos_of_pos_left _ hq
  obtain ⟨L1, hL1⟩ := Nat.gcd_dvd_left L B
  obtain ⟨B1, hB1⟩ := Nat.gcd_dvd_right L B
  have eL1 : L / Nat.gcd L B = L1 := Nat.div_eq_of_eq_mul_right g2 hL1
  have eB1 : B / Nat.gcd L B = B1 := Nat.div_eq_of_eq_mul_right g2 hB1
  rw [eL1, eB1]
  obtain ⟨q1, hq1⟩ := Nat.gcd_dvd_left q A
  obtain ⟨A1, hA1⟩ := Nat.gcd_dvd_right q A
  have eq1 : q / Nat.gcd q A = q1 := Nat.div_eq_of_eq_mul_right g3 hq1
  have eA1 : A / Nat.gcd q A = A1 := Nat.div_eq_of_eq_mul_right g3 hA1
  rw [eq1, eA1]
  generalize Nat.gcd q A = C at hq1 hA1
  generalize Nat.gcd L B = G at hL1 hB1
  generalize Nat.gcd B N0 = K at hA hN
  rw [Nat.add_mul, Nat.add_mul]
  have t1 : p * A1 * (B1 * L) = U * B1 * (q1 * A) := by
    calc p * A1 * (B1 * L) = (p * L) * (A1 * B1) := by ac_rfl
      _ = (U * (C * q1)) * (A1 * B1) := by rw [h, ← hq1]
      _ = U * B1 * (q1 * (C * A1)) := by ac_rfl
      _ = U * B1 * (q1 * A) := by rw [← hA1]
  have t2 : N * q1 * (B1 * L) = N0 * L1 * (q1 * A) := by
    calc N * q1 * (B1 * L) = N * q1 * (B1 * (G * L1)) := by rw [← hL1]
      _ = (G * B1) * (N * q1 * L1) := by ac_rfl
      _ = (K * A) * (N * q1 * L1) := by rw [← hB1, hA]
      _ = (K * N) * L1 * (q1 * A) := by ac_rfl
      _ = N0 * L1 * (q1 * A) := by rw [← hN]
  rw [t1, t2]
theorem gmeanM {g : gG} (hok : gOk g) {fc fr : Int32} {ct cs : Nat → Int32} (hM : gRM g fc fr ct cs) (D : gD9) (hD : gLdD g D) : ∃ p q, ∃ M : gD9, zit (fun d : Int64 × Int64 × Int32 × gD9 => zf_X9_mean_l32 fc fr ct cs (nI (gFree g)) d.1 d.2.1 d.2.2.1 d.2.2.2.1 d.2.2.2.2.1 d.2.2.2.2.2.1 d.2.2.2.2.2.2.1 d.2.2.2.2.2.2.2.1 d.2.2.2.2.2.2.2.2.1 d.2.2.2.2.2.2.2.2.2.1 d.2.2.2.2.2.2.2.2.2.2.1 d.2.2.2.2.2.2.2.2.2.2.2.1 d.2.2.2.2.2.2.2.2.2.2.2.2.1 d.2.2.2.2.2.2.2.2.2.2.2.2.2) zfu ((0 : Int64), (1 : Int64), (0 : Int32), D.1, D.2.1, D.2.2.1, D.2.2.2.1, D.2.2.2.2.1, D.2.2.2.2.2.1, D.2.2.2.2.2.2.1, D.2.2.2.2.2.2.2.1, D.2.2.2.2.2.2.2.2.1, D.2.2.2.2.2.2.2.2.2.1, D.2.2.2.2.2.2.2.2.2.2) = some (lN p, lN q, M) ∧ gLdD g M ∧ p * gLc (gFree g) (gFree g) = gUc (gFree g) (gJ g) (gFree g) * q ∧ Nat.gcd p q = 1 ∧ 0 < q := by
  have f24 := hok.2
  have hH := gitH (f := fun d : Int64 × Int64 × Int32 × gD9 => zf_X9_mean_l32 fc fr ct cs (nI (gFree g)) d.1 d.2.1 d.2.2.1 d.2.2.2.1 d.2.2.2.2.1 d.2.2.2.2.2.1 d.2.2.2.2.2.2.1 d.2.2.2.2.2.2.2.1 d.2.2.2.2.2.2.2.2.1 d.2.2.2.2.2.2.2.2.2.1 d.2.2.2.2.2.2.2.2.2.2.1 d.2.2.2.2.2.2.2.2.2.2.2.1 d.2.2.2.2.2.2.2.2.2.2.2.2.1 d.2.2.2.2.2.2.2.2.2.2.2.2.2) (fun j d => ∃ p q, d.1 = lN p ∧ d.2.1 = lN q ∧ d.2.2.1 = nI j ∧ gLdD g d.2.2.2 ∧ p * gLc (gFree g) j = gUc (gFree g) (gJ g) j * q ∧ Nat.gcd p q = 1 ∧ 0 < q) (fun d => ∃ p q, d.1 = lN p ∧ d.2.1 = lN q ∧ gLdD g d.2.2 ∧ p * gLc (gFree g) (gFree g) = gUc (gFree g) (gJ g) (gFree g) * q ∧ Nat.gcd p q = 1 ∧ 0 < q) (gFree g) (n := zfu) (gfu (by omega)) (a := ((0 : Int64), (1 : Int64), (0 : Int32), D)) ⟨0, 1, rfl, rfl, rfl, hD, rfl, rfl, by decide⟩ ?_ ?_
  · obtain ⟨⟨b1, b2, M⟩, e, p, q, h1, h2, h3, h4, h5, h6⟩ := hH
    dsimp only at h1 h2 h3
    subst h1 h2
    exact ⟨p, q, M, e, h3, h4, h5, h6⟩
  · rintro j ⟨_, _, _, E⟩ hj ⟨p, q, rfl, rfl, rfl, hE, hpq, hg, hq⟩
    dsimp only at hE ⊢
    obtain ⟨M, e, m1, m2⟩ := gjoinsOf hok hM E hE (k := j) (by omega)
    obtain ⟨L1, L2⟩ := gLcT ⟨gFree g, by omega⟩ ⟨j, by omega⟩ (by show j ≤ gFree g; omega)
    obtain ⟨B1, B2⟩ := gBlt ⟨gFree g, by omega⟩ ⟨j, by omega⟩
    dsimp only at L1 L2 B1 B2
    have B2 := B2 (by omega)
    have ec : gch (gFree g) j = lN (gB (gFree g) j) := gBch ⟨gFree g, by omega⟩ ⟨j, by omega⟩
    have hJ : gJ g j ≤ gB (gFree g) j := by
      have := gJ_ct hok.1 j
      rw [gCt_B hok _ (Nat.le_refl _) j (by omega), gFs_all hok.1] at this
      exact this
    have ub := gUcB (n := gFree g) (gJ g) j
    obtain ⟨-, -, pU, qL⟩ := gredE hpq hg hq L2
    have ad := gadd1 (N0 := gB (gFree g) j - gJ g j) hpq B2 L2 hq
    have u36 : gUc (gFree g) (gJ g) j < 2 ^ 36 := by
      have : j * gLc (gFree g) j ≤ 24 * 2 ^ 31 := Nat.mul_le_mul (by omega) (by omega)
      omega
    generalize hNn : gB (gFree g) j - gJ g j = N0 at ad
    have N24 : N0 < 2 ^ 24 := by omega
    generalize hBb : gB (gFree g) j = B at *
    have g1 : 0 < Nat.gcd B N0 := Nat.gcd_pos_of_pos_left _ B2
    have g1l : Nat.gcd B N0 ≤ B := Nat.gcd_le_left _ B2
    have Al : B / Nat.gcd B N0 ≤ B := Nat.div_le_self _ _
    have A0 : 0 < B / Nat.gcd B N0 := Nat.div_gcd_pos_of_pos_left _ B2
    have Nl : N0 / Nat.gcd B N0 ≤ N0 := Nat.div_le_self _ _
    generalize hA : B / Nat.gcd B N0 = A at *
    generalize hN : N0 / Nat.gcd B N0 = N at *
    have g2 : 0 < Nat.gcd q A := Nat.gcd_pos_of_pos_left _ hq
    have g2l : Nat.gcd q A ≤ q := Nat.gcd_le_left _ hq
    have q1l : q / Nat.gcd q A ≤ q := Nat.div_le_self _ _
    have A1l : A / Nat.gcd q A ≤ A := Nat.div_le_self _ _
    have q10 : 0 < q / Nat.gcd q A := Nat.div_gcd_pos_of_pos_left _ hq
    generalize hA1 : A / Nat.gcd q A = A1 at *
    generalize hq1 : q / Nat.gcd q A = q1 at *
    have b2 : q1 * A < 2 ^ 56 := by
      have : q1 * A ≤ 2 ^ 31 * 2 ^ 24 := Nat.mul_le_mul (by omega) (by omega)
      omega
    have b20 : 0 < q1 * A := Nat.mul_pos q10 A0
    have c2 : p * A1 + N * q1 < 2 ^ 62 := by
      have k1 : p * A1 ≤ 2 ^ 36 * 2 ^ 24 := Nat.mul_le_mul (by omega) (by omega)
      have k2 : N * q1 ≤ 2 ^ 24 * 2 ^ 31 := Nat.mul_le_mul (by omega) (by omega)
      omega
    generalize hb : q1 * A = bl at *
    generalize hu : p * A1 + N * q1 = up at *
    have g3 : 0 < Nat.gcd bl up := Nat.gcd_pos_of_pos_left _ b20
    have g3l : Nat.gcd bl up ≤ bl := Nat.gcd_le_left _ b20
    have n1 : ¬ lN (Nat.gcd B N0) = 0 := fun h => by have := (gLz0 (by omega)).mp h; omega
    have n2 : ¬ lN (Nat.gcd q A) = 0 := fun h => by have := (gLz0 (by omega)).mp h; omega
    have n3 : ¬ lN (Nat.gcd bl up) = 0 := fun h => by have := (gLz0 (by omega)).mp h; omega
    unfold zf_X9_mean_l32
    rw [if_neg (gle50 (by omega) (by omega) hj), gchE, gchS f24 (by omega), Option.bind_some, e, Option.bind_some, ec]
    dsimp only
    rw [lN_sub hJ, hNn, gdivisor (by omega) (by omega), Option.bind_some, if_neg n1, if_neg n1, gLdiv (by omega) (by omega) g1, hA, gLdiv (by omega) (by omega) g1, hN, gdivisor (by omega) (by omega), Option.bind_some, if_neg n2, if_neg n2, if_neg n2, gLdiv (by omega) (by omega) g2, hq1, gLdiv (by omega) (by omega) g2, hA1, lN_mul, lN_mul, lN_mul, lN_add, hb, hu, gdivisor (by omega) (by omega), Option.bind_some, if_neg n3, if_neg n3, gLdiv (by omega) (by omega) g3, gLdiv (by omega) (by omega) g3, nI_1]
    refine ⟨_, rfl, up / Nat.gcd bl up, bl / Nat.gcd bl up, rfl, rfl, rfl, m2, ?_, ?_, Nat.div_gcd_pos_of_pos_left _ b20⟩
    · have eL : gLc (gFree g) (j + 1) = B / Nat.gcd (gLc (gFree g) j) B * gLc (gFree g) j := by rw [← hBb]; rfl
      have eU : gUc (gFree g) (gJ g) (j + 1) = gUc (gFree g) (gJ g) j * (B / Nat.gcd (gLc (gFree g) j) B) + N0 * (gLc (gFree g) j / Nat.gcd (gLc (gFree g) j) B) := by rw [← hNn, ← hBb]; rfl
      rw [eL, eU]
      refine Nat.eq_of_mul_eq_mul_left g3 ?_
      obtain ⟨X, hX⟩ := Nat.gcd_dvd_left bl up
      obtain ⟨Y, hY⟩ := Nat.gcd_dvd_right bl up
      have k1 : bl / Nat.gcd bl up = X := Nat.div_eq_of_eq_mul_right g3 hX
      have k2 : up / Nat.gcd bl up = Y := Nat.div_eq_of_eq_mul_right g3 hY
      rw [k1, k2]
      generalize Nat.gcd bl up = Q at hX hY
      rw [← Nat.mul_assoc, ← hY, ad, hX]
      ac_rfl
    · rw [Nat.gcd_comm]
      exact Nat.gcd_div_gcd_div_gcd_of_pos_left b20
  · rintro ⟨_, _, _, E⟩ ⟨p, q, rfl, rfl, rfl, hE, hpq, hg, hq⟩
    dsimp only at hE ⊢
    unfold zf_X9_mean_l32
    rw [if_pos (Int32.le_refl _)]
    exact ⟨_, rfl, p, q, rfl, rfl, hE, hpq, hg, hq⟩
theorem gP32_ok : gP32 gInv := by
  intro xi xu fg xh xk ac LG G mi mh mk h x1 hb1
  obtain ⟨g, past, h1, h2, h3, h4, h5, h6, h7⟩ := h
  obtain ⟨hok, hg, hx, hm⟩ := id h3
  have f24 := hok.2
  obtain ⟨T, eT, hT, cT⟩ := gcountD hok hg hx h5
  obtain ⟨M, eM, m1, m2⟩ := gjoinsOf hok hm (mi 10, mh 12, mh 13, mk 0, mh 14, mh 15, mh 16, mh 10, mh 17, mk 1, mh 18) h6 (k := gFree g) (by omega)
  dsimp only at eM
  unfold zf_X8_mean zf_X9_mean
  rw [gX2free hok.1 hx, Option.bind_some, eT, Option.bind_some, if_neg (gle25 (by omega)), if_pos (ggN (by omega) (by decide)), nI_clamp (by omega), hT.2.2.2.2.2.2.1 _ (by omega), gX9free hok.1 hm, Option.bind_some, eM, Option.bind_some]
  dsimp only
  by_cases z : lg_cmp (lN (gJ g (gFree g))) 0 = 0
  · rw [if_pos z, if_pos z]
    exact ⟨_, _, rfl, rfl, rfl, g, past, h1, h2, h3, h4, cT, m2, h7⟩
  · rw [if_neg z, if_neg z]
    have hJ : ∀ k, k < gFree g → gJ g k ≤ gB (gFree g) k := fun k hk => by
      have := gJ_ct hok.1 k
      rw [gCt_B hok _ (Nat.le_refl _) k (by omega), gFs_all hok.1] at this
      exact this
    obtain ⟨p, q, M', e', m2', hpq, hg', hq⟩ := gmeanM hok hm M m2
    obtain ⟨L1, L2⟩ := gLcT ⟨gFree g, by omega⟩ ⟨gFree g, by omega⟩ (Nat.le_refl _)
    dsimp only at L1 L2
    have ub := gUcB (n := gFree g) (gJ g) (gFree g)
    have u36 : gUc (gFree g) (gJ g) (gFree g) < 2 ^ 36 := by
      have : gFree g * gLc (gFree g) (gFree g) ≤ 24 * 2 ^ 31 := Nat.mul_le_mul f24 (by omega)
      omega
    obtain ⟨r1, r2, -, -⟩ := gredE hpq hg' hq L2
    rw [gmeanC f24 hT.2.2.2.2.2.2.1 hJ, Option.bind_some, e', Option.bind_some]
    dsimp only
    rw [glowest (by omega) (by omega) L2, Option.bind_some, r1, r2]
    by_cases w : x1 = 0
    · rw [if_pos w, if_pos w]
      exact ⟨_, _, rfl, rfl, rfl, g, past, h1, h2, h3, h4, cT, m2', h7⟩
    · rw [if_neg w, if_neg w]
      exact ⟨_, _, rfl, rfl, rfl, g, past, h1, h2, h3, h4, cT, m2', h7⟩
