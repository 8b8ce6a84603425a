/-! longs that count up to 2^63; greatest common divisors; powers -/
theorem gLi {n : Nat} (h : n < 2 ^ 63) : (lN n).toInt = (n : Int) := lg_ofNat_toInt h
theorem gLle {a b : Nat} (ha : a < 2 ^ 63) (hb : b < 2 ^ 63) : lN a ≤ lN b ↔ a ≤ b := by
  rw [Int64.le_iff_toInt_le, gLi ha, gLi hb]
  omega
theorem gLlt {a b : Nat} (ha : a < 2 ^ 63) (hb : b < 2 ^ 63) : lN a < lN b ↔ a < b := by
  rw [Int64.lt_iff_toInt_lt, gLi ha, gLi hb]
  omega
theorem gLeq {a b : Nat} (ha : a < 2 ^ 63) (hb : b < 2 ^ 63) : lN a = lN b ↔ a = b := by
  rw [← Int64.toInt_inj, gLi ha, gLi hb]
  omega
theorem gLz0 {a : Nat} (ha : a < 2 ^ 63) : lN a = 0 ↔ a = 0 := gLeq ha (by decide)
theorem gLdiv {a b : Nat} (ha : a < 2 ^ 63) (hb : b < 2 ^ 63) (h0 : 0 < b) : lN a / lN b = lN (a / b) := by
  rw [← Int64.toInt_inj, lg_ldiv_nonneg (by rw [gLi ha]; omega) (by rw [gLi hb]; omega), gLi ha, gLi hb, gLi (Nat.lt_of_le_of_lt (Nat.div_le_self _ _) ha)]
  rfl
theorem gLrem {a b : Nat} (ha : a < 2 ^ 63) (hb : b < 2 ^ 63) (h0 : 0 < b) : zlrem (lN a) (lN b) = lN (a % b) := by
  unfold zlrem
  have h1 : a / b * b ≤ a := Nat.div_mul_le_self a b
  rw [gLdiv ha hb h0, lN_mul, lN_sub h1]
  congr 1
  have := Nat.div_add_mod a b
  rw [Nat.mul_comm] at this
  omega
/-- how far Euclid still has to go -/
def gEu (a b : Nat) : Nat := if b = 0 then 0 else Nat.log2 (a * b) + 1 + (if a < b then 1 else 0)
theorem gEu_step {a b : Nat} (h0 : 0 < b) : gEu b (a % b) < gEu a b := by
  have hr := Nat.mod_lt a h0
  unfold gEu
  rw [if_neg (show ¬ b = 0 by omega)]
  by_cases r0 : a % b = 0
  · rw [if_pos r0]; omega
  · rw [if_neg r0, if_neg (show ¬ b < a % b by omega)]
    by_cases q : a < b
    · rw [Nat.mod_eq_of_lt q, if_pos q, Nat.mul_comm b a]; omega
    · rw [if_neg q]
      have dm := Nat.div_add_mod a b
      have d1 : 1 ≤ a / b := Nat.div_pos (by omega) h0
      have l1 : b + a % b ≤ a := by
        have : b * 1 ≤ b * (a / b) := Nat.mul_le_mul_left b d1
        omega
      have l2 : 2 * (b * (a % b)) ≤ a * b := by
        have : b * (2 * (a % b)) ≤ b * a := Nat.mul_le_mul_left b (by omega)
        rw [Nat.mul_comm a b]
        have e : b * (2 * (a % b)) = 2 * (b * (a % b)) := by rw [Nat.mul_left_comm]
        omega
      have p0 : 0 < b * (a % b) := Nat.mul_pos h0 (by omega)
      have l3 : Nat.log2 (b * (a % b)) < Nat.log2 (a * b) := by
        rw [Nat.lt_iff_add_one_le, Nat.le_log2 (by omega), Nat.pow_succ]
        have := Nat.log2_self_le (n := b * (a % b)) (by omega)
        omega
      omega
theorem gEu_le {a b : Nat} (ha : a < 2 ^ 63) (hb : b < 2 ^ 63) : gEu a b ≤ 128 := by
  unfold gEu
  by_cases q : b = 0
  · rw [if_pos q]; omega
  · rw [if_neg q]
    have l : Nat.log2 (a * b) ≤ 126 := by
      by_cases z : a * b = 0
      · rw [z]; decide
      · have h1 : a * b < 2 ^ 126 := by
          have : a * b < 2 ^ 63 * 2 ^ 63 := Nat.mul_lt_mul'' ha hb
          rw [← Nat.pow_add] at this
          exact this
        have := (Nat.log2_lt z).mpr h1
        omega
    have : (if a < b then 1 else 0) ≤ 1 := by by_cases r : a < b <;> simp [r]
    omega
theorem ggcdS {a b : Nat} : Nat.gcd b (a % b) = Nat.gcd a b := by
  rw [Nat.gcd_comm b, ← Nat.gcd_rec, Nat.gcd_comm]
theorem gdivisor {a b : Nat} (ha : a < 2 ^ 63) (hb : b < 2 ^ 63) : zf_X9_divisor (lN a) (lN b) = some (lN (Nat.gcd a b)) := by
  unfold zf_X9_divisor
  have key : ∀ n a b, a < 2 ^ 63 → b < 2 ^ 63 → gEu a b < n → zit (fun d : Int64 × Int64 => zf_X9_divisor_l6 d.1 d.2) n (lN a, lN b) = some (lN (Nat.gcd a b)) := by
    intro n
    induction n with
    | zero => intro a b _ _ h; omega
    | succ n ih =>
      intro a b ha hb h
      unfold zit
      dsimp only
      unfold zf_X9_divisor_l6
      by_cases q : b = 0
      · subst q
        rw [if_pos (by rw [lg_cmp_eq]; rfl), Nat.gcd_zero_right]
        rfl
      · have n0 : ¬ lN b = 0 := fun e => q ((gLz0 hb).mp e)
        rw [if_neg (by rw [lg_cmp_eq]; exact n0), if_neg n0, gLrem ha hb (by omega)]
        have := ih b (a % b) hb (Nat.lt_trans (Nat.mod_lt a (by omega)) hb) (by have := gEu_step (a := a) (show 0 < b by omega); omega)
        rw [ggcdS] at this
        exact this
  rw [key zfu a b ha hb (Nat.lt_of_le_of_lt (gEu_le ha hb) (gfu (by decide)))]
  rfl
theorem glowL {u l : Nat} (hu : u < 2 ^ 63) (hl : l < 2 ^ 63) : zit (fun d : Int64 × Int64 × Int32 => zf_X8_lowest_l9 d.1 d.2.1 d.2.2) zfu (lN l, lN u, (0 : Int32)) = some (lN (Nat.gcd u l)) := by
  have key : ∀ n a b i, a < 2 ^ 63 → b < 2 ^ 63 → gEu a b < n → i + gEu a b ≤ 128 → zit (fun d : Int64 × Int64 × Int32 => zf_X8_lowest_l9 d.1 d.2.1 d.2.2) n (lN a, lN b, nI i) = some (lN (Nat.gcd a b)) := by
    intro n
    induction n with
    | zero => intro a b i _ _ h; omega
    | succ n ih =>
      intro a b i ha hb h hi
      unfold zit
      dsimp only
      unfold zf_X8_lowest_l9
      rw [if_neg (gle200 (by omega))]
      by_cases q : b = 0
      · subst q
        rw [if_pos (by rw [lg_cmp_eq]; rfl), Nat.gcd_zero_right]
        rfl
      · have n0 : ¬ lN b = 0 := fun e => q ((gLz0 hb).mp e)
        have st := gEu_step (a := a) (show 0 < b by omega)
        rw [if_neg (by rw [lg_cmp_eq]; exact n0), if_neg n0, gLrem ha hb (by omega), nI_1]
        have := ih b (a % b) (i + 1) hb (Nat.lt_trans (Nat.mod_lt a (by omega)) hb) (by omega) (by omega)
        rw [ggcdS] at this
        exact this
  rw [Nat.gcd_comm]
  exact key zfu l u 0 hl hu (Nat.lt_of_le_of_lt (gEu_le hl hu) (gfu (by decide))) (by have := gEu_le hl hu; omega)
theorem ggcdP {u l : Nat} (h : 0 < l) : 0 < Nat.gcd u l := Nat.gcd_pos_of_pos_right u h
theorem ggcdL {u l : Nat} (hl : l < 2 ^ 63) (h : 0 < l) : Nat.gcd u l < 2 ^ 63 := Nat.lt_of_le_of_lt (Nat.le_of_dvd h (Nat.gcd_dvd_right u l)) hl
theorem glowest {u l : Nat} (hu : u < 2 ^ 63) (hl : l < 2 ^ 63) (h0 : 0 < l) (x : Int32) : zf_X8_lowest (lN u) (lN l) x = some (if x = 0 then lN (u / Nat.gcd u l) else lN (l / Nat.gcd u l)) := by
  have gp := ggcdP (u := u) h0
  have gl := ggcdL (u := u) hl h0
  have n0 : ¬ lN (Nat.gcd u l) = 0 := fun e => by have := (gLz0 gl).mp e; omega
  unfold zf_X8_lowest
  rw [glowL hu hl, Option.bind_some]
  unfold zf_X8_lowest_45
  rw [if_neg (by rw [lg_cmp_eq]; exact n0), if_neg n0, if_neg n0, gLdiv hu gl gp, gLdiv hl gl gp]
  by_cases q : x = 0
  · rw [if_pos q, if_pos q]
  · rw [if_neg q, if_neg q]
theorem gpart {u l : Nat} (hu : u < 2 ^ 63) (hl : l < 2 ^ 63) (h0 : 0 < l) (x : Int32) : zf_X9_part (lN u) (lN l) x = some (if x = 0 then lN (u / Nat.gcd u l) else lN (l / Nat.gcd u l)) := by
  have gp := ggcdP (u := u) h0
  have gl := ggcdL (u := u) hl h0
  have n0 : ¬ lN (Nat.gcd u l) = 0 := fun e => by have := (gLz0 gl).mp e; omega
  unfold zf_X9_part zf_X9_part_10
  rw [gdivisor hu hl, Option.bind_some, if_neg n0, Option.bind_some, if_neg n0, gLdiv hu gl gp, gLdiv hl gl gp]
  by_cases q : x = 0
  · rw [if_pos q, if_pos q]
  · rw [if_neg q, if_neg q]
theorem gpow8 {a n : Nat} (ha : a < 2 ^ 31) (hn : n < 1000) : zf_X8_power (nI a) (nI n) = some (lN (a ^ n)) := by
  unfold zf_X8_power
  have e := gitr (f := fun d : Int64 × Int32 => zf_X8_power_l5 (nI a) (nI n) d.1 d.2) (fun j => (lN (a ^ j), nI j)) n (n := zfu) (b := lN (a ^ n)) (gfu (by omega)) ?_ ?_
  · rw [show ((1 : Int64), (0 : Int32)) = (lN (a ^ 0), nI 0) from rfl, e]
    rfl
  · intro j hj
    dsimp only
    unfold zf_X8_power_l5
    rw [if_neg (gle50 (by omega) (by omega) hj), nI_l ha, lN_mul, nI_1, Nat.pow_succ]
  · dsimp only
    unfold zf_X8_power_l5
    rw [if_pos (Int32.le_refl _)]
theorem gpow9 {a n : Nat} (hn : n < 1000) : zf_X9_power (lN a) (nI n) = some (lN (a ^ n)) := by
  unfold zf_X9_power
  have e := gitr (f := fun d : Int64 × Int32 => zf_X9_power_l5 (lN a) (nI n) d.1 d.2) (fun j => (lN (a ^ j), nI j)) n (n := zfu) (b := lN (a ^ n)) (gfu (by omega)) ?_ ?_
  · rw [show ((1 : Int64), (0 : Int32)) = (lN (a ^ 0), nI 0) from rfl, e]
    rfl
  · intro j hj
    dsimp only
    unfold zf_X9_power_l5
    rw [if_neg (gle50 (by omega) (by omega) hj), lN_mul, nI_1, Nat.pow_succ]
  · dsimp only
    unfold zf_X9_power_l5
    rw [if_pos (Int32.le_refl _)]
/-- is the chance one? -/
theorem gchance (m : Nat) (hm : m < 100) (x1 x2 : Int32) : (∃ a b, a ≤ b ∧ 1 ≤ b ∧ b ≤ m ∧ x1 = nI a ∧ x2 = nI b ∧ zf_X8_demandChance x1 x2 (nI m) = some (.inl ())) ∨ (zf_X8_demandChance x1 x2 (nI m) = some (.inr 2) ∧ (x2 < 1 ∨ nI m < x2 ∨ x1 < 0 ∨ ¬ x1 ≤ x2)) := by
  unfold zf_X8_demandChance zf_X8_demandChance_19
  by_cases a : x2 < 1
  · rw [if_pos a]; exact Or.inr ⟨rfl, Or.inl a⟩
  · rw [if_neg a]
    by_cases b : nI m < x2
    · rw [if_pos b]; exact Or.inr ⟨rfl, Or.inr (Or.inl b)⟩
    · rw [if_neg b]
      by_cases c : x1 < 0
      · rw [if_pos c]; exact Or.inr ⟨rfl, Or.inr (Or.inr (Or.inl c))⟩
      · rw [if_neg c]
        by_cases d : x1 ≤ x2
        · rw [if_pos d]
          left
          have p2 : ¬ x2 < 0 := fun h => a (Int32.lt_of_lt_of_le h (by decide))
          obtain ⟨B, hB, rfl⟩ := nI_of p2
          obtain ⟨A, hA, rfl⟩ := nI_of c
          rw [nI_ltI (by omega) hB] at b
          rw [nI_leI hA hB] at d
          rw [show (1 : Int32) = nI 1 from rfl, nI_ltI hB (by decide)] at a
          exact ⟨A, B, d, by omega, by omega, rfl, rfl, rfl⟩
        · rw [if_neg d]; exact Or.inr ⟨rfl, Or.inr (Or.inr (Or.inr d))⟩
theorem gchT9 {a b : Nat} (h1 : a ≤ b) (h2 : 1 ≤ b) (h3 : b ≤ 6) : zf_X9_isChance (nI a) (nI b) = some 1 := by
  unfold zf_X9_isChance
  have c1 : ¬ nI b < (1 : Int32) := by
    rw [show (1 : Int32) = nI 1 from rfl, nI_ltI (by omega) (by decide)]
    omega
  have c2 : nI b ≤ (6 : Int32) := by
    rw [show (6 : Int32) = nI 6 from rfl, nI_leI (by omega) (by decide)]
    omega
  rw [gIn, Option.bind_some, if_neg c1, if_pos c2, if_neg (show ¬ (1 : Int32) = 0 by decide), ginE (by omega) (by omega), Option.bind_some, if_pos h1, if_neg (show ¬ (1 : Int32) = 0 by decide)]
theorem gchN9 {x1 x2 : Int32} (h : x2 < 1 ∨ (6 : Int32) < x2 ∨ x1 < 0 ∨ ¬ x1 ≤ x2) : zf_X9_isChance x1 x2 = some 0 := by
  unfold zf_X9_isChance
  rw [gIn, Option.bind_some, gIn, Option.bind_some]
  by_cases a : x2 < 1
  · rw [if_pos a, if_pos rfl]
  · rw [if_neg a]
    by_cases b : x2 ≤ (6 : Int32)
    · rw [if_pos b, if_neg (show ¬ (1 : Int32) = 0 by decide)]
      by_cases c : x1 < 0
      · rw [if_pos c, if_pos rfl]
      · have nd : ¬ x1 ≤ x2 := by
          intro d
          rcases h with h | h | h | h
          · exact a h
          · exact Int32.not_le.mpr h b
          · exact c h
          · exact h d
        rw [if_neg c, if_neg nd, if_pos rfl]
    · rw [if_neg b, if_pos rfl]
/-- sums -/
theorem gSum_mul (c : Nat) (f : Nat → Nat) (n : Nat) : gSum (fun i => c * f i) n = c * gSum f n := by
  induction n with
  | zero => rfl
  | succ n ih =>
    show gSum (fun i => c * f i) n + c * f n = c * (gSum f n + f n)
    rw [ih, Nat.mul_add]
theorem gSum_first (f : Nat → Nat) (n : Nat) : gSum f (n + 1) = f 0 + gSum (fun i => f (i + 1)) n := by
  induction n with
  | zero => show 0 + f 0 = f 0 + 0; omega
  | succ n ih =>
    show gSum f (n + 1) + f (n + 1) = f 0 + (gSum (fun i => f (i + 1)) n + f (n + 1))
    rw [ih]; omega
theorem gSum_rev (n : Nat) : ∀ f : Nat → Nat, gSum (fun k => f (n - k)) (n + 1) = gSum f (n + 1) := by
  induction n with
  | zero => intro f; rfl
  | succ n ih =>
    intro f
    rw [gSum_first f (n + 1)]
    show gSum (fun k => f (n + 1 - k)) (n + 1) + f (n + 1 - (n + 1)) = _
    rw [Nat.sub_self, Nat.add_comm]
    congr 1
    rw [← ih (fun i => f (i + 1))]
    exact gSum_cong fun k hk => by rw [show n + 1 - k = n - k + 1 by omega]
/-- Pascal's rows -/
def gPrw : Nat → List Nat
  | 0 => [1]
  | n + 1 => List.zipWith (fun a b => a + b) (0 :: gPrw n) (gPrw n ++ [0])
def gB (n k : Nat) : Nat := (gPrw n).getD k 0
theorem gB0T : ∀ k : Fin 26, gB 0 k.val = if k.val = 0 then 1 else 0 := by decide +kernel
theorem gBST : ∀ n : Fin 24, ∀ k : Fin 26, gB (n.val + 1) k.val = (if k.val = 0 then 0 else gB n.val (k.val - 1)) + gB n.val k.val := by decide +kernel
theorem gBsy : ∀ n : Fin 25, ∀ k : Fin 25, k.val ≤ n.val → gB n.val (n.val - k.val) = gB n.val k.val := by decide +kernel
theorem gBch : ∀ n : Fin 25, ∀ k : Fin 25, gch n.val k.val = lN (gB n.val k.val) := by decide +kernel
theorem gBlt : ∀ n : Fin 25, ∀ k : Fin 25, gB n.val k.val < 2 ^ 24 ∧ (k.val ≤ n.val → 0 < gB n.val k.val) := by decide +kernel
theorem gCt_B {g : gG} (hok : gOk g) : ∀ i, i ≤ gRS g.1 g.2.1 → ∀ k, k < 26 → gCt g i k = gB (gFs g i) k := by
  intro i
  induction i with
  | zero =>
    intro _ k hk
    rw [show gFs g 0 = 0 from rfl, gB0T ⟨k, hk⟩]
    show gSum (fun s => if s = gS0 g ∧ k = 0 then 1 else 0) (gSz g.1) = _
    by_cases q : k = 0
    · rw [if_pos q, gSum_cong (f' := fun s => if gS0 g = s then (fun _ => 1) s else 0) (fun s _ => by
        by_cases e : gS0 g = s
        · rw [if_pos ⟨e.symm, q⟩, if_pos e]
        · rw [if_neg (fun h => e h.1.symm), if_neg e])]
      exact gSum_one (fun _ => 1) (gS0_lt hok.1).1
    · rw [if_neg q]
      exact gSum_z fun s _ => if_neg fun h => q h.2
  | succ i ih =>
    intro hi k hk
    rw [gCtS hok.1 (by omega), gFsS]
    by_cases q : gHow g (gStep g i).1 = 0
    · have f24 := gFs24 hok hi
      rw [gFsS, if_pos q] at f24
      rw [if_pos q, if_pos q, gBST ⟨gFs g i, by omega⟩ ⟨k, hk⟩, ih (by omega) k hk]
      congr 1
      by_cases z : k = 0
      · rw [if_pos z, if_pos z]
      · rw [if_neg z, if_neg z, ih (by omega) (k - 1) (by omega)]
    · rw [if_neg q, if_neg q, Nat.add_zero, ih (by omega) k hk]
theorem gCt_ch {g : gG} (hok : gOk g) {k : Nat} (hk : k < 25) : gch (gFree g) k = lN (gCt g (gRS g.1 g.2.1) k) := by
  rw [gCt_B hok _ (Nat.le_refl _) k (by omega), gFs_all hok.1]
  exact gBch ⟨gFree g, by have := hok.2; omega⟩ ⟨k, hk⟩
/-- the weight of all choices of the first pipes -/
theorem gwAll {g : gG} (hok : gOk g) (a d : Nat) : ∀ i, i ≤ gRS g.1 g.2.1 → gSum (fun k => gCt g i k * (a ^ k * d ^ (gFs g i - k))) (gFs g i + 1) = (a + d) ^ gFs g i := by
  intro i
  induction i with
  | zero =>
    intro _
    show 0 + gCt g 0 0 * (a ^ 0 * d ^ 0) = (a + d) ^ 0
    rw [gCt_B hok 0 (Nat.zero_le _) 0 (by decide)]
    rfl
  | succ i ih =>
    intro hi
    have h := ih (by omega)
    rw [gFsS]
    by_cases q : gHow g (gStep g i).1 = 0
    · rw [if_pos q, gSum_cong (f' := fun k => (if k = 0 then 0 else a * (gCt g i (k - 1) * (a ^ (k - 1) * d ^ (gFs g i - (k - 1))))) + gCt g i k * (a ^ k * d ^ (gFs g i + 1 - k))) (fun k hk => ?_), gSum_add, gShift (fun j => a * (gCt g i j * (a ^ j * d ^ (gFs g i - j)))), gSum_mul, h]
      · show _ + (gSum (fun k => gCt g i k * (a ^ k * d ^ (gFs g i + 1 - k))) (gFs g i + 1) + gCt g i (gFs g i + 1) * (a ^ (gFs g i + 1) * d ^ (gFs g i + 1 - (gFs g i + 1)))) = _
        have z : gCt g i (gFs g i + 1) = 0 := gSum_z fun s _ => gC_far g i s _ (by omega)
        rw [z, Nat.zero_mul, Nat.add_zero, gSum_cong (f' := fun k => d * (gCt g i k * (a ^ k * d ^ (gFs g i - k)))) (fun k hk => by
          rw [show gFs g i + 1 - k = (gFs g i - k) + 1 by omega, Nat.pow_succ]
          rw [Nat.mul_left_comm d, Nat.mul_left_comm d, Nat.mul_comm (d ^ (gFs g i - k)) d]), gSum_mul, h, Nat.pow_succ, ← Nat.add_mul, Nat.mul_comm]
      · rw [gCtS hok.1 (by omega), if_pos q, Nat.add_mul]
        congr 1
        by_cases z : k = 0
        · rw [if_pos z, if_pos z, Nat.zero_mul]
        · rw [if_neg z, if_neg z]
          obtain ⟨j, rfl⟩ : ∃ j, k = j + 1 := ⟨k - 1, by omega⟩
          rw [Nat.add_sub_cancel, show gFs g i + 1 - (j + 1) = gFs g i - j by omega, Nat.pow_succ]
          rw [Nat.mul_left_comm a, Nat.mul_comm (a ^ j) a, Nat.mul_assoc a]
    · have e0 : gFs g i + (if gHow g (gStep g i).1 = 0 then 1 else 0) = gFs g i := by rw [if_neg q]; rfl
      rw [e0, ← h]
      exact gSum_cong fun k _ => by rw [gCtS hok.1 (by omega), if_neg q]
