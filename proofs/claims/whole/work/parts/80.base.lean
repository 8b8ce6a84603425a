/-! the pure part: loops along a told sequence, numbers, bits -/
theorem gitr {α β : Type} {f : α → Option (α ⊕ β)} (S : Nat → α) (m : Nat) {n : Nat} {b : β} (h : m < n) (hs : ∀ j, j < m → f (S j) = some (.inl (S (j + 1)))) (hb : f (S m) = some (.inr b)) : zit f n (S 0) = some b := by
  have key : ∀ (k j : Nat), j + k = m → ∀ n, k < n → zit f n (S j) = some b := by
    intro k
    induction k with
    | zero =>
      intro j hj n hn
      obtain ⟨n, rfl⟩ : ∃ q, n = q + 1 := ⟨n - 1, by omega⟩
      obtain rfl : j = m := by omega
      unfold zit
      rw [hb]
      rfl
    | succ k ih =>
      intro j hj n hn
      obtain ⟨n, rfl⟩ : ∃ q, n = q + 1 := ⟨n - 1, by omega⟩
      unfold zit
      rw [hs j (by omega)]
      exact ih (j + 1) (by omega) n (by omega)
  exact key m 0 (by omega) n h
theorem gfu {m : Nat} (h : m < 1000000) : m < zfu := h
theorem ggd {i : Int32} {n : Nat} : zgd i n = true ↔ vp_in i n := decide_eq_true_iff
theorem ggN {j n : Nat} (h : j < n) (hn : n < 2 ^ 31) : zgd (nI j) n = true := ggd.mpr (vp_in_nI h hn)
theorem gmul (a b : Nat) : nI a * nI b = nI (a * b) := (Int32.ofNat_mul a b).symm
theorem gsub {a b : Nat} (h : b ≤ a) : nI a - nI b = nI (a - b) := by
  have e : nI a = nI (a - b) + nI b := by rw [nI_add, Nat.sub_add_cancel h]
  rw [e]
  exact Int32.add_sub_cancel _ _
theorem gdiv {a b : Nat} (ha : a < 2 ^ 31) (hb : b < 2 ^ 31) : nI a / nI b = nI (a / b) := by
  rw [← Int32.toInt_inj, Int32.toInt_div, nI_toInt ha, nI_toInt hb, nI_toInt (Nat.lt_of_le_of_lt (Nat.div_le_self _ _) ha)]
  rw [show ((a : Int).tdiv (b : Int)) = ((a / b : Nat) : Int) from rfl]
  refine Int.bmod_eq_of_le ?_ ?_
  · have := Nat.zero_le (a / b); omega
  · have := Nat.div_le_self a b; omega
theorem grem {a b : Nat} (ha : a < 2 ^ 31) (hb : b < 2 ^ 31) : zrem (nI a) (nI b) = nI (a % b) := by
  unfold zrem
  have h1 : a / b * b ≤ a := Nat.div_mul_le_self a b
  rw [gdiv ha hb, gmul, gsub h1]
  congr 1
  have := Nat.div_add_mod a b
  rw [Nat.mul_comm] at this
  omega
theorem gupS {c : Nat → Int32} {i : Nat} {v : Int32} : upd c i v i = v := if_pos rfl
theorem gupN {c : Nat → Int32} {i j : Nat} {v : Int32} (h : j ≠ i) : upd c i v j = c j := if_neg h
theorem guLS {c : Nat → Int64} {i : Nat} {v : Int64} : vp_updL c i v i = v := if_pos rfl
theorem guLN {c : Nat → Int64} {i j : Nat} {v : Int64} (h : j ≠ i) : vp_updL c i v j = c j := if_neg h
/-- a bit of a long -/
def gbt (x : Int64) (i : Nat) : Bool := x.toBitVec.getLsbD i
theorem gbt_ge {x : Int64} {i : Nat} (h : 64 ≤ i) : gbt x i = false := BitVec.getLsbD_of_ge _ _ h
theorem gbt_and (x y : Int64) (i : Nat) : gbt (x &&& y) i = (gbt x i && gbt y i) := by
  unfold gbt
  rw [Int64.toBitVec_and, BitVec.getLsbD_and]
theorem gbt_or (x y : Int64) (i : Nat) : gbt (x ||| y) i = (gbt x i || gbt y i) := by
  unfold gbt
  rw [Int64.toBitVec_or, BitVec.getLsbD_or]
theorem gbt_xor (x y : Int64) (i : Nat) : gbt (x ^^^ y) i = (gbt x i ^^ gbt y i) := by
  unfold gbt
  rw [Int64.toBitVec_xor, BitVec.getLsbD_xor]
theorem gbt_zero (i : Nat) : gbt 0 i = false := by
  unfold gbt
  simp
theorem gbt_m1 {i : Nat} (h : i < 64) : gbt (-1) i = true := by
  unfold gbt
  rw [show (-1 : Int64).toBitVec = BitVec.allOnes 64 from by decide, BitVec.getLsbD_allOnes]
  exact decide_eq_true h
theorem gbt_not (x : Int64) {i : Nat} (h : i < 64) : gbt (x ^^^ (-1)) i = !gbt x i := by
  rw [gbt_xor, gbt_m1 h]
  cases gbt x i <;> rfl
theorem gbt_ext {x y : Int64} (h : ∀ i, i < 64 → gbt x i = gbt y i) : x = y := by
  rw [← Int64.toBitVec_inj]
  exact BitVec.eq_of_getLsbD_eq fun i hi => h i hi
theorem gush (n : Nat) (h : n < 64) : ((nI n).toInt64.toUInt64 &&& Int64.toUInt64 63) = UInt64.ofNat n := by
  have key : ∀ n : Fin 64, ((nI n.val).toInt64.toUInt64 &&& Int64.toUInt64 63) = UInt64.ofNat n.val := by decide +kernel
  exact key ⟨n, h⟩
theorem gshh (n : Nat) (h : n < 64) : ((nI n).toInt64 &&& 63) = Int64.ofNat n := by
  have key : ∀ n : Fin 64, ((nI n.val).toInt64 &&& 63) = Int64.ofNat n.val := by decide +kernel
  exact key ⟨n, h⟩
theorem gbt_ushr (x : Int64) {n : Nat} (i : Nat) (h : n < 64) : gbt (zlushr x (nI n)) i = gbt x (n + i) := by
  unfold gbt zlushr
  rw [gush n h]
  have e : (x.toUInt64 >>> UInt64.ofNat n).toInt64.toBitVec = x.toBitVec >>> n := by
    show (x.toUInt64 >>> UInt64.ofNat n).toBitVec = _
    rw [UInt64.toBitVec_shiftRight]
    apply BitVec.eq_of_toNat_eq
    simp [Nat.mod_eq_of_lt h]
  rw [e, BitVec.getLsbD_ushiftRight]
theorem gbt_shl (x : Int64) {n : Nat} (i : Nat) (h : n < 64) : gbt (zlshl x (nI n)) i = (decide (i < 64) && (decide (n ≤ i) && gbt x (i - n))) := by
  unfold gbt zlshl
  rw [gshh n h]
  have e : (x <<< Int64.ofNat n).toBitVec = x.toBitVec <<< n := by
    rw [Int64.toBitVec_shiftLeft]
    have e2 : ((Int64.ofNat n).toBitVec.smod 64).toNat = n := by
      have key : ∀ n : Fin 64, ((Int64.ofNat n.val).toBitVec.smod 64).toNat = n.val := by decide +kernel
      exact key ⟨n, h⟩
    rw [BitVec.shiftLeft_eq', e2]
  rw [e, BitVec.getLsbD_shiftLeft]
  by_cases h1 : i < 64
  · by_cases h2 : n ≤ i
    · simp [h1, h2, Nat.not_lt.mpr h2]
    · simp [h1, h2, Nat.lt_of_not_le h2]
  · simp [h1]
theorem glc {x y : Int64} : lg_cmp x y = 0 ↔ x = y := by
  unfold lg_cmp
  by_cases h : x > y
  · rw [if_pos h]
    refine ⟨fun e => absurd e (by decide), fun e => ?_⟩
    subst e
    rw [gt_iff_lt, Int64.lt_iff_toInt_lt] at h
    exact absurd h (Int.lt_irrefl _)
  · rw [if_neg h]
    by_cases e : x = y
    · rw [if_pos e]
      exact ⟨fun _ => e, fun _ => rfl⟩
    · rw [if_neg e]
      exact ⟨fun h => absurd h (by decide), fun h => absurd h e⟩
theorem gbt_one (i : Nat) : gbt 1 i = decide (i = 0) := by
  unfold gbt
  rw [show (1 : Int64).toBitVec = 1#64 from rfl, BitVec.getLsbD_one]
  simp
theorem gbt_test (x : Int64) {n : Nat} (h : n < 64) : lg_cmp (zlushr x (nI n) &&& 1) 0 = 0 ↔ gbt x n = false := by
  rw [glc]
  constructor
  · intro e
    have := congrArg (fun z => gbt z 0) e
    simp only [gbt_and, gbt_ushr x 0 h, gbt_one, gbt_zero] at this
    simpa using this
  · intro e
    refine gbt_ext fun i hi => ?_
    rw [gbt_and, gbt_ushr x i h, gbt_one, gbt_zero]
    by_cases h0 : i = 0
    · subst h0
      simp [e]
    · simp [h0]
theorem gbt_bit {n : Nat} (i : Nat) (h : n < 64) : gbt (zlshl 1 (nI n)) i = decide (i = n) := by
  rw [gbt_shl 1 i h, gbt_one]
  by_cases h1 : i < 64
  · by_cases h2 : n ≤ i
    · have : (i - n = 0) ↔ (i = n) := by omega
      simp [h1, h2, this]
    · have : i ≠ n := by omega
      simp [h2, this]
  · have : i ≠ n := by omega
    simp [h1, this]
theorem gbt_0 {x : Int64} : x = 0 ↔ ∀ i, i < 64 → gbt x i = false := by
  constructor
  · intro e i _
    rw [e, gbt_zero]
  · intro h
    exact gbt_ext fun i hi => by rw [h i hi, gbt_zero]
