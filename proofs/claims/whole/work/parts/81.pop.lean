/-! Long.bitCount counts the bits -/
theorem gand8 (u v w z : Nat) (hu : u < 256) (hw : w < 256) : (u + 256 * v) &&& (w + 256 * z) = (u &&& w) + 256 * (v &&& z) := by
  have h1 : ((u + 256 * v) &&& (w + 256 * z)) % 2 ^ 8 = u &&& w := by
    rw [Nat.and_mod_two_pow]
    congr 1 <;> omega
  have h2 : ((u + 256 * v) &&& (w + 256 * z)) / 2 ^ 8 = v &&& z := by
    rw [Nat.and_div_two_pow]
    congr 1 <;> omega
  omega
def gm55 : Nat → Nat
  | 0 => 0
  | k + 1 => 85 + 256 * gm55 k
def gm33 : Nat → Nat
  | 0 => 0
  | k + 1 => 51 + 256 * gm33 k
def gm0f : Nat → Nat
  | 0 => 0
  | k + 1 => 15 + 256 * gm0f k
def gi1 (k n : Nat) : Nat := n - ((n / 2) &&& gm55 k)
def gi2 (k n : Nat) : Nat := (gi1 k n &&& gm33 k) + ((gi1 k n / 4) &&& gm33 k)
def gi3 (k n : Nat) : Nat := (gi2 k n + gi2 k n / 16) &&& gm0f k
def gf1 (a : Nat) : Nat := a - ((a / 2) &&& 85)
def gf2 (a : Nat) : Nat := (gf1 a &&& 51) + ((gf1 a / 4) &&& 51)
def gf3 (a : Nat) : Nat := (gf2 a + gf2 a / 16) &&& 15
def gpop (a : Nat) : Nat := ((List.range 8).filter (fun t => a.testBit t)).length
theorem gb8 : ∀ a : Fin 256, gf1 a.val < 256 ∧ gf2 a.val ≤ 68 ∧ gf2 a.val % 16 ≤ 4 ∧ gf3 a.val = gpop a.val ∧ ((a.val / 2) &&& 85) ≤ a.val := by decide +kernel
theorem gb8a : ∀ a : Fin 256, ∀ t : Fin 2, (a.val / 2 + 128 * t.val) &&& 85 = (a.val / 2) &&& 85 := by decide +kernel
theorem gb8b : ∀ a : Fin 256, ∀ t : Fin 4, (a.val / 4 + 64 * t.val) &&& 51 = (a.val / 4) &&& 51 := by decide +kernel
theorem gb8c : ∀ a : Fin 69, ∀ t : Fin 5, (a.val + a.val / 16 + 16 * t.val) &&& 15 = (a.val + a.val / 16) &&& 15 := by decide +kernel
theorem gi1_s (k a m : Nat) (ha : a < 256) (hm : (m / 2) &&& gm55 k ≤ m) : gi1 (k + 1) (a + 256 * m) = gf1 a + 256 * gi1 k m := by
  unfold gi1 gf1
  rw [show gm55 (k + 1) = 85 + 256 * gm55 k from rfl]
  have e : (a + 256 * m) / 2 = (a / 2 + 128 * (m % 2)) + 256 * (m / 2) := by omega
  rw [e, gand8 _ _ _ _ (by omega) (by omega)]
  have h1 := gb8a ⟨a, ha⟩ ⟨m % 2, by omega⟩
  have h2 := (gb8 ⟨a, ha⟩).2.2.2.2
  simp only at h1 h2
  rw [h1]
  omega
theorem gle55 : ∀ (k m : Nat), (m / 2) &&& gm55 k ≤ m := fun k m => Nat.le_trans Nat.and_le_left (Nat.div_le_self _ _)
theorem gi2_s (k a m : Nat) (ha : a < 256) : gi2 (k + 1) (a + 256 * m) = gf2 a + 256 * gi2 k m := by
  unfold gi2 gf2
  rw [gi1_s k a m ha (gle55 k m)]
  have hf := (gb8 ⟨a, ha⟩).1
  simp only at hf
  rw [show gm33 (k + 1) = 51 + 256 * gm33 k from rfl]
  have e : (gf1 a + 256 * gi1 k m) / 4 = (gf1 a / 4 + 64 * (gi1 k m % 4)) + 256 * (gi1 k m / 4) := by omega
  rw [e, gand8 _ _ _ _ hf (by omega), gand8 _ _ _ _ (by omega) (by omega)]
  have h1 := gb8b ⟨gf1 a, hf⟩ ⟨gi1 k m % 4, by omega⟩
  simp only at h1
  rw [h1]
  omega
theorem gi2_m (k m : Nat) : gi2 k m % 16 ≤ 4 := by
  cases k with
  | zero => simp [gi2, gm33]
  | succ k =>
    have e : m = m % 256 + 256 * (m / 256) := by omega
    rw [e, gi2_s k _ _ (by omega)]
    have h := (gb8 ⟨m % 256, by omega⟩).2.2.1
    simp only at h
    omega
theorem gi3_s (k a m : Nat) (ha : a < 256) : gi3 (k + 1) (a + 256 * m) = gf3 a + 256 * gi3 k m := by
  unfold gi3 gf3
  rw [gi2_s k a m ha]
  have hf := (gb8 ⟨a, ha⟩).2.1
  simp only at hf
  have hm := gi2_m k m
  rw [show gm0f (k + 1) = 15 + 256 * gm0f k from rfl]
  have e : gf2 a + 256 * gi2 k m + (gf2 a + 256 * gi2 k m) / 16 = (gf2 a + gf2 a / 16 + 16 * (gi2 k m % 16)) + 256 * (gi2 k m + gi2 k m / 16) := by omega
  rw [e, gand8 _ _ _ _ (by omega) (by omega)]
  have h1 := gb8c ⟨gf2 a, by omega⟩ ⟨gi2 k m % 16, by omega⟩
  simp only at h1
  rw [h1]
def gdg (n j : Nat) : Nat := n / 256 ^ j % 256
theorem gi3_8 (n : Nat) (hn : n < 2 ^ 64) : gi3 8 n = gpop (gdg n 0) + 256 * (gpop (gdg n 1) + 256 * (gpop (gdg n 2) + 256 * (gpop (gdg n 3) + 256 * (gpop (gdg n 4) + 256 * (gpop (gdg n 5) + 256 * (gpop (gdg n 6) + 256 * gpop (gdg n 7))))))) := by
  have key : ∀ (k n : Nat), gi3 (k + 1) n = gpop (n % 256) + 256 * gi3 k (n / 256) := by
    intro k n
    have e : n = n % 256 + 256 * (n / 256) := by omega
    have h := gi3_s k (n % 256) (n / 256) (by omega)
    rw [← e] at h
    rw [h, (gb8 ⟨n % 256, by omega⟩).2.2.2.1]
  rw [key 7, key 6, key 5, key 4, key 3, key 2, key 1, key 0]
  simp only [Nat.div_div_eq_div_mul, gdg]
  rw [show gi3 0 (n / (256 * 256 * 256 * 256 * 256 * 256 * 256 * 256)) = 0 from by simp [gi3, gm0f]]
  simp
theorem gst1 (a b y2 y3 i : Nat) (ha : a ≤ 16) (hb : b ≤ 16) (e : i = a + 256 * (b + 256 * (y2 + y3))) : i / 65536 = y2 + y3 ∧ i = (a + 256 * b) + 65536 * (y2 + y3) := by omega
theorem gst2 (A B C v i : Nat) (hA : A < 16384) (hB : B < 16384) (hC : C < 16384) (e : i = A + 65536 * (B + 65536 * (C + 65536 * v)) + (B + 65536 * (C + 65536 * v))) : i / 4294967296 = (C + 65536 * v) + v ∧ i % 128 = (A + B) % 128 := by omega
theorem gsum8 (s0 s1 s2 s3 s4 s5 s6 s7 : Nat) (h0 : s0 ≤ 8) (h1 : s1 ≤ 8) (h2 : s2 ≤ 8) (h3 : s3 ≤ 8) (h4 : s4 ≤ 8) (h5 : s5 ≤ 8) (h6 : s6 ≤ 8) (h7 : s7 ≤ 8) (i3 i4 i5 i6 : Nat) (e3 : i3 = s0 + 256 * (s1 + 256 * (s2 + 256 * (s3 + 256 * (s4 + 256 * (s5 + 256 * (s6 + 256 * s7))))))) (e4 : i4 = i3 + i3 / 256) (e5 : i5 = i4 + i4 / 65536) (e6 : i6 = i5 + i5 / 4294967296) : i6 % 128 = s0 + s1 + s2 + s3 + s4 + s5 + s6 + s7 ∧ i6 < 2 ^ 64 ∧ i5 < 2 ^ 64 ∧ i4 < 2 ^ 64 := by
  obtain ⟨y6, q6⟩ : ∃ z, z = s6 + 256 * s7 := ⟨_, rfl⟩
  obtain ⟨y5, q5⟩ : ∃ z, z = s5 + 256 * y6 := ⟨_, rfl⟩
  obtain ⟨y4, q4⟩ : ∃ z, z = s4 + 256 * y5 := ⟨_, rfl⟩
  obtain ⟨y3, q3⟩ : ∃ z, z = s3 + 256 * y4 := ⟨_, rfl⟩
  obtain ⟨y2, q2⟩ : ∃ z, z = s2 + 256 * y3 := ⟨_, rfl⟩
  obtain ⟨y1, q1⟩ : ∃ z, z = s1 + 256 * y2 := ⟨_, rfl⟩
  rw [← q6, ← q5, ← q4, ← q3, ← q2, ← q1] at e3
  have b6 : y6 ≤ 2056 := by omega
  have b5 : y5 ≤ 526344 := by omega
  have b4 : y4 ≤ 134744072 := by omega
  have b3 : y3 ≤ 34494482440 := by omega
  have b2 : y2 ≤ 8830587504648 := by omega
  have b1 : y1 ≤ 2260630401189896 := by omega
  have a3 : i3 / 256 = y1 := by omega
  rw [a3] at e4
  have c4 : i4 < 2 ^ 60 := by omega
  have f4 := gst1 (s0 + s1) (s1 + s2) y2 y3 i4 (by omega) (by omega) (by omega)
  rw [f4.1] at e5
  have c5 : i5 < 2 ^ 61 := by omega
  have g4 := f4.2
  have z1 : y2 + y3 = (s2 + s3) + 256 * (s3 + s4) + 65536 * (y4 + y5) := by omega
  have z2 : y4 + y5 = (s4 + s5) + 256 * (s5 + s6) + 65536 * (y6 + s7) := by omega
  clear a3 e3 f4
  have f5 := gst2 ((s0 + s1) + 256 * (s1 + s2)) ((s2 + s3) + 256 * (s3 + s4)) ((s4 + s5) + 256 * (s5 + s6)) (y6 + s7) i5 (by omega) (by omega) (by omega) (by rw [← z2, ← z1, e5, g4])
  rw [f5.1] at e6
  have g5 := f5.2
  clear f5 e5 g4 z1 z2
  refine ⟨?_, by omega, by omega, by omega⟩
  clear c5 b5 b4 b3 b2 b1 q5 q4 q3 q2 q1 e4
  omega
def gU (x : Int64) : Nat := x.toBitVec.toNat
theorem gU_lt (x : Int64) : gU x < 2 ^ 64 := x.toBitVec.isLt
theorem gU_and (x y : Int64) : gU (x &&& y) = gU x &&& gU y := by
  unfold gU
  rw [Int64.toBitVec_and, BitVec.toNat_and]
theorem gU_sub {x y : Int64} (h : gU y ≤ gU x) : gU (x - y) = gU x - gU y := by
  unfold gU at *
  rw [Int64.toBitVec_sub]
  exact BitVec.toNat_sub_of_le h
theorem gU_add {x y : Int64} (h : gU x + gU y < 2 ^ 64) : gU (x + y) = gU x + gU y := by
  unfold gU at *
  rw [Int64.toBitVec_add, BitVec.toNat_add, Nat.mod_eq_of_lt h]
theorem gU_shr (x : Int64) {n : Nat} (h : n < 64) : gU (zlushr x (nI n)) = gU x / 2 ^ n := by
  unfold gU zlushr
  rw [gush n h]
  have e : (x.toUInt64 >>> UInt64.ofNat n).toInt64.toBitVec = x.toBitVec >>> n := by
    show (x.toUInt64 >>> UInt64.ofNat n).toBitVec = _
    rw [UInt64.toBitVec_shiftRight]
    apply BitVec.eq_of_toNat_eq
    simp [Nat.mod_eq_of_lt h]
  rw [e, BitVec.toNat_ushiftRight, Nat.shiftRight_eq_div_pow]
theorem gU_127 (x : Int64) : (x.toInt32 &&& 127) = nI (gU x % 128) := by
  rw [← Int32.toBitVec_inj]
  apply BitVec.eq_of_toNat_eq
  rw [Int32.toBitVec_and, BitVec.toNat_and, show (127 : Int32).toBitVec.toNat = 2 ^ 7 - 1 from rfl, Nat.and_two_pow_sub_one_eq_mod]
  have e : x.toInt32.toBitVec.toNat = gU x % 2 ^ 32 := by
    rw [Int64.toBitVec_toInt32, BitVec.signExtend_eq_setWidth_of_le _ (by decide), BitVec.toNat_setWidth]
    rfl
  have e2 : (nI (gU x % 128)).toBitVec.toNat = gU x % 128 := by
    rw [show (nI (gU x % 128)).toBitVec = BitVec.ofNat 32 (gU x % 128) from rfl, BitVec.toNat_ofNat]
    omega
  rw [e, e2]
  omega
theorem gi2_le (k n : Nat) (hn : n < 256 ^ k) : gi2 k n < 256 ^ k := by
  induction k generalizing n with
  | zero => simp [gi2, gm33]
  | succ k ih =>
    have e : n = n % 256 + 256 * (n / 256) := by omega
    rw [e, gi2_s k _ _ (by omega)]
    have h := (gb8 ⟨n % 256, by omega⟩).2.1
    simp only at h
    have h2 := ih (n / 256) (by rw [Nat.pow_succ] at hn; omega)
    rw [Nat.pow_succ]
    omega
theorem gi2_16 (k n : Nat) (hn : n < 256 ^ k) : gi2 k n + gi2 k n / 16 < 256 ^ k ∨ k = 0 := by
  cases k with
  | zero => exact Or.inr rfl
  | succ k =>
    left
    induction k generalizing n with
    | zero =>
      have e : n = n % 256 + 256 * (n / 256) := by omega
      rw [e, gi2_s 0 _ _ (by omega)]
      have h := (gb8 ⟨n % 256, by omega⟩).2.1
      simp only at h
      simp [gi2, gm33]
      omega
    | succ k ih =>
      have e : n = n % 256 + 256 * (n / 256) := by omega
      rw [e, gi2_s (k + 1) _ _ (by omega)]
      have h := (gb8 ⟨n % 256, by omega⟩).2.1
      simp only at h
      have h2 := ih (n / 256) (by rw [Nat.pow_succ] at hn; omega)
      rw [Nat.pow_succ 256 (k + 1)]
      have h3 := gi2_m (k + 1) (n / 256)
      omega
theorem gpop8 (a : Nat) : gpop a ≤ 8 := by
  unfold gpop
  exact Nat.le_trans (List.length_filter_le _ _) (by simp)
/-- how many bits a long has -/
def gcn (x : Int64) : Nat := ((List.range 64).filter (fun i => gbt x i)).length
theorem gcn_dg (x : Int64) : gcn x = gpop (gdg (gU x) 0) + gpop (gdg (gU x) 1) + gpop (gdg (gU x) 2) + gpop (gdg (gU x) 3) + gpop (gdg (gU x) 4) + gpop (gdg (gU x) 5) + gpop (gdg (gU x) 6) + gpop (gdg (gU x) 7) := by
  have hb : ∀ j t : Nat, t < 8 → (gdg (gU x) j).testBit t = gbt x (8 * j + t) := by
    intro j t ht
    unfold gdg gbt gU
    rw [show (256 : Nat) = 2 ^ 8 from rfl, ← Nat.pow_mul, Nat.testBit_mod_two_pow, Nat.testBit_div_two_pow, decide_eq_true ht, Bool.true_and]
    rw [BitVec.testBit_toNat]
    congr 1
    omega
  have hj : ∀ j : Nat, gpop (gdg (gU x) j) = ((List.range 8).filter (fun t => gbt x (8 * j + t))).length := by
    intro j
    unfold gpop
    congr 1
    apply List.filter_congr
    intro t ht
    exact hb j t (List.mem_range.mp ht)
  rw [hj, hj, hj, hj, hj, hj, hj, hj]
  unfold gcn
  have hr : List.range 64 = (List.range 8).map (fun t => 8 * 0 + t) ++ (List.range 8).map (fun t => 8 * 1 + t) ++ (List.range 8).map (fun t => 8 * 2 + t) ++ (List.range 8).map (fun t => 8 * 3 + t) ++ (List.range 8).map (fun t => 8 * 4 + t) ++ (List.range 8).map (fun t => 8 * 5 + t) ++ (List.range 8).map (fun t => 8 * 6 + t) ++ (List.range 8).map (fun t => 8 * 7 + t) := by decide
  rw [hr]
  simp only [List.filter_append, List.length_append, List.filter_map, List.length_map]
  rfl
theorem gbc (x : Int64) : zf_J13_bitCount_95d88 x = some (nI (gcn x)) := by
  unfold zf_J13_bitCount_95d88
  obtain ⟨i1, q1⟩ : ∃ z, z = x - ((zlushr x (1 : Int32)) &&& (6148914691236517205 : Int64)) := ⟨_, rfl⟩
  rw [← q1]
  obtain ⟨i2, q2⟩ : ∃ z, z = (i1 &&& (3689348814741910323 : Int64)) + ((zlushr i1 (2 : Int32)) &&& (3689348814741910323 : Int64)) := ⟨_, rfl⟩
  rw [← q2]
  obtain ⟨i3, q3⟩ : ∃ z, z = (i2 + (zlushr i2 (4 : Int32))) &&& (1085102592571150095 : Int64) := ⟨_, rfl⟩
  rw [← q3]
  obtain ⟨i4, q4⟩ : ∃ z, z = i3 + (zlushr i3 (8 : Int32)) := ⟨_, rfl⟩
  rw [← q4]
  obtain ⟨i5, q5⟩ : ∃ z, z = i4 + (zlushr i4 (16 : Int32)) := ⟨_, rfl⟩
  rw [← q5]
  obtain ⟨i6, q6⟩ : ∃ z, z = i5 + (zlushr i5 (32 : Int32)) := ⟨_, rfl⟩
  rw [← q6, gU_127]
  have hx := gU_lt x
  have s1 : ∀ (z : Int64), gU (zlushr z (1 : Int32)) = gU z / 2 := fun z => gU_shr z (n := 1) (by decide)
  have s2 : ∀ (z : Int64), gU (zlushr z (2 : Int32)) = gU z / 4 := fun z => gU_shr z (n := 2) (by decide)
  have s4 : ∀ (z : Int64), gU (zlushr z (4 : Int32)) = gU z / 16 := fun z => gU_shr z (n := 4) (by decide)
  have s8 : ∀ (z : Int64), gU (zlushr z (8 : Int32)) = gU z / 256 := fun z => gU_shr z (n := 8) (by decide)
  have s16 : ∀ (z : Int64), gU (zlushr z (16 : Int32)) = gU z / 65536 := fun z => gU_shr z (n := 16) (by decide)
  have s32 : ∀ (z : Int64), gU (zlushr z (32 : Int32)) = gU z / 4294967296 := fun z => gU_shr z (n := 32) (by decide)
  have u1 : gU i1 = gi1 8 (gU x) := by
    have m : gU ((zlushr x (1 : Int32)) &&& (6148914691236517205 : Int64)) = (gU x / 2) &&& gm55 8 := by rw [gU_and, s1]; rfl
    rw [q1, gU_sub (by rw [m]; exact gle55 8 _), m]
    rfl
  have u2 : gU i2 = gi2 8 (gU x) := by
    have m1 : gU (i1 &&& (3689348814741910323 : Int64)) = gi1 8 (gU x) &&& gm33 8 := by rw [gU_and, u1]; rfl
    have m2 : gU ((zlushr i1 (2 : Int32)) &&& (3689348814741910323 : Int64)) = (gi1 8 (gU x) / 4) &&& gm33 8 := by rw [gU_and, s2, u1]; rfl
    have hl := gi2_le 8 (gU x) hx
    rw [q2, gU_add (by rw [m1, m2]; exact hl), m1, m2]
    rfl
  have u3 : gU i3 = gi3 8 (gU x) := by
    have hl := (gi2_16 8 (gU x) hx).resolve_right (by decide)
    have m : gU (i2 + zlushr i2 (4 : Int32)) = gi2 8 (gU x) + gi2 8 (gU x) / 16 := by
      rw [gU_add (by rw [s4, u2]; exact hl), s4, u2]
    rw [q3, gU_and, m]
    rfl
  have hs := gsum8 _ _ _ _ _ _ _ _ (gpop8 (gdg (gU x) 0)) (gpop8 (gdg (gU x) 1)) (gpop8 (gdg (gU x) 2)) (gpop8 (gdg (gU x) 3)) (gpop8 (gdg (gU x) 4)) (gpop8 (gdg (gU x) 5)) (gpop8 (gdg (gU x) 6)) (gpop8 (gdg (gU x) 7)) (gU i3) _ _ _ (by rw [u3]; exact gi3_8 _ hx) rfl rfl rfl
  have v4 : gU i4 = gU i3 + gU i3 / 256 := by
    rw [q4, gU_add (by rw [s8]; exact hs.2.2.2), s8]
  have v5 : gU i5 = gU i4 + gU i4 / 65536 := by
    rw [q5, gU_add (by rw [s16, v4]; exact hs.2.2.1), s16]
  have v6 : gU i6 = gU i5 + gU i5 / 4294967296 := by
    rw [q6, gU_add (by rw [s32, v5, v4]; exact hs.2.1), s32]
  rw [v6, v5, v4, hs.1, gcn_dg]
