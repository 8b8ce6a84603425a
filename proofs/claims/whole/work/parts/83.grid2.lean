/-! what class and reference say of a grid: pipes, cells, stones, how many are free -/
def gct (f : Nat → Bool) (n : Nat) : Nat := ((List.range n).filter f).length
theorem gct0 (f : Nat → Bool) : gct f 0 = 0 := rfl
theorem gctS (f : Nat → Bool) (n : Nat) : gct f (n + 1) = gct f n + (if f n then 1 else 0) := by
  unfold gct
  rw [List.range_succ, List.filter_append, List.length_append]
  congr 1
  cases h : f n <;> simp [h]
theorem gct_le (f : Nat → Bool) (n : Nat) : gct f n ≤ n := by
  unfold gct
  exact Nat.le_trans (List.length_filter_le _ _) (by simp)
theorem gct_stop {f : Nat → Bool} {a : Nat} (b : Nat) (h : ∀ i, a ≤ i → f i = false) (hab : a ≤ b) : gct f b = gct f a := by
  obtain ⟨k, rfl⟩ : ∃ k, b = a + k := ⟨b - a, by omega⟩
  clear hab
  induction k with
  | zero => rfl
  | succ k ih => rw [← Nat.add_assoc, gctS, ih, h (a + k) (by omega)]; simp
theorem gct_cong {f f' : Nat → Bool} {n : Nat} (h : ∀ i, i < n → f i = f' i) : gct f n = gct f' n := by
  unfold gct
  congr 1
  exact List.filter_congr fun i hi => h i (List.mem_range.mp hi)
/-- is a pipe there and told so? -/
def gIs (g : gG) (h p : Nat) : Bool := gTh p g.1 g.2.1 && decide (gHow g p = h)
def gMany (g : gG) (h : Nat) : Nat := gct (gIs g h) 50
abbrev gFree (g : gG) : Nat := gMany g 0
theorem gMany_le (g : gG) (h : Nat) : gMany g h ≤ 50 := gct_le _ _
theorem gIs64 {g : gG} (hw : gWf g) {h i : Nat} (hi : 50 ≤ i) : gIs g h i = false := by
  unfold gIs
  cases ht : gTh i g.1 g.2.1 with
  | false => rfl
  | true =>
    have := gTh50 hw.2.1.2 ht
    omega
theorem gcnb {g : gG} (hw : gWf g) {x : Int64} {h : Nat} (hx : ∀ i, i < 64 → gbt x i = gIs g h i) : zf_J13_bitCount_95d88 x = some (nI (gMany g h)) := by
  rw [gbc]
  congr 2
  show gct (fun i => gbt x i) 64 = gct (gIs g h) 50
  rw [← gct_stop 64 (fun i hi => gIs64 hw hi) (by omega : 50 ≤ 64)]
  exact gct_cong hx
theorem gX2free {g : gG} (hw : gWf g) {d : zGD} (h : gRX g d) : zf_X2_freeCount d.2.2.2.2.2.2.2 = some (nI (gFree g)) := by
  unfold zf_X2_freeCount
  rw [gcnb hw (h := 0) (fun i hi => (h.2.2.2 i hi).2.2)]
  rfl
-- the reference
theorem gThereT : ∀ (p : Fin 50) (c r : Fin 5), zf_X9_isThere (nI p.val) (nI (c.val + 1)) (nI (r.val + 1)) = some (gbI (gTh p.val (c.val + 1) (r.val + 1))) := by decide +kernel
theorem gThere {p c r : Nat} (hp : p < 50) (hc : 1 ≤ c ∧ c ≤ 5) (hr : 1 ≤ r ∧ r ≤ 5) : zf_X9_isThere (nI p) (nI c) (nI r) = some (gbI (gTh p c r)) := by
  have h := gThereT ⟨p, hp⟩ ⟨c - 1, by omega⟩ ⟨r - 1, by omega⟩
  simpa only [Nat.sub_add_cancel hc.1, Nat.sub_add_cancel hr.1] using h
theorem gFromT : ∀ p : Fin 50, zf_X9_from (nI p.val) = some (nI (gFr p.val)) ∧ zf_X9_to (nI p.val) = some (nI (gTo p.val)) := by decide +kernel
theorem gTo25 {p c r : Nat} (hc : c ≤ 5) (hr : r ≤ 5) (h : gTh p c r = true) : gTo p < 25 := by
  unfold gTh at h
  unfold gTo gFr
  by_cases ho : p % 2 = 1
  · rw [if_pos ho] at h ⊢
    simp at h
    omega
  · rw [if_neg ho] at h ⊢
    simp at h
    omega
theorem gFr25 {p : Nat} (h : p < 50) : gFr p < 25 := by unfold gFr; omega
theorem gHow2 {g : gG} (hw : gWf g) (p : Nat) : gHow g p ≤ 2 := by
  unfold gHow
  by_cases h : (g.2.2.2 (gFr p) || g.2.2.2 (gTo p)) = true
  · rw [if_pos h]
    exact Nat.le_refl 2
  · rw [if_neg h]
    exact (hw.2.2.1 p).1
theorem gbI0 (b : Bool) : gbI b = 0 ↔ b = false := by cases b <;> decide
theorem gHowBy {g : gG} (hw : gWf g) {fc fr : Int32} {ct cs : Nat → Int32} (h : gRM g fc fr ct cs) {p : Nat} (hp : gTh p g.1 g.2.1 = true) : zf_X9_howBy ct cs 50 25 (nI p) = some (nI (gHow g p)) := by
  have h50 := gTh50 hw.2.1.2 hp
  have h25 := gTo25 hw.1.2 hw.2.1.2 hp
  have hf := gFr25 h50
  unfold zf_X9_howBy
  have e1 : zf_X9_from (nI p) = some (nI (gFr p)) := (gFromT ⟨p, h50⟩).1
  have e2 : zf_X9_to (nI p) = some (nI (gTo p)) := (gFromT ⟨p, h50⟩).2
  rw [e1, e2, Option.bind_some, Option.bind_some]
  rw [if_pos (ggN hf (by decide)), if_pos (ggN h25 (by decide)), if_pos (ggN h50 (by decide)), nI_clamp (by omega), nI_clamp (by omega), nI_clamp (by omega), h.2.2.2 _ hf, h.2.2.2 _ h25, h.2.2.1 _ h50]
  simp only [gbI0]
  unfold gHow
  cases g.2.2.2 (gFr p) <;> cases g.2.2.2 (gTo p) <;> simp <;> rfl
theorem gFreeBy {g : gG} (hw : gWf g) {fc fr : Int32} {ct cs : Nat → Int32} (h : gRM g fc fr ct cs) : zf_X9_freeBy ct cs 50 25 fc fr = some (nI (gFree g)) := by
  unfold zf_X9_freeBy
  rw [h.1, h.2.1]
  have e := gitr (f := fun d : Int32 × Int32 => zf_X9_freeBy_l6 ct cs 50 25 (nI g.1) (nI g.2.1) d.1 d.2) (fun j => (nI (gct (gIs g 0) j), nI j)) 50 (n := zfu) (b := nI (gFree g)) (gfu (by decide)) ?_ ?_
  · rw [show ((0 : Int32), (0 : Int32)) = (nI (gct (gIs g 0) 0), nI 0) from rfl, e]
    rfl
  · intro j hj
    dsimp only
    unfold zf_X9_freeBy_l6
    have hc : ¬ (50 : Int32) ≤ nI j := by
      rw [show (50 : Int32) = nI 50 from rfl, nI_leI (by decide) (by omega)]
      omega
    rw [if_neg hc, gThere hj hw.1 hw.2.1, Option.bind_some, gctS]
    unfold gIs zf_X9_freeBy_39 zf_X9_freeBy_40
    rw [nI_1]
    cases ht : gTh j g.1 g.2.1 with
    | false => rw [if_pos (by decide)]; simp
    | true =>
      rw [if_neg (by decide), gHowBy hw h ht, Option.bind_some]
      have h2 := gHow2 hw j
      rw [show (0 : Int32) = nI 0 from rfl, show (1 : Int32) = nI 1 from rfl]
      simp only [nI_eq (show gHow g j < 2 ^ 31 by omega) (show 0 < 2 ^ 31 by decide), nI_add]
      by_cases h0 : gHow g j = 0
      · simp [h0]
      · simp [h0]
  · dsimp only
    unfold zf_X9_freeBy_l6
    rw [if_pos (by decide)]
    rfl
theorem gX9free {g : gG} (hw : gWf g) {fc fr : Int32} {ct cs : Nat → Int32} (h : gRM g fc fr ct cs) : zf_X9_free fc fr ct cs = some (nI (gFree g)) := by
  unfold zf_X9_free
  rw [gFreeBy hw h]
  rfl
