/-! turn -/
def gTp (h c r p : Nat) : Nat := if h = 0 then (if p % 2 = 1 then 10 * (p / 10) + 2 * (c - 1 - p % 10 / 2) + 1 else 10 * (p / 10) + 2 * (c - 2 - p % 10 / 2)) else if h = 1 then (if p % 2 = 1 then 10 * (r - 2 - p / 10) + 2 * (p % 10 / 2) + 1 else 10 * (r - 1 - p / 10) + 2 * (p % 10 / 2)) else (if p % 2 = 1 then 10 * (p % 10 / 2) + 2 * (p / 10) else 10 * (p % 10 / 2) + 2 * (p / 10) + 1)
def gTk (h c r k : Nat) : Nat := if h = 0 then 5 * (k / 5) + (c - 1 - k % 5) else if h = 1 then 5 * (r - 1 - k / 5) + k % 5 else 5 * (k % 5) + k / 5
def gTc (h c r : Nat) : Nat := if h = 2 then r else c
def gIc (k c r : Nat) : Bool := decide (k % 5 < c) && decide (k / 5 < r)
def gTu (h : Nat) (g : gG) : gG := (gTc h g.1 g.2.1, gTc h g.2.1 g.1, fun q => if gTh q (gTc h g.1 g.2.1) (gTc h g.2.1 g.1) then g.2.2.1 (gTp h (gTc h g.1 g.2.1) (gTc h g.2.1 g.1) q) else 0, fun k => gIc k (gTc h g.1 g.2.1) (gTc h g.2.1 g.1) && g.2.2.2 (gTk h (gTc h g.1 g.2.1) (gTc h g.2.1 g.1) k))
theorem gTpT : ∀ h : Fin 3, ∀ c r : Fin 5, ∀ p : Fin 50, gTh p.val (c.val + 1) (r.val + 1) = true → gTh (gTp h.val (c.val + 1) (r.val + 1) p.val) (gTc h.val (c.val + 1) (r.val + 1)) (gTc h.val (r.val + 1) (c.val + 1)) = true ∧ gTp h.val (gTc h.val (c.val + 1) (r.val + 1)) (gTc h.val (r.val + 1) (c.val + 1)) (gTp h.val (c.val + 1) (r.val + 1) p.val) = p.val ∧ ((gFr (gTp h.val (c.val + 1) (r.val + 1) p.val) = gTk h.val (c.val + 1) (r.val + 1) (gFr p.val) ∧ gTo (gTp h.val (c.val + 1) (r.val + 1) p.val) = gTk h.val (c.val + 1) (r.val + 1) (gTo p.val)) ∨ (gFr (gTp h.val (c.val + 1) (r.val + 1) p.val) = gTk h.val (c.val + 1) (r.val + 1) (gTo p.val) ∧ gTo (gTp h.val (c.val + 1) (r.val + 1) p.val) = gTk h.val (c.val + 1) (r.val + 1) (gFr p.val))) := by decide +kernel
theorem gTkT : ∀ h : Fin 3, ∀ c r : Fin 5, ∀ k : Fin 25, gIc k.val (c.val + 1) (r.val + 1) = true → gIc (gTk h.val (c.val + 1) (r.val + 1) k.val) (gTc h.val (c.val + 1) (r.val + 1)) (gTc h.val (r.val + 1) (c.val + 1)) = true ∧ gTk h.val (gTc h.val (c.val + 1) (r.val + 1)) (gTc h.val (r.val + 1) (c.val + 1)) (gTk h.val (c.val + 1) (r.val + 1) k.val) = k.val := by decide +kernel
theorem gTc2 {h a b : Nat} : gTc h (gTc h a b) (gTc h b a) = a := by
  unfold gTc
  by_cases e : h = 2
  · rw [if_pos e, if_pos e]
  · rw [if_neg e, if_neg e]
theorem gTc5 {h a b : Nat} (ha : 1 ≤ a ∧ a ≤ 5) (hb : 1 ≤ b ∧ b ≤ 5) : 1 ≤ gTc h a b ∧ gTc h a b ≤ 5 := by
  unfold gTc
  by_cases e : h = 2
  · rw [if_pos e]; exact hb
  · rw [if_neg e]; exact ha
theorem gIc25 {k c r : Nat} (hr : r ≤ 5) (h : gIc k c r = true) : k < 25 := by
  unfold gIc at h
  simp only [Bool.and_eq_true, decide_eq_true_eq] at h
  omega
theorem gTp_B {h c r p : Nat} (hh : h < 3) (hc : 1 ≤ c ∧ c ≤ 5) (hr : 1 ≤ r ∧ r ≤ 5) (hp : gTh p c r = true) : gTh (gTp h c r p) (gTc h c r) (gTc h r c) = true ∧ gTp h (gTc h c r) (gTc h r c) (gTp h c r p) = p ∧ ((gFr (gTp h c r p) = gTk h c r (gFr p) ∧ gTo (gTp h c r p) = gTk h c r (gTo p)) ∨ (gFr (gTp h c r p) = gTk h c r (gTo p) ∧ gTo (gTp h c r p) = gTk h c r (gFr p))) := by
  have h50 := gTh50 hr.2 hp
  obtain ⟨c', rfl⟩ : ∃ q, c = q + 1 := ⟨c - 1, by omega⟩
  obtain ⟨r', rfl⟩ : ∃ q, r = q + 1 := ⟨r - 1, by omega⟩
  exact gTpT ⟨h, hh⟩ ⟨c', by omega⟩ ⟨r', by omega⟩ ⟨p, h50⟩ hp
theorem gTk_B {h c r k : Nat} (hh : h < 3) (hc : 1 ≤ c ∧ c ≤ 5) (hr : 1 ≤ r ∧ r ≤ 5) (hk : gIc k c r = true) : gIc (gTk h c r k) (gTc h c r) (gTc h r c) = true ∧ gTk h (gTc h c r) (gTc h r c) (gTk h c r k) = k := by
  have h25 := gIc25 hr.2 hk
  obtain ⟨c', rfl⟩ : ∃ q, c = q + 1 := ⟨c - 1, by omega⟩
  obtain ⟨r', rfl⟩ : ∃ q, r = q + 1 := ⟨r - 1, by omega⟩
  exact gTkT ⟨h, hh⟩ ⟨c', by omega⟩ ⟨r', by omega⟩ ⟨k, h25⟩ hk
theorem gTp_A {h c r q : Nat} (hh : h < 3) (hc : 1 ≤ c ∧ c ≤ 5) (hr : 1 ≤ r ∧ r ≤ 5) (hq : gTh q (gTc h c r) (gTc h r c) = true) : gTh (gTp h (gTc h c r) (gTc h r c) q) c r = true ∧ gTp h c r (gTp h (gTc h c r) (gTc h r c) q) = q := by
  have := gTp_B hh (gTc5 (h := h) hc hr) (gTc5 (h := h) hr hc) hq
  rw [gTc2, gTc2] at this
  exact ⟨this.1, this.2.1⟩
theorem gTk_A {h c r k : Nat} (hh : h < 3) (hc : 1 ≤ c ∧ c ≤ 5) (hr : 1 ≤ r ∧ r ≤ 5) (hk : gIc k (gTc h c r) (gTc h r c) = true) : gIc (gTk h (gTc h c r) (gTc h r c) k) c r = true ∧ gTk h c r (gTk h (gTc h c r) (gTc h r c) k) = k := by
  have := gTk_B hh (gTc5 (h := h) hc hr) (gTc5 (h := h) hr hc) hk
  rw [gTc2, gTc2] at this
  exact this
theorem gTh_Ic {p c r : Nat} (hc : c ≤ 5) (hp : gTh p c r = true) : gIc (gFr p) c r = true ∧ gIc (gTo p) c r = true := by
  unfold gTh at hp
  unfold gIc gTo gFr
  by_cases od : p % 2 = 1
  · rw [if_pos od] at hp ⊢
    simp only [Bool.and_eq_true, decide_eq_true_eq] at hp ⊢
    omega
  · rw [if_neg od] at hp ⊢
    simp only [Bool.and_eq_true, decide_eq_true_eq] at hp ⊢
    omega
theorem gTu_wf {g : gG} (hw : gWf g) {h : Nat} (hh : h < 3) : gWf (gTu h g) := by
  refine ⟨gTc5 hw.1 hw.2.1, gTc5 hw.2.1 hw.1, fun p => ⟨?_, fun ht => ?_⟩, fun k hk => ?_⟩
  · show (if gTh p (gTc h g.1 g.2.1) (gTc h g.2.1 g.1) then g.2.2.1 (gTp h (gTc h g.1 g.2.1) (gTc h g.2.1 g.1) p) else 0) ≤ 2
    have := (hw.2.2.1 (gTp h (gTc h g.1 g.2.1) (gTc h g.2.1 g.1) p)).1
    cases gTh p (gTc h g.1 g.2.1) (gTc h g.2.1 g.1) with
    | true => exact this
    | false => exact Nat.zero_le _
  · show (if gTh p (gTc h g.1 g.2.1) (gTc h g.2.1 g.1) then g.2.2.1 (gTp h (gTc h g.1 g.2.1) (gTc h g.2.1 g.1) p) else 0) = 0
    have ht' : gTh p (gTc h g.1 g.2.1) (gTc h g.2.1 g.1) = false := ht
    rw [ht']
    rfl
  · have hk' : (gIc k (gTc h g.1 g.2.1) (gTc h g.2.1 g.1) && g.2.2.2 (gTk h (gTc h g.1 g.2.1) (gTc h g.2.1 g.1) k)) = true := hk
    unfold gIc at hk'
    simp only [Bool.and_eq_true, decide_eq_true_eq] at hk'
    exact hk'.1
theorem gTu_how {g : gG} (hw : gWf g) {h : Nat} (hh : h < 3) {p : Nat} (hp : gTh p g.1 g.2.1 = true) : gHow (gTu h g) (gTp h g.1 g.2.1 p) = gHow g p := by
  obtain ⟨b1, b2, b3⟩ := gTp_B hh hw.1 hw.2.1 hp
  obtain ⟨i1, i2⟩ := gTh_Ic hw.1.2 hp
  have st : ∀ k, gIc k g.1 g.2.1 = true → (gTu h g).2.2.2 (gTk h g.1 g.2.1 k) = g.2.2.2 k := by
    intro k hk
    obtain ⟨k1, k2⟩ := gTk_B hh hw.1 hw.2.1 hk
    show (gIc (gTk h g.1 g.2.1 k) (gTc h g.1 g.2.1) (gTc h g.2.1 g.1) && g.2.2.2 (gTk h (gTc h g.1 g.2.1) (gTc h g.2.1 g.1) (gTk h g.1 g.2.1 k))) = _
    rw [k1, k2]
    rfl
  have tl : (gTu h g).2.2.1 (gTp h g.1 g.2.1 p) = g.2.2.1 p := by
    show (if gTh (gTp h g.1 g.2.1 p) (gTc h g.1 g.2.1) (gTc h g.2.1 g.1) then g.2.2.1 (gTp h (gTc h g.1 g.2.1) (gTc h g.2.1 g.1) (gTp h g.1 g.2.1 p)) else 0) = _
    rw [b1, b2]
    rfl
  unfold gHow
  rw [tl]
  rcases b3 with ⟨e1, e2⟩ | ⟨e1, e2⟩
  · rw [e1, e2, st _ i1, st _ i2]
  · rw [e1, e2, st _ i1, st _ i2, Bool.or_comm]
theorem gct_del {f : Nat → Bool} {k : Nat} (hk : f k = true) : ∀ n, k < n → gct f n = gct (fun i => f i && !decide (i = k)) n + 1 := by
  intro n
  induction n with
  | zero => intro h; omega
  | succ n ih =>
    intro h
    rw [gctS, gctS]
    by_cases e : k = n
    · subst e
      rw [hk, decide_eq_true rfl, gct_cong (f := fun i => f i && !decide (i = k)) (f' := f) (fun i hi => by rw [decide_eq_false (show ¬ i = k by omega)]; simp)]
      rfl
    · rw [ih (by omega), decide_eq_false (show ¬ n = k from fun q => e q.symm), Bool.not_false, Bool.and_true]
      omega
theorem gct_inj {σ : Nat → Nat} {n : Nat} : ∀ (L : List Nat) (f : Nat → Bool), L.Nodup → (∀ x ∈ L, σ x < n ∧ f (σ x) = true) → (∀ x ∈ L, ∀ y ∈ L, σ x = σ y → x = y) → L.length ≤ gct f n := by
  intro L
  induction L with
  | nil => intro f _ _ _; exact Nat.zero_le _
  | cons x L ih =>
    intro f nd hf hi
    have hx := hf x List.mem_cons_self
    rw [gct_del hx.2 n hx.1]
    have nd' := List.nodup_cons.mp nd
    have := ih (fun i => f i && !decide (i = σ x)) nd'.2 (fun y hy => ⟨(hf y (List.mem_cons_of_mem _ hy)).1, by
      have hne : ¬ σ y = σ x := fun e => nd'.1 (by rw [← hi y (List.mem_cons_of_mem _ hy) x List.mem_cons_self e]; exact hy)
      rw [(hf y (List.mem_cons_of_mem _ hy)).2, decide_eq_false hne]
      rfl⟩) (fun y hy z hz => hi y (List.mem_cons_of_mem _ hy) z (List.mem_cons_of_mem _ hz))
    rw [List.length_cons]
    omega
theorem gTu_ok {g : gG} (hok : gOk g) {h : Nat} (hh : h < 3) : gOk (gTu h g) := by
  have hw := hok.1
  refine ⟨gTu_wf hw hh, Nat.le_trans ?_ hok.2⟩
  have A : ∀ q, gIs (gTu h g) 0 q = true → gTh (gTp h (gTc h g.1 g.2.1) (gTc h g.2.1 g.1) q) g.1 g.2.1 = true ∧ gTp h g.1 g.2.1 (gTp h (gTc h g.1 g.2.1) (gTc h g.2.1 g.1) q) = q := fun q hq => gTp_A hh hw.1 hw.2.1 (gIs_sp hq).1
  show ((List.range 50).filter (gIs (gTu h g) 0)).length ≤ gct (gIs g 0) 50
  refine gct_inj (σ := gTp h (gTc h g.1 g.2.1) (gTc h g.2.1 g.1)) _ _ (List.Pairwise.filter _ List.nodup_range) (fun q hq => ?_) (fun a ha b hb e => ?_)
  · have hq' := (List.mem_filter.mp hq).2
    obtain ⟨a1, a2⟩ := A q hq'
    refine ⟨gTh50 hw.2.1.2 a1, ?_⟩
    have e := gTu_how hw hh a1
    rw [a2, (gIs_sp hq').2] at e
    unfold gIs
    rw [a1, ← e]
    rfl
  · rw [← (A a (List.mem_filter.mp ha).2).2, ← (A b (List.mem_filter.mp hb).2).2, e]
/-- how the class moves its bits -/
def gmv (b : Int64) (i : Nat) (v : Int32) : Int64 := if gbt b i then zlshl 1 v else 0
theorem gbitM (b : Int64) {i : Nat} (hi : i < 64) (v : Int32) : zf_X2_bitMoved b (nI i) v = some (gmv b i v) := by
  unfold zf_X2_bitMoved gmv
  simp only [gbt_test _ hi]
  cases gbt b i <;> rfl
theorem gmv_bt (b : Int64) (i : Nat) {v : Int32} {t : Nat} (hv : gbt b i = true → v = nI t ∧ t < 64) (j : Nat) : gbt (gmv b i v) j = (gbt b i && decide (j = t)) := by
  unfold gmv
  cases hb : gbt b i with
  | false => rw [if_neg (by decide), gbt_zero]; rfl
  | true =>
    obtain ⟨rfl, ht⟩ := hv hb
    rw [if_pos rfl, gbt_bit j ht]
    rfl
theorem gnumJ : ∀ j : Fin 25, ((((10 : Int32) * (nI j.val / 5)) + ((2 : Int32) * (zrem (nI j.val) 5))) + (0 : Int32)) = nI (2 * j.val) := by decide +kernel
theorem gt0T : ∀ c : Fin 5, ∀ r : Fin 5, ∀ j : Fin 25, (gIc j.val (c.val + 1) (r.val + 1) = true → (((10 : Int32) * (nI j.val / 5)) + ((2 : Int32) * ((nI (c.val + 1) - 1) - zrem (nI j.val) 5))) + (0 : Int32) = nI (2 * gTk 0 (c.val + 1) (r.val + 1) j.val)) ∧ (gTh (2 * j.val) (c.val + 1) (r.val + 1) = true → ((((10 : Int32) * (nI j.val / 5)) + ((2 : Int32) * ((nI (c.val + 1) - 1) - zrem (nI j.val) 5))) + (0 : Int32)) - 2 + 0 = nI (gTp 0 (c.val + 1) (r.val + 1) (2 * j.val))) ∧ (gTh (2 * j.val + 1) (c.val + 1) (r.val + 1) = true → ((((10 : Int32) * (nI j.val / 5)) + ((2 : Int32) * ((nI (c.val + 1) - 1) - zrem (nI j.val) 5))) + (0 : Int32)) - 0 + 1 = nI (gTp 0 (c.val + 1) (r.val + 1) (2 * j.val + 1))) := by decide +kernel
theorem gt1T : ∀ c : Fin 5, ∀ r : Fin 5, ∀ j : Fin 25, (gIc j.val (c.val + 1) (r.val + 1) = true → (((10 : Int32) * ((nI (r.val + 1) - 1) - nI j.val / 5)) + ((2 : Int32) * (zrem (nI j.val) 5))) + (0 : Int32) = nI (2 * gTk 1 (c.val + 1) (r.val + 1) j.val)) ∧ (gTh (2 * j.val) (c.val + 1) (r.val + 1) = true → ((((10 : Int32) * ((nI (r.val + 1) - 1) - nI j.val / 5)) + ((2 : Int32) * (zrem (nI j.val) 5))) + (0 : Int32)) - 0 + 0 = nI (gTp 1 (c.val + 1) (r.val + 1) (2 * j.val))) ∧ (gTh (2 * j.val + 1) (c.val + 1) (r.val + 1) = true → ((((10 : Int32) * ((nI (r.val + 1) - 1) - nI j.val / 5)) + ((2 : Int32) * (zrem (nI j.val) 5))) + (0 : Int32)) - 10 + 1 = nI (gTp 1 (c.val + 1) (r.val + 1) (2 * j.val + 1))) := by decide +kernel
theorem gt2T : ∀ c : Fin 5, ∀ r : Fin 5, ∀ j : Fin 25, (gIc j.val (c.val + 1) (r.val + 1) = true → (((10 : Int32) * (zrem (nI j.val) 5)) + ((2 : Int32) * (nI j.val / 5))) + (0 : Int32) = nI (2 * gTk 2 (c.val + 1) (r.val + 1) j.val)) ∧ (gTh (2 * j.val) (c.val + 1) (r.val + 1) = true → ((((10 : Int32) * (zrem (nI j.val) 5)) + ((2 : Int32) * (nI j.val / 5))) + (0 : Int32)) - 0 + 1 = nI (gTp 2 (c.val + 1) (r.val + 1) (2 * j.val))) ∧ (gTh (2 * j.val + 1) (c.val + 1) (r.val + 1) = true → ((((10 : Int32) * (zrem (nI j.val) 5)) + ((2 : Int32) * (nI j.val / 5))) + (0 : Int32)) - 0 + 0 = nI (gTp 2 (c.val + 1) (r.val + 1) (2 * j.val + 1))) := by decide +kernel
theorem gtstep {h c r j : Nat} (hh : h < 3) (hc : 1 ≤ c ∧ c ≤ 5) (hr : 1 ≤ r ∧ r ≤ 5) (hj : j < 25) (to ts st x2 x4 x6 : Int64) : ∃ A B C : Int32, zf_X2_turned_l11 (nI c) (nI r) to ts st (nI h) x2 x4 x6 (nI j) = some (.inl (x2 ||| (gmv to (2 * j) A ||| gmv to (2 * j + 1) B), x4 ||| (gmv ts (2 * j) A ||| gmv ts (2 * j + 1) B), x6 ||| gmv st (2 * j) C, nI (j + 1))) ∧ (gIc j c r = true → C = nI (2 * gTk h c r j)) ∧ (gTh (2 * j) c r = true → A = nI (gTp h c r (2 * j))) ∧ (gTh (2 * j + 1) c r = true → B = nI (gTp h c r (2 * j + 1))) := by
  obtain ⟨c, rfl⟩ : ∃ q, c = q + 1 := ⟨c - 1, by omega⟩
  obtain ⟨r, rfl⟩ : ∃ q, r = q + 1 := ⟨r - 1, by omega⟩
  have n0 := gnumJ ⟨j, hj⟩
  dsimp only at n0
  unfold zf_X2_turned_l11 zf_X2_turned_58 zf_X2_turned_69 zf_X2_turned_92 zf_X2_turned_103 zf_X2_cellTurned zf_X2_numberOf
  rcases (show h = 0 ∨ h = 1 ∨ h = 2 by omega) with rfl | rfl | rfl
  · have t := gt0T ⟨c, by omega⟩ ⟨r, by omega⟩ ⟨j, hj⟩
    dsimp only at t
    refine ⟨_, _, _, ?_, t.1, t.2.1, t.2.2⟩
    simp only [show ((25 : Int32) ≤ nI j) = False from eq_false (gle25 hj), if_false, if_true, Option.bind_some, show (nI 0 : Int32) = 0 from rfl, show ((0 : Int32) = 1) = False from eq_false (by decide), show ((0 : Int32) = 2) = False from eq_false (by decide), n0, nI_1, gbitM _ (show 2 * j < 64 by omega), gbitM _ (show 2 * j + 1 < 64 by omega)]
  · have t := gt1T ⟨c, by omega⟩ ⟨r, by omega⟩ ⟨j, hj⟩
    dsimp only at t
    refine ⟨_, _, _, ?_, t.1, t.2.1, t.2.2⟩
    simp only [show ((25 : Int32) ≤ nI j) = False from eq_false (gle25 hj), if_false, if_true, Option.bind_some, show (nI 1 : Int32) = 1 from rfl, show ((1 : Int32) = 0) = False from eq_false (by decide), show ((1 : Int32) = 2) = False from eq_false (by decide), n0, nI_1, gbitM _ (show 2 * j < 64 by omega), gbitM _ (show 2 * j + 1 < 64 by omega)]
  · have t := gt2T ⟨c, by omega⟩ ⟨r, by omega⟩ ⟨j, hj⟩
    dsimp only at t
    refine ⟨_, _, _, ?_, t.1, t.2.1, t.2.2⟩
    simp only [show ((25 : Int32) ≤ nI j) = False from eq_false (gle25 hj), if_false, if_true, Option.bind_some, show (nI 2 : Int32) = 2 from rfl, show ((2 : Int32) = 0) = False from eq_false (by decide), show ((2 : Int32) = 1) = False from eq_false (by decide), n0, nI_1, gbitM _ (show 2 * j < 64 by omega), gbitM _ (show 2 * j + 1 < 64 by omega)]
theorem gTurnP {S T : Nat → Bool} {s t : Nat → Nat} (hA : ∀ i, S i = true → t (s i) = i) (hB : ∀ p, T p = true → S (t p) = true ∧ s (t p) = p) {W : Nat → Bool} (hW : ∀ p, W p = true → T p = true) (j i : Nat) : (S i && (decide (s i < 2 * (j + 1)) && W (s i))) = ((S i && (decide (s i < 2 * j) && W (s i))) || ((W (2 * j) && decide (i = t (2 * j))) || (W (2 * j + 1) && decide (i = t (2 * j + 1))))) := by
  apply Bool.eq_iff_iff.mpr
  simp only [Bool.or_eq_true, Bool.and_eq_true, decide_eq_true_eq]
  constructor
  · rintro ⟨a, b, c⟩
    have e := hA i a
    by_cases q : s i < 2 * j
    · exact Or.inl ⟨a, q, c⟩
    · rcases (show s i = 2 * j ∨ s i = 2 * j + 1 by omega) with w | w
      · rw [w] at c e; exact Or.inr (Or.inl ⟨c, e.symm⟩)
      · rw [w] at c e; exact Or.inr (Or.inr ⟨c, e.symm⟩)
  · rintro (⟨a, b, c⟩ | ⟨a, rfl⟩ | ⟨a, rfl⟩)
    · exact ⟨a, by omega, c⟩
    · obtain ⟨b1, b2⟩ := hB _ (hW _ a)
      rw [b2]
      exact ⟨b1, by omega, a⟩
    · obtain ⟨b1, b2⟩ := hB _ (hW _ a)
      rw [b2]
      exact ⟨b1, by omega, a⟩
theorem gTurnK {S T : Nat → Bool} {s t : Nat → Nat} (hA : ∀ i, S i = true → t (s i) = i) (hB : ∀ p, T p = true → S (t p) = true ∧ s (t p) = p) {W : Nat → Bool} (hW : ∀ p, W p = true → T p = true) (j i : Nat) : (S i && (decide (s i < j + 1) && W (s i))) = ((S i && (decide (s i < j) && W (s i))) || (W j && decide (i = t j))) := by
  apply Bool.eq_iff_iff.mpr
  simp only [Bool.or_eq_true, Bool.and_eq_true, decide_eq_true_eq]
  constructor
  · rintro ⟨a, b, c⟩
    have e := hA i a
    by_cases q : s i < j
    · exact Or.inl ⟨a, q, c⟩
    · have w : s i = j := by omega
      rw [w] at c e
      exact Or.inr ⟨c, e.symm⟩
  · rintro (⟨a, b, c⟩ | ⟨a, rfl⟩)
    · exact ⟨a, by omega, c⟩
    · obtain ⟨b1, b2⟩ := hB _ (hW _ a)
      rw [b2]
      exact ⟨b1, by omega, a⟩
theorem gturned {g : gG} (hok : gOk g) {d : zGD} (hx : gRX g d) {h : Nat} (hh : h < 3) : ∃ d', zf_X2_turned d.1 d.2.1 d.2.2.1 d.2.2.2.1 d.2.2.2.2.1 (nI h) = some d' ∧ gRX (gTu h g) d' := by
  have hw := hok.1
  let C' := gTc h g.1 g.2.1
  let R' := gTc h g.2.1 g.1
  let s := gTp h C' R'
  let t := gTp h g.1 g.2.1
  have hA : ∀ i, gTh i C' R' = true → t (s i) = i := fun i hi => (gTp_A hh hw.1 hw.2.1 hi).2
  have hB : ∀ p, gTh p g.1 g.2.1 = true → gTh (t p) C' R' = true ∧ s (t p) = p := fun p hp => ⟨(gTp_B hh hw.1 hw.2.1 hp).1, (gTp_B hh hw.1 hw.2.1 hp).2.1⟩
  have hAk : ∀ i, gIc i C' R' = true → gTk h g.1 g.2.1 (gTk h C' R' i) = i := fun i hi => (gTk_A hh hw.1 hw.2.1 hi).2
  have hBk : ∀ p, gIc p g.1 g.2.1 = true → gIc (gTk h g.1 g.2.1 p) C' R' = true ∧ gTk h C' R' (gTk h g.1 g.2.1 p) = p := fun p hp => gTk_B hh hw.1 hw.2.1 hp
  have hr' : R' ≤ 5 := (gTc5 (h := h) hw.2.1 hw.1).2
  have tW : ∀ v, 0 < v → ∀ p, decide (g.2.2.1 p = v) = true → gTh p g.1 g.2.1 = true := by
    intro v hv p hp
    cases ht : gTh p g.1 g.2.1 with
    | true => rfl
    | false =>
      have := (hw.2.2.1 p).2 ht
      have := of_decide_eq_true hp
      omega
  have tK : ∀ k, g.2.2.2 k = true → gIc k g.1 g.2.1 = true := by
    intro k hk
    have := hw.2.2.2 k hk
    unfold gIc
    rw [decide_eq_true this.1, decide_eq_true this.2]
    rfl
  have hH := gitH (f := fun e : Int64 × Int64 × Int64 × Int32 => zf_X2_turned_l11 d.1 d.2.1 d.2.2.1 d.2.2.2.1 d.2.2.2.2.1 (nI h) e.1 e.2.1 e.2.2.1 e.2.2.2) (fun j e => e.2.2.2 = nI j ∧ ∀ i, i < 64 → gbt e.1 i = (gTh i C' R' && (decide (s i < 2 * j) && decide (g.2.2.1 (s i) = 1))) ∧ gbt e.2.1 i = (gTh i C' R' && (decide (s i < 2 * j) && decide (g.2.2.1 (s i) = 2))) ∧ gbt e.2.2.1 i = (decide (i % 2 = 0) && (gIc (gFr i) C' R' && (decide (gTk h C' R' (gFr i) < j) && g.2.2.2 (gTk h C' R' (gFr i)))))) (fun e => gRT (gTu h g) e.1 e.2.1 e.2.2) 25 (n := zfu) (gfu (by decide)) (a := ((0 : Int64), (0 : Int64), (0 : Int64), (0 : Int32))) ⟨rfl, fun i _ => by rw [gbt_zero]; simp⟩ ?_ ?_
  · obtain ⟨⟨a1, a2, a3⟩, e, k⟩ := hH
    obtain ⟨d', e2, k2⟩ := gX2init (gTu_wf hw hh) k
    refine ⟨d', ?_, k2⟩
    unfold zf_X2_turned
    rw [e, Option.bind_some]
    unfold zf_X2_turned_203 zf_X2_turned_225 zf_X2_turned_241
    rw [hx.1, hx.2.1]
    have e2' : zf_X2_init (nI C') (nI R') a1 a2 a3 = some d' := e2
    by_cases q : h = 2
    · have c1 : C' = g.2.1 := if_pos q
      have c2 : R' = g.1 := if_pos q
      rw [c1, c2] at e2'
      rw [if_pos (show nI h = (2 : Int32) by rw [q]; rfl), if_neg (show ¬ (1 : Int32) = 0 by decide), if_neg (show ¬ (1 : Int32) = 0 by decide)]
      dsimp only
      rw [e2']
      rfl
    · have c1 : C' = g.1 := if_neg q
      have c2 : R' = g.2.1 := if_neg q
      rw [c1, c2] at e2'
      rw [if_neg (show ¬ nI h = (2 : Int32) by rw [show (2 : Int32) = nI 2 from rfl, nI_eq (by omega) (by decide)]; exact q), if_pos rfl, if_pos rfl]
      dsimp only
      rw [e2']
      rfl
  · rintro j ⟨x2, x4, x6, y⟩ hj ⟨rfl, k⟩
    dsimp only at k ⊢
    obtain ⟨A, B, C, e, eC, eA, eB⟩ := gtstep hh hw.1 hw.2.1 hj d.2.2.1 d.2.2.2.1 d.2.2.2.2.1 x2 x4 x6
    rw [hx.1, hx.2.1, e]
    refine ⟨_, rfl, rfl, fun i hi => ?_⟩
    dsimp only
    obtain ⟨k1, k2, k3⟩ := k i hi
    have t64 : ∀ p, gTh p g.1 g.2.1 = true → t p < 64 := fun p hp => by have := gTh50 hr' (hB p hp).1; omega
    have bt : ∀ p, p < 64 → gbt d.2.2.1 p = decide (g.2.2.1 p = 1) ∧ gbt d.2.2.2.1 p = decide (g.2.2.1 p = 2) := fun p hp => ⟨(hx.2.2.1 p hp).1, (hx.2.2.1 p hp).2.1⟩
    have mv1 : ∀ (b : Int64) (v p : Nat) (w : Int32), 0 < v → p < 64 → gbt b p = decide (g.2.2.1 p = v) → (gTh p g.1 g.2.1 = true → w = nI (t p)) → gbt (gmv b p w) i = (decide (g.2.2.1 p = v) && decide (i = t p)) := by
      intro b v p w hv hp hb hwt
      rw [gmv_bt b p (t := t p) (fun q => ?_) i, hb]
      rw [hb] at q
      have := tW v hv p q
      exact ⟨hwt this, t64 p this⟩
    refine ⟨?_, ?_, ?_⟩
    · rw [gbt_or, gbt_or, k1, mv1 _ 1 (2 * j) A (by decide) (by omega) (bt _ (by omega)).1 eA, mv1 _ 1 (2 * j + 1) B (by decide) (by omega) (bt _ (by omega)).1 eB]
      exact (gTurnP (S := fun i => gTh i C' R') (T := fun p => gTh p g.1 g.2.1) hA hB (W := fun p => decide (g.2.2.1 p = 1)) (tW 1 (by decide)) j i).symm
    · rw [gbt_or, gbt_or, k2, mv1 _ 2 (2 * j) A (by decide) (by omega) (bt _ (by omega)).2 eA, mv1 _ 2 (2 * j + 1) B (by decide) (by omega) (bt _ (by omega)).2 eB]
      exact (gTurnP (S := fun i => gTh i C' R') (T := fun p => gTh p g.1 g.2.1) hA hB (W := fun p => decide (g.2.2.1 p = 2)) (tW 2 (by decide)) j i).symm
    · have sb : gbt d.2.2.2.2.1 (2 * j) = g.2.2.2 j := by
        rw [(hx.2.2.1 (2 * j) (by omega)).2.2, (gFr2 j).1, decide_eq_true (show 2 * j % 2 = 0 by omega)]
        rfl
      have kk : gbt (gmv d.2.2.2.2.1 (2 * j) C) i = (g.2.2.2 j && decide (i = 2 * gTk h g.1 g.2.1 j)) := by
        rw [gmv_bt _ (2 * j) (t := 2 * gTk h g.1 g.2.1 j) (fun q => ?_) i, sb]
        rw [sb] at q
        have ic := tK j q
        have := gIc25 hr' (hBk j ic).1
        exact ⟨eC ic, by omega⟩
      rw [gbt_or, k3, kk, gTurnK (S := fun i => gIc i C' R') (T := fun p => gIc p g.1 g.2.1) (s := gTk h C' R') (t := gTk h g.1 g.2.1) hAk hBk (W := g.2.2.2) tK j (gFr i)]
      by_cases ev : i % 2 = 0
      · rw [decide_eq_true ev, Bool.true_and, Bool.true_and]
        congr 2
        apply decide_eq_decide.mpr
        unfold gFr
        omega
      · rw [decide_eq_false ev, decide_eq_false (show ¬ i = 2 * gTk h g.1 g.2.1 j by omega)]
        simp
  · rintro ⟨x2, x4, x6, y⟩ ⟨rfl, k⟩
    dsimp only at k ⊢
    unfold zf_X2_turned_l11
    rw [if_pos (by decide)]
    refine ⟨_, rfl, fun i hi => ?_⟩
    obtain ⟨k1, k2, k3⟩ := k i hi
    dsimp only
    have tl : (gTu h g).2.2.1 i = if gTh i C' R' then g.2.2.1 (s i) else 0 := rfl
    have sl : (gTu h g).2.2.2 (gFr i) = (gIc (gFr i) C' R' && g.2.2.2 (gTk h C' R' (gFr i))) := rfl
    rw [tl, sl, k1, k2, k3]
    refine ⟨?_, ?_, ?_⟩
    · cases ht : gTh i C' R' with
      | false => rfl
      | true =>
        have := gTh50 hw.2.1.2 (gTp_A hh hw.1 hw.2.1 ht).1
        rw [if_pos rfl, decide_eq_true (show s i < 2 * 25 by omega)]
        rfl
    · cases ht : gTh i C' R' with
      | false => rfl
      | true =>
        have := gTh50 hw.2.1.2 (gTp_A hh hw.1 hw.2.1 ht).1
        rw [if_pos rfl, decide_eq_true (show s i < 2 * 25 by omega)]
        rfl
    · cases ht : gIc (gFr i) C' R' with
      | false => rfl
      | true =>
        have := gIc25 hw.2.1.2 (gTk_A hh hw.1 hw.2.1 ht).1
        rw [decide_eq_true (show gTk h C' R' (gFr i) < 25 from this)]
        rfl
