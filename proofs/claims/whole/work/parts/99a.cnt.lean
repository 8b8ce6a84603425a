/-! sums; the counts: how far they reach, how many they are -/
theorem gSum_cong {f f' : Nat → Nat} {n : Nat} (h : ∀ i, i < n → f i = f' i) : gSum f n = gSum f' n := by
  induction n with
  | zero => rfl
  | succ n ih => rw [gSum, gSum, ih (fun i hi => h i (by omega)), h n (by omega)]
theorem gSum_zero (n : Nat) : gSum (fun _ => 0) n = 0 := by
  induction n with
  | zero => rfl
  | succ n ih => rw [gSum, ih]
theorem gSum_z {f : Nat → Nat} {n : Nat} (h : ∀ i, i < n → f i = 0) : gSum f n = 0 := by
  rw [gSum_cong h, gSum_zero]
theorem gSum_add (f f' : Nat → Nat) (n : Nat) : gSum (fun i => f i + f' i) n = gSum f n + gSum f' n := by
  induction n with
  | zero => rfl
  | succ n ih => rw [gSum, gSum, gSum, ih]; omega
theorem gSum_swap (f : Nat → Nat → Nat) (n m : Nat) : gSum (fun i => gSum (fun j => f i j) m) n = gSum (fun j => gSum (fun i => f i j) n) m := by
  induction n with
  | zero =>
    rw [gSum]
    exact (gSum_zero m).symm
  | succ n ih =>
    rw [gSum, ih, ← gSum_add]
    rfl
theorem gSum_one {a n : Nat} (f : Nat → Nat) (h : a < n) : gSum (fun i => if a = i then f i else 0) n = f a := by
  induction n with
  | zero => omega
  | succ n ih =>
    rw [gSum]
    by_cases e : a = n
    · subst e
      rw [gSum_z (fun i hi => if_neg (by omega)), if_pos rfl, Nat.zero_add]
    · rw [ih (by omega), if_neg e, Nat.add_zero]
theorem gSum_mem {f : Nat → Nat} {n i : Nat} (h : i < n) : f i ≤ gSum f n := by
  induction n with
  | zero => omega
  | succ n ih =>
    rw [gSum]
    by_cases e : i = n
    · subst e; omega
    · have := ih (by omega); omega
theorem gSum_eq0 {f : Nat → Nat} {n : Nat} (h : gSum f n = 0) {i : Nat} (hi : i < n) : f i = 0 := by
  have := gSum_mem (f := f) hi
  omega
/-- a slot that there is for so many columns -/
def gVs (c slot : Nat) : Bool := decide (slot < c) || (decide (5 ≤ slot) && decide (slot - 4 < c))
theorem gMvI : ∀ c : Fin 6, (List.range 9).all (fun slot => !gVs c.val slot || (List.range (gSz c.val)).all (fun s => decide (gMv c.val slot (gMv c.val slot s) = gMv c.val slot s ∧ gMv c.val slot s < gSz c.val))) = true := by decide +kernel
theorem gMvI' {c slot s : Nat} (hc : c ≤ 5) (hv : gVs c slot = true) (hs : s < gSz c) : gMv c slot (gMv c slot s) = gMv c slot s ∧ gMv c slot s < gSz c := by
  have h9 : slot < 9 := by
    unfold gVs at hv
    simp at hv
    omega
  have h := List.all_eq_true.mp (gMvI ⟨c, by omega⟩) slot (List.mem_range.mpr h9)
  rw [hv] at h
  exact of_decide_eq_true (List.all_eq_true.mp h s (List.mem_range.mpr hs))
/-- each step: its pipe is there, its slot too; pipes down have the slots of columns -/
theorem gStT : ∀ (c r : Fin 6), 1 ≤ c.val → 1 ≤ r.val → (List.range (gRS c.val r.val)).all (fun i => decide (gTh ((gSteps c.val r.val).getD i (0, 0)).1 c.val r.val = true ∧ gVs c.val ((gSteps c.val r.val).getD i (0, 0)).2 = true)) = true := by decide +kernel
theorem gStE {g : gG} (hw : gWf g) {i : Nat} (hi : i < gRS g.1 g.2.1) : gTh (gStep g i).1 g.1 g.2.1 = true ∧ gVs g.1 (gStep g i).2 = true := by
  have hc := hw.1
  have hr := hw.2.1
  have h := List.all_eq_true.mp (gStT ⟨g.1, by omega⟩ ⟨g.2.1, by omega⟩ hc.1 hr.1) i (List.mem_range.mpr hi)
  exact of_decide_eq_true h
theorem gFsS (g : gG) (i : Nat) : gFs g (i + 1) = gFs g i + (if gHow g (gStep g i).1 = 0 then 1 else 0) := by
  unfold gFs
  rw [gctS]
  by_cases h : gHow g (gStep g i).1 = 0 <;> simp [h]
theorem gInto0 {g : gG} {slot s : Nat} {f : Nat → Nat} (h : ∀ t, f t = 0) : gInto g slot s f = 0 := by
  unfold gInto
  refine gSum_z fun t _ => ?_
  rw [h t]
  exact ite_self 0
theorem gCS (g : gG) (i s k : Nat) : gC g (i + 1) s k = if gHow g (gStep g i).1 = 0 then (if (gStep g i).1 % 2 = 0 then (if k = 0 then 0 else gInto g (gStep g i).2 s (fun t => gC g i t (k - 1))) + gC g i s k else gInto g (gStep g i).2 s (fun t => gC g i t k) + (if k = 0 then 0 else gC g i s (k - 1))) else if gHow g (gStep g i).1 = (if (gStep g i).1 % 2 = 0 then 1 else 2) then gInto g (gStep g i).2 s (fun t => gC g i t k) else gC g i s k := rfl
/-- no more are open than are free -/
theorem gC_far (g : gG) (i s k : Nat) (h : gFs g i < k) : gC g i s k = 0 := by
  induction i generalizing s k with
  | zero =>
    show (if s = gS0 g ∧ k = 0 then 1 else 0) = 0
    rw [if_neg]
    have : gFs g 0 = 0 := rfl
    omega
  | succ i ih =>
    rw [gFsS] at h
    rw [gCS]
    by_cases h0 : gHow g (gStep g i).1 = 0
    · rw [if_pos h0] at h ⊢
      rw [if_neg (show ¬ k = 0 by omega), if_neg (show ¬ k = 0 by omega), ih s k (by omega), ih s (k - 1) (by omega), gInto0 (fun t => ih t (k - 1) (by omega)), gInto0 (fun t => ih t k (by omega))]
      exact ite_self 0
    · rw [if_neg h0] at h ⊢
      rw [ih s k (by omega), gInto0 (fun t => ih t k (by omega))]
      exact ite_self 0
/-- all that goes anywhere, together -/
theorem gInto_all {g : gG} (hw : gWf g) {slot : Nat} (hv : gVs g.1 slot = true) (f : Nat → Nat) : gSum (fun s => gInto g slot s f) (gSz g.1) = gSum f (gSz g.1) := by
  unfold gInto
  rw [gSum_swap]
  refine gSum_cong fun t ht => ?_
  exact gSum_one (a := gMv g.1 slot t) (fun _ => f t) (gMvI' hw.1.2 hv ht).2
def gCt (g : gG) (i k : Nat) : Nat := gSum (fun s => gC g i s k) (gSz g.1)
theorem gCtS {g : gG} (hw : gWf g) {i : Nat} (hi : i < gRS g.1 g.2.1) (k : Nat) : gCt g (i + 1) k = if gHow g (gStep g i).1 = 0 then (if k = 0 then 0 else gCt g i (k - 1)) + gCt g i k else gCt g i k := by
  have hv := (gStE hw hi).2
  unfold gCt
  rw [gSum_cong (fun s _ => gCS g i s k)]
  by_cases h0 : gHow g (gStep g i).1 = 0
  · rw [if_pos h0, gSum_cong (fun s _ => if_pos h0)]
    by_cases h1 : (gStep g i).1 % 2 = 0
    · rw [gSum_cong (fun s _ => if_pos h1), gSum_add]
      congr 1
      by_cases hk : k = 0
      · rw [if_pos hk, gSum_cong (fun s _ => if_pos hk), gSum_zero]
      · rw [if_neg hk, gSum_cong (fun s _ => if_neg hk), gInto_all hw hv]
    · rw [gSum_cong (fun s _ => if_neg h1), gSum_add, gInto_all hw hv, Nat.add_comm]
      congr 1
      by_cases hk : k = 0
      · rw [if_pos hk, gSum_cong (fun s _ => if_pos hk), gSum_zero]
      · rw [if_neg hk, gSum_cong (fun s _ => if_neg hk)]
  · rw [if_neg h0, gSum_cong (fun s _ => if_neg h0)]
    by_cases h1 : gHow g (gStep g i).1 = (if (gStep g i).1 % 2 = 0 then 1 else 2)
    · rw [gSum_cong (fun s _ => if_pos h1), gInto_all hw hv]
    · rw [gSum_cong (fun s _ => if_neg h1)]
/-- the start is one of the states -/
def gScm (c m : Nat) : Nat := gSc (c, 1, fun _ => 0, fun k => m.testBit k) c 1 0
theorem gScmT : ∀ c : Fin 6, 1 ≤ c.val → ∀ m : Fin 32, gScm c.val m.val ∈ gT c.val := by decide +kernel
theorem gSc_cong {g g' : gG} (h1 : g.1 = g'.1) (h : ∀ k, k < 5 → g.2.2.2 k = g'.2.2.2 k) (hc : g.1 ≤ 5) : ∀ n f code, n ≤ g.1 → gSc g n f code = gSc g' n f code := by
  intro n
  induction n with
  | zero => intro f code _; rfl
  | succ n ih =>
    intro f code hn
    unfold gSc
    rw [← h1, h (g.1 - (n + 1)) (by omega), ih _ _ (by omega), ih _ _ (by omega)]
theorem gmask (b : Nat → Bool) : ∃ m, m < 32 ∧ ∀ k, k < 5 → m.testBit k = b k := by
  have key : ∀ b0 b1 b2 b3 b4 : Bool, ∃ m : Fin 32, m.val.testBit 0 = b0 ∧ m.val.testBit 1 = b1 ∧ m.val.testBit 2 = b2 ∧ m.val.testBit 3 = b3 ∧ m.val.testBit 4 = b4 := by decide +kernel
  obtain ⟨m, h0, h1, h2, h3, h4⟩ := key (b 0) (b 1) (b 2) (b 3) (b 4)
  refine ⟨m.val, m.isLt, fun k hk => ?_⟩
  rcases (show k = 0 ∨ k = 1 ∨ k = 2 ∨ k = 3 ∨ k = 4 by omega) with rfl | rfl | rfl | rfl | rfl
  · exact h0
  · exact h1
  · exact h2
  · exact h3
  · exact h4
theorem gS0_lt {g : gG} (hw : gWf g) : gS0 g < gSz g.1 ∧ gCd g.1 (gS0 g) = gSc g g.1 1 0 := by
  have hc := hw.1
  obtain ⟨m, hm, hb⟩ := gmask g.2.2.2
  have e : gSc g g.1 1 0 = gScm g.1 m   := gSc_cong (g := g) (g' := (g.1, 1, fun _ => 0, fun k => m.testBit k)) rfl (fun k hk => (hb k hk).symm) hc.2 g.1 1 0 (Nat.le_refl _)
  have hmem : gSc g g.1 1 0 ∈ gT g.1 := by
    rw [e]
    exact gScmT ⟨g.1, by omega⟩ hc.1 ⟨m, hm⟩
  have hlt : gS0 g < gSz g.1 := List.idxOf_lt_length_of_mem hmem
  refine ⟨hlt, ?_⟩
  unfold gCd
  rw [List.getD_eq_getElem?_getD, List.getElem?_eq_getElem hlt]
  exact List.getElem_idxOf hlt
/-- there are as many choices as there are -/
theorem gCt_all {g : gG} (hw : gWf g) (i : Nat) (hi : i ≤ gRS g.1 g.2.1) : gSum (gCt g i) (gFs g i + 1) = 2 ^ gFs g i := by
  induction i with
  | zero =>
    show gSum (gCt g 0) 1 = 1
    show 0 + gCt g 0 0 = 1
    unfold gCt
    rw [gSum_cong (f' := fun s => if gS0 g = s then 1 else 0) (fun s _ => by
      show (if s = gS0 g ∧ 0 = 0 then 1 else 0) = _
      by_cases e : s = gS0 g
      · rw [if_pos ⟨e, rfl⟩, if_pos e.symm]
      · rw [if_neg (fun h => e h.1), if_neg (fun h => e h.symm)])]
    rw [gSum_one (fun _ => 1) (gS0_lt hw).1]
  | succ i ih =>
    have ih := ih (by omega)
    rw [gFsS, gSum_cong (fun k _ => gCtS hw (by omega) k)]
    by_cases h0 : gHow g (gStep g i).1 = 0
    · rw [if_pos h0, gSum_cong (fun k _ => if_pos h0), gSum_add]
      have far : gCt g i (gFs g i + 1) = 0 := gSum_z fun s _ => gC_far g i s _ (by omega)
      have s1 : gSum (fun k => if k = 0 then 0 else gCt g i (k - 1)) (gFs g i + 1 + 1) = gSum (gCt g i) (gFs g i + 1) := by
        have shift : ∀ n, gSum (fun k => if k = 0 then 0 else gCt g i (k - 1)) (n + 1) = gSum (gCt g i) n := by
          intro n
          induction n with
          | zero => rfl
          | succ n ihn => rw [gSum, ihn, gSum, if_neg (by omega), Nat.add_sub_cancel]
        exact shift _
      rw [s1, show gSum (gCt g i) (gFs g i + 1 + 1) = gSum (gCt g i) (gFs g i + 1) + gCt g i (gFs g i + 1) from rfl, far, ih, Nat.pow_succ]
      omega
    · rw [if_neg h0, gSum_cong (fun k _ => if_neg h0), Nat.add_zero]
      exact ih
/-- all choices that lead to a state -/
def gTt (g : gG) (i s : Nat) : Nat := gSum (gC g i s) 25
theorem gSum_ext {f : Nat → Nat} {a b : Nat} (h : a ≤ b) (hz : ∀ i, a ≤ i → f i = 0) : gSum f b = gSum f a := by
  obtain ⟨k, rfl⟩ : ∃ k, b = a + k := ⟨b - a, by omega⟩
  clear h
  induction k with
  | zero => rfl
  | succ k ih => rw [← Nat.add_assoc, gSum, ih, hz (a + k) (by omega), Nat.add_zero]
theorem gTt_all {g : gG} (hw : gWf g) {i : Nat} (hi : i ≤ gRS g.1 g.2.1) (hf : gFs g i ≤ 24) : gSum (gTt g i) (gSz g.1) = 2 ^ gFs g i := by
  unfold gTt
  rw [gSum_swap]
  rw [← gCt_all hw i hi]
  exact gSum_ext (a := gFs g i + 1) (by omega) (fun k hk => gSum_z fun s _ => gC_far g i s k (by omega))
theorem gTt_le {g : gG} (hw : gWf g) {i s : Nat} (hi : i ≤ gRS g.1 g.2.1) (hf : gFs g i ≤ 24) (hs : s < gSz g.1) : gTt g i s ≤ 2 ^ 24 := by
  have h1 := gSum_mem (f := gTt g i) hs
  rw [gTt_all hw hi hf] at h1
  exact Nat.le_trans h1 (Nat.pow_le_pow_right (by decide) hf)
theorem gC_0 {g : gG} {i s : Nat} (h : gTt g i s = 0) (hf : gFs g i ≤ 24) (k : Nat) : gC g i s k = 0 := by
  by_cases hk : k < 25
  · exact gSum_eq0 h hk
  · exact gC_far g i s k (by omega)
theorem glN0 {n : Nat} (h : n < 2 ^ 31) : lN n = 0 ↔ n = 0 := by
  constructor
  · intro e
    have := congrArg Int64.toInt e
    rw [lN_toInt h] at this
    simpa using this
  · intro e
    rw [e]
    rfl
/-- a loop with an invariant, its result having a property -/
theorem gitH {α β : Type} {f : α → Option (α ⊕ β)} (I : Nat → α → Prop) (Q : β → Prop) (m : Nat) {n : Nat} (h : m < n) {a : α} (h0 : I 0 a) (hs : ∀ j a, j < m → I j a → ∃ a', f a = some (.inl a') ∧ I (j + 1) a') (hb : ∀ a, I m a → ∃ b, f a = some (.inr b) ∧ Q b) : ∃ b, zit f n a = some b ∧ Q b := by
  have key : ∀ (k j : Nat) (a : α), j + k = m → I j a → ∀ n, k < n → ∃ b, zit f n a = some b ∧ Q b := by
    intro k
    induction k with
    | zero =>
      intro j a hj ha n hn
      obtain ⟨n, rfl⟩ : ∃ q, n = q + 1 := ⟨n - 1, by omega⟩
      obtain rfl : j = m := by omega
      obtain ⟨b, e, hq⟩ := hb a ha
      refine ⟨b, ?_, hq⟩
      unfold zit
      rw [e]
      rfl
    | succ k ih =>
      intro j a hj ha n hn
      obtain ⟨n, rfl⟩ : ∃ q, n = q + 1 := ⟨n - 1, by omega⟩
      obtain ⟨a', e, ha'⟩ := hs j a (by omega) ha
      obtain ⟨b, e2, hq⟩ := ih (j + 1) a' (by omega) ha' n (by omega)
      refine ⟨b, ?_, hq⟩
      unfold zit
      rw [e]
      exact e2
  exact key m 0 a (by omega) h0 n h
