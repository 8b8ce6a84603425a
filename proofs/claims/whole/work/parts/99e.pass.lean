/-! the flow: one pipe passed -/
theorem gIntoSum (g : gG) (slot t : Nat) (f : Nat → Nat → Nat) (n : Nat) : gSum (fun k => gInto g slot t (fun s => f s k)) n = gInto g slot t (fun s => gSum (f s) n) := by
  unfold gInto
  rw [gSum_swap]
  refine gSum_cong fun s _ => ?_
  by_cases h : gMv g.1 slot s = t
  · rw [if_pos h, gSum_cong (fun k _ => if_pos h)]
  · rw [if_neg h, gSum_cong (fun k _ => if_neg h), gSum_zero]
theorem gShift (f : Nat → Nat) (n : Nat) : gSum (fun k => if k = 0 then 0 else f (k - 1)) (n + 1) = gSum f n := by
  induction n with
  | zero => rfl
  | succ n ih => rw [gSum, ih, gSum, if_neg (by omega), Nat.add_sub_cancel]
theorem gInto_un {g : gG} (hw : gWf g) {slot : Nat} (hv : gVs g.1 slot = true) (F : Nat → Nat) {t : Nat} (ht : t < gSz g.1) (h : gMv g.1 slot t = t) : gInto g slot t F = F t + gSum (fun s => if gMv g.1 slot s = t ∧ s ≠ t then F s else 0) (gSz g.1) := by
  rw [← gmDall hw hv F ht]
  unfold gmD
  rw [if_pos h]
theorem gInto_mv {g : gG} (hw : gWf g) {slot : Nat} (hv : gVs g.1 slot = true) (F : Nat → Nat) {t : Nat} (ht : t < gSz g.1) (h : gMv g.1 slot t ≠ t) : gInto g slot t F = 0 := by
  rw [← gmDall hw hv F ht]
  unfold gmD
  rw [if_neg h, if_pos ht]
/-- how all is behind a free pipe: by k -/
theorem gfreeD {g : gG} (hw : gWf g) {slot : Nat} (hv : gVs g.1 slot = true) (D : Nat → Nat → Nat) {e : Nat} (he : e < 2) {t : Nat} (ht : t < gSz g.1) (k : Nat) : gnD (gMv g.1 slot) (fun s => gdb2 (gMv g.1 slot) D (gSz g.1) s k) (gF e (gdb2 (gMv g.1 slot) D (gSz g.1)) k) (gBf e (gdb2 (gMv g.1 slot) D (gSz g.1)) k) (gSz g.1) t = if e = 1 then (if k = 0 then 0 else gInto g slot t (fun s => D s (k - 1))) + D t k else gInto g slot t (fun s => D s k) + (if k = 0 then 0 else D t (k - 1)) := by
  have hAm : ∀ s k, gMv g.1 slot s ≠ s → gdb2 (gMv g.1 slot) D (gSz g.1) s k = D s k := fun s k h => by
    unfold gdb2
    rw [if_neg (fun q => h q.1)]
  unfold gnD
  by_cases h : gMv g.1 slot t = t
  · rw [if_pos h]
    have hA : gdb2 (gMv g.1 slot) D (gSz g.1) t k = D t k + (if k = 0 then 0 else D t (k - 1)) := by
      unfold gdb2 gdD
      rw [if_pos ⟨h, ht⟩]
    dsimp only
    rw [hA]
    have hS : ∀ s, s < gSz g.1 → (if gMv g.1 slot s = t ∧ s ≠ t then gF e (gdb2 (gMv g.1 slot) D (gSz g.1)) k s else 0) = (if gMv g.1 slot s = t ∧ s ≠ t then gF e D k s else 0) := by
      intro s _
      by_cases q : gMv g.1 slot s = t ∧ s ≠ t
      · rw [if_pos q, if_pos q]
        have hm : gMv g.1 slot s ≠ s := by rw [q.1]; exact fun z => q.2 z.symm
        unfold gF
        rw [hAm s k hm, hAm s (k - 1) hm]
      · rw [if_neg q, if_neg q]
    rw [gSum_cong hS]
    rcases (show e = 0 ∨ e = 1 by omega) with rfl | rfl
    · rw [if_neg (show ¬ (0 : Nat) = 1 by decide), gInto_un hw hv (fun s => D s k) ht h]
      have : ∀ s, gF 0 D k s = D s k := fun s => by unfold gF; rw [if_neg (by decide)]
      simp only [this]
      omega
    · rw [if_pos rfl]
      by_cases k0 : k = 0
      · subst k0
        have : ∀ s, gF 1 D 0 s = 0 := fun s => by unfold gF; rw [if_pos rfl, if_pos rfl]
        simp only [this, if_true]
        rw [gSum_z (fun s _ => ite_self 0)]
        omega
      · have : ∀ s, gF 1 D k s = D s (k - 1) := fun s => by unfold gF; rw [if_pos rfl, if_neg k0]
        simp only [this, k0, if_false]
        rw [gInto_un hw hv (fun s => D s (k - 1)) ht h]
        omega
  · rw [if_neg h, if_pos ht]
    rcases (show e = 0 ∨ e = 1 by omega) with rfl | rfl
    · rw [if_neg (show ¬ (0 : Nat) = 1 by decide), gInto_mv hw hv _ ht h, Nat.zero_add]
      unfold gBf
      rw [if_neg (show ¬ (0 : Nat) = 1 by decide), hAm t (k - 1) h]
    · rw [if_pos rfl, gInto_mv hw hv _ ht h]
      unfold gBf
      rw [if_pos rfl, hAm t k h]
      by_cases k0 : k = 0 <;> simp [k0]
/-- .. and all k together -/
theorem gfreeT {g : gG} (hw : gWf g) {slot : Nat} (hv : gVs g.1 slot = true) (T : Nat → Nat) {t : Nat} (ht : t < gSz g.1) : gnD (gMv g.1 slot) (gdbT (gMv g.1 slot) T (gSz g.1)) (gdbT (gMv g.1 slot) T (gSz g.1)) (gdbT (gMv g.1 slot) T (gSz g.1)) (gSz g.1) t = gInto g slot t T + T t := by
  have hAm : ∀ s, gMv g.1 slot s ≠ s → gdbT (gMv g.1 slot) T (gSz g.1) s = T s := fun s h => by
    unfold gdbT
    rw [if_neg (fun q => h q.1)]
  unfold gnD
  by_cases h : gMv g.1 slot t = t
  · rw [if_pos h]
    have hA : gdbT (gMv g.1 slot) T (gSz g.1) t = T t * 2 := by
      unfold gdbT
      rw [if_pos ⟨h, ht⟩]
    have hS : ∀ s, s < gSz g.1 → (if gMv g.1 slot s = t ∧ s ≠ t then gdbT (gMv g.1 slot) T (gSz g.1) s else 0) = (if gMv g.1 slot s = t ∧ s ≠ t then T s else 0) := by
      intro s _
      by_cases q : gMv g.1 slot s = t ∧ s ≠ t
      · rw [if_pos q, if_pos q]
        exact hAm s (by rw [q.1]; exact fun z => q.2 z.symm)
      · rw [if_neg q, if_neg q]
    rw [hA, gSum_cong hS, gInto_un hw hv T ht h]
    omega
  · rw [if_neg h, if_pos ht, gInto_mv hw hv _ ht h, hAm t h, Nat.zero_add]
theorem gTtS {g : gG} {i : Nat} (hf : gFs g i < 24 ∨ gHow g (gStep g i).1 ≠ 0) (s : Nat) : gTt g (i + 1) s = if gHow g (gStep g i).1 = 0 then gInto g (gStep g i).2 s (gTt g i) + gTt g i s else if gHow g (gStep g i).1 = (if (gStep g i).1 % 2 = 0 then 1 else 2) then gInto g (gStep g i).2 s (gTt g i) else gTt g i s := by
  unfold gTt
  rw [gSum_cong (fun k _ => gCS g i s k)]
  by_cases h0 : gHow g (gStep g i).1 = 0
  · have hf : gFs g i < 24 := hf.resolve_right (fun q => q h0)
    have far : ∀ s, gC g i s 24 = 0 := fun s => gC_far g i s 24 hf
    have s24 : ∀ f : Nat → Nat, f 24 = 0 → gSum (fun k => if k = 0 then 0 else f (k - 1)) 25 = gSum f 25 := fun f h => by
      rw [gShift f 24, show gSum f 25 = gSum f 24 + f 24 from rfl, h, Nat.add_zero]
    rw [if_pos h0, gSum_cong (fun k _ => if_pos h0)]
    by_cases h1 : (gStep g i).1 % 2 = 0
    · rw [gSum_cong (fun k _ => if_pos h1), gSum_add, s24 (fun k => gInto g (gStep g i).2 s (fun t => gC g i t k)) (gInto0 far), gIntoSum g _ s (fun t k => gC g i t k)]
    · rw [gSum_cong (fun k _ => if_neg h1), gSum_add, s24 (fun k => gC g i s k) (far s), gIntoSum g _ s (fun t k => gC g i t k)]
  · rw [if_neg h0, gSum_cong (fun k _ => if_neg h0)]
    by_cases h1 : gHow g (gStep g i).1 = (if (gStep g i).1 % 2 = 0 then 1 else 2)
    · rw [if_pos h1, gSum_cong (fun k _ => if_pos h1), gIntoSum g _ s (fun t k => gC g i t k)]
    · rw [if_neg h1, gSum_cong (fun k _ => if_neg h1)]
theorem gmoT : ∀ p : Fin 50, zf_X4_movesOpen (nI p.val) = some (gbI (decide (p.val % 2 = 0))) := by decide +kernel
theorem gfreeB {g : gG} (hw : gWf g) {d : zGD} (hx : gRX g d) {p : Nat} (hp : gTh p g.1 g.2.1 = true) : zf_X2_isFree d.2.2.2.2.2.2.2 (nI p) = some (gbI (decide (gHow g p = 0))) := by
  have h50 := gTh50 hw.2.1.2 hp
  obtain ⟨-, -, b⟩ := hx.2.2.2 p (by omega)
  rw [hp, Bool.true_and] at b
  unfold zf_X2_isFree
  simp only [gbt_test _ (show p < 64 by omega), b]
  cases h : decide (gHow g p = 0) <;> rfl
/-- the lattice as it is made for a grid -/
def gLz (g : gG) (wt mv sp ss rs : Nat → Int32) : Prop := (∀ s, s < gSz g.1 → wt s = nI (gWs g.1 s)) ∧ (∀ x s, x < g.1 → s < gSz g.1 → mv (x * 132 + s) = nI (gMv g.1 x s) ∧ (0 < x → mv ((4 + x) * 132 + s) = nI (gMv g.1 (4 + x) s))) ∧ (∀ i, i < gRS g.1 g.2.1 → sp i = nI (gStep g i).1 ∧ ss i = nI (gStep g i).2) ∧ ∀ y, y ≤ g.2.1 → rs y = nI (gRS g.1 y)
theorem gLz_mv {g : gG} {wt mv sp ss rs : Nat → Int32} (h : gLz g wt mv sp ss rs) {slot s : Nat} (hv : gVs g.1 slot = true) (hs : s < gSz g.1) : mv (slot * 132 + s) = nI (gMv g.1 slot s) := by
  unfold gVs at hv
  simp only [Bool.or_eq_true, Bool.and_eq_true, decide_eq_true_eq] at hv
  rcases hv with h1 | ⟨h1, h2⟩
  · exact (h.2.1 slot s h1 hs).1
  · have := (h.2.1 (slot - 4) s h2 hs).2 (by omega)
    rwa [show 4 + (slot - 4) = slot from by omega] at this
theorem gRS40 {g : gG} (hw : gWf g) : gRS g.1 g.2.1 ≤ 40 := by
  have hc := hw.1
  have hr := hw.2.1
  exact (gsyT ⟨g.1, by omega⟩ ⟨g.2.1, by omega⟩ hc.1).2
/-- one pipe -/
theorem gpass {g : gG} (hw : gWf g) {d : zGD} (hx : gRX g d) {wt mvA sp ss rs : Nat → Int32} (hl : gLz g wt mvA sp ss rs) {B nc nt i : Nat} (hi : i < gRS g.1 g.2.1) (hf : gFs g (i + 1) ≤ 24) (hnc : (B + 1) * 3300 ≤ nc) (hnc2 : nc < 2 ^ 31) (hnt : (B + 1) * 132 ≤ nt) (hnt2 : nt < 2 ^ 31) {cn tt : Nat → Int64} (hR : gRp (gSz g.1) B cn tt (gC g i) (gTt g i)) : ∃ cn' tt', zf_X1_pass (nI (gFs g i)) (nI (gSz g.1)) d.2.2.2.2.2.1 d.2.2.2.2.2.2.1 d.2.2.2.2.2.2.2 cn tt mvA sp ss nc nt (nI B) (nI i) = some (nI (gFs g (i + 1)), cn', tt') ∧ gRp (gSz g.1) B cn' tt' (gC g (i + 1)) (gTt g (i + 1)) ∧ gFm B cn tt cn' tt' := by
  have h40 := gRS40 hw
  obtain ⟨hp, hv⟩ := gStE hw hi
  have h50 := gTh50 hw.2.1.2 hp
  obtain ⟨e1, e2⟩ := hl.2.2.1 i hi
  have hsz := gSzle hw.1.2
  have hsl : (gStep g i).2 < 9 := by
    have hc := hw.1
    unfold gVs at hv
    simp only [Bool.or_eq_true, Bool.and_eq_true, decide_eq_true_eq] at hv
    omega
  have hFS := gFsS g i
  have z : zgd (nI i) 40 = true := ggN (by omega) (by decide)
  have hB : nI B * 132 = nI (B * 132) := by rw [show (132 : Int32) = nI 132 from rfl, gmul]
  have hmv : ∀ s, s < gSz g.1 → mvA ((gStep g i).2 * 132 + s) = nI (gMv g.1 (gStep g i).2 s) ∧ gMv g.1 (gStep g i).2 s < gSz g.1 ∧ gMv g.1 (gStep g i).2 (gMv g.1 (gStep g i).2 s) = gMv g.1 (gStep g i).2 s := fun s hs => ⟨gLz_mv hl hv hs, (gMvI' hw.1.2 hv hs).2, (gMvI' hw.1.2 hv hs).1⟩
  have hfi : gFs g i ≤ 24 := by rw [hFS] at hf; omega
  have hT : ∀ s, s < gSz g.1 → gTt g i s < 2 ^ 31 ∧ (gTt g i s = 0 → ∀ k, gC g i s k = 0) := fun s hs => ⟨Nat.lt_of_le_of_lt (gTt_le hw (by omega) hfi hs) (by decide), fun h k => gC_0 h hfi k⟩
  have hfar : ∀ s, s < gSz g.1 → ∀ k, gFs g i < k → gC g i s k = 0 := fun s _ k hk => gC_far g i s k hk
  have hmo : zf_X4_movesOpen (nI (gStep g i).1) = some (gbI (decide ((gStep g i).1 % 2 = 0))) := gmoT ⟨_, h50⟩
  unfold zf_X1_pass
  simp only [z, if_true, nI_clamp (show i < 2 ^ 31 by omega), e1, e2, gfreeB hw hx hp, Option.bind_some, gbI0, hB]
  by_cases h0 : gHow g (gStep g i).1 = 0
  · have hf24 : gFs g i < 24 := by rw [hFS, if_pos h0] at hf; omega
    rw [if_neg (by rw [decide_eq_true h0]; decide), if_neg (show ¬ (24 : Int32) ≤ nI (gFs g i) from gle50 (a := 24) (by decide) (by omega) hf24)]
    obtain ⟨c1, t1, q1, q2, q3⟩ := gdouble hsz hsl hmv hnc hnc2 hnt hnt2 hf24 hR hT hfar
    obtain ⟨e, he, hee, hge⟩ : ∃ e, e < 2 ∧ gbI (decide ((gStep g i).1 % 2 = 0)) = nI e ∧ (e = 1 ↔ (gStep g i).1 % 2 = 0) := by
      by_cases ev : (gStep g i).1 % 2 = 0
      · exact ⟨1, by decide, by rw [decide_eq_true ev]; rfl, by simp [ev]⟩
      · exact ⟨0, by decide, by rw [decide_eq_false ev]; rfl, by simp [ev]⟩
    have hAm : ∀ s k, gMv g.1 (gStep g i).2 s ≠ s → gdb2 (gMv g.1 (gStep g i).2) (gC g i) (gSz g.1) s k = gC g i s k := fun s k h => by
      unfold gdb2
      rw [if_neg (fun q => h q.1)]
    have hTm : ∀ s, gMv g.1 (gStep g i).2 s ≠ s → gdbT (gMv g.1 (gStep g i).2) (gTt g i) (gSz g.1) s = gTt g i s := fun s h => by
      unfold gdbT
      rw [if_neg (fun q => h q.1)]
    obtain ⟨c2, t2, r1, r2, r3⟩ := gdivide (A := gdb2 (gMv g.1 (gStep g i).2) (gC g i) (gSz g.1)) he hsz hsl hmv hnc hnc2 hnt hnt2 hf24 q2 (fun s hs hm => by
      rw [hTm s hm]
      exact ⟨(hT s hs).1, fun h k => by rw [hAm s k hm]; exact (hT s hs).2 h k⟩) (fun s hs hm k hk => by rw [hAm s k hm]; exact hfar s hs k hk)
    rw [q1, Option.bind_some, hmo, Option.bind_some, hee]
    dsimp only
    rw [r1, Option.bind_some, nI_1, hFS, if_pos h0]
    refine ⟨c2, t2, rfl, fun s hs => ⟨?_, fun k hk => ?_⟩, gFmT q3 r3⟩
    · rw [(r2 s hs).1, gfreeT hw hv (gTt g i) hs, gTtS (Or.inl hf24), if_pos h0]
    · rw [(r2 s hs).2 k hk]
      show lN (gnD _ _ _ _ _ s) = _
      rw [gfreeD hw hv (gC g i) he hs k, gCS, if_pos h0]
      by_cases ev : (gStep g i).1 % 2 = 0
      · rw [if_pos (hge.mpr ev), if_pos ev]
      · rw [if_neg (fun q => ev (hge.mp q)), if_neg ev]
  · rw [if_pos (by rw [decide_eq_false h0]), gstat hw hx hp, Option.bind_some]
    have h2 := gHow2 hw (gStep g i).1
    have hma : zf_X4_movesAll (nI (gStep g i).1) (nI (gHow g (gStep g i).1)) = some (gbI (decide (gHow g (gStep g i).1 = (if (gStep g i).1 % 2 = 0 then 1 else 2)))) := by
      unfold zf_X4_movesAll zf_X4_movesAll_13
      rw [hmo, Option.bind_some]
      by_cases ev : (gStep g i).1 % 2 = 0
      · rw [decide_eq_true ev, if_neg (by decide), if_pos ev, show (1 : Int32) = nI 1 from rfl]
        simp only [nI_eq (show gHow g (gStep g i).1 < 2 ^ 31 by omega) (show 1 < 2 ^ 31 by decide)]
        by_cases q : gHow g (gStep g i).1 = 1
        · rw [if_pos q, decide_eq_true q]; rfl
        · rw [if_neg q, decide_eq_false q]; rfl
      · rw [decide_eq_false ev, if_pos (by decide), if_neg ev, show (2 : Int32) = nI 2 from rfl]
        simp only [nI_eq (show gHow g (gStep g i).1 < 2 ^ 31 by omega) (show 2 < 2 ^ 31 by decide)]
        by_cases q : gHow g (gStep g i).1 = 2
        · rw [if_pos q, decide_eq_true q]; rfl
        · rw [if_neg q, decide_eq_false q]; rfl
    rw [hma, Option.bind_some, hFS, if_neg h0, Nat.add_zero]
    simp only [gbI0]
    by_cases h1 : gHow g (gStep g i).1 = (if (gStep g i).1 % 2 = 0 then 1 else 2)
    · rw [if_neg (by rw [decide_eq_true h1]; decide)]
      obtain ⟨c1, t1, q1, q2, q3⟩ := gmoveAll hsz hsl hmv hnc hnc2 hnt hnt2 (show gFs g i < 25 by omega) hR hT hfar
      rw [q1, Option.bind_some]
      refine ⟨c1, t1, rfl, fun s hs => ⟨?_, fun k hk => ?_⟩, q3⟩
      · rw [(q2 s hs).1, gmDall hw hv _ hs, gTtS (Or.inr h0), if_neg h0, if_pos h1]
      · rw [(q2 s hs).2 k hk]
        show lN (gmD _ _ _ s) = _
        rw [gmDall hw hv _ hs, gCS, if_neg h0, if_pos h1]
    · rw [if_pos (by rw [decide_eq_false h1])]
      refine ⟨cn, tt, rfl, fun s hs => ⟨?_, fun k hk => ?_⟩, gFm0⟩
      · rw [(hR s hs).1, gTtS (Or.inr h0), if_neg h0, if_neg h1]
      · rw [(hR s hs).2 k hk, gCS, if_neg h0, if_neg h1]
