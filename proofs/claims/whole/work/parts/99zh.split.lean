/-! a free pipe told open or shut: choices divided by it -/
theorem gct_rm {f : Nat → Bool} {p n : Nat} (hp : f p = true) (hn : p < n) : gct (fun q => f q && !decide (q = p)) n + 1 = gct f n := by
  induction n with
  | zero => omega
  | succ n ih =>
    rw [gctS, gctS]
    by_cases e : n = p
    · subst e
      rw [hp, decide_eq_true rfl, gct_cong (f' := f) (fun i hi => by rw [decide_eq_false (show ¬ i = n by omega)]; simp)]
      rfl
    · rw [decide_eq_false e]
      have := ih (by omega)
      simp only [Bool.not_false, Bool.and_true]
      omega
theorem gTl_how {g : gG} {p : Nat} (h0 : gHow g p = 0) (h q : Nat) : gHow (gTell g p h) q = if q = p then h else gHow g q := by
  have st := gHow_st (show gHow g p ≠ 2 by omega)
  unfold gHow gTell
  by_cases e : q = p
  · subst e
    rw [if_pos rfl]
    dsimp only
    rw [st.1, st.2, if_neg (by decide), if_pos rfl]
  · rw [if_neg e]
    dsimp only
    rw [if_neg e]
theorem gTl_ok {g : gG} (hok : gOk g) {p : Nat} (hp : gTh p g.1 g.2.1 = true) (h0 : gHow g p = 0) {h : Nat} (hh : h = 1 ∨ h = 2) : gOk (gTell g p h) ∧ gFree (gTell g p h) + 1 = gFree g := by
  have hw := gWfT hok.1 hp (show h ≤ 2 by omega)
  have e : gFree (gTell g p h) + 1 = gFree g := by
    show gct (gIs (gTell g p h) 0) 50 + 1 = gct (gIs g 0) 50
    have h1 : gIs g 0 p = true := by unfold gIs; rw [hp, h0]; rfl
    rw [← gct_rm h1 (gTh50 hok.1.2.1.2 hp)]
    congr 1
    refine gct_cong fun q _ => ?_
    unfold gIs
    rw [gTl_how h0]
    show (gTh q g.1 g.2.1 && _) = _
    by_cases e : q = p
    · rw [if_pos e, decide_eq_true e, decide_eq_false (show ¬ h = 0 by omega)]
      simp
    · rw [if_neg e, decide_eq_false e]
      simp
  exact ⟨⟨hw, by have := hok.2; omega⟩, e⟩
def gShE (E : Nat → Nat → Nat) (s k : Nat) : Nat := if k = 0 then 0 else E s (k - 1)
theorem gInto_add (g : gG) (slot s : Nat) (f f' : Nat → Nat) : gInto g slot s (fun t => f t + f' t) = gInto g slot s f + gInto g slot s f' := by
  unfold gInto
  rw [← gSum_add]
  refine gSum_cong fun t _ => ?_
  by_cases e : gMv g.1 slot t = s
  · rw [if_pos e, if_pos e, if_pos e]
  · rw [if_neg e, if_neg e, if_neg e]
theorem gInto_sh (g : gG) (slot s k : Nat) (E : Nat → Nat → Nat) : gInto g slot s (fun t => gShE E t k) = if k = 0 then 0 else gInto g slot s (fun t => E t (k - 1)) := by
  by_cases e : k = 0
  · rw [if_pos e]
    exact gInto0 fun t => by unfold gShE; rw [if_pos e]
  · rw [if_neg e]
    congr 1
    funext t
    unfold gShE
    rw [if_neg e]
theorem gCst_lin (g : gG) (q : Nat × Nat) (E F : Nat → Nat → Nat) (s k : Nat) : gCst g q (fun s k => gShE E s k + F s k) s k = gShE (gCst g q E) s k + gCst g q F s k := by
  have sS : ∀ (X : Nat → Nat → Nat) (s k : Nat), gShE X s (k + 1) = X s k := fun X s k => rfl
  have s0 : ∀ (X : Nat → Nat → Nat) (s : Nat), gShE X s 0 = 0 := fun X s => rfl
  by_cases h0 : gHow g q.1 = 0
  · by_cases ev : q.1 % 2 = 0
    · have c : ∀ D s k, gCst g q D s k = (if k = 0 then 0 else gInto g q.2 s (fun t => D t (k - 1))) + D s k := fun D s k => by unfold gCst; rw [if_pos h0, if_pos ev]
      cases k with
      | zero =>
        rw [c, c, if_pos rfl, if_pos rfl]
        show 0 + (gShE E s 0 + F s 0) = gShE (gCst g q E) s 0 + (0 + F s 0)
        rw [s0, s0]
      | succ k =>
        rw [sS, c, c, c, if_neg (Nat.succ_ne_zero k), if_neg (Nat.succ_ne_zero k), Nat.add_sub_cancel]
        show gInto g q.2 s (fun t => gShE E t k + F t k) + (gShE E s (k + 1) + F s (k + 1)) = _
        rw [gInto_add, gInto_sh, sS]
        omega
    · have c : ∀ D s k, gCst g q D s k = gInto g q.2 s (fun t => D t k) + (if k = 0 then 0 else D s (k - 1)) := fun D s k => by unfold gCst; rw [if_pos h0, if_neg ev]
      cases k with
      | zero =>
        rw [c, c, if_pos rfl, if_pos rfl]
        show gInto g q.2 s (fun t => gShE E t 0 + F t 0) + 0 = gShE (gCst g q E) s 0 + (gInto g q.2 s (fun t => F t 0) + 0)
        rw [gInto_add, gInto_sh, if_pos rfl, s0]
        omega
      | succ k =>
        rw [sS, c, c, c, if_neg (Nat.succ_ne_zero k), if_neg (Nat.succ_ne_zero k), Nat.add_sub_cancel]
        show gInto g q.2 s (fun t => gShE E t (k + 1) + F t (k + 1)) + (gShE E s k + F s k) = _
        rw [gInto_add, gInto_sh, if_neg (Nat.succ_ne_zero k), Nat.add_sub_cancel, show gShE E s k = if k = 0 then 0 else E s (k - 1) from rfl]
        omega
  · by_cases mv : gHow g q.1 = (if q.1 % 2 = 0 then 1 else 2)
    · have c : ∀ D s k, gCst g q D s k = gInto g q.2 s (fun t => D t k) := fun D s k => by unfold gCst; rw [if_neg h0, if_pos mv]
      rw [c, c, gInto_add, gInto_sh]
      congr 1
      cases k with
      | zero => rw [if_pos rfl, s0]
      | succ k => rw [if_neg (Nat.succ_ne_zero k), sS, c, Nat.add_sub_cancel]
    · have c : ∀ D s k, gCst g q D s k = D s k := fun D s k => by unfold gCst; rw [if_neg h0, if_neg mv]
      rw [c, c]
      congr 1
      cases k with
      | zero => rfl
      | succ k => rw [sS, sS, c]
theorem gTl_S0 {g : gG} (hw : gWf g) (p h : Nat) : gS0 (gTell g p h) = gS0 g := by
  unfold gS0
  rw [show gSc (gTell g p h) (gTell g p h).1 1 0 = gSc g g.1 1 0 from gSc_cong (g := gTell g p h) (g' := g) rfl (fun _ _ => rfl) hw.1.2 g.1 1 0 (Nat.le_refl _)]
  rfl
/-- where a pipe stands among the steps -/
theorem gstepOf {g : gG} (hw : gWf g) {p : Nat} (hp : gTh p g.1 g.2.1 = true) : ∃ i, i < gRS g.1 g.2.1 ∧ (gStep g i).1 = p ∧ ∀ j, j < gRS g.1 g.2.1 → (gStep g j).1 = p → j = i := by
  have hc := hw.1
  have hr := hw.2.1
  have hpm := List.isPerm_iff.mp (gStP ⟨g.1, by omega⟩ ⟨g.2.1, by omega⟩ hc.1 hr.1)
  simp only at hpm
  have hlen : (gSteps g.1 g.2.1).length = gRS g.1 g.2.1 := (gsyT ⟨g.1, by omega⟩ ⟨g.2.1, by omega⟩ hc.1).1
  have nd : ((gSteps g.1 g.2.1).map (fun q => q.1)).Nodup := hpm.nodup_iff.mpr (List.Pairwise.filter _ List.nodup_range)
  have mem : p ∈ (gSteps g.1 g.2.1).map (fun q => q.1) := hpm.mem_iff.mpr (List.mem_filter.mpr ⟨List.mem_range.mpr (gTh50 hr.2 hp), hp⟩)
  have at' : ∀ j, j < gRS g.1 g.2.1 → ((gSteps g.1 g.2.1).map (fun q => q.1))[j]? = some (gStep g j).1 := by
    intro j hj
    rw [List.getElem?_map, List.getElem?_eq_getElem (by omega)]
    unfold gStep
    rw [List.getD_eq_getElem?_getD, List.getElem?_eq_getElem (by omega)]
    rfl
  obtain ⟨i, hi⟩ := List.getElem?_of_mem mem
  have li : i < gRS g.1 g.2.1 := by
    have := (List.getElem?_eq_some_iff.mp hi).1
    rw [List.length_map] at this
    omega
  have ei : (gStep g i).1 = p := by
    have := at' i li
    rw [hi] at this
    exact (Option.some.inj this).symm
  refine ⟨i, li, ei, fun j hj ej => ?_⟩
  have hj' := at' j hj
  rw [ej] at hj'
  exact (List.getElem?_inj (i := j) (j := i) (by rw [List.length_map]; omega) nd).mp (hj'.trans hi.symm)
theorem gC_split {g : gG} (hok : gOk g) {p : Nat} (hp : gTh p g.1 g.2.1 = true) (h0 : gHow g p = 0) : ∀ s k, gC g (gRS g.1 g.2.1) s k = gShE (gC (gTell g p 1) (gRS g.1 g.2.1)) s k + gC (gTell g p 2) (gRS g.1 g.2.1) s k := by
  obtain ⟨i0, l0, e0, u0⟩ := gstepOf hok.1 hp
  have ahead : ∀ h i, i ≤ i0 → gC (gTell g p h) i = gC g i := by
    intro h i
    induction i with
    | zero =>
      intro _
      funext s k
      show (if s = gS0 (gTell g p h) ∧ k = 0 then 1 else 0) = (if s = gS0 g ∧ k = 0 then 1 else 0)
      rw [gTl_S0 hok.1]
    | succ i ih =>
      intro hi
      rw [gC_cst, gC_cst, ih (by omega)]
      funext s k
      have ne : (gStep g i).1 ≠ p := fun e => by have := u0 i (by omega) e; omega
      have hh := gTl_how h0 h (gStep g i).1
      rw [if_neg ne] at hh
      show gCst (gTell g p h) (gStep g i) (gC g i) s k = _
      unfold gCst
      rw [hh]
      rfl
  have first : ∀ s k, gC g (i0 + 1) s k = gShE (gC (gTell g p 1) (i0 + 1)) s k + gC (gTell g p 2) (i0 + 1) s k := by
    intro s k
    have hh1 := gTl_how h0 1 (gStep g i0).1
    have hh2 := gTl_how h0 2 (gStep g i0).1
    rw [if_pos e0] at hh1 hh2
    have hg0 : gHow g (gStep g i0).1 = 0 := by rw [e0]; exact h0
    have c1 : gC (gTell g p 1) (i0 + 1) = gCst (gTell g p 1) (gStep g i0) (gC g i0) := by rw [gC_cst, ahead 1 i0 (Nat.le_refl _)]; rfl
    have c2 : gC (gTell g p 2) (i0 + 1) = gCst (gTell g p 2) (gStep g i0) (gC g i0) := by rw [gC_cst, ahead 2 i0 (Nat.le_refl _)]; rfl
    rw [gC_cst, c1, c2]
    unfold gShE gCst
    rw [hh1, hh2, hg0]
    by_cases ev : (gStep g i0).1 % 2 = 0
    · rw [if_pos ev]
      simp only [if_true, show ¬ (1 : Nat) = 0 by decide, show ¬ (2 : Nat) = 0 by decide, if_false, ev, show ¬ (2 : Nat) = 1 by decide]
      rfl
    · rw [if_neg ev]
      simp only [if_true, show ¬ (1 : Nat) = 0 by decide, show ¬ (2 : Nat) = 0 by decide, if_false, ev, show ¬ (1 : Nat) = 2 by decide]
      rw [Nat.add_comm]
      rfl
  have behind : ∀ d, i0 + 1 + d ≤ gRS g.1 g.2.1 → ∀ s k, gC g (i0 + 1 + d) s k = gShE (gC (gTell g p 1) (i0 + 1 + d)) s k + gC (gTell g p 2) (i0 + 1 + d) s k := by
    intro d
    induction d with
    | zero => intro _; exact first
    | succ d ih =>
      intro hd s k
      have ih' := ih (by omega)
      have ne : (gStep g (i0 + 1 + d)).1 ≠ p := fun e => by have := u0 (i0 + 1 + d) (by omega) e; omega
      have cs : ∀ h X, gCst (gTell g p h) (gStep g (i0 + 1 + d)) X = gCst g (gStep g (i0 + 1 + d)) X := by
        intro h X
        funext s k
        have hh := gTl_how h0 h (gStep g (i0 + 1 + d)).1
        rw [if_neg ne] at hh
        unfold gCst
        rw [hh]
        rfl
      have c1 : gC (gTell g p 1) (i0 + 1 + (d + 1)) = gCst g (gStep g (i0 + 1 + d)) (gC (gTell g p 1) (i0 + 1 + d)) := by rw [← Nat.add_assoc, gC_cst]; exact cs 1 _
      have c2 : gC (gTell g p 2) (i0 + 1 + (d + 1)) = gCst g (gStep g (i0 + 1 + d)) (gC (gTell g p 2) (i0 + 1 + d)) := by rw [← Nat.add_assoc, gC_cst]; exact cs 2 _
      rw [c1, c2, ← Nat.add_assoc, gC_cst, ← gCst_lin]
      congr 1
      funext s k
      exact ih' s k
  intro s k
  have := behind (gRS g.1 g.2.1 - (i0 + 1)) (by omega) s k
  rw [show i0 + 1 + (gRS g.1 g.2.1 - (i0 + 1)) = gRS g.1 g.2.1 by omega] at this
  exact this
theorem gJ_split {g : gG} (hok : gOk g) {p : Nat} (hp : gTh p g.1 g.2.1 = true) (h0 : gHow g p = 0) (k : Nat) : gJ g k = (if k = 0 then 0 else gJ (gTell g p 1) (k - 1)) + gJ (gTell g p 2) k := by
  have hr := hok.1.2.1
  have e : gJ g k = gSum (fun s => (if gWs g.1 s = 0 then 0 else gShE (gC (gTell g p 1) (gRS g.1 g.2.1)) s k) + (if gWs g.1 s = 0 then 0 else gC (gTell g p 2) (gRS g.1 g.2.1) s k)) (gSz g.1) := by
    refine gSum_cong fun s _ => ?_
    show (if gWs g.1 s = 0 then 0 else gC g (gRS g.1 (g.2.1 - 1 + 1)) s k) = _
    rw [Nat.sub_add_cancel hr.1, gC_split hok hp h0]
    by_cases q : gWs g.1 s = 0
    · rw [if_pos q, if_pos q, if_pos q]
    · rw [if_neg q, if_neg q, if_neg q]
  rw [e, gSum_add]
  congr 1
  · by_cases k0 : k = 0
    · rw [if_pos k0]
      exact gSum_z fun s _ => by
        by_cases q : gWs g.1 s = 0
        · rw [if_pos q]
        · rw [if_neg q]; unfold gShE; rw [if_pos k0]
    · rw [if_neg k0]
      refine gSum_cong fun s _ => ?_
      show _ = (if gWs g.1 s = 0 then 0 else gC (gTell g p 1) (gRS g.1 (g.2.1 - 1 + 1)) s (k - 1))
      rw [Nat.sub_add_cancel hr.1]
      unfold gShE
      rw [if_neg k0]
  · refine gSum_cong fun s _ => ?_
    show _ = (if gWs g.1 s = 0 then 0 else gC (gTell g p 2) (gRS g.1 (g.2.1 - 1 + 1)) s k)
    rw [Nat.sub_add_cancel hr.1]
