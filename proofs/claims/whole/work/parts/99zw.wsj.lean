/-! the states against what is reached -/
def gChk (c r : Nat) : List (Nat × Nat) → (Nat → Nat) → Nat → Bool
  | [], F, _ => (List.range c).all (fun z => Nat.beq (F z) (5 * (r - 1) + z))
  | q :: l, F, t => gTh q.1 c r && (if q.1 % 2 = 1 then (decide (q.2 < c) && Nat.beq (gFr q.1) (F q.2) && Nat.beq (gTo q.1) (F q.2 + 5) && decide (t < gTo q.1)) && gChk c r l (fun z => if z = q.2 then F z + 5 else F z) (gTo q.1) else (decide (5 ≤ q.2) && decide (q.2 - 4 < c) && Nat.beq (gFr q.1) (F (q.2 - 5)) && Nat.beq (gTo q.1) (F (q.2 - 4)) && decide (t ≤ gTo q.1)) && gChk c r l F (gTo q.1))
theorem gChkT : ∀ c r : Fin 5, gChk (c.val + 1) (r.val + 1) (gSteps (c.val + 1) (r.val + 1)) (fun z => z) 0 = true := by decide +kernel
theorem gAllT : ∀ c r : Fin 5, (List.range 50).all (fun p => !gTh p (c.val + 1) (r.val + 1) || (gSteps (c.val + 1) (r.val + 1)).any (fun q => Nat.beq q.1 p)) = true := by decide +kernel
theorem gWs0T : ∀ c : Fin 6, (List.range (gSz c.val)).all (fun s => Nat.beq (gWs c.val s) 0 == (List.range c.val).all (fun x => !Nat.beq (gLb c.val s x) 0)) = true := by decide +kernel
theorem gWs0 {c s : Nat} (hc : c ≤ 5) (hs : s < gSz c) : gWs c s ≠ 0 ↔ ∃ x, x < c ∧ gLb c s x = 0 := by
  have t := eq_of_beq (List.all_eq_true.mp (gWs0T ⟨c, by omega⟩) s (List.mem_range.mpr hs))
  dsimp only at t
  constructor
  · intro h
    cases hh : (List.range c).all (fun x => !Nat.beq (gLb c s x) 0) with
    | true =>
      rw [hh, gbeqI] at t
      exact absurd t h
    | false =>
      obtain ⟨x, x1, x2⟩ := List.all_eq_false.mp hh
      refine ⟨x, List.mem_range.mp x1, ?_⟩
      rw [← gbeqI]
      cases e : Nat.beq (gLb c s x) 0 with
      | true => rfl
      | false => rw [e] at x2; exact absurd rfl x2
  · rintro ⟨x, x1, x2⟩ h
    rw [gbeqI.mpr h] at t
    have := List.all_eq_true.mp t.symm x (List.mem_range.mpr x1)
    rw [gbeqI.mpr x2] at this
    cases this
def gRun (c : Nat) (o : Nat → Bool) : List (Nat × Nat) → Nat → Nat
  | [], s => s
  | q :: l, s => gRun c o l (if o q.1 = decide (q.1 % 2 = 0) then gMv c q.2 s else s)
theorem gRun_sf {g : gG} (a : Nat → Bool) : ∀ i, i ≤ (gSteps g.1 g.2.1).length → gRun g.1 (gEff g a) ((gSteps g.1 g.2.1).drop i) (gSf g a i) = gRun g.1 (gEff g a) (gSteps g.1 g.2.1) (gS0 g) := by
  intro i
  induction i with
  | zero => intro _; rfl
  | succ i ih =>
    intro hi
    have ih := ih (by omega)
    have hi' : i < (gSteps g.1 g.2.1).length := by omega
    have e : gStep g i = (gSteps g.1 g.2.1)[i] := by
      unfold gStep
      rw [List.getD_eq_getElem?_getD, List.getElem?_eq_getElem hi']
      rfl
    rw [List.drop_eq_getElem_cons hi', ← e] at ih
    exact ih
theorem gSf_run {g : gG} (hw : gWf g) (a : Nat → Bool) : gSf g a (gRS g.1 g.2.1) = gRun g.1 (gEff g a) (gSteps g.1 g.2.1) (gS0 g) := by
  have hc := hw.1
  have hr := hw.2.1
  have hlen : (gSteps g.1 g.2.1).length = gRS g.1 g.2.1 := (gsyT ⟨g.1, by omega⟩ ⟨g.2.1, by omega⟩ hc.1).1
  have := gRun_sf (g := g) a (gRS g.1 g.2.1) (by omega)
  rw [← hlen, List.drop_length] at this
  rw [← hlen]
  exact this
theorem gRun_S {c r : Nat} (hc : 1 ≤ c ∧ c ≤ 5) {o : Nat → Bool} {S : Nat → Prop} (hS : ∀ p, gTh p c r = true → o p = true → (S (gFr p) ↔ S (gTo p))) : ∀ l F t s, gChk c r l F t = true → s < gSz c → (∀ y, y < c → gLb c s y = 0 → S (F y)) → (∀ y z, y < c → z < c → gLb c s y = gLb c s z → (S (F y) ↔ S (F z))) → gRun c o l s < gSz c ∧ ∀ y, y < c → gLb c (gRun c o l s) y = 0 → S (5 * (r - 1) + y) := by
  intro l
  induction l with
  | nil =>
    intro F t s h hs h0 _
    refine ⟨hs, fun y hy hl => ?_⟩
    have e := gbeqI.mp (List.all_eq_true.mp h y (List.mem_range.mpr hy))
    rw [← e]
    exact h0 y hy hl
  | cons q l ih =>
    intro F t s h hs h0 hE
    have h' : (gTh q.1 c r && (if q.1 % 2 = 1 then (decide (q.2 < c) && Nat.beq (gFr q.1) (F q.2) && Nat.beq (gTo q.1) (F q.2 + 5) && decide (t < gTo q.1)) && gChk c r l (fun z => if z = q.2 then F z + 5 else F z) (gTo q.1) else (decide (5 ≤ q.2) && decide (q.2 - 4 < c) && Nat.beq (gFr q.1) (F (q.2 - 5)) && Nat.beq (gTo q.1) (F (q.2 - 4)) && decide (t ≤ gTo q.1)) && gChk c r l F (gTo q.1))) = true := h
    rw [Bool.and_eq_true] at h'
    obtain ⟨hth, h'⟩ := h'
    show gRun c o l (if o q.1 = decide (q.1 % 2 = 0) then gMv c q.2 s else s) < gSz c ∧ ∀ y, y < c → gLb c (gRun c o l (if o q.1 = decide (q.1 % 2 = 0) then gMv c q.2 s else s)) y = 0 → S (5 * (r - 1) + y)
    by_cases od : q.1 % 2 = 1
    · rw [if_pos od] at h'
      simp only [Bool.and_eq_true, decide_eq_true_eq, gbeqI] at h'
      obtain ⟨⟨⟨⟨a1, a2⟩, a3⟩, a4⟩, a5⟩ := h'
      rw [decide_eq_false (show ¬ q.1 % 2 = 0 by omega)]
      cases ho : o q.1 with
      | true =>
        rw [if_neg (by decide)]
        have cl := hS q.1 hth ho
        rw [a2, a3] at cl
        have tr : ∀ z, S (if z = q.2 then F z + 5 else F z) ↔ S (F z) := by
          intro z
          by_cases e : z = q.2
          · rw [if_pos e, e]; exact cl.symm
          · rw [if_neg e]
        exact ih _ _ s a5 hs (fun y hy hl => (tr y).mpr (h0 y hy hl)) (fun y z hy hz hl => by rw [tr y, tr z]; exact hE y z hy hz hl)
      | false =>
        rw [if_pos rfl]
        have hv : gVs c q.2 = true := by unfold gVs; rw [decide_eq_true a1]; rfl
        refine ih _ _ _ a5 (gMvI' hc.2 hv hs).2 (fun y hy hl => ?_) (fun y z hy hz hl => ?_)
        · have := ((gcutE hc.2 hs a1 hy hy).1).mp hl
          rw [if_neg this.1]
          exact h0 y hy this.2
        · rcases ((gcutE hc.2 hs a1 hy hz).2).mp hl with e | ⟨e1, e2, e3⟩
          · rw [e]
          · rw [if_neg e1, if_neg e2]
            exact hE y z hy hz e3
    · rw [if_neg od] at h'
      simp only [Bool.and_eq_true, decide_eq_true_eq, gbeqI] at h'
      obtain ⟨⟨⟨⟨⟨a1, a2⟩, a3⟩, a4⟩, a5⟩, a6⟩ := h'
      rw [decide_eq_true (show q.1 % 2 = 0 by omega)]
      cases ho : o q.1 with
      | false =>
        rw [if_neg (by decide)]
        exact ih _ _ s a6 hs h0 hE
      | true =>
        rw [if_pos rfl]
        have cl := hS q.1 hth ho
        rw [a3, a4] at cl
        obtain ⟨x, hx⟩ : ∃ x, q.2 = 4 + x := ⟨q.2 - 4, by omega⟩
        have hv : gVs c q.2 = true := by unfold gVs; rw [decide_eq_true a1, decide_eq_true a2]; simp
        have hlt := (gMvI' hc.2 hv hs).2
        rw [hx, show 4 + x - 5 = x - 1 by omega, show 4 + x - 4 = x by omega] at cl
        rw [hx] at hlt ⊢
        have x0 : 0 < x := by omega
        have xc : x < c := by omega
        have toX : ∀ y, y < c → (gLb c s y = gLb c s (x - 1) ∨ gLb c s y = gLb c s x) → (S (F y) ↔ S (F x)) := by
          intro y hy h
          rcases h with h | h
          · exact (hE y (x - 1) hy (by omega) h).trans cl
          · exact hE y x hy xc h
        refine ih _ _ _ a6 hlt (fun y hy hl => ?_) (fun y z hy hz hl => ?_)
        · rcases ((gjoinE hc.2 hs x0 xc hy hy).1).mp hl with e | ⟨e1, e2⟩
          · exact h0 y hy e
          · refine (toX y hy e1).mpr ?_
            rcases e2 with e | e
            · exact cl.mp (h0 _ (by omega) e)
            · exact h0 _ xc e
        · rcases ((gjoinE hc.2 hs x0 xc hy hz).2).mp hl with e | ⟨e1, e2⟩
          · exact hE y z hy hz e
          · exact (toX y hy e1).trans (toX z hz e2).symm
def gPsi (A B v : Nat) : Nat := if v = A ∨ v = B then (if A = 0 ∨ B = 0 then 0 else B) else v
theorem gPsi0 (A B v : Nat) : gPsi A B v = 0 ↔ v = 0 ∨ ((v = A ∨ v = B) ∧ (A = 0 ∨ B = 0)) := by
  unfold gPsi
  by_cases h : v = A ∨ v = B
  · rw [if_pos h]
    by_cases k : A = 0 ∨ B = 0
    · rw [if_pos k]
      exact ⟨fun _ => Or.inr ⟨h, k⟩, fun _ => rfl⟩
    · rw [if_neg k]
      constructor
      · intro e; omega
      · intro e; omega
  · rw [if_neg h]
    constructor
    · intro e; exact Or.inl e
    · intro e
      rcases e with e | ⟨e, -⟩
      · exact e
      · exact absurd e h
theorem gPsiE (A B v w : Nat) : gPsi A B v = gPsi A B w ↔ v = w ∨ ((v = A ∨ v = B) ∧ (w = A ∨ w = B)) := by
  unfold gPsi
  by_cases h : v = A ∨ v = B
  · rw [if_pos h]
    by_cases k : w = A ∨ w = B
    · rw [if_pos k]
      exact ⟨fun _ => Or.inr ⟨h, k⟩, fun _ => rfl⟩
    · rw [if_neg k]
      by_cases m : A = 0 ∨ B = 0
      · rw [if_pos m]
        constructor
        · intro e; omega
        · intro e; omega
      · rw [if_neg m]
        constructor
        · intro e; omega
        · intro e; omega
  · rw [if_neg h]
    by_cases k : w = A ∨ w = B
    · rw [if_pos k]
      by_cases m : A = 0 ∨ B = 0
      · rw [if_pos m]
        constructor
        · intro e; omega
        · intro e; omega
      · rw [if_neg m]
        constructor
        · intro e; omega
        · intro e; omega
    · rw [if_neg k]
      constructor
      · intro e; exact Or.inl e
      · intro e; omega
theorem gRun_P {c r : Nat} (hc : 1 ≤ c ∧ c ≤ 5) {o : Nat → Bool} {T : Nat → Prop} (hT : ∀ x, T x → x < 5) : ∀ l F t s (φ : Nat → Nat) (Dn : Nat → Prop), gChk c r l F t = true → s < gSz c → (∀ z, z < c → F z % 5 = z) → (∀ y, y < c → (gLb c s y = 0 ↔ φ (F y) = 0)) → (∀ y z, y < c → z < c → (gLb c s y = gLb c s z ↔ φ (F y) = φ (F z))) → (∀ p, Dn p → o p = true → φ (gFr p) = φ (gTo p)) → (∀ p, Dn p → gFr p ≤ t ∧ gTo p ≤ t) → (∀ x, T x → φ x = 0) → ∃ φ' : Nat → Nat, (∀ y, y < c → (gLb c (gRun c o l s) y = 0 ↔ φ' (5 * (r - 1) + y) = 0)) ∧ (∀ p, (Dn p ∨ ∃ q ∈ l, q.1 = p) → o p = true → φ' (gFr p) = φ' (gTo p)) ∧ ∀ x, T x → φ' x = 0 := by
  intro l
  induction l with
  | nil =>
    intro F t s φ Dn h hs hF h0 hE hcl hbd htp
    refine ⟨φ, fun y hy => ?_, fun p hp => ?_, htp⟩
    · have e := gbeqI.mp (List.all_eq_true.mp h y (List.mem_range.mpr hy))
      rw [← e]
      exact h0 y hy
    · rcases hp with hp | ⟨q, hq, -⟩
      · exact hcl p hp
      · cases hq
  | cons q l ih =>
    intro F t s φ Dn h hs hF h0 hE hcl hbd htp
    have h' : (gTh q.1 c r && (if q.1 % 2 = 1 then (decide (q.2 < c) && Nat.beq (gFr q.1) (F q.2) && Nat.beq (gTo q.1) (F q.2 + 5) && decide (t < gTo q.1)) && gChk c r l (fun z => if z = q.2 then F z + 5 else F z) (gTo q.1) else (decide (5 ≤ q.2) && decide (q.2 - 4 < c) && Nat.beq (gFr q.1) (F (q.2 - 5)) && Nat.beq (gTo q.1) (F (q.2 - 4)) && decide (t ≤ gTo q.1)) && gChk c r l F (gTo q.1))) = true := h
    rw [Bool.and_eq_true] at h'
    obtain ⟨hth, h'⟩ := h'
    have ft : gFr q.1 ≤ gTo q.1 := by unfold gTo; omega
    have mem : ∀ p, (Dn p ∨ ∃ u ∈ q :: l, u.1 = p) → ((Dn p ∨ p = q.1) ∨ ∃ u ∈ l, u.1 = p) := by
      rintro p (hp | ⟨u, hu, rfl⟩)
      · exact Or.inl (Or.inl hp)
      · rcases List.mem_cons.mp hu with e | e
        · exact Or.inl (Or.inr (by rw [e]))
        · exact Or.inr ⟨u, e, rfl⟩
    suffices key : ∃ φ' : Nat → Nat, (∀ y, y < c → (gLb c (gRun c o l (if o q.1 = decide (q.1 % 2 = 0) then gMv c q.2 s else s)) y = 0 ↔ φ' (5 * (r - 1) + y) = 0)) ∧ (∀ p, ((Dn p ∨ p = q.1) ∨ ∃ u ∈ l, u.1 = p) → o p = true → φ' (gFr p) = φ' (gTo p)) ∧ ∀ x, T x → φ' x = 0 by
      obtain ⟨φ', k1, k2, k3⟩ := key
      exact ⟨φ', k1, fun p hp => k2 p (mem p hp), k3⟩
    by_cases od : q.1 % 2 = 1
    · rw [if_pos od] at h'
      simp only [Bool.and_eq_true, decide_eq_true_eq, gbeqI] at h'
      obtain ⟨⟨⟨⟨a1, a2⟩, a3⟩, a4⟩, a5⟩ := h'
      rw [decide_eq_false (show ¬ q.1 % 2 = 0 by omega)]
      have nz : ∀ z, z < c → z ≠ q.2 → F z ≠ F q.2 + 5 := by
        intro z hz ne e
        have u1 := hF z hz
        have u2 := hF q.2 a1
        omega
      have hF' : ∀ z, z < c → (if z = q.2 then F z + 5 else F z) % 5 = z := by
        intro z hz
        have := hF z hz
        by_cases e : z = q.2
        · rw [if_pos e]; omega
        · rw [if_neg e]; exact this
      have bd' : ∀ p, (Dn p ∨ p = q.1) → gFr p ≤ gTo q.1 ∧ gTo p ≤ gTo q.1 := by
        rintro p (hp | rfl)
        · have := hbd p hp; omega
        · exact ⟨ft, Nat.le_refl _⟩
      have up : ∀ v, ∀ z, z < c → (if (if z = q.2 then F z + 5 else F z) = F q.2 + 5 then v else φ (if z = q.2 then F z + 5 else F z)) = if z = q.2 then v else φ (F z) := by
        intro v z hz
        by_cases e : z = q.2
        · rw [if_pos e, if_pos e, e]; exact if_pos rfl
        · rw [if_neg e, if_neg e]; exact if_neg (nz z hz e)
      have tp' : ∀ v, ∀ x, T x → (fun k => if k = F q.2 + 5 then v else φ k) x = 0 := by
        intro v x hx
        have := hT x hx
        show (if x = F q.2 + 5 then v else φ x) = 0
        rw [if_neg (by omega)]
        exact htp x hx
      have old : ∀ v p, Dn p → o p = true → (fun k => if k = F q.2 + 5 then v else φ k) (gFr p) = (fun k => if k = F q.2 + 5 then v else φ k) (gTo p) := by
        intro v p hp hop
        have b := hbd p hp
        show (if gFr p = F q.2 + 5 then v else φ (gFr p)) = (if gTo p = F q.2 + 5 then v else φ (gTo p))
        rw [if_neg (by omega), if_neg (by omega)]
        exact hcl p hp hop
      cases ho : o q.1 with
      | true =>
        rw [if_neg (by decide)]
        have same : ∀ z, z < c → (if z = q.2 then φ (F q.2) else φ (F z)) = φ (F z) := by
          intro z _
          by_cases e : z = q.2
          · rw [if_pos e, e]
          · rw [if_neg e]
        refine ih _ _ s (fun k => if k = F q.2 + 5 then φ (F q.2) else φ k) (fun p => Dn p ∨ p = q.1) a5 hs hF' (fun y hy => ?_) (fun y z hy hz => ?_) ?_ bd' (tp' _)
        · rw [up _ y hy, same y hy]; exact h0 y hy
        · rw [up _ y hy, up _ z hz, same y hy, same z hz]; exact hE y z hy hz
        · rintro p (hp | rfl) hop
          · exact old _ p hp hop
          · show (if gFr q.1 = F q.2 + 5 then φ (F q.2) else φ (gFr q.1)) = (if gTo q.1 = F q.2 + 5 then φ (F q.2) else φ (gTo q.1))
            rw [if_neg (by omega), if_pos a3, a2]
      | false =>
        rw [if_pos rfl]
        have hv : gVs c q.2 = true := by unfold gVs; rw [decide_eq_true a1]; rfl
        obtain ⟨v, hv0, hvz⟩ : ∃ v, v ≠ 0 ∧ ∀ z, z < 5 → v ≠ φ (F z) := by
          refine ⟨φ (F 0) + φ (F 1) + φ (F 2) + φ (F 3) + φ (F 4) + 1, by omega, fun z hz => ?_⟩
          rcases (show z = 0 ∨ z = 1 ∨ z = 2 ∨ z = 3 ∨ z = 4 by omega) with rfl | rfl | rfl | rfl | rfl <;> omega
        refine ih _ _ _ (fun k => if k = F q.2 + 5 then v else φ k) (fun p => Dn p ∨ p = q.1) a5 (gMvI' hc.2 hv hs).2 hF' (fun y hy => ?_) (fun y z hy hz => ?_) ?_ bd' (tp' _)
        · rw [up _ y hy, (gcutE hc.2 hs a1 hy hy).1]
          by_cases e : y = q.2
          · rw [if_pos e]; exact ⟨fun u => absurd e u.1, fun u => absurd u hv0⟩
          · rw [if_neg e, ← h0 y hy]; exact ⟨fun u => u.2, fun u => ⟨e, u⟩⟩
        · rw [up _ y hy, up _ z hz, (gcutE hc.2 hs a1 hy hz).2]
          by_cases e : y = q.2
          · rw [if_pos e]
            by_cases e' : z = q.2
            · rw [if_pos e']; exact ⟨fun _ => rfl, fun _ => Or.inl (by omega)⟩
            · rw [if_neg e']
              constructor
              · rintro (u | u)
                · omega
                · exact absurd e u.1
              · intro u; exact absurd u (hvz z (by omega))
          · rw [if_neg e]
            by_cases e' : z = q.2
            · rw [if_pos e']
              constructor
              · rintro (u | u)
                · omega
                · exact absurd e' u.2.1
              · intro u; exact absurd u.symm (hvz y (by omega))
            · rw [if_neg e', ← hE y z hy hz]
              constructor
              · rintro (u | u)
                · rw [u]
                · exact u.2.2
              · intro u; exact Or.inr ⟨e, e', u⟩
        · rintro p (hp | rfl) hop
          · exact old _ p hp hop
          · rw [ho] at hop; cases hop
    · rw [if_neg od] at h'
      simp only [Bool.and_eq_true, decide_eq_true_eq, gbeqI] at h'
      obtain ⟨⟨⟨⟨⟨a1, a2⟩, a3⟩, a4⟩, a5⟩, a6⟩ := h'
      rw [decide_eq_true (show q.1 % 2 = 0 by omega)]
      have bd' : ∀ p, (Dn p ∨ p = q.1) → gFr p ≤ gTo q.1 ∧ gTo p ≤ gTo q.1 := by
        rintro p (hp | rfl)
        · have := hbd p hp; omega
        · exact ⟨ft, Nat.le_refl _⟩
      cases ho : o q.1 with
      | false =>
        rw [if_neg (by decide)]
        refine ih _ _ s φ (fun p => Dn p ∨ p = q.1) a6 hs hF h0 hE ?_ bd' htp
        rintro p (hp | rfl) hop
        · exact hcl p hp hop
        · rw [ho] at hop; cases hop
      | true =>
        rw [if_pos rfl]
        obtain ⟨x, hx⟩ : ∃ x, q.2 = 4 + x := ⟨q.2 - 4, by omega⟩
        have hv : gVs c q.2 = true := by unfold gVs; rw [decide_eq_true a1, decide_eq_true a2]; simp
        have hlt := (gMvI' hc.2 hv hs).2
        rw [hx, show 4 + x - 5 = x - 1 by omega] at a3
        rw [hx, show 4 + x - 4 = x by omega] at a4
        rw [hx] at hlt ⊢
        have x0 : 0 < x := by omega
        have xc : x < c := by omega
        refine ih _ _ _ (fun k => gPsi (φ (F (x - 1))) (φ (F x)) (φ k)) (fun p => Dn p ∨ p = q.1) a6 hlt hF (fun y hy => ?_) (fun y z hy hz => ?_) ?_ bd' (fun z hz => ?_)
        · rw [gPsi0, (gjoinE hc.2 hs x0 xc hy hy).1, h0 y hy, hE y (x - 1) hy (by omega), hE y x hy xc, h0 (x - 1) (by omega), h0 x xc]
        · rw [gPsiE, (gjoinE hc.2 hs x0 xc hy hz).2, hE y z hy hz, hE y (x - 1) hy (by omega), hE y x hy xc, hE z (x - 1) hz (by omega), hE z x hz xc]
        · rintro p (hp | rfl) hop
          · show gPsi _ _ (φ (gFr p)) = gPsi _ _ (φ (gTo p))
            rw [hcl p hp hop]
          · show gPsi _ _ (φ (gFr q.1)) = gPsi _ _ (φ (gTo q.1))
            rw [gPsiE, a3, a4]
            exact Or.inr ⟨Or.inl rfl, Or.inr rfl⟩
        · exact (gPsi0 _ _ _).mpr (Or.inl (htp z hz))
theorem gS0L {g : gG} (hw : gWf g) {x y : Nat} (hx : x < g.1) (hy : y < g.1) : (gLb g.1 (gS0 g) x = 0 ↔ g.2.2.2 x = false) ∧ (gLb g.1 (gS0 g) x = gLb g.1 (gS0 g) y ↔ (x = y ∨ (g.2.2.2 x = false ∧ g.2.2.2 y = false))) := by
  have hc := hw.1
  obtain ⟨m, hm, hb⟩ := gmask g.2.2.2
  have e : gCd g.1 (gS0 g) = gScm g.1 m := by
    rw [(gS0_lt hw).2]
    exact gSc_cong (g := g) (g' := (g.1, 1, fun _ => 0, fun k => m.testBit k)) rfl (fun k hk => (hb k hk).symm) hc.2 g.1 1 0 (Nat.le_refl _)
  have tt := List.all_eq_true.mp (gETs ⟨g.1, by omega⟩ hc.1 ⟨m, hm⟩) x (List.mem_range.mpr hx)
  rw [Bool.and_eq_true] at tt
  have t1 := eq_of_beq tt.1
  have t2 := eq_of_beq (List.all_eq_true.mp tt.2 y (List.mem_range.mpr hy))
  dsimp only at t1 t2
  rw [hb x (by omega)] at t1 t2
  rw [hb y (by omega)] at t2
  refine ⟨?_, ?_⟩
  · show gLk (gCd g.1 (gS0 g)) x = 0 ↔ _
    rw [e, ← gbeqI, t1]
    cases g.2.2.2 x <;> simp
  · show gLk (gCd g.1 (gS0 g)) x = gLk (gCd g.1 (gS0 g)) y ↔ _
    rw [e, ← gbeqI, t2, Bool.or_eq_true, gbeqI]
    cases g.2.2.2 x <;> cases g.2.2.2 y <;> simp
theorem gWsJo {g : gG} (hw : gWf g) (a : Nat → Bool) : gWs g.1 (gSf g a (gRS g.1 g.2.1)) ≠ 0 ↔ gJo g (fun p => gTh p g.1 g.2.1 && gEff g a p) = true := by
  have hc := hw.1
  have hr := hw.2.1
  obtain ⟨h0, -⟩ := gS0_lt hw
  obtain ⟨c, hc'⟩ : ∃ q, g.1 = q + 1 := ⟨g.1 - 1, by omega⟩
  obtain ⟨r, hr'⟩ : ∃ q, g.2.1 = q + 1 := ⟨g.2.1 - 1, by omega⟩
  have chk := gChkT ⟨c, by omega⟩ ⟨r, by omega⟩
  dsimp only at chk
  rw [← hc', ← hr'] at chk
  have all := gAllT ⟨c, by omega⟩ ⟨r, by omega⟩
  dsimp only at all
  rw [← hc', ← hr'] at all
  have inS : ∀ p, gTh p g.1 g.2.1 = true → ∃ q ∈ gSteps g.1 g.2.1, q.1 = p := by
    intro p hp
    have := List.all_eq_true.mp all p (List.mem_range.mpr (gTh50 hr.2 hp))
    rw [hp, Bool.not_true, Bool.false_or] at this
    obtain ⟨q, q1, q2⟩ := List.any_eq_true.mp this
    exact ⟨q, q1, gbeqI.mp q2⟩
  have sound := fun (S : Nat → Prop) (hS : ∀ p, gTh p g.1 g.2.1 = true → gEff g a p = true → (S (gFr p) ↔ S (gTo p))) (hT : ∀ x, x < g.1 → g.2.2.2 x = false → S x) => gRun_S hc hS (gSteps g.1 g.2.1) (fun z => z) 0 (gS0 g) chk h0 (fun y hy hl => hT y hy ((gS0L hw hy hy).1.mp hl)) (fun y z hy hz hl => by
    rcases (gS0L hw hy hz).2.mp hl with e | ⟨e1, e2⟩
    · rw [e]
    · exact ⟨fun _ => hT z hz e2, fun _ => hT y hy e1⟩)
  rw [gSf_run hw]
  have lt : gRun g.1 (gEff g a) (gSteps g.1 g.2.1) (gS0 g) < gSz g.1 := (sound (fun _ => True) (fun _ _ _ => Iff.rfl) (fun _ _ _ => trivial)).1
  rw [gWs0 hc.2 lt]
  unfold gJo
  rw [gAr9_iff]
  constructor
  · rintro ⟨x, hx, hl⟩
    refine ⟨5 * (g.2.1 - 1) + x, by omega, by omega, gWb_iff.mpr (fun S h1 h2 => ?_)⟩
    exact (sound S (fun p hp ho => h2 p hp (by rw [hp, ho]; rfl)) h1).2 x hx hl
  · rintro ⟨k, k1, k2, k3⟩
    have hk := gWb_iff.mp k3
    have ki := gRc_in hw hk
    obtain ⟨φ, p1, p2, p3⟩ := gRun_P (r := g.2.1) hc (o := gEff g a) (T := fun x => x < g.1 ∧ g.2.2.2 x = false) (fun x hx => by have := hx.1; omega) (gSteps g.1 g.2.1) (fun z => z) 0 (gS0 g) (fun k => if g.2.2.2 k = true then k + 1 else 0) (fun _ => False) chk h0 (fun z hz => Nat.mod_eq_of_lt (by omega)) (fun y hy => by
      rw [(gS0L hw hy hy).1]
      cases g.2.2.2 y <;> simp) (fun y z hy hz => by
      rw [(gS0L hw hy hz).2]
      cases hy' : g.2.2.2 y <;> cases hz' : g.2.2.2 z <;> simp
      · intro e; rw [e, hz'] at hy'; cases hy'
      · intro e; rw [e, hz'] at hy'; cases hy') (fun _ h => h.elim) (fun _ h => h.elim) (fun x hx => by rw [hx.2]; rfl)
    have z := hk (fun k => φ k = 0) (fun x hx hs => p3 x ⟨hx, hs⟩) (fun p hp ho => by
      rw [Bool.and_eq_true] at ho
      rw [p2 p (Or.inr (inS p hp)) ho.2])
    refine ⟨k - 5 * (g.2.1 - 1), by omega, (p1 _ (by omega)).mpr ?_⟩
    rw [show 5 * (g.2.1 - 1) + (k - 5 * (g.2.1 - 1)) = k by omega]
    exact z
