/-! reading: what both readers take -/
def gWh (P : Nat → Bool) : Nat → Nat → Nat
  | 0, a => a
  | n + 1, a => if P a then gWh P n (a + 1) else a
theorem gWh_sp (P : Nat → Bool) : ∀ n a, a ≤ gWh P n a ∧ gWh P n a ≤ a + n ∧ (∀ i, a ≤ i → i < gWh P n a → P i = true) ∧ (gWh P n a < a + n → P (gWh P n a) = false) := by
  intro n
  induction n with
  | zero => intro a; exact ⟨Nat.le_refl _, Nat.le_refl _, fun i h1 h2 => by have h2' : i < a := h2; omega, fun h => by have h' : a < a + 0 := h; omega⟩
  | succ n ih =>
    intro a
    unfold gWh
    cases hp : P a with
    | false =>
      rw [if_neg (by decide)]
      exact ⟨Nat.le_refl _, by omega, fun i h1 h2 => by omega, fun _ => hp⟩
    | true =>
      rw [if_pos rfl]
      obtain ⟨i1, i2, i3, i4⟩ := ih (a + 1)
      refine ⟨by omega, by omega, fun i h1 h2 => ?_, fun h => i4 (by omega)⟩
      by_cases e : i = a
      · rw [e]; exact hp
      · exact i3 i (by omega) h2
theorem gitS {α β : Type} {f : α → Option (α ⊕ β)} (P : Nat → Bool) (st : Nat → α) (Q : Nat → β → Prop) (L : Nat) (h1 : ∀ i, i < L → P i = true → f (st i) = some (.inl (st (i + 1)))) (h2 : ∀ i, i ≤ L → (i = L ∨ P i = false) → ∃ b, f (st i) = some (.inr b) ∧ Q i b) : ∀ k a n, a + k = L → k < n → ∃ b, zit f n (st a) = some b ∧ Q (gWh P k a) b := by
  intro k
  induction k with
  | zero =>
    intro a n ha hn
    obtain ⟨n, rfl⟩ : ∃ q, n = q + 1 := ⟨n - 1, by omega⟩
    obtain ⟨b, e, q⟩ := h2 a (by omega) (Or.inl (by omega))
    refine ⟨b, ?_, q⟩
    unfold zit
    rw [e]
    rfl
  | succ k ih =>
    intro a n ha hn
    obtain ⟨n, rfl⟩ : ∃ q, n = q + 1 := ⟨n - 1, by omega⟩
    unfold gWh
    cases hp : P a with
    | false =>
      obtain ⟨b, e, q⟩ := h2 a (by omega) (Or.inr hp)
      refine ⟨b, ?_, by rw [if_neg (by decide)]; exact q⟩
      unfold zit
      rw [e]
      rfl
    | true =>
      obtain ⟨b, e, q⟩ := ih (a + 1) n (by omega) (by omega)
      refine ⟨b, ?_, by rw [if_pos rfl]; exact q⟩
      unfold zit
      rw [h1 a (by omega) hp]
      exact e
def gBl (bs : Nat → Int32) (i : Nat) : Bool := decide (bs i = 9 ∨ bs i = 10 ∨ bs i = 32)
def gSk (bs : Nat → Int32) (L a : Nat) : Nat := gWh (gBl bs) (L - a) a
def gSn (bs : Nat → Int32) (lo hi : Int32) (i : Nat) : Bool := !decide (bs i < lo) && decide (bs i ≤ hi)
def gEs (bs : Nat → Int32) (lo hi : Int32) (L s : Nat) : Nat := gWh (gSn bs lo hi) (L - s) s
theorem gSk_sp (bs : Nat → Int32) {L a : Nat} (h : a ≤ L) : a ≤ gSk bs L a ∧ gSk bs L a ≤ L ∧ (gSk bs L a < L → gBl bs (gSk bs L a) = false) := by
  obtain ⟨h1, h2, -, h4⟩ := gWh_sp (gBl bs) (L - a) a
  exact ⟨h1, by unfold gSk; omega, fun q => h4 (by unfold gSk at q; omega)⟩
theorem gEs_sp (bs : Nat → Int32) (lo hi : Int32) {L s : Nat} (h : s ≤ L) : s ≤ gEs bs lo hi L s ∧ gEs bs lo hi L s ≤ L ∧ (∀ i, s ≤ i → i < gEs bs lo hi L s → gSn bs lo hi i = true) ∧ (gEs bs lo hi L s < L → gSn bs lo hi (gEs bs lo hi L s) = false) := by
  obtain ⟨h1, h2, h3, h4⟩ := gWh_sp (gSn bs lo hi) (L - s) s
  exact ⟨h1, by unfold gEs; omega, h3, fun q => h4 (by unfold gEs at q; omega)⟩
theorem gSk_id (bs : Nat → Int32) {L a : Nat} (h : a ≤ L) : gSk bs L (gSk bs L a) = gSk bs L a := by
  obtain ⟨h1, h2, h3⟩ := gSk_sp bs h
  by_cases q : gSk bs L a = L
  · rw [q]
    unfold gSk
    rw [Nat.sub_self]
    rfl
  · have nb := h3 (by omega)
    show gWh (gBl bs) (L - gSk bs L a) (gSk bs L a) = _
    obtain ⟨m, hm⟩ : ∃ m, L - gSk bs L a = m + 1 := ⟨L - gSk bs L a - 1, by omega⟩
    rw [hm]
    unfold gWh
    rw [nb, if_neg (by decide)]
theorem gskC {bs : Nat → Int32} {L a : Nat} (hL : L ≤ 400) (ha : a ≤ L) : zf_X6_skipBlanks (nI L) (nI a) bs = some (nI (gSk bs L a)) := by
  have hS := gitS (f := fun d : Int32 × Int32 => zf_X6_skipBlanks_l5 (nI L) bs d.1 d.2) (gBl bs) (fun i => (nI i, nI i)) (fun i b => b = .inl (nI i) ∨ b = .inr (nI i)) L ?_ ?_ (L - a) a zfu (by omega) (gfu (by omega))
  · obtain ⟨b, e, q⟩ := hS
    unfold zf_X6_skipBlanks
    have e' : zit (fun d : Int32 × Int32 => zf_X6_skipBlanks_l5 (nI L) bs d.1 d.2) zfu (nI a, nI a) = some b := e
    rw [e', Option.bind_some]
    rcases q with rfl | rfl
    · rfl
    · rfl
  · intro i hi hp
    have z : zgd (nI i) 400 = true := ggN (by omega) (by decide)
    have hp' : bs i = 9 ∨ bs i = 10 ∨ bs i = 32 := of_decide_eq_true hp
    dsimp only
    unfold zf_X6_skipBlanks_l5 zf_X6_skipBlanks_49
    rw [if_neg (gle50 (by omega) (by omega) hi), if_pos z, if_pos z, if_pos z, nI_clamp (by omega), nI_1]
    by_cases c1 : bs i = 9
    · rw [if_pos c1]
    · rw [if_neg c1]
      by_cases c2 : bs i = 10
      · rw [if_pos c2]
      · rw [if_neg c2]
        by_cases c3 : bs i = 32
        · rw [if_pos c3]
        · exact absurd hp' (fun h => h.elim c1 (fun h => h.elim c2 c3))
  · intro i hi hp
    dsimp only
    unfold zf_X6_skipBlanks_l5
    by_cases e : i = L
    · rw [e, if_pos (Int32.le_refl _)]
      exact ⟨_, rfl, Or.inl rfl⟩
    · have z : zgd (nI i) 400 = true := ggN (by omega) (by decide)
      have hp' : ¬ (bs i = 9 ∨ bs i = 10 ∨ bs i = 32) := of_decide_eq_false (hp.resolve_left e)
      rw [if_neg (gle50 (by omega) (by omega) (show i < L by omega)), if_pos z, if_pos z, if_pos z, nI_clamp (by omega), if_neg (fun c => hp' (Or.inl c)), if_neg (fun c => hp' (Or.inr (Or.inl c))), if_neg (fun c => hp' (Or.inr (Or.inr c)))]
      exact ⟨_, rfl, Or.inr rfl⟩
theorem gendC {bs : Nat → Int32} {L a : Nat} (hL : L ≤ 400) (ha : a ≤ L) : zf_X6_isAtEnd (nI L) (nI a) bs = some (gbI (!decide (gSk bs L a < L)), nI (gSk bs L a)) := by
  obtain ⟨h1, h2, -⟩ := gSk_sp bs ha
  unfold zf_X6_isAtEnd
  rw [gskC hL ha, Option.bind_some]
  by_cases q : gSk bs L a < L
  · rw [if_pos (nI_lt q (by omega)), decide_eq_true q]
    rfl
  · rw [if_neg (nI_nlt (by omega) (by omega)), decide_eq_false q]
    rfl
theorem gspanC {bs : Nat → Int32} {L a : Nat} (hL : L ≤ 400) (ha : a ≤ L) (lo hi : Int32) : zf_X6_takeSpan (nI L) (nI a) bs lo hi = some (nI (gEs bs lo hi L (gSk bs L a) - gSk bs L a), nI (gEs bs lo hi L (gSk bs L a)), nI (gSk bs L a)) := by
  obtain ⟨h1, h2, -⟩ := gSk_sp bs ha
  obtain ⟨e1, e2, -, -⟩ := gEs_sp bs lo hi h2
  have hS := gitS (f := fun d : Int32 × Int32 => zf_X6_takeSpan_l17 (nI L) bs lo hi d.1 d.2) (gSn bs lo hi) (fun i => (nI i, nI i)) (fun i b => b = .inl (nI i) ∨ b = .inr (nI i)) L ?_ ?_ (L - gSk bs L a) (gSk bs L a) zfu (by omega) (gfu (by omega))
  · obtain ⟨b, e, q⟩ := hS
    unfold zf_X6_takeSpan zf_X6_takeSpan_61
    have e' : zit (fun d : Int32 × Int32 => zf_X6_takeSpan_l17 (nI L) bs lo hi d.1 d.2) zfu (nI (gSk bs L a), nI (gSk bs L a)) = some b := e
    rw [gskC hL ha, Option.bind_some, e', Option.bind_some, ← gsub e1]
    rcases q with rfl | rfl
    · rfl
    · rfl
  · intro i hi' hp
    have z : zgd (nI i) 400 = true := ggN (by omega) (by decide)
    unfold gSn at hp
    simp only [Bool.and_eq_true, Bool.not_eq_true', decide_eq_false_iff_not, decide_eq_true_eq] at hp
    dsimp only
    unfold zf_X6_takeSpan_l17
    rw [if_neg (gle50 (by omega) (by omega) hi'), if_pos z, if_pos z, nI_clamp (by omega), if_neg hp.1, if_pos hp.2, nI_1]
  · intro i hi' hp
    dsimp only
    unfold zf_X6_takeSpan_l17
    by_cases e : i = L
    · rw [e, if_pos (Int32.le_refl _)]
      exact ⟨_, rfl, Or.inl rfl⟩
    · have z : zgd (nI i) 400 = true := ggN (by omega) (by decide)
      have hp' := hp.resolve_left e
      rw [if_neg (gle50 (by omega) (by omega) (show i < L by omega)), if_pos z, if_pos z, nI_clamp (by omega)]
      by_cases c1 : bs i < lo
      · rw [if_pos c1]
        exact ⟨_, rfl, Or.inl rfl⟩
      · rw [if_neg c1]
        by_cases c2 : bs i ≤ hi
        · unfold gSn at hp'
          rw [decide_eq_false c1, decide_eq_true c2] at hp'
          cases hp'
        · rw [if_neg c2]
          exact ⟨_, rfl, Or.inr rfl⟩
/-- what the reference sees ahead -/
def gHv (bs : Nat → Int32) (L e : Nat) : Int32 := if e < L then bs e else -1
theorem gheM {bs tp : Nat → Int32} {L a : Nat} (hL : L ≤ 400) (ht : ∀ i, i < L → tp i = bs i) (ha : a ≤ L) : zf_X9_here (nI L) (nI a) tp = some (gHv bs L (gSk bs L a), nI (gSk bs L a)) := by
  have h66 : ∀ e, e ≤ L → zf_X9_here_66 (nI L) (nI e) tp = some (gHv bs L e, nI e) := by
    intro e he
    unfold zf_X9_here_66 gHv
    by_cases q : e < L
    · rw [if_neg (gle50 (by omega) (by omega) q), if_pos (ggN (show e < 400 by omega) (by decide)), nI_clamp (by omega), if_pos q, ht e q]
    · rw [if_pos (show nI L ≤ nI e by rw [show e = L by omega]; exact Int32.le_refl _), if_neg q]
  have loop : ∀ c, c ≤ L → zit (fun d : Int32 => zf_X9_here_l0 (nI L) tp d) zfu (nI c) = some (nI (gSk bs L c)) := by
    intro c hc
    have hS := gitS (f := fun d : Int32 => zf_X9_here_l0 (nI L) tp d) (gBl bs) (fun i => nI i) (fun i b => b = nI i) L ?_ ?_ (L - c) c zfu (by omega) (gfu (by omega))
    · obtain ⟨b, e, q⟩ := hS
      rw [e, q]
      rfl
    · intro i hi hp
      have z : zgd (nI i) 400 = true := ggN (by omega) (by decide)
      have hp' : bs i = 9 ∨ bs i = 10 ∨ bs i = 32 := of_decide_eq_true hp
      unfold zf_X9_here_l0 zf_X9_here_53
      rw [if_neg (gle50 (by omega) (by omega) hi), if_pos z, if_pos z, if_pos z, nI_clamp (by omega), ht i hi, nI_1]
      by_cases c1 : bs i = 32
      · rw [if_pos c1]
      · rw [if_neg c1]
        by_cases c2 : bs i = 9
        · rw [if_pos c2]
        · rw [if_neg c2]
          by_cases c3 : bs i = 10
          · rw [if_pos c3]
          · exact absurd hp' (fun h => h.elim c2 (fun h => h.elim c3 c1))
    · intro i hi hp
      unfold zf_X9_here_l0
      by_cases e : i = L
      · rw [e, if_pos (Int32.le_refl _)]
        exact ⟨_, rfl, rfl⟩
      · have z : zgd (nI i) 400 = true := ggN (by omega) (by decide)
        have hp' : ¬ (bs i = 9 ∨ bs i = 10 ∨ bs i = 32) := of_decide_eq_false (hp.resolve_left e)
        rw [if_neg (gle50 (by omega) (by omega) (show i < L by omega)), if_pos z, if_pos z, if_pos z, nI_clamp (by omega), ht i (by omega), if_neg (fun c => hp' (Or.inr (Or.inr c))), if_neg (fun c => hp' (Or.inl c)), if_neg (fun c => hp' (Or.inr (Or.inl c)))]
        exact ⟨_, rfl, rfl⟩
  unfold zf_X9_here
  by_cases q : a = L
  · have s : gSk bs L a = L := by obtain ⟨h1, h2, -⟩ := gSk_sp bs ha; omega
    rw [q] at s ⊢
    rw [if_pos (Int32.le_refl _), s, h66 L (Nat.le_refl _)]
  · have z : zgd (nI a) 400 = true := ggN (by omega) (by decide)
    rw [if_neg (gle50 (by omega) (by omega) (show a < L by omega)), if_pos z, if_pos z, if_pos z, nI_clamp (by omega), ht a (by omega), nI_1, loop (a + 1) (by omega), Option.bind_some]
    obtain ⟨m, hm⟩ : ∃ m, L - a = m + 1 := ⟨L - a - 1, by omega⟩
    have hm1 : L - (a + 1) = m := by omega
    have s1 : gSk bs L a = if gBl bs a then gSk bs L (a + 1) else a := by
      unfold gSk
      rw [hm, hm1]
      rfl
    have l1 := (gSk_sp bs (show a + 1 ≤ L by omega)).2.1
    cases hb : gBl bs a with
    | true =>
      rw [hb, if_pos rfl] at s1
      have hp' : bs a = 9 ∨ bs a = 10 ∨ bs a = 32 := of_decide_eq_true hb
      rw [h66 _ l1, s1]
      by_cases c1 : bs a = 32
      · rw [if_pos c1]
      · rw [if_neg c1]
        by_cases c2 : bs a = 9
        · rw [if_pos c2]
        · rw [if_neg c2]
          by_cases c3 : bs a = 10
          · rw [if_pos c3]
          · exact absurd hp' (fun h => h.elim c2 (fun h => h.elim c3 c1))
    | false =>
      rw [hb, if_neg (by decide)] at s1
      have hp' : ¬ (bs a = 9 ∨ bs a = 10 ∨ bs a = 32) := of_decide_eq_false hb
      rw [if_neg (fun c => hp' (Or.inr (Or.inr c))), if_neg (fun c => hp' (Or.inl c)), if_neg (fun c => hp' (Or.inr (Or.inl c))), h66 a ha, s1]
