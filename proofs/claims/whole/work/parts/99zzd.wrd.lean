/-! reading: words, numbers, marks -/
theorem gfi_iff {P : Nat → Bool} : ∀ m k, gfi P m k = none ↔ ∀ j, k ≤ j → j < k + m → P j = false := by
  intro m
  induction m with
  | zero => intro k; exact ⟨fun _ j h1 h2 => by omega, fun _ => rfl⟩
  | succ m ih =>
    intro k
    show (if P k then some k else gfi P m (k + 1)) = none ↔ _
    cases hp : P k with
    | true =>
      rw [if_pos rfl]
      exact ⟨fun h => (by cases h), fun h => by have := h k (Nat.le_refl _) (by omega); rw [hp] at this; cases this⟩
    | false =>
      rw [if_neg (by decide), ih]
      constructor
      · intro h j h1 h2
        by_cases e : j = k
        · rw [e]; exact hp
        · exact h j (by omega) (by omega)
      · intro h j h1 h2
        exact h j (by omega) (by omega)
def gIw (bs : Nat → Int32) (s e : Nat) (tx : String) : Bool := decide (tx.toList.length = e - s) && (List.range tx.toList.length).all (fun j => decide (bs (s + j) = zi2c (zchr tx j &&& 255)))
theorem gIw_len {bs : Nat → Int32} {s e : Nat} {tx : String} (h : gIw bs s e tx = true) (hs : s ≤ e) : e = s + tx.toList.length := by
  unfold gIw at h
  rw [Bool.and_eq_true, decide_eq_true_eq] at h
  omega
theorem gS2_all {P : Nat → Bool} (m : Nat) : (gS2 (gfi (fun j => !P j) m 0) = .inl () ∧ (List.range m).all P = true) ∨ (gS2 (gfi (fun j => !P j) m 0) = .inr () ∧ (List.range m).all P = false) := by
  cases hh : gfi (fun j => !P j) m 0 with
  | none =>
    left
    refine ⟨rfl, List.all_eq_true.mpr (fun j hj => ?_)⟩
    have := (gfi_iff m 0).mp hh j (by omega) (by have := List.mem_range.mp hj; omega)
    cases hp : P j with
    | true => rfl
    | false => rw [hp] at this; cases this
  | some k =>
    right
    refine ⟨rfl, ?_⟩
    cases ha : (List.range m).all P with
    | false => rfl
    | true =>
      have : gfi (fun j => !P j) m 0 = none := (gfi_iff m 0).mpr (fun j _ h2 => by rw [List.all_eq_true.mp ha j (List.mem_range.mpr (by omega))]; rfl)
      rw [this] at hh
      cases hh
theorem gisWC {bs : Nat → Int32} {L s e : Nat} (hL : L ≤ 400) (hs : s ≤ e) (he : e ≤ L) {tx : String} (hl : tx.toList.length ≤ 9) : zf_X6_isWord (nI e) (nI s) bs tx = some (gbI (gIw bs s e tx)) := by
  unfold zf_X6_isWord gIw
  rw [gsub hs]
  by_cases q : tx.toList.length = e - s
  · rw [if_pos (show nI tx.toList.length = nI (e - s) by rw [q]), decide_eq_true q, Bool.true_and]
    have hF := gitF (f := fun d : Int32 => zf_X6_isWord_l20 (nI s) bs tx d) (fun j => !decide (bs (s + j) = zi2c (zchr tx j &&& 255))) (fun j d => d = nI j) (fun v b => b = gS2 v) tx.toList.length ?_ ?_ ?_ (n := zfu) (gfu (by omega)) (a := (0 : Int32)) rfl
    · obtain ⟨b, e1, rfl⟩ := hF
      rw [e1, Option.bind_some]
      rcases gS2_all (P := fun j => decide (bs (s + j) = zi2c (zchr tx j &&& 255))) tx.toList.length with ⟨g1, g2⟩ | ⟨g1, g2⟩
      · rw [g1, g2]; rfl
      · rw [g1, g2]; rfl
    · rintro j _ hj rfl hp
      have hp' : ¬ bs (s + j) = zi2c (zchr tx j &&& 255) := by
        rw [Bool.not_eq_true', decide_eq_false_iff_not] at hp
        exact hp
      unfold zf_X6_isWord_l20
      rw [if_neg (gle50 (by omega) (by omega) hj), nI_add, if_pos (ggN (show s + j < 400 by omega) (by decide)), if_pos (ggN hj (by omega)), nI_clamp (by omega), nI_clamp (by omega), if_neg hp']
      exact ⟨_, rfl, rfl⟩
    · rintro j _ hj rfl hp
      have hp' : bs (s + j) = zi2c (zchr tx j &&& 255) := by
        rw [Bool.not_eq_false', decide_eq_true_eq] at hp
        exact hp
      unfold zf_X6_isWord_l20
      rw [if_neg (gle50 (by omega) (by omega) hj), nI_add, if_pos (ggN (show s + j < 400 by omega) (by decide)), if_pos (ggN hj (by omega)), nI_clamp (by omega), nI_clamp (by omega), if_pos hp', nI_1]
      exact ⟨_, rfl, rfl⟩
    · rintro _ rfl
      unfold zf_X6_isWord_l20
      rw [if_pos (Int32.le_refl _)]
      exact ⟨_, rfl, rfl⟩
  · rw [if_neg (show ¬ nI tx.toList.length = nI (e - s) by rw [nI_eq (by omega) (by omega)]; exact q), decide_eq_false q]
    rfl
theorem gbyte {bs : Nat → Int32} {L : Nat} (hB : ∀ i, i < L → ∃ z, z < 256 ∧ bs i = nI z) {i : Nat} (hi : i < L) : ¬ bs i = -1 := by
  obtain ⟨z, z1, z2⟩ := hB i hi
  rw [z2]
  exact fun e => gneg9 (x := -1) (by decide) (by omega) e
theorem gwsM {bs tp : Nat → Int32} {L a : Nat} (hL : L ≤ 400) (hB : ∀ i, i < L → ∃ z, z < 256 ∧ bs i = nI z) (ht : ∀ i, i < L → tp i = bs i) (ha : a ≤ L) : zf_X9_wordSize (nI L) (nI a) tp = some (nI (gEs bs 97 122 L (gSk bs L a) - gSk bs L a), nI (gSk bs L a)) := by
  obtain ⟨h1, h2, -⟩ := gSk_sp bs ha
  obtain ⟨e1, e2, -, -⟩ := gEs_sp bs 97 122 h2
  unfold zf_X9_wordSize zf_X9_wordSize_51
  rw [gheM hL ht ha, Option.bind_some]
  dsimp only
  by_cases q : gSk bs L a = L
  · have es : gEs bs 97 122 L (gSk bs L a) = gSk bs L a := by omega
    have eu : zfu = 999999 + 1 := rfl
    have st : zf_X9_wordSize_l10 (nI L) tp (gHv bs L (gSk bs L a)) (nI (gSk bs L a)) = some (.inr (nI (gSk bs L a))) := by
      unfold zf_X9_wordSize_l10 gHv
      rw [if_neg (show ¬ gSk bs L a < L by omega), if_pos rfl]
    rw [eu]
    unfold zit
    dsimp only
    rw [st]
    show some (nI (gSk bs L a) - nI (gSk bs L a), nI (gSk bs L a)) = _
    rw [gsub (Nat.le_refl _), es]
  · have hv : ¬ gHv bs L (gSk bs L a) = -1 := by
      unfold gHv
      rw [if_pos (show gSk bs L a < L by omega)]
      exact gbyte hB (by omega)
    have hS := gitS (f := fun d : Int32 => zf_X9_wordSize_l10 (nI L) tp (gHv bs L (gSk bs L a)) d) (gSn bs 97 122) (fun i => nI i) (fun i b => b = nI i) L ?_ ?_ (L - gSk bs L a) (gSk bs L a) zfu (by omega) (gfu (by omega))
    · obtain ⟨b, e, rfl⟩ := hS
      have e' : zit (fun d : Int32 => zf_X9_wordSize_l10 (nI L) tp (gHv bs L (gSk bs L a)) d) zfu (nI (gSk bs L a)) = some (nI (gEs bs 97 122 L (gSk bs L a))) := e
      rw [e', Option.bind_some, gsub e1]
    · intro i hi' hp
      have z : zgd (nI i) 400 = true := ggN (by omega) (by decide)
      unfold gSn at hp
      simp only [Bool.and_eq_true, Bool.not_eq_true', decide_eq_false_iff_not, decide_eq_true_eq] at hp
      unfold zf_X9_wordSize_l10
      rw [if_neg hv, if_neg (gle50 (by omega) (by omega) hi'), if_pos z, if_pos z, nI_clamp (by omega), ht i hi', if_neg hp.1, if_neg (fun c => Int32.not_lt.mpr hp.2 c), nI_1]
    · intro i hi' hp
      unfold zf_X9_wordSize_l10
      rw [if_neg hv]
      by_cases e : i = L
      · rw [e, if_pos (Int32.le_refl _)]
        exact ⟨_, rfl, rfl⟩
      · have z : zgd (nI i) 400 = true := ggN (by omega) (by decide)
        have hp' := hp.resolve_left e
        rw [if_neg (gle50 (by omega) (by omega) (show i < L by omega)), if_pos z, if_pos z, nI_clamp (by omega), ht i (by omega)]
        by_cases c1 : bs i < 97
        · rw [if_pos c1]
          exact ⟨_, rfl, rfl⟩
        · rw [if_neg c1]
          by_cases c2 : bs i ≤ 122
          · unfold gSn at hp'
            rw [decide_eq_false c1, decide_eq_true c2] at hp'
            cases hp'
          · rw [if_pos (Int32.not_le.mp c2)]
            exact ⟨_, rfl, rfl⟩
theorem gisM {bs tp : Nat → Int32} {L a : Nat} (hL : L ≤ 400) (hB : ∀ i, i < L → ∃ z, z < 256 ∧ bs i = nI z) (ht : ∀ i, i < L → tp i = bs i) (ha : a ≤ L) {tx : String} (hl : tx.toList.length ≤ 9) : zf_X9_is (nI L) (nI a) tp tx = some (gbI (gIw bs (gSk bs L a) (gEs bs 97 122 L (gSk bs L a)) tx), nI (gSk bs L a)) := by
  obtain ⟨h1, h2, -⟩ := gSk_sp bs ha
  obtain ⟨hs, he, -, -⟩ := gEs_sp bs 97 122 h2
  unfold zf_X9_is
  rw [gwsM hL hB ht ha, Option.bind_some]
  dsimp only
  generalize gEs bs 97 122 L (gSk bs L a) = e at hs he ⊢
  generalize gSk bs L a = s at hs h1 h2 ⊢
  unfold gIw
  by_cases q : tx.toList.length = e - s
  · rw [if_pos (show nI (e - s) = nI tx.toList.length by rw [q]), decide_eq_true q, Bool.true_and]
    have hF := gitF (f := fun d : Int32 => zf_X9_is_l15 (nI s) tp tx d) (fun j => !decide (bs (s + j) = zi2c (zchr tx j &&& 255))) (fun j d => d = nI j) (fun v b => b = gS2 v) tx.toList.length ?_ ?_ ?_ (n := zfu) (gfu (by omega)) (a := (0 : Int32)) rfl
    · obtain ⟨b, e1, rfl⟩ := hF
      rw [e1, Option.bind_some]
      rcases gS2_all (P := fun j => decide (bs (s + j) = zi2c (zchr tx j &&& 255))) tx.toList.length with ⟨g1, g2⟩ | ⟨g1, g2⟩
      · rw [g1, g2]; rfl
      · rw [g1, g2]; rfl
    · rintro j _ hj rfl hp
      have hp' : ¬ bs (s + j) = zi2c (zchr tx j &&& 255) := by
        rw [Bool.not_eq_true', decide_eq_false_iff_not] at hp
        exact hp
      unfold zf_X9_is_l15
      rw [if_neg (gle50 (by omega) (by omega) hj), nI_add, if_pos (ggN (show s + j < 400 by omega) (by decide)), if_pos (ggN hj (by omega)), nI_clamp (by omega), nI_clamp (by omega), ht _ (by omega), if_neg hp']
      exact ⟨_, rfl, rfl⟩
    · rintro j _ hj rfl hp
      have hp' : bs (s + j) = zi2c (zchr tx j &&& 255) := by
        rw [Bool.not_eq_false', decide_eq_true_eq] at hp
        exact hp
      unfold zf_X9_is_l15
      rw [if_neg (gle50 (by omega) (by omega) hj), nI_add, if_pos (ggN (show s + j < 400 by omega) (by decide)), if_pos (ggN hj (by omega)), nI_clamp (by omega), nI_clamp (by omega), ht _ (by omega), if_pos hp', nI_1]
      exact ⟨_, rfl, rfl⟩
    · rintro _ rfl
      unfold zf_X9_is_l15
      rw [if_pos (Int32.le_refl _)]
      exact ⟨_, rfl, rfl⟩
  · rw [if_neg (show ¬ nI (e - s) = nI tx.toList.length by rw [nI_eq (by omega) (by omega)]; omega), decide_eq_false q]
    rfl
theorem gwrdC {bs : Nat → Int32} {L a : Nat} (hL : L ≤ 400) (ha : a ≤ L) : zf_X6_takeWord (nI L) (nI a) bs = some (nI (gEs bs 97 122 L (gSk bs L a)), nI (gSk bs L a)) := by
  unfold zf_X6_takeWord
  rw [gspanC hL ha]
  rfl
theorem gn1 {s : Nat} (h : s < 2 ^ 31) : ¬ nI s = -1 := fun e => gneg9 (x := -1) (by decide) h e
/-- a mark, by both -/
theorem gmarkB {bs tp : Nat → Int32} {L a : Nat} (hL : L ≤ 400) (ht : ∀ i, i < L → tp i = bs i) (ha : a ≤ L) (ft : Int32) : (gSk bs L a < L ∧ zf_X6_takeMark (nI L) (nI a) ft bs = some (1, nI (gSk bs L a + 1), nI (gSk bs L a), ft) ∧ zf_X9_must (nI L) (nI a) (-1) tp 59 = some (nI (gSk bs L a + 1), -1)) ∨ (zf_X6_takeMark (nI L) (nI a) ft bs = some (0, nI (gSk bs L a), nI (gSk bs L a), nI (gSk bs L a)) ∧ zf_X9_must (nI L) (nI a) (-1) tp 59 = some (nI (gSk bs L a), nI (gSk bs L a))) := by
  obtain ⟨h1, h2, -⟩ := gSk_sp bs ha
  unfold zf_X6_takeMark zf_X6_takeMark_31 zf_X6_refuse zf_X9_must zf_X9_wrong
  simp only [gendC hL ha, gheM hL ht ha, Option.bind_some, if_true, show zbit (0 : Int32) = true from by decide]
  generalize gSk bs L a = s at h1 h2 ⊢
  unfold gHv
  by_cases q : s < L
  · rw [decide_eq_true q, if_pos (show gbI (!true) = 0 from rfl), if_pos (ggN (show s < 400 by omega) (by decide)), nI_clamp (by omega), if_pos q, nI_1]
    by_cases c : bs s = 59
    · rw [if_pos c, if_pos c]
      exact Or.inl ⟨q, rfl, rfl⟩
    · rw [if_neg c, if_neg c]
      exact Or.inr ⟨rfl, rfl⟩
  · rw [decide_eq_false q, if_neg (show ¬ gbI (!false) = 0 by decide), if_neg q, if_neg (show ¬ (-1 : Int32) = 59 by decide)]
    exact Or.inr ⟨rfl, rfl⟩
