/-! reading: a line's pipe, a line's stone -/
def gRd9 (g : gG) (to ts st : Int64) (nt nh ns : Nat → Int32) : Prop := gWf g ∧ gRT g to ts st ∧ (∀ p, p < 50 → nt p = nI (g.2.2.1 p) ∧ nh p = gbI (decide (g.2.2.1 p ≠ 0))) ∧ ∀ k, k < 25 → ns k = gbI (g.2.2.2 k)
theorem gdigF {a ft lo hi : Int32} {L : Int32} {tp : Nat → Int32} (h : ¬ ft = -1) : zf_X9_digit L a ft tp lo hi = some (lo, a, ft) := by
  unfold zf_X9_digit
  rw [if_neg h]
theorem gputB {g : gG} {to ts st : Int64} {nt nh ns : Nat → Int32} (h : gRd9 g to ts st nt nh ns) {x y d : Nat} (hx : x < g.1) (hy : y < g.2.1) (hd : d < 2) (b : Bool) {s3 e3 : Nat} (hs : s3 ≤ 400) (x4 : Int32) (he : nI s3 + (if x4 = 0 then 5 else 4) = nI e3) : (∃ g' to' ts' nt' nh', g'.1 = g.1 ∧ g'.2.1 = g.2.1 ∧ gRd9 g' to' ts' st nt' nh' ns ∧ zf_X5_takePipe_35 (nI g.1) (nI g.2.1) to ts (nI e3) (nI s3) (-1) (nI x) (nI y) (gbI b) (nI d) = some (1, to', ts', nI e3, nI s3, -1) ∧ zf_X9_pipeLine_119 (nI s3) (-1) nt nh (if b then 1 else 2) x4 (nI (10 * y + 2 * x + d)) (gbI (gTh (10 * y + 2 * x + d) g.1 g.2.1)) = some (nI e3, -1, nt', nh')) ∨ (zf_X5_takePipe_35 (nI g.1) (nI g.2.1) to ts (nI e3) (nI s3) (-1) (nI x) (nI y) (gbI b) (nI d) = some (0, to, ts, nI e3, nI s3, nI s3) ∧ zf_X9_pipeLine_119 (nI s3) (-1) nt nh (if b then 1 else 2) x4 (nI (10 * y + 2 * x + d)) (gbI (gTh (10 * y + 2 * x + d) g.1 g.2.1)) = some (nI s3, nI s3, nt, nh)) := by
  obtain ⟨hw, hT, hN, hS⟩ := h
  have hc := hw.1
  have hr := hw.2.1
  have t := gpipeT ⟨g.1 - 1, by omega⟩ ⟨g.2.1 - 1, by omega⟩ ⟨x, by omega⟩ ⟨y, by omega⟩ ⟨d, hd⟩ (show x ≤ g.1 - 1 by omega) (show y ≤ g.2.1 - 1 by omega)
  dsimp only at t
  rw [show g.1 - 1 + 1 = g.1 by omega, show g.2.1 - 1 + 1 = g.2.1 by omega] at t
  obtain ⟨t1, t2, t3⟩ := t
  generalize 10 * y + 2 * x + d = p at t1 t2 t3 ⊢
  have n1 : ¬ nI s3 = -1 := gn1 (by omega)
  have z : zgd (nI p) 50 = true := ggN t3 (by decide)
  unfold zf_X5_takePipe_35 zf_X5_takePipe_53 zf_X6_refuse zf_X9_pipeLine_119 zf_X9_pipeLine_136 zf_X9_pipeLine_140 zf_X9_wrong
  simp only [t1, t2, Option.bind_some, show zbit (0 : Int32) = true from by decide, if_true, if_neg n1, z, nI_clamp (show p < 2 ^ 31 by omega)]
  cases hth : gTh p g.1 g.2.1 with
  | false =>
    rw [if_pos (show gbI false = 0 from rfl), if_pos (show gbI false = 0 from rfl)]
    exact Or.inr ⟨rfl, rfl⟩
  | true =>
    rw [if_neg (show ¬ gbI true = 0 by decide), if_neg (show ¬ gbI true = 0 by decide), (hN p t3).2]
    have tp2 := (hw.2.2.1 p).1
    have bt : gbt (to ||| ts) p = decide (g.2.2.1 p ≠ 0) := by
      rw [gbt_or, (hT p (by omega)).1, (hT p (by omega)).2.1]
      rcases (show g.2.2.1 p = 0 ∨ g.2.2.1 p = 1 ∨ g.2.2.1 p = 2 by omega) with q | q | q
      · rw [q]; rfl
      · rw [q]; rfl
      · rw [q]; rfl
    have mk := gmsk (to ||| ts) (show p < 64 by omega)
    rw [bt] at mk
    by_cases q : g.2.2.1 p = 0
    · have dq : decide (g.2.2.1 p ≠ 0) = false := decide_eq_false (fun c => c q)
      rw [dq, if_pos (mk.mpr dq), if_pos (show gbI false = 0 from rfl)]
      have x4e : (if x4 = 0 then some (nI s3 + 5, (-1 : Int32), upd nt p (if b = true then 1 else 2), upd nh p (vp_nar FieldType.boolean 1)) else some (nI s3 + 4, -1, upd nt p (if b = true then 1 else 2), upd nh p (vp_nar FieldType.boolean 1))) = some (nI e3, -1, upd nt p (if b = true then 1 else 2), upd nh p (vp_nar FieldType.boolean 1)) := by
        by_cases c : x4 = 0
        · rw [if_pos c] at he ⊢; rw [he]
        · rw [if_neg c] at he ⊢; rw [he]
      rw [x4e]
      have tl : ∀ w i, (gTell g p w).2.2.1 i = if i = p then w else g.2.2.1 i := fun w i => rfl
      have arr : ∀ w, 0 < w → ∀ v, v = nI w → ∀ i, i < 50 → upd nt p v i = nI ((gTell g p w).2.2.1 i) ∧ upd nh p (vp_nar .boolean (gbI true)) i = gbI (decide ((gTell g p w).2.2.1 i ≠ 0)) := by
        intro w hw0 v hv i hi
        rw [tl]
        by_cases e : i = p
        · rw [e, gupS, gupS, if_pos rfl, gnar, decide_eq_true (show w ≠ 0 by omega)]
          exact ⟨hv, rfl⟩
        · rw [gupN e, gupN e, if_neg e]
          exact hN i hi
      refine Or.inl ?_
      cases b with
      | true =>
        rw [if_neg (show ¬ gbI true = 0 by decide)]
        refine ⟨gTell g p 1, _, _, _, _, rfl, rfl, ⟨gWfT hw hth (by decide), fun i hi => ?_, arr 1 (by decide) _ rfl, hS⟩, rfl, rfl⟩
        obtain ⟨a1, a2, a3⟩ := hT i hi
        rw [tl, gbt_or, gbt_bit i (show p < 64 by omega), a1, a2]
        by_cases e : i = p
        · rw [e, q, if_pos rfl, decide_eq_true rfl]; rw [e] at a3; exact ⟨rfl, rfl, a3⟩
        · rw [if_neg e, decide_eq_false e, Bool.or_false]; exact ⟨rfl, rfl, a3⟩
      | false =>
        rw [if_pos (show gbI false = 0 from rfl)]
        refine ⟨gTell g p 2, _, _, _, _, rfl, rfl, ⟨gWfT hw hth (by decide), fun i hi => ?_, arr 2 (by decide) _ rfl, hS⟩, rfl, rfl⟩
        obtain ⟨a1, a2, a3⟩ := hT i hi
        rw [tl, gbt_or, gbt_bit i (show p < 64 by omega), a1, a2]
        by_cases e : i = p
        · rw [e, q, if_pos rfl, decide_eq_true rfl]; rw [e] at a3; exact ⟨rfl, rfl, a3⟩
        · rw [if_neg e, decide_eq_false e, Bool.or_false]; exact ⟨rfl, rfl, a3⟩
    · have dq : decide (g.2.2.1 p ≠ 0) = true := decide_eq_true q
      rw [dq, if_neg (fun c => by have := mk.mp c; rw [dq] at this; cases this), if_neg (show ¬ gbI true = 0 by decide)]
      exact Or.inr ⟨rfl, rfl⟩
theorem gpipB {bs tp : Nat → Int32} {L e : Nat} (hL : L ≤ 400) (hB : ∀ i, i < L → ∃ z, z < 256 ∧ bs i = nI z) (ht : ∀ i, i < L → tp i = bs i) (he : e ≤ L) {g : gG} {to ts st : Int64} {nt nh ns : Nat → Int32} (h : gRd9 g to ts st nt nh ns) (b : Bool) {a0 : Int32} (h4 : a0 + 4 = nI e) : (∃ a' g' to' ts' bg nt' nh', e ≤ a' ∧ a' ≤ L ∧ g'.1 = g.1 ∧ g'.2.1 = g.2.1 ∧ gRd9 g' to' ts' st nt' nh' ns ∧ zf_X5_takeLine_55 (nI g.1) (nI g.2.1) to ts st (nI L) (nI e) (-1) bs (gbI b) 0 = some (1, to', ts', st, nI a', bg, -1) ∧ zf_X9_pipeLine (nI L) a0 (-1) (nI g.1) (nI g.2.1) tp nt nh (if b then 1 else 2) = some (nI a', -1, nt', nh')) ∨ ∃ f to' ts' w bg at' nt' nh', f ≤ L ∧ zf_X5_takeLine_55 (nI g.1) (nI g.2.1) to ts st (nI L) (nI e) (-1) bs (gbI b) 0 = some (0, to', ts', st, w, bg, nI f) ∧ zf_X9_pipeLine (nI L) a0 (-1) (nI g.1) (nI g.2.1) tp nt nh (if b then 1 else 2) = some (at', nI f, nt', nh') := by
  have hc := h.1.1
  have hr := h.1.2.1
  have zc : nI g.1 - 1 = nI (g.1 - 1) := by rw [show (1 : Int32) = nI 1 from rfl, gsub (by omega)]
  have zr : nI g.2.1 - 1 = nI (g.2.1 - 1) := by rw [show (1 : Int32) = nI 1 from rfl, gsub (by omega)]
  obtain ⟨p1, p2, -⟩ := gSk_sp bs he
  unfold zf_X5_takeLine_55 zf_X9_pipeLine
  rw [h4, zc, zr]
  rcases gnumB hL hB ht he 0 (nI (g.1 - 1)) (-1) with ⟨v, c1, m1, l1, l2, l3⟩ | ⟨w, c1, m1⟩
  · obtain ⟨x, hx, rfl⟩ := gnI (by omega) l1 l2
    rw [c1, m1, Option.bind_some, Option.bind_some]
    dsimp only
    rw [if_neg (gn1 (show x < 2 ^ 31 by omega))]
    generalize gSk bs L e = s1 at p1 p2 l3 ⊢
    obtain ⟨p3, p4, -⟩ := gSk_sp bs (show s1 + 1 ≤ L by omega)
    rcases gnumB hL hB ht (show s1 + 1 ≤ L by omega) 0 (nI (g.2.1 - 1)) (-1) with ⟨v, c2, m2, l4, l5, l6⟩ | ⟨w, c2, m2⟩
    · obtain ⟨y, hy, rfl⟩ := gnI (by omega) l4 l5
      rw [c2, m2, Option.bind_some, Option.bind_some]
      dsimp only
      rw [if_neg (gn1 (show y < 2 ^ 31 by omega)), if_pos rfl, if_pos rfl]
      generalize gSk bs L (s1 + 1) = s2 at p3 p4 l6 ⊢
      obtain ⟨p5, p6, -⟩ := gSk_sp bs (show s2 + 1 ≤ L by omega)
      obtain ⟨p7, p8, -, -⟩ := gEs_sp bs 97 122 p6
      unfold zf_X5_takePipe zf_X9_pipeLine_69
      have l4d : ("down" : String).toList.length = 4 := by decide
      have l5r : ("right" : String).toList.length = 5 := by decide
      simp only [gwrdC hL (show s2 + 1 ≤ L by omega), gisM hL hB ht (show s2 + 1 ≤ L by omega) (show ("down" : String).toList.length ≤ 9 by decide), gisM hL hB ht p6 (show ("right" : String).toList.length ≤ 9 by decide), gSk_id bs (show s2 + 1 ≤ L by omega), Option.bind_some, gisWC hL p7 p8 (show ("down" : String).toList.length ≤ 9 by decide), gisWC hL p7 p8 (show ("right" : String).toList.length ≤ 9 by decide)]
      generalize gEs bs 97 122 L (gSk bs L (s2 + 1)) = e3 at p7 p8 ⊢
      generalize gSk bs L (s2 + 1) = s3 at p5 p6 p7 ⊢
      have nm : ∀ d : Nat, ((10 : Int32) * nI y + (2 : Int32) * nI x) + nI d = nI (10 * y + 2 * x + d) := by
        intro d
        rw [show (10 : Int32) = nI 10 from rfl, show (2 : Int32) = nI 2 from rfl, gmul, gmul, nI_add, nI_add]
      cases hD : gIw bs s3 e3 "down" with
      | true =>
        have el := gIw_len hD p7
        rw [l4d] at el
        have th : gTh (10 * y + 2 * x + 1) g.1 g.2.1 = decide (y + 1 < g.2.1) := by
          unfold gTh
          rw [if_pos (by omega), decide_eq_true (show (10 * y + 2 * x + 1) % 10 / 2 < g.1 by omega), decide_eq_true (show (10 * y + 2 * x + 1) / 10 < g.2.1 by omega), show (10 * y + 2 * x + 1) / 10 = y by omega]
          rfl
        have key := gputB h (show x < g.1 by omega) (show y < g.2.1 by omega) (show 1 < 2 by decide) b (s3 := s3) (e3 := e3) (by omega) (gbI true) (by rw [if_neg (show ¬ gbI true = 0 by decide), show (4 : Int32) = nI 4 from rfl, nI_add, el])
        have rf : (if nI g.2.1 ≤ nI y + 1 then zf_X9_pipeLine_119 (nI s3) (-1) nt nh (if b = true then 1 else 2) (gbI true) (nI (10 * y + 2 * x + 1)) 0 else zf_X9_pipeLine_119 (nI s3) (-1) nt nh (if b = true then 1 else 2) (gbI true) (nI (10 * y + 2 * x + 1)) 1) = zf_X9_pipeLine_119 (nI s3) (-1) nt nh (if b = true then 1 else 2) (gbI true) (nI (10 * y + 2 * x + 1)) (gbI (gTh (10 * y + 2 * x + 1) g.1 g.2.1)) := by
          rw [th, nI_1]
          by_cases c : y + 1 < g.2.1
          · rw [if_neg (gle50 (by omega) (by omega) c), decide_eq_true c]; rfl
          · rw [if_pos (nI_le (by omega) (by omega)), decide_eq_false c]; rfl
        have n2 : ((10 : Int32) * nI y + (2 : Int32) * nI x) + 1 = nI (10 * y + 2 * x + 1) := nm 1
        simp only [show (gbI true = 0) = False from eq_false (by decide), if_false, n2, rf]
        rcases key with ⟨g', to', ts', nt', nh', k1, k2, k3, k4, k5⟩ | ⟨k4, k5⟩
        · have k4' : zf_X5_takePipe_35 (nI g.1) (nI g.2.1) to ts (nI e3) (nI s3) (-1) (nI x) (nI y) (gbI b) (gbI true) = some (1, to', ts', nI e3, nI s3, -1) := k4
          rw [k4', k5]
          exact Or.inl ⟨e3, g', to', ts', _, nt', nh', by omega, p8, k1, k2, k3, rfl, rfl⟩
        · have k4' : zf_X5_takePipe_35 (nI g.1) (nI g.2.1) to ts (nI e3) (nI s3) (-1) (nI x) (nI y) (gbI b) (gbI true) = some (0, to, ts, nI e3, nI s3, nI s3) := k4
          rw [k4', k5]
          exact Or.inr ⟨s3, _, _, _, _, _, _, _, p6, rfl, rfl⟩
      | false =>
        have n2 : ((10 : Int32) * nI y + (2 : Int32) * nI x) + 0 = nI (10 * y + 2 * x + 0) := nm 0
        simp only [show (gbI false = 0) = True from eq_true rfl, if_true, n2]
        unfold zf_X9_pipeLine_118
        cases hR : gIw bs s3 e3 "right" with
        | false =>
          have n1 : ¬ nI s3 = -1 := gn1 (by omega)
          unfold zf_X5_takePipe_53 zf_X6_refuse zf_X9_pipeLine_119 zf_X9_pipeLine_136 zf_X9_pipeLine_140 zf_X9_wrong
          simp only [show (gbI false = 0) = True from eq_true rfl, if_true, Option.bind_some, show zbit (0 : Int32) = true from by decide, if_neg n1]
          exact Or.inr ⟨s3, _, _, _, _, _, _, _, p6, rfl, rfl⟩
        | true =>
          have el := gIw_len hR p7
          rw [l5r] at el
          have th : gTh (10 * y + 2 * x + 0) g.1 g.2.1 = decide (x + 1 < g.1) := by
            unfold gTh
            rw [if_neg (by omega), decide_eq_true (show (10 * y + 2 * x + 0) % 10 / 2 < g.1 by omega), decide_eq_true (show (10 * y + 2 * x + 0) / 10 < g.2.1 by omega), show (10 * y + 2 * x + 0) % 10 / 2 = x by omega]
            rfl
          have key := gputB h (show x < g.1 by omega) (show y < g.2.1 by omega) (show 0 < 2 by decide) b (s3 := s3) (e3 := e3) (by omega) (gbI false) (by rw [if_pos (show gbI false = 0 from rfl), show (5 : Int32) = nI 5 from rfl, nI_add, el])
          have rf : (if nI g.1 ≤ nI x + 1 then zf_X9_pipeLine_119 (nI s3) (-1) nt nh (if b = true then 1 else 2) (gbI false) (nI (10 * y + 2 * x + 0)) 0 else zf_X9_pipeLine_119 (nI s3) (-1) nt nh (if b = true then 1 else 2) (gbI false) (nI (10 * y + 2 * x + 0)) 1) = zf_X9_pipeLine_119 (nI s3) (-1) nt nh (if b = true then 1 else 2) (gbI false) (nI (10 * y + 2 * x + 0)) (gbI (gTh (10 * y + 2 * x + 0) g.1 g.2.1)) := by
            rw [th, nI_1]
            by_cases c : x + 1 < g.1
            · rw [if_neg (gle50 (by omega) (by omega) c), decide_eq_true c]; rfl
            · rw [if_pos (nI_le (by omega) (by omega)), decide_eq_false c]; rfl
          simp only [show (gbI true = 0) = False from eq_false (by decide), if_false, rf]
          rcases key with ⟨g', to', ts', nt', nh', k1, k2, k3, k4, k5⟩ | ⟨k4, k5⟩
          · have k4' : zf_X5_takePipe_35 (nI g.1) (nI g.2.1) to ts (nI e3) (nI s3) (-1) (nI x) (nI y) (gbI b) (gbI false) = some (1, to', ts', nI e3, nI s3, -1) := k4
            rw [k4', k5]
            exact Or.inl ⟨e3, g', to', ts', _, nt', nh', by omega, p8, k1, k2, k3, rfl, rfl⟩
          · have k4' : zf_X5_takePipe_35 (nI g.1) (nI g.2.1) to ts (nI e3) (nI s3) (-1) (nI x) (nI y) (gbI b) (gbI false) = some (0, to, ts, nI e3, nI s3, nI s3) := k4
            rw [k4', k5]
            exact Or.inr ⟨s3, _, _, _, _, _, _, _, p6, rfl, rfl⟩
    · rw [c2, m2, Option.bind_some, Option.bind_some]
      dsimp only
      rw [if_pos rfl, if_neg (gn1 (show gSk bs L (s1 + 1) < 2 ^ 31 by omega))]
      exact Or.inr ⟨_, _, _, _, _, _, _, _, p4, rfl, rfl⟩
  · rw [c1, m1, Option.bind_some, Option.bind_some]
    dsimp only
    have n1 : ¬ nI (gSk bs L e) = -1 := gn1 (by omega)
    rw [if_pos rfl, gdigF n1, Option.bind_some]
    dsimp only
    rw [if_neg n1]
    exact Or.inr ⟨_, _, _, _, _, _, _, _, p2, rfl, rfl⟩
