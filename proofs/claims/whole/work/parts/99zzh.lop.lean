/-! reading: line after line -/
theorem gzR {α β : Type} {f : α → Option (α ⊕ β)} {a : α} {b : β} (h : f a = some (.inr b)) {n : Nat} (hn : 0 < n) : zit f n a = some b := by
  obtain ⟨n, rfl⟩ : ∃ q, n = q + 1 := ⟨n - 1, by omega⟩
  unfold zit
  rw [h]
  rfl
theorem gzL {α β : Type} {f : α → Option (α ⊕ β)} {a a' : α} (h : f a = some (.inl a')) (n : Nat) : zit f (n + 1) a = zit f n a' := by
  conv => lhs; unfold zit
  rw [h]
  rfl
theorem gx10 {c r L : Int32} {bs : Nat → Int32} {x2 : Int32} {to ts st : Int64} {a b f : Int32} : zf_X5_parse_l14 c r L bs 0 x2 to ts st a b f = some (.inr (0, to, ts, st, a, b, f)) := by
  unfold zf_X5_parse_l14
  by_cases q : (400 : Int32) ≤ x2
  · rw [if_pos q]
  · rw [if_neg q, if_pos rfl]
theorem gm10 {c r L : Int32} {tp : Nat → Int32} {a f : Int32} (hf : ¬ f = -1) {nt nh ns : Nat → Int32} : zf_X9_read_l111 L c r tp a f nt nh ns = some (.inr (a, f, nt, nh, ns)) := by
  unfold zf_X9_read_l111
  rw [if_neg hf]
set_option maxHeartbeats 4000000 in
theorem gloopB {bs tp : Nat → Int32} {L : Nat} (hL : L ≤ 400) (hB : ∀ i, i < L → ∃ z, z < 256 ∧ bs i = nI z) (ht : ∀ i, i < L → tp i = bs i) {c r : Nat} : ∀ k a i n m (g : gG) (to ts st : Int64) (nt nh ns : Nat → Int32) (bg : Int32), g.1 = c → g.2.1 = r → a ≤ L → L - a ≤ k → i ≤ a → k + 1 < n → k + 1 < m → gRd9 g to ts st nt nh ns → ∃ oc om, zit (fun d : Int32 × Int32 × Int64 × Int64 × Int64 × Int32 × Int32 × Int32 => zf_X5_parse_l14 (nI c) (nI r) (nI L) bs d.1 d.2.1 d.2.2.1 d.2.2.2.1 d.2.2.2.2.1 d.2.2.2.2.2.1 d.2.2.2.2.2.2.1 d.2.2.2.2.2.2.2) n (1, nI i, to, ts, st, nI a, bg, -1) = some oc ∧ zit (fun d : Int32 × Int32 × (Nat → Int32) × (Nat → Int32) × (Nat → Int32) => zf_X9_read_l111 (nI L) (nI c) (nI r) tp d.1 d.2.1 d.2.2.1 d.2.2.2.1 d.2.2.2.2) m (nI a, -1, nt, nh, ns) = some om ∧ ((oc.1 = 1 ∧ oc.2.2.2.2.2.2 = -1 ∧ om.1 = nI L ∧ om.2.1 = -1 ∧ ∃ g' : gG, g'.1 = c ∧ g'.2.1 = r ∧ gRd9 g' oc.2.1 oc.2.2.1 oc.2.2.2.1 om.2.2.1 om.2.2.2.1 om.2.2.2.2) ∨ (oc.1 = 0 ∧ ∃ f, f ≤ L ∧ oc.2.2.2.2.2.2 = nI f ∧ om.2.1 = nI f)) := by
  intro k
  induction k with
  | zero =>
    intro a i n m g to ts st nt nh ns bg hc hr ha hk hi hn hm h
    have aL : a = L := by omega
    obtain ⟨p1, p2, -⟩ := gSk_sp bs ha
    have sL : gSk bs L a = L := by omega
    have e2 : zf_X9_read_l111 (nI L) (nI c) (nI r) tp (nI a) (-1) nt nh ns = some (.inr (nI L, -1, nt, nh, ns)) := by
      unfold zf_X9_read_l111
      rw [if_pos rfl, gheM hL ht ha, Option.bind_some, sL]
      unfold gHv
      rw [if_neg (Nat.lt_irrefl L)]
      dsimp only
      rw [if_pos rfl]
    have e1 : ∃ at', zf_X5_parse_l14 (nI c) (nI r) (nI L) bs 1 (nI i) to ts st (nI a) bg (-1) = some (.inr (1, to, ts, st, at', bg, -1)) := by
      unfold zf_X5_parse_l14
      by_cases q : (400 : Int32) ≤ nI i
      · rw [if_pos q]; exact ⟨_, rfl⟩
      · rw [if_neg q, if_neg (show ¬ (1 : Int32) = 0 by decide), gendC hL ha, Option.bind_some, sL, decide_eq_false (Nat.lt_irrefl L)]
        dsimp only
        rw [if_neg (show ¬ gbI (!false) = 0 by decide)]
        exact ⟨_, rfl⟩
    obtain ⟨at', e1⟩ := e1
    exact ⟨((1 : Int32), to, ts, st, at', bg, (-1 : Int32)), (nI L, (-1 : Int32), nt, nh, ns), gzR (f := fun d : Int32 × Int32 × Int64 × Int64 × Int64 × Int32 × Int32 × Int32 => zf_X5_parse_l14 (nI c) (nI r) (nI L) bs d.1 d.2.1 d.2.2.1 d.2.2.2.1 d.2.2.2.2.1 d.2.2.2.2.2.1 d.2.2.2.2.2.2.1 d.2.2.2.2.2.2.2) (a := ((1 : Int32), nI i, to, ts, st, nI a, bg, (-1 : Int32))) (b := ((1 : Int32), to, ts, st, at', bg, (-1 : Int32))) e1 (show 0 < n by omega), gzR (f := fun d : Int32 × Int32 × (Nat → Int32) × (Nat → Int32) × (Nat → Int32) => zf_X9_read_l111 (nI L) (nI c) (nI r) tp d.1 d.2.1 d.2.2.1 d.2.2.2.1 d.2.2.2.2) (a := (nI a, (-1 : Int32), nt, nh, ns)) (b := (nI L, (-1 : Int32), nt, nh, ns)) e2 (show 0 < m by omega), Or.inl ⟨rfl, rfl, rfl, rfl, g, hc, hr, h⟩⟩
  | succ k ih =>
    intro a i n m g to ts st nt nh ns bg hc hr ha hk hi hn hm h
    obtain ⟨p1, p2, -⟩ := gSk_sp bs ha
    by_cases sL : gSk bs L a = L
    · have e2 : zf_X9_read_l111 (nI L) (nI c) (nI r) tp (nI a) (-1) nt nh ns = some (.inr (nI L, -1, nt, nh, ns)) := by
        unfold zf_X9_read_l111
        rw [if_pos rfl, gheM hL ht ha, Option.bind_some, sL]
        unfold gHv
        rw [if_neg (Nat.lt_irrefl L)]
        dsimp only
        rw [if_pos rfl]
      have e1 : ∃ at', zf_X5_parse_l14 (nI c) (nI r) (nI L) bs 1 (nI i) to ts st (nI a) bg (-1) = some (.inr (1, to, ts, st, at', bg, -1)) := by
        unfold zf_X5_parse_l14
        by_cases q : (400 : Int32) ≤ nI i
        · rw [if_pos q]; exact ⟨_, rfl⟩
        · rw [if_neg q, if_neg (show ¬ (1 : Int32) = 0 by decide), gendC hL ha, Option.bind_some, sL, decide_eq_false (Nat.lt_irrefl L)]
          dsimp only
          rw [if_neg (show ¬ gbI (!false) = 0 by decide)]
          exact ⟨_, rfl⟩
      obtain ⟨at', e1⟩ := e1
      exact ⟨((1 : Int32), to, ts, st, at', bg, (-1 : Int32)), (nI L, (-1 : Int32), nt, nh, ns), gzR (f := fun d : Int32 × Int32 × Int64 × Int64 × Int64 × Int32 × Int32 × Int32 => zf_X5_parse_l14 (nI c) (nI r) (nI L) bs d.1 d.2.1 d.2.2.1 d.2.2.2.1 d.2.2.2.2.1 d.2.2.2.2.2.1 d.2.2.2.2.2.2.1 d.2.2.2.2.2.2.2) (a := ((1 : Int32), nI i, to, ts, st, nI a, bg, (-1 : Int32))) (b := ((1 : Int32), to, ts, st, at', bg, (-1 : Int32))) e1 (show 0 < n by omega), gzR (f := fun d : Int32 × Int32 × (Nat → Int32) × (Nat → Int32) × (Nat → Int32) => zf_X9_read_l111 (nI L) (nI c) (nI r) tp d.1 d.2.1 d.2.2.1 d.2.2.2.1 d.2.2.2.2) (a := (nI a, (-1 : Int32), nt, nh, ns)) (b := (nI L, (-1 : Int32), nt, nh, ns)) e2 (show 0 < m by omega), Or.inl ⟨rfl, rfl, rfl, rfl, g, hc, hr, h⟩⟩
    · have hs : gSk bs L a < L := by omega
      obtain ⟨n, rfl⟩ : ∃ q, n = q + 1 := ⟨n - 1, by omega⟩
      obtain ⟨m, rfl⟩ : ∃ q, m = q + 1 := ⟨m - 1, by omega⟩
      have fail : ∀ (f : Nat) (t1 t2 t3 : Int64) (w b2 at' : Int32) (u1 u2 u3 : Nat → Int32), f ≤ L → zf_X5_parse_l14 (nI c) (nI r) (nI L) bs 1 (nI i) to ts st (nI a) bg (-1) = some (.inl (0, nI (i + 1), t1, t2, t3, w, b2, nI f)) → zf_X9_read_l111 (nI L) (nI c) (nI r) tp (nI a) (-1) nt nh ns = some (.inl (at', nI f, u1, u2, u3)) → ∃ oc om, zit (fun d : Int32 × Int32 × Int64 × Int64 × Int64 × Int32 × Int32 × Int32 => zf_X5_parse_l14 (nI c) (nI r) (nI L) bs d.1 d.2.1 d.2.2.1 d.2.2.2.1 d.2.2.2.2.1 d.2.2.2.2.2.1 d.2.2.2.2.2.2.1 d.2.2.2.2.2.2.2) (n + 1) (1, nI i, to, ts, st, nI a, bg, -1) = some oc ∧ zit (fun d : Int32 × Int32 × (Nat → Int32) × (Nat → Int32) × (Nat → Int32) => zf_X9_read_l111 (nI L) (nI c) (nI r) tp d.1 d.2.1 d.2.2.1 d.2.2.2.1 d.2.2.2.2) (m + 1) (nI a, -1, nt, nh, ns) = some om ∧ ((oc.1 = 1 ∧ oc.2.2.2.2.2.2 = -1 ∧ om.1 = nI L ∧ om.2.1 = -1 ∧ ∃ g' : gG, g'.1 = c ∧ g'.2.1 = r ∧ gRd9 g' oc.2.1 oc.2.2.1 oc.2.2.2.1 om.2.2.1 om.2.2.2.1 om.2.2.2.2) ∨ (oc.1 = 0 ∧ ∃ f, f ≤ L ∧ oc.2.2.2.2.2.2 = nI f ∧ om.2.1 = nI f)) := by
        intro f t1 t2 t3 w b2 at' u1 u2 u3 hf s1 s2
        refine ⟨(0, t1, t2, t3, w, b2, nI f), (at', nI f, u1, u2, u3), ?_, ?_, Or.inr ⟨rfl, f, hf, rfl, rfl⟩⟩
        · rw [gzL (f := fun d : Int32 × Int32 × Int64 × Int64 × Int64 × Int32 × Int32 × Int32 => zf_X5_parse_l14 (nI c) (nI r) (nI L) bs d.1 d.2.1 d.2.2.1 d.2.2.2.1 d.2.2.2.2.1 d.2.2.2.2.2.1 d.2.2.2.2.2.2.1 d.2.2.2.2.2.2.2) (a := (1, nI i, to, ts, st, nI a, bg, -1)) (a' := (0, nI (i + 1), t1, t2, t3, w, b2, nI f)) s1 n]
          exact gzR (a := ((0 : Int32), nI (i + 1), t1, t2, t3, w, b2, nI f)) (b := ((0 : Int32), t1, t2, t3, w, b2, nI f)) gx10 (by omega)
        · rw [gzL (f := fun d : Int32 × Int32 × (Nat → Int32) × (Nat → Int32) × (Nat → Int32) => zf_X9_read_l111 (nI L) (nI c) (nI r) tp d.1 d.2.1 d.2.2.1 d.2.2.2.1 d.2.2.2.2) (a := (nI a, -1, nt, nh, ns)) (a' := (at', nI f, u1, u2, u3)) s2 m]
          exact gzR (a := (at', nI f, u1, u2, u3)) (b := (at', nI f, u1, u2, u3)) (gm10 (gn1 (show f < 2 ^ 31 by omega))) (by omega)
      have hdr : zf_X5_parse_l14 (nI c) (nI r) (nI L) bs 1 (nI i) to ts st (nI a) bg (-1) = (zf_X5_takeLine (nI c) (nI r) to ts st (nI L) (nI (gSk bs L a)) (-1) bs).bind fun o36 => if o36.1 = 0 then (zf_X5_parse_56 o36.2.1 o36.2.2.1 o36.2.2.2.1 o36.2.2.2.2.1 o36.2.2.2.2.2.1 o36.2.2.2.2.2.2 (nI i)) else ((zf_X6_takeMark (nI L) o36.2.2.2.2.1 o36.2.2.2.2.2.2 bs).bind fun o46 => if o46.1 = 0 then (zf_X5_parse_56 o36.2.1 o36.2.2.1 o36.2.2.2.1 o46.2.1 o46.2.2.1 o46.2.2.2 (nI i)) else (zf_X5_parse_57 o36.2.1 o36.2.2.1 o36.2.2.2.1 o46.2.1 o46.2.2.1 o46.2.2.2 (nI i) (1 : Int32))) := by
        unfold zf_X5_parse_l14
        rw [if_neg (show ¬ (400 : Int32) ≤ nI i from gle50 (a := 400) (by decide) (by omega) (by omega)), if_neg (show ¬ (1 : Int32) = 0 by decide), gendC hL ha, Option.bind_some, decide_eq_true hs]
        dsimp only
        rw [if_pos (show gbI (!true) = 0 from rfl)]
      have gl := glinB hL hB ht ha hs h
      rw [hc, hr] at gl
      rcases gl with ⟨a', g', to', ts', st', b2, nt', nh', ns', k1, k2, k3, k4, k5, k6, k7⟩ | ⟨f, to', ts', st', w, b2, at', nt', nh', ns', k1, k6, k7⟩
      · have k181 : zf_X9_read_181 (nI L) (nI a') (-1) tp nt' nh' ns' = (zf_X9_must (nI L) (nI a') (-1) tp 59).bind fun o184 => some (.inl (o184.1, o184.2, nt', nh', ns')) := rfl
        rcases gmarkB hL ht k2 (-1) with ⟨q1, q2, q3⟩ | ⟨q2, q3⟩
        · obtain ⟨r1, r2, -⟩ := gSk_sp bs k2
          have s1 : zf_X5_parse_l14 (nI c) (nI r) (nI L) bs 1 (nI i) to ts st (nI a) bg (-1) = some (.inl (1, nI (i + 1), to', ts', st', nI (gSk bs L a' + 1), nI (gSk bs L a'), -1)) := by
            rw [hdr, k6, Option.bind_some]
            dsimp only
            rw [if_neg (show ¬ (1 : Int32) = 0 by decide), q2, Option.bind_some]
            dsimp only
            rw [if_neg (show ¬ (1 : Int32) = 0 by decide)]
            unfold zf_X5_parse_57
            rw [nI_1]
          have s2 : zf_X9_read_l111 (nI L) (nI c) (nI r) tp (nI a) (-1) nt nh ns = some (.inl (nI (gSk bs L a' + 1), -1, nt', nh', ns')) := by
            rw [k7, k181, q3]
            rfl
          obtain ⟨oc, om, z1, z2, z3⟩ := ih (gSk bs L a' + 1) (i + 1) n m g' to' ts' st' nt' nh' ns' (nI (gSk bs L a')) (k3.trans rfl) (k4.trans rfl) (by omega) (by omega) (by omega) (by omega) (by omega) k5
          refine ⟨oc, om, ?_, ?_, z3⟩
          · rw [gzL (f := fun d : Int32 × Int32 × Int64 × Int64 × Int64 × Int32 × Int32 × Int32 => zf_X5_parse_l14 (nI c) (nI r) (nI L) bs d.1 d.2.1 d.2.2.1 d.2.2.2.1 d.2.2.2.2.1 d.2.2.2.2.2.1 d.2.2.2.2.2.2.1 d.2.2.2.2.2.2.2) (a := (1, nI i, to, ts, st, nI a, bg, -1)) (a' := (1, nI (i + 1), to', ts', st', nI (gSk bs L a' + 1), nI (gSk bs L a'), -1)) s1 n]
            exact z1
          · rw [gzL (f := fun d : Int32 × Int32 × (Nat → Int32) × (Nat → Int32) × (Nat → Int32) => zf_X9_read_l111 (nI L) (nI c) (nI r) tp d.1 d.2.1 d.2.2.1 d.2.2.2.1 d.2.2.2.2) (a := (nI a, -1, nt, nh, ns)) (a' := (nI (gSk bs L a' + 1), -1, nt', nh', ns')) s2 m]
            exact z2
        · obtain ⟨r1, r2, -⟩ := gSk_sp bs k2
          refine fail (gSk bs L a') to' ts' st' (nI (gSk bs L a')) (nI (gSk bs L a')) (nI (gSk bs L a')) nt' nh' ns' r2 ?_ ?_
          · rw [hdr, k6, Option.bind_some]
            dsimp only
            rw [if_neg (show ¬ (1 : Int32) = 0 by decide), q2, Option.bind_some]
            dsimp only
            rw [if_pos rfl]
            unfold zf_X5_parse_56 zf_X5_parse_57
            rw [nI_1]
          · rw [k7, k181, q3]
            rfl
      · refine fail f to' ts' st' w b2 at' nt' nh' ns' k1 ?_ ?_
        · rw [hdr, k6, Option.bind_some]
          dsimp only
          rw [if_pos rfl]
          unfold zf_X5_parse_56 zf_X5_parse_57
          rw [nI_1]
        · rw [k7]
          unfold zf_X9_read_181 zf_X9_must
          rw [if_neg (gn1 (show f < 2 ^ 31 by omega))]
          rfl
