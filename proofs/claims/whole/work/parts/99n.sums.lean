/-! the counting of a row as a sum over the choices of its free pipes -/
def gCst (g : gG) (q : Nat × Nat) (D : Nat → Nat → Nat) (s k : Nat) : Nat :=
  if gHow g q.1 = 0 then (if q.1 % 2 = 0 then (if k = 0 then 0 else gInto g q.2 s (fun t => D t (k - 1))) + D s k else gInto g q.2 s (fun t => D t k) + (if k = 0 then 0 else D s (k - 1))) else if gHow g q.1 = (if q.1 % 2 = 0 then 1 else 2) then gInto g q.2 s (fun t => D t k) else D s k
def gCl (g : gG) : List (Nat × Nat) → (Nat → Nat → Nat) → Nat → Nat → Nat
  | [], D => D
  | q :: P, D => gCl g P (gCst g q D)
theorem gC_cst (g : gG) (i : Nat) : gC g (i + 1) = gCst g (gStep g i) (gC g i) := by
  funext s k
  rw [gCS]
  rfl
theorem gC_cl (g : gG) (P : List (Nat × Nat)) : ∀ i, (∀ j q, P[j]? = some q → gStep g (i + j) = q) → gC g (i + P.length) = gCl g P (gC g i) := by
  induction P with
  | nil => intro i _; rfl
  | cons q P ih =>
    intro i h
    have h0 : gStep g i = q := h 0 q rfl
    have := ih (i + 1) (fun j q' hj => by rw [show i + 1 + j = i + (j + 1) by omega]; exact h (j + 1) q' hj)
    rw [List.length_cons, show i + (P.length + 1) = i + 1 + P.length by omega, this, gC_cst, h0]
    rfl
def gMi (g : gG) (q : Nat × Nat) (b : Bool) (s : Nat) : Nat := if b = decide (q.1 % 2 = 0) then gMv g.1 q.2 s else s
def gAt (g : gG) : List (Nat × Nat) → (Nat → Nat → Nat) → Nat → Nat → Nat
  | [], f, s, m => f s m
  | q :: P, f, s, m => if gHow g q.1 = 0 then gAt g P f (gMi g q false s) m + gAt g P f (gMi g q true s) (m + 1) else gAt g P f (gMi g q (decide (gHow g q.1 = 1)) s) m
theorem gAt_add (g : gG) (P : List (Nat × Nat)) (f f' : Nat → Nat → Nat) : ∀ s m, gAt g P (fun u m => f u m + f' u m) s m = gAt g P f s m + gAt g P f' s m := by
  induction P with
  | nil => intro s m; rfl
  | cons q P ih =>
    intro s m
    show (if gHow g q.1 = 0 then _ else _) = (if gHow g q.1 = 0 then _ else _) + (if gHow g q.1 = 0 then _ else _)
    by_cases h : gHow g q.1 = 0
    · rw [if_pos h, if_pos h, if_pos h, ih, ih]; omega
    · rw [if_neg h, if_neg h, if_neg h, ih]
theorem gAt_zero (g : gG) (P : List (Nat × Nat)) : ∀ s m, gAt g P (fun _ _ => 0) s m = 0 := by
  induction P with
  | nil => intro s m; rfl
  | cons q P ih =>
    intro s m
    show (if gHow g q.1 = 0 then _ else _) = 0
    by_cases h : gHow g q.1 = 0
    · rw [if_pos h, ih, ih]
    · rw [if_neg h, ih]
theorem gAt_sum (g : gG) (P : List (Nat × Nat)) (F : Nat → Nat → Nat → Nat) (s m n : Nat) : gAt g P (fun u m => gSum (fun i => F i u m) n) s m = gSum (fun i => gAt g P (F i) s m) n := by
  induction n with
  | zero => exact gAt_zero g P s m
  | succ n ih =>
    show gAt g P (fun u m => gSum (fun i => F i u m) n + F n u m) s m = gSum (fun i => gAt g P (F i) s m) n + gAt g P (F n) s m
    rw [gAt_add g P (fun u m => gSum (fun i => F i u m) n) (F n), ih]
theorem gAt_m1 (g : gG) (P : List (Nat × Nat)) (f : Nat → Nat → Nat) : ∀ s m, gAt g P f s (m + 1) = gAt g P (fun u m => f u (m + 1)) s m := by
  induction P with
  | nil => intro s m; rfl
  | cons q P ih =>
    intro s m
    show (if gHow g q.1 = 0 then _ else _) = (if gHow g q.1 = 0 then _ else _)
    by_cases h : gHow g q.1 = 0
    · rw [if_pos h, if_pos h, ih, ih]
    · rw [if_neg h, if_neg h, ih]
def gFd (t k : Nat) (d : Nat → Nat) (u m : Nat) : Nat := if u = t ∧ m ≤ k then d (k - m) else 0
theorem gFd_add (t k : Nat) (d d' : Nat → Nat) : gFd t k (fun k => d k + d' k) = fun u m => gFd t k d u m + gFd t k d' u m := by
  funext u m
  unfold gFd
  by_cases h : u = t ∧ m ≤ k
  · rw [if_pos h, if_pos h, if_pos h]
  · rw [if_neg h, if_neg h, if_neg h]
theorem gFd_sum (t k : Nat) (d : Nat → Nat → Nat) (n : Nat) : gFd t k (fun k => gSum (fun i => d i k) n) = fun u m => gSum (fun i => gFd t k (d i) u m) n := by
  funext u m
  unfold gFd
  by_cases h : u = t ∧ m ≤ k
  · rw [if_pos h]
    exact gSum_cong (fun i _ => by rw [if_pos h])
  · rw [if_neg h, gSum_z (fun i _ => if_neg h)]
def gShd (d : Nat → Nat) (k : Nat) : Nat := if k = 0 then 0 else d (k - 1)
theorem gFd_sh (t k : Nat) (d : Nat → Nat) : (fun u m => gFd t k d u (m + 1)) = gFd t k (gShd d) := by
  funext u m
  unfold gFd gShd
  by_cases h : u = t ∧ m + 1 ≤ k
  · rw [if_pos h, if_pos ⟨h.1, by omega⟩, if_neg (by omega), show k - m - 1 = k - (m + 1) by omega]
  · rw [if_neg h]
    by_cases h2 : u = t ∧ m ≤ k
    · rw [if_pos h2, if_pos (by omega)]
    · rw [if_neg h2]
theorem gFd_if (t k : Nat) (b : Prop) [Decidable b] (d : Nat → Nat) : gFd t k (fun k => if b then d k else 0) = fun u m => if b then gFd t k d u m else 0 := by
  funext u m
  unfold gFd
  by_cases h : u = t ∧ m ≤ k
  · rw [if_pos h, if_pos h]
  · rw [if_neg h, if_neg h]
    by_cases q : b
    · rw [if_pos q]
    · rw [if_neg q]
theorem gAt_into {g : gG} (hw : gWf g) (P : List (Nat × Nat)) {slot : Nat} (hv : gVs g.1 slot = true) (E : Nat → Nat → Nat) (t k : Nat) : gSum (fun s => gAt g P (gFd t k (fun k => gInto g slot s (fun t => E t k))) s 0) (gSz g.1) = gSum (fun u => gAt g P (gFd t k (E u)) (gMv g.1 slot u) 0) (gSz g.1) := by
  have e : ∀ s, gAt g P (gFd t k (fun k => gInto g slot s (fun t => E t k))) s 0 = gSum (fun u => if gMv g.1 slot u = s then gAt g P (gFd t k (E u)) s 0 else 0) (gSz g.1) := by
    intro s
    have e1 : (fun k => gInto g slot s (fun t => E t k)) = fun k => gSum (fun u => (fun k => if gMv g.1 slot u = s then E u k else 0) k) (gSz g.1) := rfl
    rw [e1, gFd_sum t k (fun u k => if gMv g.1 slot u = s then E u k else 0), gAt_sum g P (fun u => gFd t k (fun k => if gMv g.1 slot u = s then E u k else 0))]
    refine gSum_cong (fun u _ => ?_)
    rw [gFd_if]
    by_cases q : gMv g.1 slot u = s
    · rw [if_pos q]; simp only [if_pos q]
    · rw [if_neg q]; simp only [if_neg q]; exact gAt_zero g P s 0
  rw [gSum_cong (fun s _ => e s), gSum_swap]
  refine gSum_cong (fun u hu => ?_)
  exact gSum_one (fun s => gAt g P (gFd t k (E u)) s 0) (gMvI' hw.1.2 hv hu).2
theorem gCl_at {g : gG} (hw : gWf g) (P : List (Nat × Nat)) (t k : Nat) (ht : t < gSz g.1) : ∀ D, (∀ q ∈ P, gVs g.1 q.2 = true) → gCl g P D t k = gSum (fun s => gAt g P (gFd t k (D s)) s 0) (gSz g.1) := by
  induction P with
  | nil =>
    intro D _
    show D t k = gSum (fun s => gFd t k (D s) s 0) (gSz g.1)
    rw [← gSum_one (a := t) (fun s => D s k) ht]
    refine gSum_cong (fun s _ => ?_)
    unfold gFd
    by_cases h : t = s
    · rw [if_pos h, if_pos ⟨h.symm, Nat.zero_le _⟩]; rfl
    · rw [if_neg h, if_neg (fun q => h q.1.symm)]
  | cons q P ih =>
    intro D hP
    have hv := hP q (List.mem_cons_self ..)
    have ih := fun D => ih D (fun q hq => hP q (List.mem_cons_of_mem _ hq))
    show gCl g P (gCst g q D) t k = _
    rw [ih]
    have h2 := gHow2 hw q.1
    -- the two ways a step is made
    have mvT : ∀ b s, b = decide (q.1 % 2 = 0) → gMi g q b s = gMv g.1 q.2 s := fun b s h => if_pos h
    have mvF : ∀ b s, b ≠ decide (q.1 % 2 = 0) → gMi g q b s = s := fun b s h => if_neg h
    have into0 : ∀ s k, (if k = 0 then 0 else gInto g q.2 s (fun t => D t (k - 1))) = gInto g q.2 s (fun t => gShd (D t) k) := by
      intro s k
      unfold gShd
      by_cases h : k = 0
      · rw [if_pos h]; simp only [if_pos h]; exact (gInto0 (fun _ => rfl)).symm
      · rw [if_neg h]; simp only [if_neg h]
    by_cases h : gHow g q.1 = 0
    · have e2 : ∀ s, gAt g (q :: P) (gFd t k (D s)) s 0 = gAt g P (gFd t k (D s)) (gMi g q false s) 0 + gAt g P (gFd t k (gShd (D s))) (gMi g q true s) 0 := by
        intro s
        show (if gHow g q.1 = 0 then gAt g P (gFd t k (D s)) (gMi g q false s) 0 + gAt g P (gFd t k (D s)) (gMi g q true s) (0 + 1) else _) = _
        rw [if_pos h, gAt_m1, gFd_sh]
      rw [gSum_cong (fun s _ => e2 s), gSum_add]
      by_cases pe : q.1 % 2 = 0
      · have e1 : ∀ s, gCst g q D s = fun k => gInto g q.2 s (fun t => gShd (D t) k) + D s k := by
          intro s
          funext k
          unfold gCst
          rw [if_pos h, if_pos pe, into0]
        have e3 : ∀ s, gAt g P (gFd t k (gCst g q D s)) s 0 = gAt g P (gFd t k (fun k => gInto g q.2 s (fun t => gShd (D t) k))) s 0 + gAt g P (gFd t k (D s)) s 0 := by
          intro s
          rw [e1, gFd_add t k (fun k => gInto g q.2 s (fun t => gShd (D t) k)) (D s), gAt_add]
        rw [gSum_cong (fun s _ => e3 s), gSum_add, gAt_into hw P hv (fun t => gShd (D t)), Nat.add_comm]
        congr 1
        · exact gSum_cong (fun s _ => by rw [mvF false s (by rw [decide_eq_true pe]; decide)])
        · exact gSum_cong (fun s _ => by rw [mvT true s (by rw [decide_eq_true pe])])
      · have e1 : ∀ s, gCst g q D s = fun k => gInto g q.2 s (fun t => D t k) + gShd (D s) k := by
          intro s
          funext k
          unfold gCst
          rw [if_pos h, if_neg pe]
          rfl
        have e3 : ∀ s, gAt g P (gFd t k (gCst g q D s)) s 0 = gAt g P (gFd t k (fun k => gInto g q.2 s (fun t => D t k))) s 0 + gAt g P (gFd t k (gShd (D s))) s 0 := by
          intro s
          rw [e1, gFd_add t k (fun k => gInto g q.2 s (fun t => D t k)) (gShd (D s)), gAt_add]
        rw [gSum_cong (fun s _ => e3 s), gSum_add, gAt_into hw P hv D]
        congr 1
        · exact gSum_cong (fun s _ => by rw [mvT false s (by rw [decide_eq_false pe])])
        · exact gSum_cong (fun s _ => by rw [mvF true s (by rw [decide_eq_false pe]; decide)])
    · have e2 : ∀ s, gAt g (q :: P) (gFd t k (D s)) s 0 = gAt g P (gFd t k (D s)) (gMi g q (decide (gHow g q.1 = 1)) s) 0 := by
        intro s
        show (if gHow g q.1 = 0 then _ else _) = _
        rw [if_neg h]
      rw [gSum_cong (fun s _ => e2 s)]
      by_cases hm : gHow g q.1 = (if q.1 % 2 = 0 then 1 else 2)
      · have e1 : ∀ s, gCst g q D s = fun k => gInto g q.2 s (fun t => D t k) := by
          intro s
          funext k
          unfold gCst
          rw [if_neg h, if_pos hm]
        rw [gSum_cong (fun s _ => by rw [e1 s]), gAt_into hw P hv D]
        refine gSum_cong (fun s _ => ?_)
        rw [mvT _ s]
        by_cases pe : q.1 % 2 = 0
        · rw [if_pos pe] at hm; rw [hm, decide_eq_true pe]; rfl
        · rw [if_neg pe] at hm; rw [hm, decide_eq_false pe]; rfl
      · have e1 : ∀ s, gCst g q D s = D s := by
          intro s
          funext k
          unfold gCst
          rw [if_neg h, if_neg hm]
        refine gSum_cong (fun s _ => ?_)
        rw [e1, mvF _ s]
        by_cases pe : q.1 % 2 = 0
        · rw [if_pos pe] at hm
          rw [decide_eq_true pe, decide_eq_false hm]; decide
        · rw [if_neg pe] at hm
          rw [decide_eq_false pe, decide_eq_true (by omega)]; decide
/-- a choice changed at a pipe -/
def gBu (op : Nat → Bool) (p : Nat) (b : Bool) : Nat → Bool := fun x => if x = p then b else op x
def gAl : List Nat → ((Nat → Bool) → Nat → Nat) → (Nat → Bool) → Nat → Nat
  | [], F, op, m => F op m
  | p :: ps, F, op, m => gAl ps F (gBu op p false) m + gAl ps F (gBu op p true) (m + 1)
def gRn (g : gG) : List (Nat × Nat) → (Nat → Bool) → Nat → Nat
  | [], _, s => s
  | q :: P, op, s => gRn g P op (gMi g q (op q.1) s)
def gFrL (g : gG) (P : List (Nat × Nat)) : List Nat := (P.map (fun q => q.1)).filter (fun p => decide (gHow g p = 0))
theorem gAl_cong (ps : List Nat) {F F' : (Nat → Bool) → Nat → Nat} : ∀ op m, (∀ op', (∀ x, x ∉ ps → op' x = op x) → ∀ m, F op' m = F' op' m) → gAl ps F op m = gAl ps F' op m := by
  induction ps with
  | nil => intro op m h; exact h op (fun _ _ => rfl) m
  | cons p ps ih =>
    intro op m h
    show gAl ps F (gBu op p false) m + gAl ps F (gBu op p true) (m + 1) = gAl ps F' (gBu op p false) m + gAl ps F' (gBu op p true) (m + 1)
    have key : ∀ b m, gAl ps F (gBu op p b) m = gAl ps F' (gBu op p b) m := by
      intro b m
      refine ih (gBu op p b) m (fun op' ho m => h op' (fun x hx => ?_) m)
      rw [ho x (fun k => hx (List.mem_cons_of_mem _ k))]
      exact if_neg (fun k => hx (by rw [k]; exact List.mem_cons_self ..))
    rw [key, key]
theorem gAt_al (g : gG) (P : List (Nat × Nat)) (f : Nat → Nat → Nat) : ∀ op s m, (P.map (fun q => q.1)).Nodup → (∀ q ∈ P, gHow g q.1 ≠ 0 → op q.1 = decide (gHow g q.1 = 1)) → gAt g P f s m = gAl (gFrL g P) (fun op m => f (gRn g P op s) m) op m := by
  induction P with
  | nil => intro op s m _ _; rfl
  | cons q P ih =>
    intro op s m hn ho
    rw [List.map_cons, List.nodup_cons] at hn
    have key : ∀ b, (∀ q' ∈ P, gHow g q'.1 ≠ 0 → gBu op q.1 b q'.1 = decide (gHow g q'.1 = 1)) := by
      intro b q' hq h
      rw [← ho q' (List.mem_cons_of_mem _ hq) h]
      exact if_neg (fun k => hn.1 (by rw [← k]; exact List.mem_map.mpr ⟨q', hq, rfl⟩))
    have hnf : q.1 ∉ gFrL g P := fun k => hn.1 (List.mem_filter.mp k).1
    show (if gHow g q.1 = 0 then gAt g P f (gMi g q false s) m + gAt g P f (gMi g q true s) (m + 1) else gAt g P f (gMi g q (decide (gHow g q.1 = 1)) s) m) = _
    by_cases h : gHow g q.1 = 0
    · rw [if_pos h]
      have eL : gFrL g (q :: P) = q.1 :: gFrL g P := by
        unfold gFrL
        rw [List.map_cons, List.filter_cons, if_pos (decide_eq_true h)]
      rw [eL]
      show _ = gAl (gFrL g P) (fun op m => f (gRn g (q :: P) op s) m) (gBu op q.1 false) m + gAl (gFrL g P) (fun op m => f (gRn g (q :: P) op s) m) (gBu op q.1 true) (m + 1)
      have k2 : ∀ b m, gAt g P f (gMi g q b s) m = gAl (gFrL g P) (fun op m => f (gRn g (q :: P) op s) m) (gBu op q.1 b) m := by
        intro b m
        rw [ih (gBu op q.1 b) (gMi g q b s) m hn.2 (key b)]
        refine gAl_cong _ _ _ (fun op' ho' m => ?_)
        show f (gRn g P op' (gMi g q b s)) m = f (gRn g P op' (gMi g q (op' q.1) s)) m
        rw [ho' q.1 hnf, show gBu op q.1 b q.1 = b from if_pos rfl]
      rw [k2, k2]
    · rw [if_neg h]
      have eL : gFrL g (q :: P) = gFrL g P := by
        unfold gFrL
        rw [List.map_cons, List.filter_cons, if_neg (by rw [decide_eq_false h]; decide)]
      rw [eL, ih op _ m hn.2 (fun q' hq => ho q' (List.mem_cons_of_mem _ hq))]
      refine gAl_cong _ _ _ (fun op' ho' m => ?_)
      show f (gRn g P op' (gMi g q (decide (gHow g q.1 = 1)) s)) m = f (gRn g P op' (gMi g q (op' q.1) s)) m
      rw [ho' q.1 hnf, ho q (List.mem_cons_self ..) h]
theorem gBu_comm (op : Nat → Bool) {p q : Nat} (h : p ≠ q) (a b : Bool) : gBu (gBu op p a) q b = gBu (gBu op q b) p a := by
  funext x
  unfold gBu
  by_cases h1 : x = q
  · rw [if_pos h1, if_neg (by omega), if_pos h1]
  · rw [if_neg h1, if_neg h1]
theorem gAl_perm {ps qs : List Nat} (h : ps.Perm qs) (F : (Nat → Bool) → Nat → Nat) : ∀ op m, gAl ps F op m = gAl qs F op m := by
  induction h with
  | nil => intro op m; rfl
  | cons p _ ih =>
    intro op m
    show gAl _ F (gBu op p false) m + gAl _ F (gBu op p true) (m + 1) = gAl _ F (gBu op p false) m + gAl _ F (gBu op p true) (m + 1)
    rw [ih, ih]
  | swap p q ps =>
    intro op m
    show (gAl ps F (gBu (gBu op q false) p false) m + gAl ps F (gBu (gBu op q false) p true) (m + 1)) + (gAl ps F (gBu (gBu op q true) p false) (m + 1) + gAl ps F (gBu (gBu op q true) p true) (m + 1 + 1)) = (gAl ps F (gBu (gBu op p false) q false) m + gAl ps F (gBu (gBu op p false) q true) (m + 1)) + (gAl ps F (gBu (gBu op p true) q false) (m + 1) + gAl ps F (gBu (gBu op p true) q true) (m + 1 + 1))
    by_cases e : p = q
    · rw [e]
    · rw [gBu_comm op e, gBu_comm op e, gBu_comm op e, gBu_comm op e]; omega
  | trans _ _ ih1 ih2 => intro op m; rw [ih1, ih2]
theorem gAl_app (ps qs : List Nat) (F : (Nat → Bool) → Nat → Nat) : ∀ op m, gAl (ps ++ qs) F op m = gAl ps (fun op m => gAl qs F op m) op m := by
  induction ps with
  | nil => intro op m; rfl
  | cons p ps ih =>
    intro op m
    show gAl (ps ++ qs) F (gBu op p false) m + gAl (ps ++ qs) F (gBu op p true) (m + 1) = _
    rw [ih, ih]
    rfl
/-- a choice by the bits of a mask -/
def gOm (fo : Nat → Nat) (mask : Nat) (op : Nat → Bool) : Nat → Nat → Bool
  | 0 => op
  | n + 1 => gBu (gOm fo mask op n) (fo n) (mask.testBit n)
theorem gOm_low {fo : Nat → Nat} {mask mask' : Nat} (op : Nat → Bool) {n : Nat} (h : ∀ i, i < n → mask.testBit i = mask'.testBit i) : gOm fo mask op n = gOm fo mask' op n := by
  induction n with
  | zero => rfl
  | succ n ih =>
    show gBu (gOm fo mask op n) (fo n) (mask.testBit n) = gBu (gOm fo mask' op n) (fo n) (mask'.testBit n)
    rw [ih (fun i hi => h i (by omega)), h n (by omega)]
theorem gSum_split (f : Nat → Nat) (a b : Nat) : gSum f (a + b) = gSum f a + gSum (fun i => f (a + i)) b := by
  induction b with
  | zero => rfl
  | succ b ih =>
    show gSum f (a + b) + f (a + b) = gSum f a + (gSum (fun i => f (a + i)) b + f (a + b))
    rw [ih]; omega
theorem gAl_mask (fo : Nat → Nat) (n : Nat) : ∀ (F : (Nat → Bool) → Nat → Nat) (op : Nat → Bool) (m : Nat), gSum (fun mask => F (gOm fo mask op n) (m + gct mask.testBit n)) (2 ^ n) = gAl ((List.range n).map fo) F op m := by
  induction n with
  | zero =>
    intro F op m
    show 0 + F op (m + 0) = F op m
    rw [Nat.zero_add]; rfl
  | succ n ih =>
    intro F op m
    rw [List.range_succ, List.map_append, gAl_app, ← ih, Nat.pow_succ, Nat.mul_two, gSum_split, ← gSum_add]
    refine gSum_cong (fun mask hm => ?_)
    have b1 : mask.testBit n = false := Nat.testBit_lt_two_pow hm
    have b2 : (2 ^ n + mask).testBit n = true := by rw [Nat.testBit_two_pow_add_eq, b1]; rfl
    have lo : ∀ i, i < n → (2 ^ n + mask).testBit i = mask.testBit i := fun i hi => Nat.testBit_two_pow_add_gt hi mask
    show F (gBu (gOm fo mask op n) (fo n) (mask.testBit n)) (m + gct mask.testBit (n + 1)) + F (gBu (gOm fo (2 ^ n + mask) op n) (fo n) ((2 ^ n + mask).testBit n)) (m + gct (2 ^ n + mask).testBit (n + 1)) = F (gBu (gOm fo mask op n) (fo n) false) (m + gct mask.testBit n) + F (gBu (gOm fo mask op n) (fo n) true) (m + gct mask.testBit n + 1)
    rw [gctS, gctS, b1, b2, gOm_low op lo, gct_cong lo]
    rfl
