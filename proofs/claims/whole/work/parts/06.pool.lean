/-! worlds by their members; a pool of grids behind the explicit cells; what a call leaves -/
abbrev zGD : Type := Int32 × Int32 × Int64 × Int64 × Int64 × Int64 × Int64 × Int64
abbrev zgE (g : zGD) : va_E := .inr (2, [.int g.1, .int g.2.1, .long g.2.2.1, .long g.2.2.2.1, .long g.2.2.2.2.1, .long g.2.2.2.2.2.1, .long g.2.2.2.2.2.2.1, .long g.2.2.2.2.2.2.2])
def zpl (L : List Nat) (G : Nat → zGD) : va_W := va_pl L (fun a => zgE (G a))
theorem zpl_mem {L : List Nat} {G : Nat → zGD} {a : Nat} (h : a ∈ L) : (a, zgE (G a)) ∈ zpl L G := List.mem_map.mpr ⟨a, h, rfl⟩
theorem zP_of {D : va_G} {cl : List vw_C} {ws : va_W} {H : Heap} (h : ∀ q ∈ ws, va_at D cl q H) : va_P D cl ws H := fun k q hk => h q (List.mem_of_getElem? hk)
theorem zP_at {D : va_G} {cl : List vw_C} {ws : va_W} {H : Heap} (h : va_P D cl ws H) {q : Nat × va_E} (hq : q ∈ ws) : va_at D cl q H := by
  obtain ⟨i, hi⟩ := List.getElem?_of_mem hq
  exact h i q hi
theorem zD_eq {A : Nat → Prop} {ws : va_W} (h : va_D A ws) {p q : Nat × va_E} (hp : p ∈ ws) (hq : q ∈ ws) (e : p.1 = q.1) : p = q := by
  obtain ⟨i, hi⟩ := List.getElem?_of_mem hp
  obtain ⟨j, hj⟩ := List.getElem?_of_mem hq
  have := h.1 i j p q hi hj e
  subst this
  exact Option.some.inj (hi.symm.trans hj)
theorem zD_A {A : Nat → Prop} {ws : va_W} (h : va_D A ws) {q : Nat × va_E} (hq : q ∈ ws) : A q.1 := by
  obtain ⟨i, hi⟩ := List.getElem?_of_mem hq
  exact h.2 i q hi
theorem zD_nd {A : Nat → Prop} {ws : va_W} (h : va_D A ws) : (ws.map (·.1)).Nodup := by
  refine List.pairwise_iff_getElem.mpr fun i j hi hj hij e => ?_
  rw [List.getElem_map, List.getElem_map] at e
  have hi' : i < ws.length := by simpa using hi
  have hj' : j < ws.length := by simpa using hj
  have := h.1 i j ws[i] ws[j] (List.getElem?_eq_getElem hi') (List.getElem?_eq_getElem hj') e
  omega
theorem zD_of {A : Nat → Prop} {ws : va_W} (h : (ws.map (·.1)).Nodup) (hA : ∀ q ∈ ws, A q.1) : va_D A ws := by
  refine ⟨fun i j p q hi hj e => ?_, fun k q hk => hA q (List.mem_of_getElem? hk)⟩
  have hp := List.pairwise_iff_getElem.mp h
  obtain ⟨hi', ei⟩ := List.getElem?_eq_some_iff.mp hi
  obtain ⟨hj', ej⟩ := List.getElem?_eq_some_iff.mp hj
  rcases Nat.lt_trichotomy i j with l | l | l
  · exact absurd (by rw [List.getElem_map, List.getElem_map, ei, ej]; exact e) (hp i j (by simpa using hi') (by simpa using hj') l)
  · exact l
  · exact absurd (by rw [List.getElem_map, List.getElem_map, ei, ej]; exact e.symm) (hp j i (by simpa using hj') (by simpa using hi') l)
theorem zA_iff {ws : va_W} {sz q : Nat} : va_A ws sz q ↔ (∃ e, (q, e) ∈ ws) ∨ sz ≤ q := by
  constructor
  · rintro (⟨k, e, h⟩ | h)
    · exact Or.inl ⟨e, List.mem_of_getElem? h⟩
    · exact Or.inr h
  · rintro (⟨e, h⟩ | h)
    · obtain ⟨i, hi⟩ := List.getElem?_of_mem h
      exact Or.inl ⟨i, e, hi⟩
    · exact Or.inr h
/-- the cells of the caller's rest and those that the callee left, where the callee saw some of the rest too and left them as they were -/
theorem zjoin {A0 : Nat → Prop} {D : va_G} {cl : List vw_C} {wr cx pl ro w1 : va_W} {H H1 : Heap} (hP : va_P D cl ((wr ++ cx) ++ pl) H) (hD : va_D A0 ((wr ++ cx) ++ pl)) (hro : ∀ q ∈ ro, q ∈ pl)
    (hk : ∀ q : Nat, q < H.size → ¬ va_A (cx ++ ro) H.size q → H1[q]? = H[q]?) (hF : ∀ q, va_A (cx ++ ro) H.size q → A0 q) (hP1 : va_P D cl (w1 ++ ro) H1) (hD1 : va_D (va_A (cx ++ ro) H.size) (w1 ++ ro)) : va_P D cl ((wr ++ w1) ++ pl) H1 ∧ va_D A0 ((wr ++ w1) ++ pl) := by
  have hnd := zD_nd hD
  have hnd1 := zD_nd hD1
  simp only [List.map_append] at hnd hnd1
  have key : ∀ q ∈ wr ++ pl, va_at D cl q H1 := by
    intro q hq
    have hq0 : q ∈ (wr ++ cx) ++ pl := by
      rcases List.mem_append.mp hq with h | h
      · exact List.mem_append_left _ (List.mem_append_left _ h)
      · exact List.mem_append_right _ h
    have h0 := zP_at hP hq0
    by_cases hv : va_A (cx ++ ro) H.size q.1
    · rcases zA_iff.mp hv with ⟨e, he⟩ | h
      · rcases List.mem_append.mp he with h | h
        · have e1 : (q.1, e) = q := zD_eq hD (List.mem_append_left _ (List.mem_append_right _ h)) hq0 rfl
          rw [e1] at h
          rcases List.mem_append.mp hq with h2 | h2
          · exact absurd rfl ((List.nodup_append.mp (List.nodup_append.mp hnd).1).2.2 q.1 (List.mem_map_of_mem h2) q.1 (List.mem_map_of_mem h))
          · exact absurd rfl ((List.nodup_append.mp hnd).2.2 q.1 (List.mem_append_right _ (List.mem_map_of_mem h)) q.1 (List.mem_map_of_mem h2))
        · have e1 : (q.1, e) = q := zD_eq hD (List.mem_append_right _ (hro _ h)) hq0 rfl
          rw [e1] at h
          exact zP_at hP1 (List.mem_append_right _ h)
      · exact absurd h0.lt (by omega)
    · exact h0.kept (hk q.1 h0.lt hv)
  have hw1 : ∀ q ∈ w1, va_A (cx ++ ro) H.size q.1 := fun q hq => zD_A hD1 (List.mem_append_left _ hq)
  have dis : ∀ a ∈ w1.map (·.1), ∀ b ∈ (wr.map (·.1)) ++ pl.map (·.1), a ≠ b := by
    intro a ha b hb e
    subst e
    obtain ⟨q, hq, rfl⟩ := List.mem_map.mp ha
    have hb2 : ∃ r ∈ wr ++ pl, r.1 = q.1 := by
      rcases List.mem_append.mp hb with h | h
      · obtain ⟨r, hr, e⟩ := List.mem_map.mp h
        exact ⟨r, List.mem_append_left _ hr, e⟩
      · obtain ⟨r, hr, e⟩ := List.mem_map.mp h
        exact ⟨r, List.mem_append_right _ hr, e⟩
    obtain ⟨r, hr, er⟩ := hb2
    have hr0 : r ∈ (wr ++ cx) ++ pl := by
      rcases List.mem_append.mp hr with h | h
      · exact List.mem_append_left _ (List.mem_append_left _ h)
      · exact List.mem_append_right _ h
    rcases zA_iff.mp (hw1 q hq) with ⟨e, he⟩ | h
    · rcases List.mem_append.mp he with h | h
      · have e1 : (q.1, e) = r := zD_eq hD (List.mem_append_left _ (List.mem_append_right _ h)) hr0 er.symm
        rw [e1] at h
        rcases List.mem_append.mp hr with h2 | h2
        · exact absurd rfl ((List.nodup_append.mp (List.nodup_append.mp hnd).1).2.2 r.1 (List.mem_map_of_mem h2) r.1 (List.mem_map_of_mem h))
        · exact absurd rfl ((List.nodup_append.mp hnd).2.2 r.1 (List.mem_append_right _ (List.mem_map_of_mem h)) r.1 (List.mem_map_of_mem h2))
      · exact absurd rfl ((List.nodup_append.mp hnd1).2.2 q.1 (List.mem_map_of_mem hq) q.1 (List.mem_map_of_mem (f := (·.1)) h))
    · have := (zP_at hP hr0).lt
      omega
  refine ⟨zP_of fun q hq => ?_, zD_of ?_ fun q hq => ?_⟩
  · rcases List.mem_append.mp hq with h | h
    · rcases List.mem_append.mp h with h | h
      · exact key q (List.mem_append_left _ h)
      · exact zP_at hP1 (List.mem_append_left _ h)
    · exact key q (List.mem_append_right _ h)
  · simp only [List.map_append]
    refine List.nodup_append.mpr ⟨List.nodup_append.mpr ⟨(List.nodup_append.mp (List.nodup_append.mp hnd).1).1, (List.nodup_append.mp hnd1).1, ?_⟩, (List.nodup_append.mp hnd).2.1, ?_⟩
    · intro a ha b hb e
      exact dis b hb a (List.mem_append_left _ ha) e.symm
    · intro a ha b hb e
      rcases List.mem_append.mp ha with h | h
      · exact (List.nodup_append.mp hnd).2.2 a (List.mem_append_left _ h) b hb e
      · exact dis a h b (List.mem_append_right _ hb) e
  · rcases List.mem_append.mp hq with h | h
    · rcases List.mem_append.mp h with h | h
      · exact zD_A hD (List.mem_append_left _ (List.mem_append_left _ h))
      · exact hF _ (hw1 q h)
    · exact zD_A hD (List.mem_append_right _ h)
/-- some of the explicit cells first, by their places -/
theorem zparts {A : Nat → Prop} {D : va_G} {cl : List vw_C} {X wr cx pl : va_W} {H : Heap} (hP : va_P D cl (X ++ pl) H) (hD : va_D A (X ++ pl)) (isC isR : List Nat) (hc : isC.map (fun i => X[i]?) = cx.map some) (hr : isR.map (fun i => X[i]?) = wr.map some) (hn : va_nd (isR ++ isC) = true) : va_P D cl ((wr ++ cx) ++ pl) H ∧ va_D A ((wr ++ cx) ++ pl) := by
  have hs : (isR ++ isC).map (fun i => X[i]?) = (wr ++ cx).map some := by rw [List.map_append, List.map_append, hc, hr]
  exact ⟨hP.part _ hs, hD.part _ hn hs⟩
/-- a new grid comes into the pool -/
theorem zpush {A : Nat → Prop} {D : va_G} {cl : List vw_C} {X : va_W} {L : List Nat} {G : Nat → zGD} {q : Nat} {d : zGD} {H : Heap} (hP : va_P D cl ((X ++ [(q, zgE d)]) ++ zpl L G) H) (hD : va_D A ((X ++ [(q, zgE d)]) ++ zpl L G)) : q ∉ L ∧ va_P D cl (X ++ zpl (L ++ [q]) (va_up G q d)) H ∧ va_D A (X ++ zpl (L ++ [q]) (va_up G q d)) := by
  have hq : q ∉ L := by
    intro h
    have h1 : (q, zgE d) = (q, zgE (G q)) := zD_eq hD (List.mem_append_left _ (List.mem_append_right _ (List.mem_singleton.mpr rfl))) (List.mem_append_right _ (zpl_mem h)) rfl
    have hnd := zD_nd hD
    simp only [List.map_append] at hnd
    exact (List.nodup_append.mp hnd).2.2 q (List.mem_append_right _ (by simp)) q (List.mem_map_of_mem (f := (·.1)) (zpl_mem (G := G) h)) rfl
  have e : zpl L G ++ [(q, zgE d)] = zpl (L ++ [q]) (va_up G q d) := by
    unfold zpl
    rw [va_pl_push (f := fun a => zgE (G a)) hq]
    congr 1
    funext b
    by_cases hb : b = q
    · simp [va_up, hb]
    · simp [va_up, hb]
  refine ⟨hq, ?_, ?_⟩
  · have h := hP.swap
    rw [List.append_assoc, e] at h
    exact h
  · have h := hD.swap
    rw [List.append_assoc, e] at h
    exact h
