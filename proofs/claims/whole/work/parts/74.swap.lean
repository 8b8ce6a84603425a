/-! a world's two halves change places -/
theorem zPc {D : va_G} {a b : va_W} {H : Heap} (h : va_P D vwCl (a ++ b) H) : va_P D vwCl (b ++ a) H := zPsub (is := (List.range b.length).map (fun i => a.length + i) ++ List.range a.length) h (by rw [List.map_append, zidxC, zidxR, List.map_append])
theorem zDc {A : Nat → Prop} {a b : va_W} (h : va_D A (a ++ b)) : va_D A (b ++ a) := h.sub ((List.range b.length).map (fun i => a.length + i) ++ List.range a.length) (znd_of (by
  have e : (List.range a.length ++ (List.range b.length).map (fun i => a.length + i)).Nodup := by
    rw [← List.range_add]
    exact List.nodup_range
  rw [List.nodup_append] at e ⊢
  exact ⟨e.2.1, e.1, fun x hx y hy => (e.2.2 y hy x hx).symm⟩)) (by rw [List.map_append, zidxC, zidxR, List.map_append])
