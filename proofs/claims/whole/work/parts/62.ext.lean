/-! a pool that grows behind a call -/
def zext (L : List Nat) (G : Nat → zGD) (L1 : List Nat) (G1 : Nat → zGD) : Prop := ∀ g ∈ L, g ∈ L1 ∧ G1 g = G g
theorem zext0 {L : List Nat} {G : Nat → zGD} : zext L G L G := fun _ h => ⟨h, rfl⟩
theorem zextp {L : List Nat} {G : Nat → zGD} {q : Nat} {d : zGD} (hq : q ∉ L) : zext L G (L ++ [q]) (va_up G q d) := fun g h => ⟨List.mem_append_left _ h, va_up_ne G d (fun e => hq (e ▸ h))⟩
theorem zextt {L L1 L2 : List Nat} {G G1 G2 : Nat → zGD} (h : zext L G L1 G1) (h' : zext L1 G1 L2 G2) : zext L G L2 G2 := fun g hg => ⟨(h' g (h g hg).1).1, ((h' g (h g hg).1).2).trans (h g hg).2⟩
theorem zinp {L : List Nat} {q : Nat} : zin (some q) (L ++ [q]) = true := decide_eq_true (List.mem_append_right _ (List.mem_singleton.mpr rfl))
theorem zne {L : List Nat} {q : Nat} {f : Option Nat} (h : zin f L = true) (hq : q ∉ L) : f ≠ some q := fun e => by
  subst e
  exact hq (of_decide_eq_true h)
theorem zfol {fb : Int32} {f : Option Nat} {fu lc lz r : Int32} {st op sh fr : Int64} {c1 c2 : Nat → Int64} {c3 : Nat → Int32} {c4 : Nat → Int64} {k1 k2 k3 k4 k5 k6 : Nat → Int32} {n1 n2 q : Nat} {o : Option Nat × Int32 × (Nat → Int64) × (Nat → Int64) × (Nat → Int32) × (Nat → Int64)} (h : zf_X1_follow fb none fu lc lz r st op sh fr c1 c2 c3 c4 k1 k2 k3 k4 k5 k6 n1 n2 0 = some o) (hne : f ≠ some q) : zf_X1_follow fb f fu lc lz r st op sh fr c1 c2 c3 c4 k1 k2 k3 k4 k5 k6 n1 n2 q = some (some q, o.2) := by
  unfold zf_X1_follow at h ⊢
  rw [if_neg hne]
  rw [if_neg (by intro e; cases e)] at h
  obtain ⟨o1, h1, h⟩ := zb h
  obtain ⟨o2, h2, h⟩ := zb h
  obtain ⟨o3, h3, h⟩ := zb h
  obtain rfl := Option.some.inj h
  rw [h1, Option.bind_some, h2, Option.bind_some, h3, Option.bind_some]
theorem znd_of : ∀ {l : List Nat}, l.Nodup → va_nd l = true
  | [], _ => rfl
  | a :: l, h => by
    have h' := List.nodup_cons.mp h
    show (decide (a ∉ l) && va_nd l) = true
    rw [znd_of h'.2, decide_eq_true h'.1]
    rfl
theorem zrng {α : Type} (l : List α) : (List.range l.length).map (fun i => l[i]?) = l.map some := by
  apply List.ext_getElem?
  intro i
  by_cases h : i < l.length
  · simp [h]
  · simp [h]
section ZVW
variable {p : Program} {l : Launch} {e : Env} {R : Room} {s : State} {m : MethodId} {args : Array Value} {below : List Frame} {meth : Method} {c : Code} {H : Heap} {locs : List Loc} {cells slots : Nat} {Q : State → Prop} {D : va_G} {y : zY} {A : Nat → Prop} {own : String} {cc : ByteArray} {mL : Nat} {ret : Option FieldType} {pc : Nat} {ls : Array Slot} {rest : List Value} {ws wc wr cx pl Xs ro w w1 : va_W} {a b : Nat}
variable {yn : MethodName} {cb : ByteArray} {mL' idx n : Nat} {ret' : Option FieldType} {rm : Room} {av : List Value} {P P' : Option Value → va_W → Prop} {PX PX' : String → va_W → Prop} {st : List Value}
theorem zVw (X : zX p s m args meth c D y A own cc mL ret) (hC : zC l D y yn cb mL' ret' rm (.ref b :: av) wc P) (cf : zCB own idx yn cb mL' ret' n ∧ Cond.instanceMethod yn ∈ wAll ∧ Cond.selects yn.cls yn yn ∈ wAll) (hR : rm.frames + 1 ≤ R.frames ∧ 8 + (mL' + 11) + rm.locals ≤ R.locals) (hP : va_P D vwCl wc H) (hD : va_D A wc) (hS : va_S A s.heap H locs)
    (q0 : Nat) {ci : Nat} {fs : List Value} {T : u_T} {N : Nat} (hci : vwCl[ci]? = some (yn.cls, T, N)) (hb0 : wc[q0]? = some (b, .inr (ci, fs))) (hst : st = av.reverse ++ .ref b :: rest) (hlen : av.length = n) (hls : ls.size = mL) (hW : (rest.map fun v => v.category).sum ≤ 8) (hd : decode cc pc = .ok (.invokevirtual idx, 3)) (hcl : cells + rm.cells ≤ R.cells ∧ slots + rm.slots ≤ R.slots)
    (k : ∀ (v : Option Value) (w : va_W), P v w → ∀ (H' : Heap) (locs' : List Loc), va_P D vwCl w H' → va_D A w → va_S A s.heap H' locs' → W p l e R s m args below meth c H' locs' (cells + rm.cells) (slots + rm.slots) Q (F0 m (pc + 3) ls (v.toList ++ rest))) : W p l e R s m args below meth c H locs cells slots Q (F0 m pc ls st) :=
  zcV (wr := []) X hC cf hR hP hD hS (List.range wc.length) [] (zrng wc) rfl rfl (znd_of List.nodup_range) (fun _ h => absurd h List.not_mem_nil) q0 hci hb0 hst hlen hls hW hd hcl k
end ZVW
