/-! a constructor's call over a pool -/
section ZPC
variable {p : Program} {l : Launch} {e : Env} {R : Room} {s : State} {m : MethodId} {args : Array Value} {below : List Frame} {meth : Method} {c : Code} {H : Heap} {locs : List Loc} {cells slots : Nat} {Q : State → Prop} {D : va_G} {y : zY} {A : Nat → Prop} {own : String} {cc : ByteArray} {mL : Nat} {ret : Option FieldType} {pc : Nat} {ls : Array Slot} {rest : List Value} {ws wc wr cx pl Xs ro w w1 : va_W} {a b : Nat}
variable {yn : MethodName} {cb : ByteArray} {mL' idx n : Nat} {ret' : Option FieldType} {rm : Room} {av : List Value} {P P' : Option Value → va_W → Prop} {PX PX' : String → va_W → Prop} {st : List Value}
theorem zIr (X : zX p s m args meth c D y A own cc mL ret) (hC : zC l D y yn cb mL' none rm (.ref b :: av) wc P) (cf : zCB own idx yn cb mL' none n ∧ Cond.instanceMethod yn ∈ wAll ∧ yn.name = "<init>") (hR : rm.frames + 1 ≤ R.frames ∧ 8 + (mL' + 11) + rm.locals ≤ R.locals) (hP : va_P D vwCl (Xs ++ pl) H) (hD : va_D A (Xs ++ pl)) (hS : va_S A s.heap H locs) (isC isR : List Nat) (hc : isC.map (fun i => Xs[i]?) = cx.map some) (hr : isR.map (fun i => Xs[i]?) = wr.map some) (hn : va_nd (isR ++ isC) = true) (hro : ∀ q ∈ ro, q ∈ pl) (hnr : (ro.map (·.1)).Nodup) (hwc : wc = cx ++ ro) (hst : st = av.reverse ++ .ref b :: rest) (hlen : av.length = n) (hls : ls.size = mL) (hW : (rest.map fun v => v.category).sum ≤ 8) (hd : decode cc pc = .ok (.invokespecial idx, 3)) (hcl : cells + rm.cells ≤ R.cells ∧ slots + rm.slots ≤ R.slots) (k : ∀ (v : Option Value) (w : va_W), P v w → ∃ w1, w = w1 ++ ro ∧ ∀ (H' : Heap) (locs' : List Loc), va_P D vwCl ((wr ++ w1) ++ pl) H' → va_D A ((wr ++ w1) ++ pl) → va_S A s.heap H' locs' → W p l e R s m args below meth c H' locs' (cells + rm.cells) (slots + rm.slots) Q (F0 m (pc + 3) ls (v.toList ++ rest))) : W p l e R s m args below meth c H locs cells slots Q (F0 m pc ls st) := by
  obtain ⟨hx, hb, hr', hml, hown, hts, hK, hA, hlocks, hN⟩ := id X
  obtain ⟨hP9, hD9, hF9⟩ := zsee X hP hD hS isC isR hc hr hn hro hnr
  subst hwc
  exact zaft hP hD hS isC isR hc hr hn hro hF9 (va_runI (As := av) (rest := rest) ⟨hx, hb, hml, hown, hts⟩ (hC H.size) ⟨zcb X cf.1 hR, cf.2.2, hts _ cf.2.1⟩ (zpre X hP9 hD9 hS hF9) rfl hlen hls hst (lv_room hW) hd hcl) k
end ZPC
theorem zpN {α β : Type} {x : Option β} {a : Option α} {f : β → Option α} {z : α} (c : x = none) (h : Option.elim x a f = some z) : a = some z := by
  subst c
  exact h
theorem zpS {α β : Type} {x : Option β} {a : Option α} {f : β → Option α} {z : α} {y : β} (c : x = some y) (h : Option.elim x a f = some z) : f y = some z := by
  subst c
  exact h
