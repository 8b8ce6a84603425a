/-! arrays of grids; what may be null; switches -/
def zin (o : Option Nat) (L : List Nat) : Bool := match o with
  | none => true
  | some g => decide (g ∈ L)
theorem zog {α : Type} {o : Option Nat} {L : List Nat} {a : Option α} {z : α} (e : (if zin o L = true then a else none) = some z) : (∀ g, o = some g → g ∈ L) ∧ a = some z := by
  by_cases h : zin o L = true
  · rw [if_pos h] at e
    refine ⟨fun g hg => ?_, e⟩
    subst hg
    exact of_decide_eq_true h
  · rw [if_neg h] at e
    cases e
theorem zoN {α : Type} {o : Option Nat} {a : Option α} {f : Nat → Option α} {z : α} (h : o = none) (e : Option.elim o a f = some z) : a = some z := by subst h; exact e
theorem zoS {α : Type} {o : Option Nat} {g : Nat} {a : Option α} {f : Nat → Option α} {z : α} (h : o = some g) (e : Option.elim o a f = some z) : f g = some z := by subst h; exact e
section ZO
variable {p : Program} {l : Launch} {e : Env} {R : Room} {s : State} {m : MethodId} {args : Array Value} {below : List Frame} {meth : Method} {c : Code} {H : Heap} {locs : List Loc} {cells slots : Nat} {Q : State → Prop} {D : va_G} {y : zY} {A : Nat → Prop} {own : String} {cc : ByteArray} {mL : Nat} {ret : Option FieldType} {pc : Nat} {ls : Array Slot} {rest : List Value} {Xs : va_W} {a : Nat}
theorem zcaseO {o : Option Nat} (hn : o = none → W p l e R s m args below meth c H locs cells slots Q (F0 m pc ls (.null :: rest))) (hs : ∀ g, o = some g → W p l e R s m args below meth c H locs cells slots Q (F0 m pc ls (.ref g :: rest))) : W p l e R s m args below meth c H locs cells slots Q (F0 m pc ls (va_rf o :: rest)) := by
  cases o with
  | none => exact hn rfl
  | some g => exact hs g rfl
theorem zaast {L : List Nat} {G : Nat → zGD} {o : Option Nat} (X : zX p s m args meth c D y A own cc mL ret) (hP : va_P D vwCl (Xs ++ zpl L G) H) (hD : va_D A (Xs ++ zpl L G)) (hS : va_S A s.heap H locs) (q0 : Nat) {n : Nat} {f : Nat → Option Nat} {i : Int32} (ha : (Xs ++ zpl L G)[q0]? = some (a, .inl (y.2.2.2, n, .inr (.inr (.inr (.inr f)))))) (hin : vp_in i n) (ho : ∀ g, o = some g → g ∈ L) (hd : decode cc pc = .ok (.aastore, 1))
    (k : ∀ (H' : Heap) (locs' : List Loc), va_P D vwCl ((Xs ++ zpl L G).set q0 (a, .inl (y.2.2.2, n, .inr (.inr (.inr (.inr (va_up f i.toNatClampNeg o))))))) H' → va_D A ((Xs ++ zpl L G).set q0 (a, .inl (y.2.2.2, n, .inr (.inr (.inr (.inr (va_up f i.toNatClampNeg o))))))) → va_S A s.heap H' locs' → W p l e R s m args below meth c H' locs' cells slots Q (F0 m (pc + 1) ls rest)) : W p l e R s m args below meth c H locs cells slots Q (F0 m pc ls (va_rf o :: .int i :: .ref a :: rest)) := by
  obtain ⟨hx, hb, hr, hml, hown, hts, hK, hA, hlocks, hN'⟩ := X
  cases o with
  | none => exact va_astqN (C := "WaterGrid$Grid") hx hb hK hP hD hS q0 3 ha rfl hin hd k
  | some g =>
    obtain ⟨i9, hi9⟩ := List.getElem?_of_mem (List.mem_append_right Xs (zpl_mem (G := G) (ho g rfl)))
    exact va_astq (r := (RX2, TX2, 8)) hx hb hK hP hD hS q0 3 i9 2 ha rfl hi9 rfl hin hd k
end ZO
theorem ztsO {x : Int32} {n : Nat} (hn : n < 1000) (h : ∀ k, k ≤ n → ¬ x = nI k) : x.toInt < 0 ∨ (n : Int) < x.toInt := by
  by_cases h0 : x.toInt < 0
  · exact Or.inl h0
  · by_cases h1 : (n : Int) < x.toInt
    · exact Or.inr h1
    · exfalso
      have hk : x.toInt.toNat ≤ n := by omega
      refine h x.toInt.toNat hk ?_
      rw [← Int32.toInt_inj, nI_toInt (by omega)]
      omega
/-! constructors: arrays whose length is told; a constructor that the nest keeps private -/
def zlg (n : Int32) : Bool := decide (¬ n < 0 ∧ n.toNatClampNeg ≤ 16500)
theorem zlt {α : Type} {n : Int32} {a : Option α} {z : α} (e : (if zlg n = true then a else none) = some z) : (¬ n < 0 ∧ n.toNatClampNeg ≤ 16500) ∧ a = some z := by
  by_cases h : zlg n = true
  · rw [if_pos h] at e
    exact ⟨of_decide_eq_true h, e⟩
  · rw [if_neg h] at e
    cases e
def zCN (own : String) (idx : Nat) (yn : MethodName) (cb : ByteArray) (mL n : Nat) : Prop :=
  Cond.code yn cb mL none ∈ wAll ∧ Cond.initialized yn.cls ∈ wAll ∧ (own, idx, yn, "WaterGrid") ∈ znests ∧ (yn.cls ≠ "java/lang/invoke/MethodHandle" ∧ yn.cls ≠ "java/lang/invoke/VarHandle" ∧ (parseMethodDescriptor yn.desc).map (fun d => d.parameters.length) = some n) ∧ Cond.instanceMethod yn ∈ wAll ∧ yn.name = "<init>"
section ZNN
variable {p : Program} {l : Launch} {e : Env} {R : Room} {s : State} {m : MethodId} {args : Array Value} {below : List Frame} {meth : Method} {c : Code} {H : Heap} {locs : List Loc} {cells slots : Nat} {Q : State → Prop} {D : va_G} {y : zY} {A : Nat → Prop} {own : String} {cc : ByteArray} {mL : Nat} {ret : Option FieldType} {pc : Nat} {ls : Array Slot} {rest : List Value} {ws wc wr : va_W} {b : Nat}
variable {yn : MethodName} {cb : ByteArray} {mL' idx n : Nat} {rm : Room} {av : List Value} {P : Option Value → va_W → Prop} {st : List Value}
theorem zcIN (X : zX p s m args meth c D y A own cc mL ret) (hC : zC l D y yn cb mL' none rm (.ref b :: av) wc P) (cf : zCN own idx yn cb mL' n) (hR : rm.frames + 1 ≤ R.frames ∧ 8 + (mL' + 11) + rm.locals ≤ R.locals) (hP : va_P D vwCl ws H) (hD : va_D A ws) (hS : va_S A s.heap H locs) (isC isR : List Nat) (hc : isC.map (fun i => ws[i]?) = wc.map some) (hr : isR.map (fun i => ws[i]?) = wr.map some) (hn : va_nd isR = true) (hnC : va_nd isC = true) (hdis : ∀ i ∈ isR, i ∉ isC)
    (hst : st = av.reverse ++ .ref b :: rest) (hlen : av.length = n) (hls : ls.size = mL) (hW : (rest.map fun v => v.category).sum ≤ 8) (hd : decode cc pc = .ok (.invokespecial idx, 3)) (hcl : cells + rm.cells ≤ R.cells ∧ slots + rm.slots ≤ R.slots)
    (k : ∀ (v : Option Value) (w : va_W), P v w → ∀ (H' : Heap) (locs' : List Loc), va_P D vwCl (wr ++ w) H' → va_D A (wr ++ w) → va_S A s.heap H' locs' → W p l e R s m args below meth c H' locs' (cells + rm.cells) (slots + rm.slots) Q (F0 m (pc + 3) ls (v.toList ++ rest))) : W p l e R s m args below meth c H locs cells slots Q (F0 m pc ls st) := by
  obtain ⟨hx, hb, hr', hml, hown, hts, hK, hA, hlocks, hN⟩ := id X
  obtain ⟨c1, c2, c3, c4, c5, c6⟩ := cf
  have hnest := hN.2.2.2.2.2.2.2.1 _ c3
  exact zafter X hP hD hS isC isR hc hr hn hdis (va_runIN (As := av) (rest := rest) ⟨hx, hb, hml, hown, hts⟩ (hC H.size) ⟨va_cnB n hts (fun w h => (List.mem_cons.mp h).elim (fun e => e ▸ wAll_good _ c1) (fun h => wAll_good _ h)) rfl rfl rfl hnest (hts _ c2) c4 hR, c6, hts _ c5⟩ (zpre X (zPsub hP hc) (hD.sub isC hnC hc) hS (va_free hD hS hA isC hc)) rfl hlen hls hst (lv_room hW) hd hcl) k
end ZNN
