/-! reading: the head of a text -/
theorem gtailF {L c r : Int32} {tp : Nat → Int32} {a f fc fr acts laid : Int32} (hf : ¬ f = -1) (nt nh ns told stone : Nat → Int32) : ((zit (fun d : Int32 × Int32 × (Nat → Int32) × (Nat → Int32) × (Nat → Int32) => zf_X9_read_l111 L c r tp d.1 d.2.1 d.2.2.1 d.2.2.2.1 d.2.2.2.2) zfu (a, f, nt, nh, ns)).bind fun o111 => zf_X9_read_190 0 L o111.1 o111.2.1 c r fc fr acts laid o111.2.2.1 o111.2.2.2.1 o111.2.2.2.2 told stone) = some (0, 1, 0, L, a, f, c, r, fc, fr, acts, laid, nt, nh, ns, told, stone) := by
  have e : zit (fun d : Int32 × Int32 × (Nat → Int32) × (Nat → Int32) × (Nat → Int32) => zf_X9_read_l111 L c r tp d.1 d.2.1 d.2.2.1 d.2.2.2.1 d.2.2.2.2) zfu (a, f, nt, nh, ns) = some (a, f, nt, nh, ns) := gzR (a := (a, f, nt, nh, ns)) (b := (a, f, nt, nh, ns)) (gm10 hf) (gfu (by decide))
  rw [e, Option.bind_some]
  unfold zf_X9_read_190 zf_X9_read_226 zf_X9_read_240
  dsimp only
  rw [if_neg hf, if_neg hf, if_neg (show ¬ (1 : Int32) ≤ 0 by decide)]
theorem gmusF {L a f : Int32} {tp : Nat → Int32} {x : Int32} (hf : ¬ f = -1) : zf_X9_must L a f tp x = some (a, f) := by
  unfold zf_X9_must
  rw [if_neg hf]
/-- behind a fault the reference's head does nothing more -/
theorem gheadF {L a f : Int32} {tp : Nat → Int32} {fc fr acts laid : Int32} (hf : ¬ f = -1) (nt nh ns told stone : Nat → Int32) : zf_X9_read_85 0 L a f fc fr acts laid tp nt nh ns told stone = some (0, 1, 0, L, a, f, 1, 1, fc, fr, acts, laid, nt, nh, ns, told, stone) := by
  unfold zf_X9_read_85
  rw [gdigF hf, Option.bind_some]
  dsimp only
  rw [gdigF hf, Option.bind_some]
  dsimp only
  rw [gmusF hf, Option.bind_some]
  exact gtailF hf nt nh ns told stone
