/-! words of the throws -/
theorem at_0 : ∀ w ∈ vx_atS RX5 45 "java/lang/IllegalArgumentException" ["java/lang/RuntimeException", "java/lang/Exception"], w ∈ lw_tbl := by decide +kernel
theorem ag_0 : ∀ w ∈ Cond.classLink RX5 41 "java/lang/IllegalArgumentException" :: Cond.initialized "java/lang/IllegalArgumentException" :: vx_atS RX5 45 "java/lang/IllegalArgumentException" ["java/lang/RuntimeException", "java/lang/Exception"], vx_ot w = true := by decide +kernel
theorem an_0 : ∀ w ∈ (vx_atS RX5 45 "java/lang/IllegalArgumentException" ["java/lang/RuntimeException", "java/lang/Exception"]).filter (fun w => !goodWord w), w ∈ nestW := by decide +kernel
theorem at_1 : ∀ w ∈ vx_atS RX5 64 "java/lang/UnsupportedOperationException" ["java/lang/RuntimeException", "java/lang/Exception"], w ∈ lw_tbl := by decide +kernel
theorem ag_1 : ∀ w ∈ Cond.classLink RX5 60 "java/lang/UnsupportedOperationException" :: Cond.initialized "java/lang/UnsupportedOperationException" :: vx_atS RX5 64 "java/lang/UnsupportedOperationException" ["java/lang/RuntimeException", "java/lang/Exception"], vx_ot w = true := by decide +kernel
theorem an_1 : ∀ w ∈ (vx_atS RX5 64 "java/lang/UnsupportedOperationException" ["java/lang/RuntimeException", "java/lang/Exception"]).filter (fun w => !goodWord w), w ∈ nestW := by decide +kernel
theorem at_2 : ∀ w ∈ vx_atS RX5 69 "java/lang/IllegalStateException" ["java/lang/RuntimeException", "java/lang/Exception"], w ∈ lw_tbl := by decide +kernel
theorem ag_2 : ∀ w ∈ Cond.classLink RX5 65 "java/lang/IllegalStateException" :: Cond.initialized "java/lang/IllegalStateException" :: vx_atS RX5 69 "java/lang/IllegalStateException" ["java/lang/RuntimeException", "java/lang/Exception"], vx_ot w = true := by decide +kernel
theorem an_2 : ∀ w ∈ (vx_atS RX5 69 "java/lang/IllegalStateException" ["java/lang/RuntimeException", "java/lang/Exception"]).filter (fun w => !goodWord w), w ∈ nestW := by decide +kernel
theorem at_3 : ∀ w ∈ vx_atS RX5 324 "java/lang/IndexOutOfBoundsException" ["java/lang/RuntimeException", "java/lang/Exception"], w ∈ lw_tbl := by decide +kernel
theorem ag_3 : ∀ w ∈ Cond.classLink RX5 320 "java/lang/IndexOutOfBoundsException" :: Cond.initialized "java/lang/IndexOutOfBoundsException" :: vx_atS RX5 324 "java/lang/IndexOutOfBoundsException" ["java/lang/RuntimeException", "java/lang/Exception"], vx_ot w = true := by decide +kernel
theorem an_3 : ∀ w ∈ (vx_atS RX5 324 "java/lang/IndexOutOfBoundsException" ["java/lang/RuntimeException", "java/lang/Exception"]).filter (fun w => !goodWord w), w ∈ nestW := by decide +kernel
theorem at_4 : ∀ w ∈ nsNo RX5 115, w ∈ lw_tbl := by decide +kernel
theorem ag_4 : ∀ w ∈ Cond.classLink RX5 111 nseN :: Cond.initialized nseN :: nsNo RX5 115, vx_ot w = true := by decide +kernel
theorem an_4 : ∀ w ∈ (nsNo RX5 115).filter (fun w => !goodWord w), w ∈ nestW := by decide +kernel
section XWC
variable {p : Program} {l : Launch} {e : Env} {R : Room} {s : State} {m : MethodId} {args : Array Value} {below : List Frame} {meth : Method} {c : Code} {H : Heap} {locs : List Loc} {cells slots mc ms MC MS : Nat} {Q : State → Prop}
variable {cc : ByteArray} {nL pc : Nat} {own : String} {rt : Option FieldType} {ls : Array Slot} {rest : List Value} {G : GG} {A : Nat → Prop} {H0 : Heap} {ad : AD} {st : XS}
theorem nest_use (h : ST G A ad s s.heap) : ∀ w ∈ nestW, w.before args s = true := fun w hw => va_Nw.use (nest_tab w hw) (h.2.2.2.1 w hw)
theorem tg_filter {L : List Cond} (h : ∀ w ∈ L, w ∈ lw_tbl) (hT : ∀ w ∈ TG, w.before args s = true) : ∀ w ∈ L.filter goodWord, w.before args s = true := fun w hw => hT w (tg_mk (h w (List.mem_filter.mp hw).1) (List.mem_filter.mp hw).2)
/-- throw new E("..") -/
theorem xw_throw {k ik ic is : Nat} {text : String} (B : XB G A ad p l s m args meth c cc nL RX5 rt) (hM : XW G A ad st H) (hS : va_S A s.heap H locs)
    (hk : Cond.classLink RX5 ik (exn k) ∈ TG) (hi : Cond.initialized (exn k) ∈ TG) (hat : ∀ w ∈ vx_atS RX5 ic (exn k) ["java/lang/RuntimeException", "java/lang/Exception"], w ∈ lw_tbl) (hng : ∀ w ∈ (vx_atS RX5 ic (exn k) ["java/lang/RuntimeException", "java/lang/Exception"]).filter (fun w => !goodWord w), w ∈ nestW) (hag : ∀ w ∈ Cond.classLink RX5 ik (exn k) :: Cond.initialized (exn k) :: vx_atS RX5 ic (exn k) ["java/lang/RuntimeException", "java/lang/Exception"], vx_ot w = true) (hfit : Bundle.fit (exn k) = true) (hstr : (is, text) ∈ strs) (hls : ls.size = nL)
    (hd : (decode cc pc = .ok (.new ik, 3) ∧ decode cc (pc + 3) = .ok (.dup, 1)) ∧ ((decode cc (pc + 4) = .ok (.ldc is, 2) ∧ decode cc (pc + 6) = .ok (.invokespecial ic, 3) ∧ decode cc (pc + 9) = .ok (.athrow, 1)) ∨ (decode cc (pc + 4) = .ok (.ldc_w is, 3) ∧ decode cc (pc + 7) = .ok (.invokespecial ic, 3) ∧ decode cc (pc + 10) = .ok (.athrow, 1))))
    (hf : 6 ≤ R.frames) (hl : (rest.map fun v => v.category).sum + 82 ≤ R.locals) (hRc : cells + 1 ≤ R.cells) (hRs : slots + 6 ≤ R.slots) (hc : cells + 1 ≤ MC) (hs : slots + 6 ≤ MS) {o : Nat ⊕ Option Value} (ho : o = .inl k) :
    W p l e R s m args below meth c H locs cells slots (vx_MQ below (QXr G A ad o st) (QXx G A ad o st) args s MC MS A) (F0 m pc ls rest) := by
  obtain ⟨⟨hx, hb, hr, hml, hown, hT, hlocks, hK⟩, hnt, hST, hA, hll⟩ := B
  obtain ⟨sa, hsa⟩ := hST.2.2.1 _ hstr
  have hatw := vx_hat (tg_filter hat hT) hng (nest_use (args := args) hST)
  have hXC : ∀ t : State, s.vm.Alike t.vm → H.size ≤ t.heap.size → (∀ q : Nat, q < H.size → t.heap[q]? = H[q]?) → QXx G A ad o st (exn k) s t := by
    intro t _ hz hq
    refine ⟨⟨k, ho, rfl⟩, ?_, Nat.le_trans hS.1 hz, fun q h1 h2 => ?_⟩
    · obtain ⟨gh, hW, hL, hU⟩ := hM
      exact ⟨gh, FW.kept (B := fun _ => False) hW (fun _ _ h => h) (fun q h1 _ => hq q h1), hL, hU⟩
    · rw [hq q (Nat.lt_of_lt_of_le h1 hS.1)]
      exact hS.2.1 q h1 h2
  obtain ⟨⟨d0, d3⟩, ⟨d4, d6, d9⟩ | ⟨d4, d7, d10⟩⟩ := hd
  · exact vx_throwS hx hb hll hown hfit (by decide +kernel) (hT _ hk) (hT _ hi) hsa hatw hag hST.1 hST.2.1 hS (hls.trans hml.symm) d0 d3 d4 d6 d9 (fun x hx => (hnt x hx).elim) (Nat.lt_of_lt_of_le (by decide) hf) (Nat.le_trans (Nat.le_of_eq rfl) hl) hRc hRs hlocks hXC hS.2.2 hc hs
  · exact vx_throwSW hx hb hll hown hfit (by decide +kernel) (hT _ hk) (hT _ hi) hsa hatw hag hST.1 hST.2.1 hS (hls.trans hml.symm) d0 d3 d4 d7 d10 (fun x hx => (hnt x hx).elim) (Nat.lt_of_lt_of_le (by decide) hf) (Nat.le_trans (Nat.le_of_eq rfl) hl) hRc hRs hlocks hXC hS.2.2 hc hs
theorem xw_throwN {is : Nat} {text : String} (B : XB G A ad p l s m args meth c cc nL RX5 rt) (hM : XW G A ad st H) (hS : va_S A s.heap H locs) (hstr : (is, text) ∈ strs) (hls : ls.size = nL)
    (hd : (decode cc pc = .ok (.new 111, 3) ∧ decode cc (pc + 3) = .ok (.dup, 1)) ∧ ((decode cc (pc + 4) = .ok (.ldc is, 2) ∧ decode cc (pc + 6) = .ok (.invokespecial 115, 3) ∧ decode cc (pc + 9) = .ok (.athrow, 1)) ∨ (decode cc (pc + 4) = .ok (.ldc_w is, 3) ∧ decode cc (pc + 7) = .ok (.invokespecial 115, 3) ∧ decode cc (pc + 10) = .ok (.athrow, 1))))
    (hf : 6 ≤ R.frames) (hl : (rest.map fun v => v.category).sum + 82 ≤ R.locals) (hRc : cells + 1 ≤ R.cells) (hRs : slots + 6 ≤ R.slots) (hc : cells + 1 ≤ MC) (hs : slots + 6 ≤ MS) {o : Nat ⊕ Option Value} (ho : o = .inl 4) :
    W p l e R s m args below meth c H locs cells slots (vx_MQ below (QXr G A ad o st) (QXx G A ad o st) args s MC MS A) (F0 m pc ls rest) := by
  obtain ⟨⟨hx, hb, hr, hml, hown, hT, hlocks, hK⟩, hnt, hST, hA, hll⟩ := B
  obtain ⟨sa, hsa⟩ := hST.2.2.1 _ hstr
  have hatw := vx_hat (tg_filter at_4 hT) an_4 (nest_use (args := args) hST)
  have key : ∀ (pc' : Nat) (q : Nat) (ce : Cell) (H1 : Heap), decode cc pc' = .ok (.athrow, 1) → H1[q]? = some ce → ce.vm = .none → s.vm.findClass nseN = some ce.cls → H.size ≤ H1.size → (∀ q : Nat, q < H.size → H1[q]? = H[q]?) → W p l e R s m args below meth c H1 locs (cells + 1) (slots + 6) (vx_MQ below (QXr G A ad o st) (QXx G A ad o st) args s MC MS A) (F0 m pc' ls (.ref q :: rest)) := by
    intro pc' q ce H1 d hce hv hcl hz hq
    have hS1 : va_S A s.heap H1 locs := ⟨Nat.le_trans hS.1 hz, fun q h1 h2 => (hq q (Nat.lt_of_lt_of_le h1 hS.1)).trans (hS.2.1 q h1 h2), hS.2.2⟩
    refine vn_athrow hx hb d (vx_out (fun x hx => (hnt x hx).elim) hlocks hce hv hcl (fun t ht _ => ⟨⟨4, ho, rfl⟩, ?_, hS1.F ht⟩) hS.2.2 hc hs)
    obtain ⟨gh, hW, hL, hU⟩ := hM
    rw [ht]
    exact ⟨gh, FW.kept (B := fun _ => False) hW (fun _ _ h => h) (fun q h1 _ => hq q h1), hL, hU⟩
  obtain ⟨⟨d0, d3⟩, ⟨d4, d6, d9⟩ | ⟨d4, d7, d10⟩⟩ := hd
  · exact vn_make hx hb hll hown (hT _ wk_RX5_111) (hT _ wn_java_util_NoSuchElementException) hsa hatw ag_4 hST.1 hST.2.1 hS (hls.trans hml.symm) d0 d3 d4 d6 (Nat.lt_of_lt_of_le (by decide) hf) (Nat.le_trans (Nat.le_of_eq rfl) hl) hRc hRs (fun q ce H1 => key _ q ce H1 d9)
  · exact vn_makeW hx hb hll hown (hT _ wk_RX5_111) (hT _ wn_java_util_NoSuchElementException) hsa hatw ag_4 hST.1 hST.2.1 hS (hls.trans hml.symm) d0 d3 d4 d7 (Nat.lt_of_lt_of_le (by decide) hf) (Nat.le_trans (Nat.le_of_eq rfl) hl) hRc hRs (fun q ce H1 => key _ q ce H1 d10)
/-! ends -/
theorem xw_iret (B : XB G A ad p l s m args meth c cc nL own (some .int)) (hM : XW G A ad st H) (hS : va_S A s.heap H locs) (hc : cells ≤ MC) (hs : slots ≤ MS) {v : Int32} (hdg : decode cc pc = .ok (.ireturn, 1)) : W p l e R s m args below meth c H locs cells slots (MQ below (QX G A ad (some (.int v)) st) args s MC MS A) (F0 m pc ls [.int v]) := by
  obtain ⟨⟨hx, hb, hr, -, -, -, hlocks, -⟩, -⟩ := B
  exact W.widen hc hs (W.iret hx hb hr (fun t ht hW => ⟨rfl, by rw [ht]; exact hM, hS.F ht⟩) hS.2.2 hdg)
theorem xw_zret {ty : FieldType} (B : XB G A ad p l s m args meth c cc nL own (some ty)) (hM : XW G A ad st H) (hS : va_S A s.heap H locs) (hc : cells ≤ MC) (hs : slots ≤ MS) {v : Int32} (hn : narrow ty (.int v) = .int v) (hdg : decode cc pc = .ok (.ireturn, 1)) : W p l e R s m args below meth c H locs cells slots (MQ below (QX G A ad (some (.int v)) st) args s MC MS A) (F0 m pc ls [.int v]) := by
  obtain ⟨⟨hx, hb, hr, -, -, -, hlocks, -⟩, -⟩ := B
  exact W.widen hc hs (W.zret hx hb hr hn (fun t ht hW => ⟨rfl, by rw [ht]; exact hM, hS.F ht⟩) hS.2.2 hdg)
theorem xw_vret (B : XB G A ad p l s m args meth c cc nL own none) (hM : XW G A ad st H) (hS : va_S A s.heap H locs) (hc : cells ≤ MC) (hs : slots ≤ MS) (hdg : decode cc pc = .ok (.return_, 1)) : W p l e R s m args below meth c H locs cells slots (MQ below (QX G A ad none st) args s MC MS A) (F0 m pc ls []) := by
  obtain ⟨⟨hx, hb, hr, -, -, -, hlocks, -⟩, -⟩ := B
  exact W.widen hc hs (W.vret hx hb hr (fun t ht hW => ⟨rfl, by rw [ht]; exact hM, hS.F ht⟩) hS.2.2 hdg)
theorem xw_lret (B : XB G A ad p l s m args meth c cc nL own (some .long)) (hM : XW G A ad st H) (hS : va_S A s.heap H locs) (hc : cells ≤ MC) (hs : slots ≤ MS) {v : Int64} (hdg : decode cc pc = .ok (.lreturn, 1)) : W p l e R s m args below meth c H locs cells slots (MQ below (QX G A ad (some (.long v)) st) args s MC MS A) (F0 m pc ls [.long v]) := by
  obtain ⟨⟨hx, hb, hr, -, -, -, hlocks, -⟩, -⟩ := B
  exact W.widen hc hs (W.lret hx hb hr (fun t ht hW => ⟨rfl, by rw [ht]; exact hM, hS.F ht⟩) hS.2.2 hdg)
theorem xx_iret (B : XB G A ad p l s m args meth c cc nL own (some .int)) (hM : XW G A ad st H) (hS : va_S A s.heap H locs) (hc : cells ≤ MC) (hs : slots ≤ MS) {v : Int32} (hdg : decode cc pc = .ok (.ireturn, 1)) {o : Nat ⊕ Option Value} (ho : o = .inr (some (.int v))) : W p l e R s m args below meth c H locs cells slots (vx_MQ below (QXr G A ad o st) (QXx G A ad o st) args s MC MS A) (F0 m pc ls [.int v]) := by
  obtain ⟨⟨hx, hb, hr, -, -, -, hlocks, -⟩, -⟩ := B
  exact vx_ret (W.widen hc hs (W.iret hx hb hr (fun t ht hW => ⟨⟨_, ho, rfl⟩, by rw [ht]; exact hM, hS.F ht⟩) hS.2.2 hdg))
theorem xx_zret {ty : FieldType} (B : XB G A ad p l s m args meth c cc nL own (some ty)) (hM : XW G A ad st H) (hS : va_S A s.heap H locs) (hc : cells ≤ MC) (hs : slots ≤ MS) {v : Int32} (hn : narrow ty (.int v) = .int v) (hdg : decode cc pc = .ok (.ireturn, 1)) {o : Nat ⊕ Option Value} (ho : o = .inr (some (.int v))) : W p l e R s m args below meth c H locs cells slots (vx_MQ below (QXr G A ad o st) (QXx G A ad o st) args s MC MS A) (F0 m pc ls [.int v]) := by
  obtain ⟨⟨hx, hb, hr, -, -, -, hlocks, -⟩, -⟩ := B
  exact vx_ret (W.widen hc hs (W.zret hx hb hr hn (fun t ht hW => ⟨⟨_, ho, rfl⟩, by rw [ht]; exact hM, hS.F ht⟩) hS.2.2 hdg))
theorem xx_vret (B : XB G A ad p l s m args meth c cc nL own none) (hM : XW G A ad st H) (hS : va_S A s.heap H locs) (hc : cells ≤ MC) (hs : slots ≤ MS) (hdg : decode cc pc = .ok (.return_, 1)) {o : Nat ⊕ Option Value} (ho : o = .inr none) : W p l e R s m args below meth c H locs cells slots (vx_MQ below (QXr G A ad o st) (QXx G A ad o st) args s MC MS A) (F0 m pc ls []) := by
  obtain ⟨⟨hx, hb, hr, -, -, -, hlocks, -⟩, -⟩ := B
  exact vx_ret (W.widen hc hs (W.vret hx hb hr (fun t ht hW => ⟨⟨_, ho, rfl⟩, by rw [ht]; exact hM, hS.F ht⟩) hS.2.2 hdg))
theorem xx_fret (B : XB G A ad p l s m args meth c cc nL own (some .float)) (hM : XW G A ad st H) (hS : va_S A s.heap H locs) (hc : cells ≤ MC) (hs : slots ≤ MS) {v : UInt32} (hdg : decode cc pc = .ok (.freturn, 1)) {o : Nat ⊕ Option Value} (ho : o = .inr (some (.float v))) : W p l e R s m args below meth c H locs cells slots (vx_MQ below (QXr G A ad o st) (QXx G A ad o st) args s MC MS A) (F0 m pc ls [.float v]) := by
  obtain ⟨⟨hx, hb, hr, -, -, -, hlocks, -⟩, -⟩ := B
  exact vx_ret (W.widen hc hs (W.fret hx hb hr (fun t ht hW => ⟨⟨_, ho, rfl⟩, by rw [ht]; exact hM, hS.F ht⟩) hS.2.2 hdg))
theorem xx_dret (B : XB G A ad p l s m args meth c cc nL own (some .double)) (hM : XW G A ad st H) (hS : va_S A s.heap H locs) (hc : cells ≤ MC) (hs : slots ≤ MS) {v : UInt64} (hdg : decode cc pc = .ok (.dreturn, 1)) {o : Nat ⊕ Option Value} (ho : o = .inr (some (.double v))) : W p l e R s m args below meth c H locs cells slots (vx_MQ below (QXr G A ad o st) (QXx G A ad o st) args s MC MS A) (F0 m pc ls [.double v]) := by
  obtain ⟨⟨hx, hb, hr, -, -, -, hlocks, -⟩, -⟩ := B
  exact vx_ret (W.widen hc hs (W.dret hx hb hr (fun t ht hW => ⟨⟨_, ho, rfl⟩, by rw [ht]; exact hM, hS.F ht⟩) hS.2.2 hdg))
theorem xx_aret {n : String} (B : XB G A ad p l s m args meth c cc nL own (some (.object n))) (hM : XW G A ad st H) (hS : va_S A s.heap H locs) (hc : cells ≤ MC) (hs : slots ≤ MS) {v : Nat} (hdg : decode cc pc = .ok (.areturn, 1)) {o : Nat ⊕ Option Value} (ho : o = .inr (some (.ref v))) : W p l e R s m args below meth c H locs cells slots (vx_MQ below (QXr G A ad o st) (QXx G A ad o st) args s MC MS A) (F0 m pc ls [.ref v]) := by
  obtain ⟨⟨hx, hb, hr, -, -, -, hlocks, -⟩, -⟩ := B
  exact vx_ret (W.widen hc hs (W.aret hx hb hr (Or.inl ⟨_, rfl⟩) (Or.inr ⟨_, rfl⟩) (fun t ht hW => ⟨⟨_, ho, rfl⟩, by rw [ht]; exact hM, hS.F ht⟩) hS.2.2 hdg))
/-! behind calls -/
theorem xw_step {st' : XS} {s₀ t T' : State} {L : List Loc} (h0 : s₀.heap = H) (e1 : T'.heap = t.heap) (hS : va_S A H0 H locs) (hL : ∀ q ∈ L, A q.base) (hm : XW G A ad st' t.heap) (hF : va_F A s₀ t) : XW G A ad st' T'.heap ∧ va_S A H0 T'.heap (locs ++ L) := by
  obtain ⟨hz, hk⟩ := hF
  rw [h0] at hz hk
  exact ⟨by rw [e1]; exact hm, Nat.le_trans hS.1 (by rw [e1]; exact hz), fun q h1 h2 => by rw [e1, hk q (Nat.lt_of_lt_of_le h1 hS.1) h2]; exact hS.2.1 q h1 h2, fun q hq => by
      rcases List.mem_append.mp hq with h | h
      · exact hS.2.2 q h
      · exact hL q h⟩
theorem xw_behind {st' : XS} {v : Option Value} {a : Array Value} {st0 : List Value} (hr : va_Run p l e R s m args below meth c H locs cells slots mc ms (F0 m pc ls st0) rest (QX G A ad v st' a) A) (hS : va_S A H0 H locs)
    (kk : ∀ (H1 : Heap) (locs1 : List Loc), XW G A ad st' H1 → va_S A H0 H1 locs1 → W p l e R s m args below meth c H1 locs1 (cells + mc) (slots + ms) Q (F0 m (pc + 3) ls (v.toList ++ rest))) : W p l e R s m args below meth c H locs cells slots Q (F0 m pc ls st0) := by
  intro T hT X
  obtain ⟨v', s₀, t, T', L, h0, X', hL, e1, e2, ⟨hv, hm, hF⟩, stp⟩ := hr T hT X
  cases hv
  obtain ⟨k1, k2⟩ := xw_step h0 e1 hS hL hm hF
  obtain ⟨t2, a1, b1⟩ := kk T'.heap (locs ++ L) k1 k2 T' rfl X'
  exact ⟨t2, stp t2 a1, b1⟩
theorem xx_behind {st' : XS} {v : Option Value} {a : Array Value} {st0 : List Value} (hr : vx_Run p l e R s m args below meth c H locs cells slots mc ms (F0 m pc ls st0) rest (QXr G A ad (.inr v) st' a) (QXx G A ad (.inr v) st') A) (hS : va_S A H0 H locs)
    (kk : ∀ (H1 : Heap) (locs1 : List Loc), XW G A ad st' H1 → va_S A H0 H1 locs1 → W p l e R s m args below meth c H1 locs1 (cells + mc) (slots + ms) Q (F0 m (pc + 3) ls (v.toList ++ rest))) : W p l e R s m args below meth c H locs cells slots Q (F0 m pc ls st0) := by
  intro T hT X
  rcases hr T hT X with ⟨v', s₀, t, T', L, h0, X', hL, e1, e2, ⟨⟨v2, hv2, hv⟩, hm, hF⟩, stp⟩ | ⟨q, s₀, t, T', L, E, ce, h0, X', hL, e1, e2, ⟨⟨k, hk, -⟩, -⟩, -⟩
  · cases hv2
    cases hv
    obtain ⟨k1, k2⟩ := xw_step h0 e1 hS hL hm hF
    obtain ⟨t2, a1, b1⟩ := kk T'.heap (locs ++ L) k1 k2 T' rfl X'
    exact ⟨t2, stp t2 a1, b1⟩
  · cases hk
/-- what was thrown in a callee leaves this method too -/
theorem xx_through {st' : XS} {k : Nat} {a : Array Value} {st0 : List Value} (hnt : ∀ x ∈ c.exceptionTable.toList, False) (hlocks : meth.locks = false) (hr : vx_Run p l e R s m args below meth c H locs cells slots mc ms (F0 m pc ls st0) rest (QXr G A ad (.inl k) st' a) (QXx G A ad (.inl k) st') A) (hS : va_S A s.heap H locs) (hc : cells + mc ≤ MC) (hs : slots + ms ≤ MS) {o : Nat ⊕ Option Value} (ho : o = .inl k) :
    W p l e R s m args below meth c H locs cells slots (vx_MQ below (QXr G A ad o st') (QXx G A ad o st') args s MC MS A) (F0 m pc ls st0) := by
  intro T hT X
  rcases hr T hT X with ⟨v', s₀, t, T', L, h0, X', hL, e1, e2, ⟨⟨v2, hv2, hv⟩, hm, hF⟩, stp⟩ | ⟨q, s₀, t, T', L, E, ce, h0, X', hL, e1, e2, ⟨⟨k2, hk, hE⟩, hm, hF⟩, hce, hcv, hcl, stp⟩
  · cases hv2
  · cases hk
    obtain ⟨k1, k2⟩ := xw_step h0 e1 hS hL hm hF
    obtain ⟨t2, a1, b1⟩ := vx_out (l := l) (e := e) (R := R) (below := below) (Qc := QXr G A ad o st') (XC := QXx G A ad o st') (pc := pc) (ls := ls) (rest := rest) (mc := MC) (ms := MS) (free := A) (E := E) (ce := ce) (q := q) (H := T'.heap) (locs := locs ++ L) (cells := cells + mc) (slots := slots + ms) (fun x hx => (hnt x hx).elim) hlocks (by rw [e1]; exact hce) hcv hcl (fun t ht _ => ⟨⟨k, ho, hE⟩, by rw [ht]; exact k1, k2.F ht⟩) k2.2.2 hc hs T' rfl X'
    exact ⟨t2, stp.trans a1, b1⟩
end XWC
/-- a method's start: it only returns, or it may throw -/
theorem xw_of {l : Launch} {y : MethodName} {cc : ByteArray} {n : Nat} {ret : Option FieldType} {rm : Room} {G : GG} {A : Nat → Prop} {ad : AD} {st st' : XS} {av : List Value} {v : Option Value} {own : String} {MC MS : Nat} (hll : l.stackTraces = false) (hy : plainName y.cls = true) (hyc : y.cls = own) (hlen : (lg_sl av).length ≤ n)
    (body : ∀ (p : Program) (e : Env) (s : State) (m : MethodId) (below : List Frame) (meth : Method) (c : Code) (ls : Array Slot), XB G A ad p l s m av.toArray meth c cc n own ret → XW G A ad st s.heap → va_S A s.heap s.heap [] → lv_has ls n (lv_args 0 av) → W p l e rm s m av.toArray below meth c s.heap [] 0 0 (MQ below (QX G A ad v st') av.toArray s MC MS A) (F0 m 0 ls [])) :
    Met l y (Cond.code y cc n ret :: TG) rm (PX G A ad st av) (QX G A ad v st') MC MS A := by
  refine Met.ofW (cc := cc) (maxL := n) (ret := ret) hy rfl ?_
  intro p e s m args below meth c s₁ B hml hv
  obtain ⟨rfl, hK, hST, hM, hA⟩ := hv
  have hts := atoms_spec (ws := Cond.code y cc n ret :: TG) B.pre
  have hown : s.vm.findClass own = some m.cls := hyc ▸ findClass_of_methodNamed B.named
  have hl := lv_entry av hlen
  have hnt : ∀ x ∈ c.exceptionTable.toList, False := by
    obtain ⟨meth9, c9, h1, h2, -, -, -, -, h7, -⟩ := Cond.code_spec B.named (hts _ List.mem_cons_self)
    cases Option.some.inj (h1.symm.trans B.method)
    cases Option.some.inj (h2.symm.trans (Stand.of_body B).code)
    intro x hx
    rw [Array.isEmpty_iff.mp h7] at hx
    cases hx
  rw [lg_entry_eq]
  exact body p e s m below meth c _ ⟨⟨B.exec, B.bytes, B.returns, hml, hown, fun w hw => hts w (List.mem_cons_of_mem _ hw), B.notSynchronized, hK⟩, hnt, hST, hA, hll⟩ hM va_S.rf hl
theorem xx_of {l : Launch} {y : MethodName} {cc : ByteArray} {n : Nat} {ret : Option FieldType} {rm : Room} {G : GG} {A : Nat → Prop} {ad : AD} {st st' : XS} {av : List Value} {o : Nat ⊕ Option Value} {own : String} {MC MS : Nat} (hll : l.stackTraces = false) (hy : plainName y.cls = true) (hyc : y.cls = own) (hlen : (lg_sl av).length ≤ n)
    (body : ∀ (p : Program) (e : Env) (s : State) (m : MethodId) (below : List Frame) (meth : Method) (c : Code) (ls : Array Slot), XB G A ad p l s m av.toArray meth c cc n own ret → XW G A ad st s.heap → va_S A s.heap s.heap [] → lv_has ls n (lv_args 0 av) → W p l e rm s m av.toArray below meth c s.heap [] 0 0 (vx_MQ below (QXr G A ad o st') (QXx G A ad o st') av.toArray s MC MS A) (F0 m 0 ls [])) :
    vx_Met l y (Cond.code y cc n ret :: TG) rm (PX G A ad st av) (QXr G A ad o st') (QXx G A ad o st') MC MS A := by
  refine vx_ofW (cc := cc) (maxL := n) (ret := ret) hy rfl ?_
  intro p e s m args below meth c s₁ B hml hnt hv
  obtain ⟨rfl, hK, hST, hM, hA⟩ := hv
  have hts := atoms_spec (ws := Cond.code y cc n ret :: TG) B.pre
  have hown : s.vm.findClass own = some m.cls := hyc ▸ findClass_of_methodNamed B.named
  have hl := lv_entry av hlen
  rw [lg_entry_eq]
  exact body p e s m below meth c _ ⟨⟨B.exec, B.bytes, B.returns, hml, hown, fun w hw => hts w (List.mem_cons_of_mem _ hw), B.notSynchronized, hK⟩, hnt, hST, hA, hll⟩ hM va_S.rf hl
