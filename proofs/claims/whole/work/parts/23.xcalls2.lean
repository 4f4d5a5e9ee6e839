section XWD
variable {p : Program} {l : Launch} {e : Env} {R : Room} {s : State} {m : MethodId} {args : Array Value} {below : List Frame} {meth : Method} {c : Code} {H : Heap} {locs : List Loc} {cells slots mc ms MC MS : Nat} {Q : State → Prop}
variable {cc : ByteArray} {nL pc : Nat} {own : String} {rt : Option FieldType} {ls : Array Slot} {rest : List Value} {G : GG} {A : Nat → Prop} {H0 : Heap} {ad : AD} {st st' : XS}
variable {y : MethodName} {cy : ByteArray} {ny n index : Nat} {ry : Option FieldType} {rm : Room} {C : String}
theorem xb_pre (B : XB G A ad p l s m args meth c cc nL own rt) (hM : XW G A ad st H) (hS : va_S A s.heap H locs) (av : List Value) : ∀ U : State, U.heap = H → s.WarmedH U.vm → PX G A ad st av av.toArray U := by
  obtain ⟨⟨hx, hb, hr, hml, hown, hT, hlocks, hK⟩, hnt, hST, hA, hll⟩ := B
  intro U hU hW
  exact ⟨rfl, VK.moved hW.alike hK, ST.at hST hS hW hU, by rw [hU]; exact hM, fun q hq => hA q (Nat.le_trans hS.1 (by rw [hU] at hq; exact hq))⟩
theorem xb_vk (B : XB G A ad p l s m args meth c cc nL own rt) : VK G s := B.1.2.2.2.2.2.2.2
abbrev hdV (y : MethodName) (C : String) (n : Nat) : Prop := y.cls = C ∧ y.cls ≠ "java/lang/invoke/MethodHandle" ∧ y.cls ≠ "java/lang/invoke/VarHandle" ∧ (parseMethodDescriptor y.desc).map (fun d => d.parameters.length) = some n
theorem xw_callV (B : XB G A ad p l s m args meth c cc nL own rt) (hM : XW G A ad st H) (hS : va_S A s.heap H locs) {v : Option Value} {b : Nat} (hrecv : ∃ cellB : Cell, H[b]? = some cellB ∧ cellB.vm.isStatics = false ∧ s.vm.findClass C = some cellB.cls) (As : List Value)
    (hMet : Met l y (Cond.code y cy ny ry :: TG) rm (PX G A ad st (.ref b :: As)) (QX G A ad v st') mc ms A)
    (h1 : Cond.methodLink own index y ∈ TG) (h2 : Cond.instanceMethod y ∈ TG) (h3 : Cond.selects C y y ∈ TG) (h4 : Cond.initialized C ∈ TG) (h5 : Cond.code y cy ny ry ∈ TG) (hrc : rm.cells = mc) (hrs : rm.slots = ms) (hd : hdV y C n)
    (hR : rm.frames + 1 ≤ R.frames ∧ 8 + (ny + 11) + rm.locals ≤ R.locals) (hf : cells + mc ≤ R.cells ∧ slots + ms ≤ R.slots) (hn : As.length = n) (hls : ls.size = nL) (hW : (rest.map fun v => v.category).sum ≤ 8) {st0 : List Value} (hst : st0 = As.reverse ++ .ref b :: rest) (hdg : decode cc pc = .ok (.invokevirtual index, 3))
    (kk : ∀ (H1 : Heap) (locs1 : List Loc), XW G A ad st' H1 → va_S A s.heap H1 locs1 → W p l e R s m args below meth c H1 locs1 (cells + mc) (slots + ms) Q (F0 m (pc + 3) ls (v.toList ++ rest))) : W p l e R s m args below meth c H locs cells slots Q (F0 m pc ls st0) := by
  have ⟨⟨hx, hb, hr, hml, hown, hT, hlocks, hK⟩, _⟩ := B
  exact xw_behind (va_runV ⟨hx, hb, hml, hown, hT⟩ hMet (cwV n hT (tg_V h1 h2 h3 h4 h5) rfl hrc hrs hd hR) ⟨px_blind, hrecv, xb_pre B hM hS (.ref b :: As)⟩ rfl hn hls hst (lv_room hW) hdg hf) hS kk
theorem xw_callS (B : XB G A ad p l s m args meth c cc nL own rt) (hM : XW G A ad st H) (hS : va_S A s.heap H locs) {v : Option Value} (As : List Value)
    (hMet : Met l y (Cond.code y cy ny ry :: TG) rm (PX G A ad st As) (QX G A ad v st') mc ms A)
    (h1 : Cond.methodLink own index y ∈ TG) (h2 : Cond.static y ∈ TG) (h4 : Cond.initialized own ∈ TG) (h5 : Cond.code y cy ny ry ∈ TG) (hrc : rm.cells = mc) (hrs : rm.slots = ms) (hd : hdV y own n)
    (hR : rm.frames + 1 ≤ R.frames ∧ 8 + (ny + 11) + rm.locals ≤ R.locals) (hf : cells + mc ≤ R.cells ∧ slots + ms ≤ R.slots) (hn : As.length = n) (hls : ls.size = nL) (hW : (rest.map fun v => v.category).sum ≤ 8) {st0 : List Value} (hst : st0 = As.reverse ++ rest) (hdg : decode cc pc = .ok (.invokestatic index, 3))
    (kk : ∀ (H1 : Heap) (locs1 : List Loc), XW G A ad st' H1 → va_S A s.heap H1 locs1 → W p l e R s m args below meth c H1 locs1 (cells + mc) (slots + ms) Q (F0 m (pc + 3) ls (v.toList ++ rest))) : W p l e R s m args below meth c H locs cells slots Q (F0 m pc ls st0) := by
  have ⟨⟨hx, hb, hr, hml, hown, hT, hlocks, hK⟩, _⟩ := B
  exact xw_behind (va_runS ⟨hx, hb, hml, hown, hT⟩ hMet (cwS n hT (tg_S h1 h2 h4 h5) rfl hrc hrs hd hR) ⟨px_blind, xb_pre B hM hS As⟩ rfl hn hls hst (lv_room hW) hdg hf) hS kk
/-- a nest mate's private static method -/
theorem xw_callSN (B : XB G A ad p l s m args meth c cc nL own rt) (hM : XW G A ad st H) (hS : va_S A s.heap H locs) {v : Option Value} {host : String} (As : List Value)
    (hMet : Met l y (Cond.code y cy ny ry :: TG) rm (PX G A ad st As) (QX G A ad v st') mc ms A)
    (h1 : Cond.methodLinkNest own index y host ∈ nestW) (h2 : Cond.static y ∈ TG) (h4 : Cond.initialized y.cls ∈ TG) (h5 : Cond.code y cy ny ry ∈ TG) (hrc : rm.cells = mc) (hrs : rm.slots = ms) (hd : y.cls ≠ "java/lang/invoke/MethodHandle" ∧ y.cls ≠ "java/lang/invoke/VarHandle" ∧ (parseMethodDescriptor y.desc).map (fun d => d.parameters.length) = some n)
    (hR : rm.frames + 1 ≤ R.frames ∧ 8 + (ny + 11) + rm.locals ≤ R.locals) (hf : cells + mc ≤ R.cells ∧ slots + ms ≤ R.slots) (hn : As.length = n) (hls : ls.size = nL) (hW : (rest.map fun v => v.category).sum ≤ 8) {st0 : List Value} (hst : st0 = As.reverse ++ rest) (hdg : decode cc pc = .ok (.invokestatic index, 3))
    (kk : ∀ (H1 : Heap) (locs1 : List Loc), XW G A ad st' H1 → va_S A s.heap H1 locs1 → W p l e R s m args below meth c H1 locs1 (cells + mc) (slots + ms) Q (F0 m (pc + 3) ls (v.toList ++ rest))) : W p l e R s m args below meth c H locs cells slots Q (F0 m pc ls st0) := by
  have ⟨⟨hx, hb, hr, hml, hown, hT, hlocks, hK⟩, hnt, hST, hA, hll⟩ := B
  exact xw_behind (va_runSN ⟨hx, hb, hml, hown, hT⟩ hMet ⟨va_cnB n hT (tg_C h5) rfl hrc hrs (hST.2.2.2.1 _ h1) (hT _ h4) hd hR, hT _ h2, trivial⟩ ⟨px_blind, xb_pre B hM hS As⟩ rfl hn hls hst (lv_room hW) hdg hf) hS kk
theorem xx_callV (B : XB G A ad p l s m args meth c cc nL own rt) (hM : XW G A ad st H) (hS : va_S A s.heap H locs) {v : Option Value} {b : Nat} (hrecv : ∃ cellB : Cell, H[b]? = some cellB ∧ cellB.vm.isStatics = false ∧ s.vm.findClass C = some cellB.cls) (As : List Value)
    (hMet : vx_Met l y (Cond.code y cy ny ry :: TG) rm (PX G A ad st (.ref b :: As)) (QXr G A ad (.inr v) st') (QXx G A ad (.inr v) st') mc ms A)
    (h1 : Cond.methodLink own index y ∈ TG) (h2 : Cond.instanceMethod y ∈ TG) (h3 : Cond.selects C y y ∈ TG) (h4 : Cond.initialized C ∈ TG) (h5 : Cond.code y cy ny ry ∈ TG) (hrc : rm.cells = mc) (hrs : rm.slots = ms) (hd : hdV y C n)
    (hR : rm.frames + 1 ≤ R.frames ∧ 8 + (ny + 11) + rm.locals ≤ R.locals) (hf : cells + mc ≤ R.cells ∧ slots + ms ≤ R.slots) (hn : As.length = n) (hls : ls.size = nL) (hW : (rest.map fun v => v.category).sum ≤ 8) {st0 : List Value} (hst : st0 = As.reverse ++ .ref b :: rest) (hdg : decode cc pc = .ok (.invokevirtual index, 3))
    (kk : ∀ (H1 : Heap) (locs1 : List Loc), XW G A ad st' H1 → va_S A s.heap H1 locs1 → W p l e R s m args below meth c H1 locs1 (cells + mc) (slots + ms) Q (F0 m (pc + 3) ls (v.toList ++ rest))) : W p l e R s m args below meth c H locs cells slots Q (F0 m pc ls st0) := by
  have ⟨⟨hx, hb, hr, hml, hown, hT, hlocks, hK⟩, _⟩ := B
  exact xx_behind (vx_runV ⟨hx, hb, hml, hown, hT⟩ hMet (cwV n hT (tg_V h1 h2 h3 h4 h5) rfl hrc hrs hd hR) ⟨px_blind, hrecv, xb_pre B hM hS (.ref b :: As)⟩ rfl hn hls hst (lv_room hW) hdg hf) hS kk
theorem xx_callS (B : XB G A ad p l s m args meth c cc nL own rt) (hM : XW G A ad st H) (hS : va_S A s.heap H locs) {v : Option Value} (As : List Value)
    (hMet : vx_Met l y (Cond.code y cy ny ry :: TG) rm (PX G A ad st As) (QXr G A ad (.inr v) st') (QXx G A ad (.inr v) st') mc ms A)
    (h1 : Cond.methodLink own index y ∈ TG) (h2 : Cond.static y ∈ TG) (h4 : Cond.initialized own ∈ TG) (h5 : Cond.code y cy ny ry ∈ TG) (hrc : rm.cells = mc) (hrs : rm.slots = ms) (hd : hdV y own n)
    (hR : rm.frames + 1 ≤ R.frames ∧ 8 + (ny + 11) + rm.locals ≤ R.locals) (hf : cells + mc ≤ R.cells ∧ slots + ms ≤ R.slots) (hn : As.length = n) (hls : ls.size = nL) (hW : (rest.map fun v => v.category).sum ≤ 8) {st0 : List Value} (hst : st0 = As.reverse ++ rest) (hdg : decode cc pc = .ok (.invokestatic index, 3))
    (kk : ∀ (H1 : Heap) (locs1 : List Loc), XW G A ad st' H1 → va_S A s.heap H1 locs1 → W p l e R s m args below meth c H1 locs1 (cells + mc) (slots + ms) Q (F0 m (pc + 3) ls (v.toList ++ rest))) : W p l e R s m args below meth c H locs cells slots Q (F0 m pc ls st0) := by
  have ⟨⟨hx, hb, hr, hml, hown, hT, hlocks, hK⟩, _⟩ := B
  exact xx_behind (vx_runS ⟨hx, hb, hml, hown, hT⟩ hMet (cwS n hT (tg_S h1 h2 h4 h5) rfl hrc hrs hd hR) ⟨px_blind, xb_pre B hM hS As⟩ rfl hn hls hst (lv_room hW) hdg hf) hS kk
theorem xx_goV (B : XB G A ad p l s m args meth c cc nL own rt) (hM : XW G A ad st H) (hS : va_S A s.heap H locs) {k : Nat} {b : Nat} (hrecv : ∃ cellB : Cell, H[b]? = some cellB ∧ cellB.vm.isStatics = false ∧ s.vm.findClass C = some cellB.cls) (As : List Value)
    (hMet : vx_Met l y (Cond.code y cy ny ry :: TG) rm (PX G A ad st (.ref b :: As)) (QXr G A ad (.inl k) st') (QXx G A ad (.inl k) st') mc ms A)
    (h1 : Cond.methodLink own index y ∈ TG) (h2 : Cond.instanceMethod y ∈ TG) (h3 : Cond.selects C y y ∈ TG) (h4 : Cond.initialized C ∈ TG) (h5 : Cond.code y cy ny ry ∈ TG) (hrc : rm.cells = mc) (hrs : rm.slots = ms) (hd : hdV y C n)
    (hR : rm.frames + 1 ≤ R.frames ∧ 8 + (ny + 11) + rm.locals ≤ R.locals) (hf : cells + mc ≤ R.cells ∧ slots + ms ≤ R.slots) (hn : As.length = n) (hls : ls.size = nL) (hW : (rest.map fun v => v.category).sum ≤ 8) {st0 : List Value} (hst : st0 = As.reverse ++ .ref b :: rest) (hdg : decode cc pc = .ok (.invokevirtual index, 3)) (hc : cells + mc ≤ MC) (hs : slots + ms ≤ MS) {o : Nat ⊕ Option Value} (ho : o = .inl k) :
    W p l e R s m args below meth c H locs cells slots (vx_MQ below (QXr G A ad o st') (QXx G A ad o st') args s MC MS A) (F0 m pc ls st0) := by
  have ⟨⟨hx, hb, hr, hml, hown, hT, hlocks, hK⟩, hnt, _⟩ := B
  exact xx_through hnt hlocks (vx_runV ⟨hx, hb, hml, hown, hT⟩ hMet (cwV n hT (tg_V h1 h2 h3 h4 h5) rfl hrc hrs hd hR) ⟨px_blind, hrecv, xb_pre B hM hS (.ref b :: As)⟩ rfl hn hls hst (lv_room hW) hdg hf) hS hc hs ho
theorem xx_goS (B : XB G A ad p l s m args meth c cc nL own rt) (hM : XW G A ad st H) (hS : va_S A s.heap H locs) {k : Nat} (As : List Value)
    (hMet : vx_Met l y (Cond.code y cy ny ry :: TG) rm (PX G A ad st As) (QXr G A ad (.inl k) st') (QXx G A ad (.inl k) st') mc ms A)
    (h1 : Cond.methodLink own index y ∈ TG) (h2 : Cond.static y ∈ TG) (h4 : Cond.initialized own ∈ TG) (h5 : Cond.code y cy ny ry ∈ TG) (hrc : rm.cells = mc) (hrs : rm.slots = ms) (hd : hdV y own n)
    (hR : rm.frames + 1 ≤ R.frames ∧ 8 + (ny + 11) + rm.locals ≤ R.locals) (hf : cells + mc ≤ R.cells ∧ slots + ms ≤ R.slots) (hn : As.length = n) (hls : ls.size = nL) (hW : (rest.map fun v => v.category).sum ≤ 8) {st0 : List Value} (hst : st0 = As.reverse ++ rest) (hdg : decode cc pc = .ok (.invokestatic index, 3)) (hc : cells + mc ≤ MC) (hs : slots + ms ≤ MS) {o : Nat ⊕ Option Value} (ho : o = .inl k) :
    W p l e R s m args below meth c H locs cells slots (vx_MQ below (QXr G A ad o st') (QXx G A ad o st') args s MC MS A) (F0 m pc ls st0) := by
  have ⟨⟨hx, hb, hr, hml, hown, hT, hlocks, hK⟩, hnt, _⟩ := B
  exact xx_through hnt hlocks (vx_runS ⟨hx, hb, hml, hown, hT⟩ hMet (cwS n hT (tg_S h1 h2 h4 h5) rfl hrc hrs hd hR) ⟨px_blind, xb_pre B hM hS As⟩ rfl hn hls hst (lv_room hW) hdg hf) hS hc hs ho
/-- a static method of another class -/
theorem xw_callSO (B : XB G A ad p l s m args meth c cc nL own rt) (hM : XW G A ad st H) (hS : va_S A s.heap H locs) {v : Option Value} (As : List Value)
    (hMet : Met l y (Cond.code y cy ny ry :: TG) rm (PX G A ad st As) (QX G A ad v st') mc ms A)
    (h1 : Cond.methodLink own index y ∈ TG) (h2 : Cond.static y ∈ TG) (h4 : Cond.initialized y.cls ∈ TG) (h5 : Cond.code y cy ny ry ∈ TG) (hrc : rm.cells = mc) (hrs : rm.slots = ms) (hd : y.cls ≠ "java/lang/invoke/MethodHandle" ∧ y.cls ≠ "java/lang/invoke/VarHandle" ∧ (parseMethodDescriptor y.desc).map (fun d => d.parameters.length) = some n)
    (hR : rm.frames + 1 ≤ R.frames ∧ 8 + (ny + 11) + rm.locals ≤ R.locals) (hf : cells + mc ≤ R.cells ∧ slots + ms ≤ R.slots) (hn : As.length = n) (hls : ls.size = nL) (hW : (rest.map fun v => v.category).sum ≤ 8) {st0 : List Value} (hst : st0 = As.reverse ++ rest) (hdg : decode cc pc = .ok (.invokestatic index, 3))
    (kk : ∀ (H1 : Heap) (locs1 : List Loc), XW G A ad st' H1 → va_S A s.heap H1 locs1 → W p l e R s m args below meth c H1 locs1 (cells + mc) (slots + ms) Q (F0 m (pc + 3) ls (v.toList ++ rest))) : W p l e R s m args below meth c H locs cells slots Q (F0 m pc ls st0) := by
  have ⟨⟨hx, hb, hr, hml, hown, hT, hlocks, hK⟩, _⟩ := B
  have hG : GoodIn TG (va_wsS own index y (Cond.code y cy ny ry :: TG)) := by
    intro w hw
    have key : w ∈ TG := by
      simp only [va_wsS, List.cons_append, List.nil_append, List.mem_cons] at hw
      rcases hw with rfl | rfl | rfl | rfl | hw
      · exact h1
      · exact h2
      · exact h4
      · exact h5
      · exact hw
    exact ⟨key, good_of_word (tg_good key)⟩
  exact xw_behind (va_runS ⟨hx, hb, hml, hown, hT⟩ hMet (va_cwS n hT hG rfl hrc hrs hd hR) ⟨px_blind, xb_pre B hM hS As⟩ rfl hn hls hst (lv_room hW) hdg hf) hS kk
/-- a nest mate's private field -/
theorem xw_getCause (B : XB G A ad p l s m args meth c cc nL RX4 rt) (hM : XW G A ad st H) {i : Nat} (hv : i < xN st 0) (hdg : decode cc pc = .ok (.getfield 72, 3))
    (kk : W p l e R s m args below meth c H locs cells slots Q (F0 m (pc + 3) ls (.int (xF st 2 i 0) :: rest))) : W p l e R s m args below meth c H locs cells slots Q (F0 m pc ls (.ref (ad 3 i) :: rest)) := by
  have ⟨⟨hx, hb, hr, hml, hown, hT, hlocks, hK⟩, hnt, hST, hA, hll⟩ := B
  obtain ⟨gh, hW, -, -⟩ := hM
  have h1 := (hW.1 (3, i) (Or.inl (xv_s (k := 3) (by decide) hv))).1
  exact va_getN hx hb hT inX3 hown hK (va_P1 h1) 0 rfl rfl 0 (by decide) (va_Nw.use rfl (hST.2.2.2.1 _ (by decide +kernel : Cond.fieldLinkNest RX4 72 "ThumbnailRow$Pardon" "cause" "C" "ThumbnailRow" ∈ nestW))) (fun _ h => h) rfl hdg kk
end XWD
