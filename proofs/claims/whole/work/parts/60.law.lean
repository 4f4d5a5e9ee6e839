/-! The law's world: the class's, the reference's, two cells for answers. -/
abbrev outL (G : GG) (f : Nat → Int64) : va_E := .inl (G.2 3, 1, .inr (.inl f))
abbrev outD (G : GG) (f : Nat → UInt64) : va_E := .inl (G.2 4, 1, .inr (.inr (.inr (.inl f))))
def LRG (A A1 A2 : Nat → Prop) (o1 o2 : Nat) : Prop := (∀ q, A1 q → A q ∧ ¬ A2 q ∧ q ≠ o1 ∧ q ≠ o2) ∧ (∀ q, A2 q → A q ∧ q ≠ o1 ∧ q ≠ o2) ∧ A o1 ∧ A o2 ∧ o1 ≠ o2
def LW (G : GG) (A A1 A2 : Nat → Prop) (am : Nat → Nat) (o1 o2 : Nat) (s : State) (ad : AD) (st : XS) (ms : MS) (f : Nat → Int64) (g : Nat → UInt64) (H : Heap) : Prop :=
  ST G A ad s s.heap ∧ XW G A1 ad st H ∧ MW G A2 am ms H ∧ va_at G.1 vwCl (o1, outL G f) H ∧ va_at G.1 vwCl (o2, outD G g) H ∧ ∀ q : Nat, H.size ≤ q → A1 q
section LLR
variable {p : Program} {l : Launch} {e : Env} {R : Room} {s : State} {m : MethodId} {args : Array Value} {below : List Frame} {meth : Method} {c : Code} {H : Heap} {locs : List Loc} {cells slots : Nat} {Q : State → Prop}
variable {pc : Nat} {ls : Array Slot} {rest : List Value} {G : GG} {A A1 A2 : Nat → Prop} {am : Nat → Nat} {o1 o2 : Nat} {ad : AD} {st st' : XS} {ms ms' : MS} {f f' : Nat → Int64} {g g' : Nat → UInt64} {rt : Option FieldType}
def LL (G : GG) (A A1 A2 : Nat → Prop) (o1 o2 : Nat) (p : Program) (s : State) (m : MethodId) (args : Array Value) (meth : Method) (c : Code) (rt : Option FieldType) : Prop :=
  MB G p s m args meth c code 9 RL rt ∧ NC s ∧ LRG A A1 A2 o1 o2 ∧ ∀ q : Nat, s.heap.size ≤ q → A q
theorem MW.kept2 {H1 : Heap} (h : MW G A2 am ms H) (hq : ∀ q : Nat, q < H.size → A2 q → H1[q]? = H[q]?) : MW G A2 am ms H1 := FW.kept2 h fun i hi hl => hq _ hl (h.1 i hi).2
theorem XW.kept3 {H1 : Heap} (h : XW G A1 ad st H) (hq : ∀ q : Nat, q < H.size → A1 q → H1[q]? = H[q]?) : XW G A1 ad st H1 := by
  obtain ⟨gh, h1, h2⟩ := h
  exact ⟨gh, h1.kept2 fun i hi hl => hq _ hl (h1.1 i hi).2, h2⟩
theorem ll_step {X : Nat → Prop} {s₀ t T' : State} {L : List Loc} (h0 : s₀.heap = H) (e1 : T'.heap = t.heap) (hS : va_S A s.heap H locs) (hXA : ∀ q, X q → A q) (hL : ∀ q ∈ L, X q.base) (hF : va_F X s₀ t) : va_S A s.heap T'.heap (locs ++ L) ∧ H.size ≤ T'.heap.size ∧ ∀ q : Nat, q < H.size → ¬ X q → T'.heap[q]? = H[q]? := by
  obtain ⟨hz, hk⟩ := hF
  rw [h0] at hz hk
  rw [← e1] at hz hk
  exact ⟨⟨Nat.le_trans hS.1 hz, fun q h1 h2 => by rw [hk q (Nat.lt_of_lt_of_le h1 hS.1) (fun h => h2 (hXA q h))]; exact hS.2.1 q h1 h2, fun q hq => by
      rcases List.mem_append.mp hq with h | h
      · exact hS.2.2 q h
      · exact hXA _ (hL q h)⟩, hz, hk⟩
theorem ll_cwSW (B : LL G A A1 A2 o1 o2 p s m args meth c rt) {y : MethodName} {cy : ByteArray} {ny n index mc mz : Nat} {hh : List (Nat × Nat × Nat × Nat)} {rm : Room} (h1 : Cond.methodLink RL index y ∈ TG) (h2 : Cond.static y ∈ TG) (hyc : y.cls = RL) (h5 : Cond.codeWith y cy ny (some .int) hh ∈ TG) (hrc : rm.cells = mc) (hrs : rm.slots = mz)
    (hd : y.cls ≠ "java/lang/invoke/MethodHandle" ∧ y.cls ≠ "java/lang/invoke/VarHandle" ∧ (parseMethodDescriptor y.desc).map (fun d => d.parameters.length) = some n) (hR : rm.frames + 1 ≤ R.frames ∧ 8 + (ny + 11) + rm.locals ≤ R.locals) : vx_CSW R s args RL index y cy ny (some .int) hh (Cond.codeWith y cy ny (some .int) hh :: TG) rm mc mz n := by
  obtain ⟨⟨hx, hb, hr, hml, hown, hT, hlocks, hK⟩, -⟩ := B
  have hG : GoodIn TG (va_wsS RL index y (Cond.codeWith y cy ny (some .int) hh :: TG)) := by
    intro w hw
    have key : w ∈ TG := by
      simp only [va_wsS, List.cons_append, List.nil_append, List.mem_cons] at hw
      rcases hw with rfl | rfl | rfl | rfl | hw
      · exact h1
      · exact h2
      · rw [hyc]; exact wn_RL
      · exact h5
      · exact hw
    exact ⟨key, good_of_word (tg_good key)⟩
  exact vx_cwSW n hT hG rfl hrc hrs hd hR
theorem ll_pre (B : LL G A A1 A2 o1 o2 p s m args meth c rt) (hW : LW G A A1 A2 am o1 o2 s ad st ms f g H) (hS : va_S A s.heap H locs) {o : Nat} {en : va_E} (hO : va_at G.1 vwCl (o, en) H) (ho : ¬ A1 o) (av : List Value) : ∀ U : State, U.heap = H → s.WarmedH U.vm → PWr G A1 ad st o en av av.toArray U := by
  obtain ⟨⟨hx, hb, hr, hml, hown, hT, hlocks, hK⟩, hNC, hLR, hA⟩ := B
  obtain ⟨hST, hM, -, -, -, hA1⟩ := hW
  intro U hU hWd
  exact ⟨rfl, VK.moved hWd.alike hK, (ST.at hST hS hWd hU).narrow fun q hq => (hLR.1 q hq).1, NC.moved hWd.alike hNC, by rw [hU]; exact hM, fun q hq => hA1 q (by rw [hU] at hq; exact hq), by rw [hU]; exact hO, ho⟩
/-- a wrapper with a long answer -/
theorem ll_wI (B : LL G A A1 A2 o1 o2 p s m args meth c rt) (hW : LW G A A1 A2 am o1 o2 s ad st ms f g H) (hS : va_S A s.heap H locs) {y : MethodName} {cy : ByteArray} {ny n index mc mz : Nat} {hh : List (Nat × Nat × Nat × Nat)} {rm : Room} {v : Int32} (As : List Value)
    (hMet : Met l y (Cond.codeWith y cy ny (some .int) hh :: TG) rm (PWr G A1 ad st o1 (outL G f) As) (QWr G A1 ad v st' o1 (outL G f')) mc mz (fun q => A1 q ∨ q = o1)) (h1 : Cond.methodLink RL index y ∈ TG) (h2 : Cond.static y ∈ TG) (hyc : y.cls = RL) (h5 : Cond.codeWith y cy ny (some .int) hh ∈ TG) (hrc : rm.cells = mc) (hrs : rm.slots = mz)
    (hd : y.cls ≠ "java/lang/invoke/MethodHandle" ∧ y.cls ≠ "java/lang/invoke/VarHandle" ∧ (parseMethodDescriptor y.desc).map (fun d => d.parameters.length) = some n) (hR : rm.frames + 1 ≤ R.frames ∧ 8 + (ny + 11) + rm.locals ≤ R.locals) (hf : cells + mc ≤ R.cells ∧ slots + mz ≤ R.slots) (hn : As.length = n) (hls : ls.size = 9) (hW8 : (rest.map fun v => v.category).sum ≤ 8) {st0 : List Value} (hst : st0 = As.reverse ++ rest) (hdg : decode code pc = .ok (.invokestatic index, 3))
    (kk : ∀ (ad' : AD) (H1 : Heap) (locs1 : List Loc), AE ad ad' → LW G A A1 A2 am o1 o2 s ad' st' ms f' g H1 → va_S A s.heap H1 locs1 → W p l e R s m args below meth c H1 locs1 (cells + mc) (slots + mz) Q (F0 m (pc + 3) ls (.int v :: rest))) : W p l e R s m args below meth c H locs cells slots Q (F0 m pc ls st0) := by
  have hcw := ll_cwSW (R := R) B h1 h2 hyc h5 hrc hrs hd hR
  have hLR := B.2.2.1
  have ho : ¬ A1 o1 := fun h => (hLR.1 _ h).2.2.1 rfl
  have hpre := ll_pre B hW hS hW.2.2.2.1 ho As
  obtain ⟨⟨hx, hb, hr, hml, hown, hT, hlocks, hK⟩, hNC, hLR, hA⟩ := B
  obtain ⟨hST, hM, hMM, hO1, hO2, hA1⟩ := hW
  intro T hT0 X
  obtain ⟨v', s₀, t, T', L, h0, X', hL, e1, e2, ⟨hv, ⟨ad', hae, hm⟩, hO', hF⟩, stp⟩ := vx_runSW ⟨hx, hb, hml, hown, hT⟩ hMet hcw ⟨pwr_blind, hpre⟩ rfl hn hls hst (lv_room hW8) hdg hf T hT0 X
  cases hv
  obtain ⟨k1, k2, k3⟩ := ll_step h0 e1 hS (fun q hq => by rcases hq with h | rfl; exact (hLR.1 q h).1; exact hLR.2.2.1) hL hF
  rw [← e1] at hm hO'
  obtain ⟨t2, a1, b1⟩ := kk ad' T'.heap (locs ++ L) hae ⟨ST.ad hae hST, hm, hMM.kept2 (fun q hl hq => k3 q hl (fun h => by rcases h with h | rfl; exact (hLR.1 q h).2.1 hq; exact (hLR.2.1 _ hq).2.1 rfl)), hO', hO2.kept (k3 _ hO2.lt (fun h => by rcases h with h | h; exact (hLR.1 _ h).2.2.2 rfl; exact hLR.2.2.2.2 h.symm)), fun q hq => hA1 q (Nat.le_trans k2 hq)⟩ k1 T' rfl X'
  exact ⟨t2, stp t2 a1, b1⟩
/-- a wrapper with a double answer -/
theorem ll_wD (B : LL G A A1 A2 o1 o2 p s m args meth c rt) (hW : LW G A A1 A2 am o1 o2 s ad st ms f g H) (hS : va_S A s.heap H locs) {y : MethodName} {cy : ByteArray} {ny n index mc mz : Nat} {hh : List (Nat × Nat × Nat × Nat)} {rm : Room} {v : Int32} (As : List Value)
    (hMet : Met l y (Cond.codeWith y cy ny (some .int) hh :: TG) rm (PWr G A1 ad st o2 (outD G g) As) (QWr G A1 ad v st' o2 (outD G g')) mc mz (fun q => A1 q ∨ q = o2)) (h1 : Cond.methodLink RL index y ∈ TG) (h2 : Cond.static y ∈ TG) (hyc : y.cls = RL) (h5 : Cond.codeWith y cy ny (some .int) hh ∈ TG) (hrc : rm.cells = mc) (hrs : rm.slots = mz)
    (hd : y.cls ≠ "java/lang/invoke/MethodHandle" ∧ y.cls ≠ "java/lang/invoke/VarHandle" ∧ (parseMethodDescriptor y.desc).map (fun d => d.parameters.length) = some n) (hR : rm.frames + 1 ≤ R.frames ∧ 8 + (ny + 11) + rm.locals ≤ R.locals) (hf : cells + mc ≤ R.cells ∧ slots + mz ≤ R.slots) (hn : As.length = n) (hls : ls.size = 9) (hW8 : (rest.map fun v => v.category).sum ≤ 8) {st0 : List Value} (hst : st0 = As.reverse ++ rest) (hdg : decode code pc = .ok (.invokestatic index, 3))
    (kk : ∀ (ad' : AD) (H1 : Heap) (locs1 : List Loc), AE ad ad' → LW G A A1 A2 am o1 o2 s ad' st' ms f g' H1 → va_S A s.heap H1 locs1 → W p l e R s m args below meth c H1 locs1 (cells + mc) (slots + mz) Q (F0 m (pc + 3) ls (.int v :: rest))) : W p l e R s m args below meth c H locs cells slots Q (F0 m pc ls st0) := by
  have hcw := ll_cwSW (R := R) B h1 h2 hyc h5 hrc hrs hd hR
  have hLR := B.2.2.1
  have ho : ¬ A1 o2 := fun h => (hLR.1 _ h).2.2.2 rfl
  have hpre := ll_pre B hW hS hW.2.2.2.2.1 ho As
  obtain ⟨⟨hx, hb, hr, hml, hown, hT, hlocks, hK⟩, hNC, hLR, hA⟩ := B
  obtain ⟨hST, hM, hMM, hO1, hO2, hA1⟩ := hW
  intro T hT0 X
  obtain ⟨v', s₀, t, T', L, h0, X', hL, e1, e2, ⟨hv, ⟨ad', hae, hm⟩, hO', hF⟩, stp⟩ := vx_runSW ⟨hx, hb, hml, hown, hT⟩ hMet hcw ⟨pwr_blind, hpre⟩ rfl hn hls hst (lv_room hW8) hdg hf T hT0 X
  cases hv
  obtain ⟨k1, k2, k3⟩ := ll_step h0 e1 hS (fun q hq => by rcases hq with h | rfl; exact (hLR.1 q h).1; exact hLR.2.2.2.1) hL hF
  rw [← e1] at hm hO'
  obtain ⟨t2, a1, b1⟩ := kk ad' T'.heap (locs ++ L) hae ⟨ST.ad hae hST, hm, hMM.kept2 (fun q hl hq => k3 q hl (fun h => by rcases h with h | rfl; exact (hLR.1 q h).2.1 hq; exact (hLR.2.1 _ hq).2.2 rfl)), hO1.kept (k3 _ hO1.lt (fun h => by rcases h with h | h; exact (hLR.1 _ h).2.2.1 rfl; exact hLR.2.2.2.2 h)), hO', fun q hq => hA1 q (Nat.le_trans k2 hq)⟩ k1 T' rfl X'
  exact ⟨t2, stp t2 a1, b1⟩
/-- a call of the reference -/
theorem ll_mV (B : LL G A A1 A2 o1 o2 p s m args meth c rt) (hW : LW G A A1 A2 am o1 o2 s ad st ms f g H) (hS : va_S A s.heap H locs) {y : MethodName} {cy : ByteArray} {ny n index : Nat} {ry : Option FieldType} {rm : Room} {v : Value} (As : List Value)
    (hMet : Met l y (Cond.code y cy ny ry :: TG) rm (PM G A2 am ms (.ref (am 0) :: As)) (QM G A2 am (some v) ms') 0 0 A2) (h1 : Cond.methodLink RL index y ∈ TG) (h2 : Cond.instanceMethod y ∈ TG) (h3 : Cond.selects RX6 y y ∈ TG) (h5 : Cond.code y cy ny ry ∈ TG) (hrc : rm.cells = 0) (hrs : rm.slots = 0)
    (hd : hdV y RX6 n) (hR : rm.frames + 1 ≤ R.frames ∧ 8 + (ny + 11) + rm.locals ≤ R.locals) (hf : cells ≤ R.cells ∧ slots ≤ R.slots) (hn : As.length = n) (hls : ls.size = 9) (hW8 : (rest.map fun v => v.category).sum ≤ 8) {st0 : List Value} (hst : st0 = As.reverse ++ .ref (am 0) :: rest) (hdg : decode code pc = .ok (.invokevirtual index, 3))
    (kk : ∀ (H1 : Heap) (locs1 : List Loc), LW G A A1 A2 am o1 o2 s ad st ms' f g H1 → va_S A s.heap H1 locs1 → W p l e R s m args below meth c H1 locs1 cells slots Q (F0 m (pc + 3) ls (v :: rest))) : W p l e R s m args below meth c H locs cells slots Q (F0 m pc ls st0) := by
  obtain ⟨⟨hx, hb, hr, hml, hown, hT, hlocks, hK⟩, hNC, hLR, hA⟩ := B
  obtain ⟨hST, hM, hMM, hO1, hO2, hA1⟩ := hW
  have hc : ∃ cellB : Cell, H[am 0]? = some cellB ∧ cellB.vm.isStatics = false ∧ s.vm.findClass RX6 = some cellB.cls := by
    obtain ⟨r, q0, cell, q1, q2, q3, -⟩ := (hMM.1 0 vm_0).1
    cases q0
    exact ⟨cell, q1, by rw [q3]; rfl, by rw [q2]; exact (hK.1 7 _ rfl).2.1⟩
  intro T hT0 X
  obtain ⟨v', s₀, t, T', L, h0, X', hL, e1, e2, ⟨hv, hm, hF⟩, stp⟩ := va_runV ⟨hx, hb, hml, hown, hT⟩ hMet (cwV n hT (tg_V h1 h2 h3 wn_RX6 h5) rfl hrc hrs hd hR) ⟨pm_blind, hc, fun U hU hWd => ⟨rfl, VK.moved hWd.alike hK, by rw [hU]; exact hMM⟩⟩ rfl hn hls hst (lv_room hW8) hdg hf T hT0 X
  cases hv
  obtain ⟨k1, k2, k3⟩ := ll_step h0 e1 hS (fun q hq => (hLR.2.1 q hq).1) hL hF
  rw [← e1] at hm
  obtain ⟨t2, a1, b1⟩ := kk T'.heap (locs ++ L) ⟨hST, hM.kept3 (fun q hl hq => k3 q hl (fun h => (hLR.1 q hq).2.1 h)), hm, hO1.kept (k3 _ hO1.lt (fun h => (hLR.2.1 _ h).2.1 rfl)), hO2.kept (k3 _ hO2.lt (fun h => (hLR.2.1 _ h).2.2 rfl)), fun q hq => hA1 q (Nat.le_trans k2 hq)⟩ k1 T' rfl X'
  exact ⟨t2, stp t2 a1, b1⟩
/-- a call of the class that does not throw -/
theorem ll_xV (B : LL G A A1 A2 o1 o2 p s m args meth c rt) (hW : LW G A A1 A2 am o1 o2 s ad st ms f g H) (hS : va_S A s.heap H locs) {y : MethodName} {cy : ByteArray} {ny n index mc mz : Nat} {ry : Option FieldType} {rm : Room} {v : Value} (As : List Value)
    (hMet : Met l y (Cond.code y cy ny ry :: TG) rm (PX G A1 ad st (.ref (ad 0 0) :: As)) (QX G A1 ad (some v) st') mc mz A1) (h1 : Cond.methodLink RL index y ∈ TG) (h2 : Cond.instanceMethod y ∈ TG) (h3 : Cond.selects RX5 y y ∈ TG) (h5 : Cond.code y cy ny ry ∈ TG) (hrc : rm.cells = mc) (hrs : rm.slots = mz)
    (hd : hdV y RX5 n) (hR : rm.frames + 1 ≤ R.frames ∧ 8 + (ny + 11) + rm.locals ≤ R.locals) (hf : cells + mc ≤ R.cells ∧ slots + mz ≤ R.slots) (hn : As.length = n) (hls : ls.size = 9) (hW8 : (rest.map fun v => v.category).sum ≤ 8) {st0 : List Value} (hst : st0 = As.reverse ++ .ref (ad 0 0) :: rest) (hdg : decode code pc = .ok (.invokevirtual index, 3))
    (kk : ∀ (H1 : Heap) (locs1 : List Loc), LW G A A1 A2 am o1 o2 s ad st' ms f g H1 → va_S A s.heap H1 locs1 → W p l e R s m args below meth c H1 locs1 (cells + mc) (slots + mz) Q (F0 m (pc + 3) ls (v :: rest))) : W p l e R s m args below meth c H locs cells slots Q (F0 m pc ls st0) := by
  obtain ⟨⟨hx, hb, hr, hml, hown, hT, hlocks, hK⟩, hNC, hLR, hA⟩ := B
  obtain ⟨hST, hM, hMM, hO1, hO2, hA1⟩ := hW
  have hrecv : ∃ cellB : Cell, H[ad 0 0]? = some cellB ∧ cellB.vm.isStatics = false ∧ s.vm.findClass RX5 = some cellB.cls := xw_recv hK hM 0 0 (Or.inl (Or.inl ⟨rfl, rfl⟩)) (ci := 6) (fun gh => ⟨_, rfl⟩) rfl
  intro T hT0 X
  obtain ⟨v', s₀, t, T', L, h0, X', hL, e1, e2, ⟨hv, hm, hF⟩, stp⟩ := va_runV ⟨hx, hb, hml, hown, hT⟩ hMet (cwV n hT (tg_V h1 h2 h3 wn_RX5 h5) rfl hrc hrs hd hR) ⟨px_blind, hrecv, fun U hU hWd => ⟨rfl, VK.moved hWd.alike hK, (ST.at hST hS hWd hU).narrow (fun q hq => (hLR.1 q hq).1), by rw [hU]; exact hM, fun q hq => hA1 q (by rw [hU] at hq; exact hq)⟩⟩ rfl hn hls hst (lv_room hW8) hdg hf T hT0 X
  cases hv
  obtain ⟨k1, k2, k3⟩ := ll_step h0 e1 hS (fun q hq => (hLR.1 q hq).1) hL hF
  rw [← e1] at hm
  obtain ⟨t2, a1, b1⟩ := kk T'.heap (locs ++ L) ⟨hST, hm, hMM.kept2 (fun q hl hq => k3 q hl (fun h => (hLR.1 q h).2.1 hq)), hO1.kept (k3 _ hO1.lt (fun h => (hLR.1 _ h).2.2.1 rfl)), hO2.kept (k3 _ hO2.lt (fun h => (hLR.1 _ h).2.2.2 rfl)), fun q hq => hA1 q (Nat.le_trans k2 hq)⟩ k1 T' rfl X'
  exact ⟨t2, stp t2 a1, b1⟩
theorem ll_lald (B : LL G A A1 A2 o1 o2 p s m args meth c rt) (hW : LW G A A1 A2 am o1 o2 s ad st ms f g H) (hdg : decode code pc = .ok (.laload, 1)) (kk : W p l e R s m args below meth c H locs cells slots Q (F0 m (pc + 1) ls (.long (f 0) :: rest))) : W p l e R s m args below meth c H locs cells slots Q (F0 m pc ls (.int 0 :: .ref o1 :: rest)) := by
  obtain ⟨⟨hx, hb, hr, hml, hown, hT, hlocks, hK⟩, hNC, hLR, hA⟩ := B
  exact va_lald hx hb hK (va_P1 hW.2.2.2.1) 0 3 rfl rfl (by unfold vp_in; decide) hdg kk
theorem ll_dald (B : LL G A A1 A2 o1 o2 p s m args meth c rt) (hW : LW G A A1 A2 am o1 o2 s ad st ms f g H) (hdg : decode code pc = .ok (.daload, 1)) (kk : W p l e R s m args below meth c H locs cells slots Q (F0 m (pc + 1) ls (.double (g 0) :: rest))) : W p l e R s m args below meth c H locs cells slots Q (F0 m pc ls (.int 0 :: .ref o2 :: rest)) := by
  obtain ⟨⟨hx, hb, hr, hml, hown, hT, hlocks, hK⟩, hNC, hLR, hA⟩ := B
  exact va_dald hx hb hK (va_P1 hW.2.2.2.2.1) 0 4 rfl rfl (by unfold vp_in; decide) hdg kk
end LLR
