/-! The law's wrappers: a call that may throw, its answer into a cell, or a code. -/
def NC (U : State) : Prop := ∀ i j, i < 5 → j < 5 → i ≠ j → va_Nc (exn i) (exn j) U
theorem NC.moved {u U : State} (hvm : u.vm.Alike U.vm) (h : NC u) : NC U := fun i j a b c => va_Nc.moved hvm (h i j a b c)
def te (q : Nat × Nat × Nat × Nat) : ExceptionTableEntry := ⟨q.1, q.2.1, q.2.2.1, q.2.2.2⟩
def lwc (L : List Nat) {α : Type} (r : Nat ⊕ α) : Int32 := match r with
  | .inl k => nI (L.findIdx (· == k) + 1)
  | .inr _ => 0
def PWr (G : GG) (A : Nat → Prop) (ad : AD) (st : XS) (o : Nat) (en : va_E) (av : List Value) : Array Value → State → Prop := va_Pc av (fun U => VK G U ∧ ST G A ad U U.heap ∧ NC U ∧ XW G A ad st U.heap ∧ (∀ q : Nat, U.heap.size ≤ q → A q) ∧ va_at G.1 vwCl (o, en) U.heap ∧ ¬ A o)
def QWr (G : GG) (A : Nat → Prop) (ad : AD) (v : Int32) (st : XS) (o : Nat) (en : va_E) : Array Value → State → Outcome → State → Prop := fun _ s0 oc t => oc = .returned (some (.int v)) ∧ (∃ ad', AE ad ad' ∧ XW G A ad' st t.heap) ∧ va_at G.1 vwCl (o, en) t.heap ∧ va_F (fun q => A q ∨ q = o) s0 t
theorem pwr_blind {G : GG} {A : Nat → Prop} {ad : AD} {st : XS} {o : Nat} {en : va_E} {av : List Value} : FrameBlind (PWr G A ad st o en av) := by
  intro a U g mk q
  obtain ⟨q0, q1, q2, q3, q4, q5⟩ := q
  exact ⟨q0, VK.moved (u := U) (U := U.calling g mk a) (Vm.Alike.refl U.vm) q1, ST.blind q2, NC.moved (u := U) (U := U.calling g mk a) (Vm.Alike.refl U.vm) q3, q4, q5⟩
/-- a method that throws, its world left to grow -/
theorem xe_met {l : Launch} {y : MethodName} {ws : List Cond} {rm : Room} {G : GG} {A : Nat → Prop} {ad : AD} {st : XS} {P : Array Value → State → Prop} {o : Nat ⊕ Option Value} {mc ms : Nat} (h : vx_Met l y ws rm P (QXr G A ad o st) (QXx G A ad o st) mc ms A) : vx_Met l y ws rm P (QEr G A ad o st) (QEx G A ad o st) mc ms A := by
  intro p e ha hc hk s m args below hf hfit hpre hinv
  obtain ⟨k, oc, h1, h2, h3, h4⟩ := h p e ha hc hk s m args below hf hfit hpre hinv
  refine ⟨k, oc, h1, h2, h3, ?_⟩
  rcases h4 with ⟨⟨c1, c2, c3⟩, d⟩ | h
  · exact Or.inl ⟨⟨c1, ⟨ad, AE.rf, c2⟩, c3⟩, d⟩
  · obtain ⟨q, h0, E, ce, L9, ⟨g1, g2, g3⟩, h4⟩ := h
    exact Or.inr ⟨q, h0, E, ce, L9, ⟨g1, ⟨ad, AE.rf, g2⟩, g3⟩, h4⟩
section XLR
variable {p : Program} {l : Launch} {e : Env} {R : Room} {s : State} {m : MethodId} {args : Array Value} {below : List Frame} {meth : Method} {c : Code} {H : Heap} {locs : List Loc} {cells slots : Nat} {Q : State → Prop}
variable {cc : ByteArray} {nL pc : Nat} {own : String} {rt : Option FieldType} {ls : Array Slot} {rest : List Value} {G : GG} {A : Nat → Prop} {ad : AD} {st st' : XS} {MC MS : Nat}
def LB (G : GG) (A : Nat → Prop) (ad : AD) (p : Program) (s : State) (m : MethodId) (args : Array Value) (meth : Method) (c : Code) (cc : ByteArray) (nL : Nat) (own : String) (rt : Option FieldType) : Prop :=
  MB G p s m args meth c cc nL own rt ∧ ST G A ad s s.heap ∧ NC s ∧ ∀ q : Nat, s.heap.size ≤ q → A q
theorem xl_pre (B : LB G A ad p s m args meth c cc nL own rt) (hM : XW G A ad st H) (hS : va_S A s.heap H locs) (av : List Value) : ∀ U : State, U.heap = H → s.WarmedH U.vm → PX G A ad st av av.toArray U := by
  obtain ⟨⟨hx, hb, hr, hml, hown, hT, hlocks, hK⟩, hST, hNC, hA⟩ := B
  intro U hU hW
  exact ⟨rfl, VK.moved hW.alike hK, ST.at hST hS hW hU, by rw [hU]; exact hM, fun q hq => hA q (Nat.le_trans hS.1 (by rw [hU] at hq; exact hq))⟩
theorem xl_run (B : LB G A ad p s m args meth c cc nL own rt) (hM : XW G A ad st H) (hS : va_S A s.heap H locs) {y : MethodName} {cy : ByteArray} {ny n index mc ms : Nat} {ry : Option FieldType} {rm : Room} {o : Nat ⊕ Option Value} (As : List Value)
    (hMet : vx_Met l y (Cond.code y cy ny ry :: TG) rm (PX G A ad st (.ref (ad 0 0) :: As)) (QEr G A ad o st') (QEx G A ad o st') mc ms A)
    (h1 : Cond.methodLink own index y ∈ TG) (h2 : Cond.instanceMethod y ∈ TG) (h3 : Cond.selects RX5 y y ∈ TG) (h4 : Cond.initialized RX5 ∈ TG) (h5 : Cond.code y cy ny ry ∈ TG) (hrc : rm.cells = mc) (hrs : rm.slots = ms) (hd : hdV y RX5 n)
    (hR : rm.frames + 1 ≤ R.frames ∧ 8 + (ny + 11) + rm.locals ≤ R.locals) (hf : cells + mc ≤ R.cells ∧ slots + ms ≤ R.slots) (hn : As.length = n) (hls : ls.size = nL) (hW : (rest.map fun v => v.category).sum ≤ 8) {st0 : List Value} (hst : st0 = As.reverse ++ .ref (ad 0 0) :: rest) (hdg : decode cc pc = .ok (.invokevirtual index, 3)) :
    vx_Run p l e R s m args below meth c H locs cells slots mc ms (F0 m pc ls st0) rest (QEr G A ad o st' ((Value.ref (ad 0 0)) :: As).toArray) (QEx G A ad o st') A := by
  have hpre := xl_pre B hM hS (.ref (ad 0 0) :: As)
  obtain ⟨⟨hx, hb, hr, hml, hown, hT, hlocks, hK⟩, hST, hNC, hA⟩ := B
  have hrecv : ∃ cellB : Cell, H[ad 0 0]? = some cellB ∧ cellB.vm.isStatics = false ∧ s.vm.findClass RX5 = some cellB.cls := xw_recv hK hM 0 0 (Or.inl (Or.inl ⟨rfl, rfl⟩)) (ci := 6) (fun gh => ⟨_, rfl⟩) rfl
  exact vx_runV ⟨hx, hb, hml, hown, hT⟩ hMet (cwV n hT (tg_V h1 h2 h3 h4 h5) rfl hrc hrs hd hR) ⟨px_blind, hrecv, hpre⟩ rfl hn hls hst (lv_room hW) hdg hf
theorem xl_step {s₀ t T' : State} {L : List Loc} (h0 : s₀.heap = H) (e1 : T'.heap = t.heap) (hS : va_S A s.heap H locs) (hL : ∀ q ∈ L, A q.base) (hF : va_F A s₀ t) : va_S A s.heap T'.heap (locs ++ L) ∧ H.size ≤ T'.heap.size ∧ ∀ q : Nat, q < H.size → ¬ A q → T'.heap[q]? = H[q]? := by
  obtain ⟨hz, hk⟩ := hF
  rw [h0] at hz hk
  rw [← e1] at hz hk
  exact ⟨⟨Nat.le_trans hS.1 hz, fun q h1 h2 => by rw [hk q (Nat.lt_of_lt_of_le h1 hS.1) h2]; exact hS.2.1 q h1 h2, fun q hq => by
      rcases List.mem_append.mp hq with h | h
      · exact hS.2.2 q h
      · exact hL q h⟩, hz, hk⟩
theorem xl_ret {mc ms : Nat} {v : Option Value} {a : Array Value} {st0 : List Value} (hr : vx_Run p l e R s m args below meth c H locs cells slots mc ms (F0 m pc ls st0) rest (QEr G A ad (.inr v) st' a) (QEx G A ad (.inr v) st') A) (hS : va_S A s.heap H locs)
    (kk : ∀ (ad' : AD) (H1 : Heap) (locs1 : List Loc), AE ad ad' → XW G A ad' st' H1 → va_S A s.heap H1 locs1 → H.size ≤ H1.size → (∀ q : Nat, q < H.size → ¬ A q → H1[q]? = H[q]?) → W p l e R s m args below meth c H1 locs1 (cells + mc) (slots + ms) Q (F0 m (pc + 3) ls (v.toList ++ rest))) : W p l e R s m args below meth c H locs cells slots Q (F0 m pc ls st0) := by
  intro T hT X
  rcases hr T hT X with ⟨v', s₀, t, T', L, h0, X', hL, e1, e2, ⟨⟨v2, hv2, hv⟩, ⟨ad', hae, hm⟩, hF⟩, stp⟩ | ⟨q, s₀, t, T', L, E, ce, h0, X', hL, e1, e2, ⟨⟨k, hk, -⟩, -⟩, -⟩
  · cases hv2
    cases hv
    obtain ⟨k1, k2, k3⟩ := xl_step h0 e1 hS hL hF
    obtain ⟨t2, a1, b1⟩ := kk ad' T'.heap (locs ++ L) hae (by rw [e1]; exact hm) k1 k2 k3 T' rfl X'
    exact ⟨t2, stp t2 a1, b1⟩
  · cases hk
theorem xl_thr {mc ms k : Nat} {a : Array Value} {st0 : List Value} (hr : vx_Run p l e R s m args below meth c H locs cells slots mc ms (F0 m pc ls st0) rest (QEr G A ad (.inl k) st' a) (QEx G A ad (.inl k) st') A) (hS : va_S A s.heap H locs) (B : LB G A ad p s m args meth c cc nL own rt)
    (pre : List ExceptionTableEntry) (x : ExceptionTableEntry) (suf : List ExceptionTableEntry) (hsplit : c.exceptionTable.toList = pre ++ x :: suf)
    (hpass : ∀ z ∈ pre, z.catchType ≠ 0 ∧ ∃ j, j < 5 ∧ k ≠ j ∧ Cond.classLink own z.catchType (exn j) ∈ TG) (hk5 : k < 5) (hx : covers x pc = true) (h0 : x.catchType ≠ 0) (hlink : Cond.classLink own x.catchType (exn k) ∈ TG)
    (kk : ∀ (ad' : AD) (q : Nat) (H1 : Heap) (locs1 : List Loc), AE ad ad' → XW G A ad' st' H1 → va_S A s.heap H1 locs1 → H.size ≤ H1.size → (∀ q : Nat, q < H.size → ¬ A q → H1[q]? = H[q]?) → W p l e R s m args below meth c H1 locs1 (cells + mc) (slots + ms) Q (F0 m x.handlerPc ls [.ref q])) : W p l e R s m args below meth c H locs cells slots Q (F0 m pc ls st0) := by
  obtain ⟨⟨hx', hb, hr', hml, hown, hT9, hlocks, hK⟩, hST, hNC, hA⟩ := B
  have hcast : (Cond.castable (exn k) (exn k)).before args s = true := by
    refine va_Nw.use rfl (hST.2.2.2.1 _ ?_)
    rcases (show k = 0 ∨ k = 1 ∨ k = 2 ∨ k = 3 ∨ k = 4 by omega) with rfl | rfl | rfl | rfl | rfl <;> decide +kernel
  intro T hT X
  rcases hr T hT X with ⟨v', s₀, t, T', L, h0, X', hL, e1, e2, ⟨⟨v2, hv2, hv⟩, -⟩, stp⟩ | ⟨q, s₀, t, T', L, E, ce, h0', X', hL, e1, e2, ⟨⟨k2, hk, hE⟩, ⟨ad', hae, hm⟩, hF⟩, hce, hcv, hcl, stp⟩
  · cases hv2
  · cases hk
    subst hE
    obtain ⟨k1, k2, k3⟩ := xl_step h0' e1 hS hL hF
    obtain ⟨t2, a1, b1⟩ := vx_catch (p := p) (l := l) (e := e) (R := R) (below := below) (pc := pc) (ls := ls) (rest := rest) (H := T'.heap) (locs := locs ++ L) (cells := cells + mc) (slots := slots + ms) (Q := Q) hown pre x suf hsplit (fun z hz => by
      obtain ⟨g1, j, g2, g3, g4⟩ := hpass z hz
      exact Or.inr ⟨g1, _, hT9 _ g4, hNC k j hk5 g2 g3⟩) hx h0 (hT9 _ hlink) hcast (by rw [e1]; exact hce) hcv hcl (kk ad' q T'.heap (locs ++ L) hae (by rw [e1]; exact hm) k1 k2 k3) T' rfl X'
    exact ⟨t2, stp.trans a1, b1⟩
theorem xl_wide (hS : va_S A s.heap H locs) {o : Nat} : va_S (fun q => A q ∨ q = o) s.heap H locs := ⟨hS.1, fun q h1 h2 => hS.2.1 q h1 (fun h => h2 (Or.inl h)), fun q hq => Or.inl (hS.2.2 q hq)⟩
theorem xl_off {H1 : Heap} {o : Nat} (hM : XW G A ad st H) (ho : ¬ A o) (oq : ∀ q : Nat, q ≠ o → H1[q]? = H[q]?) : XW G A ad st H1 := by
  obtain ⟨gh, hW, h2⟩ := hM
  exact ⟨gh, hW.kept2 fun i hi _ => oq _ fun h => ho (h ▸ (hW.1 i hi).2), h2⟩
theorem xl_last (B : LB G A ad p s m args meth c cc nL own rt) {ad' : AD} (hM : XW G A ad' st H) (hS : va_S A s.heap H locs) {o : Nat} (ho : ¬ A o) {f : Nat → Int64} (hO : va_at G.1 vwCl (o, .inl (G.2 3, 1, .inr (.inl f))) H) {x : Int64} (hdg : decode cc pc = .ok (.lastore, 1))
    (kk : ∀ (H1 : Heap) (locs1 : List Loc), XW G A ad' st H1 → va_at G.1 vwCl (o, .inl (G.2 3, 1, .inr (.inl (vp_updL f 0 x)))) H1 → va_S (fun q => A q ∨ q = o) s.heap H1 locs1 → W p l e R s m args below meth c H1 locs1 cells slots Q (F0 m (pc + 1) ls rest)) : W p l e R s m args below meth c H locs cells slots Q (F0 m pc ls (.long x :: .int 0 :: .ref o :: rest)) := by
  obtain ⟨⟨hx', hb, hr', hml, hown, hT9, hlocks, hK⟩, hST, hNC, hA⟩ := B
  refine W.last hx' hb hO ((hK.2 3 (G.2 3, .long) rfl).1 1 (fun j => .long (f j))) (fun q => by cases q) (by show ¬ ((0 : Int32) < 0 ∨ (arrV _ _ _).slots.size ≤ _); rw [arrV_size]; show ¬ ((0 : Int32) < 0 ∨ 1 ≤ Int32.toNatClampNeg 0); decide) rfl rfl hdg fun H1 e z oq => ?_
  refine kk H1 _ (xl_off hM ho oq) ?_ ((xl_wide hS).put z oq (Or.inr rfl))
  show H1[o]? = some (vp_cell _ _)
  rw [e]
  rw [vp_cell_l, vp_cell_l, arrV_store]
  congr 2
  funext q
  by_cases hq : q = 0
  · subst hq
    simp [updV, vp_updL]
  · simp [updV, vp_updL, hq]
theorem xl_dast (B : LB G A ad p s m args meth c cc nL own rt) {ad' : AD} (hM : XW G A ad' st H) (hS : va_S A s.heap H locs) {o : Nat} (ho : ¬ A o) {f : Nat → UInt64} (hO : va_at G.1 vwCl (o, .inl (G.2 4, 1, .inr (.inr (.inr (.inl f))))) H) {x : UInt64} (hdg : decode cc pc = .ok (.dastore, 1))
    (kk : ∀ (H1 : Heap) (locs1 : List Loc), XW G A ad' st H1 → va_at G.1 vwCl (o, .inl (G.2 4, 1, .inr (.inr (.inr (.inl (vf_upd f 0 x)))))) H1 → va_S (fun q => A q ∨ q = o) s.heap H1 locs1 → W p l e R s m args below meth c H1 locs1 cells slots Q (F0 m (pc + 1) ls rest)) : W p l e R s m args below meth c H locs cells slots Q (F0 m pc ls (.double x :: .int 0 :: .ref o :: rest)) := by
  obtain ⟨⟨hx', hb, hr', hml, hown, hT9, hlocks, hK⟩, hST, hNC, hA⟩ := B
  refine W.dast hx' hb hO ((hK.2 4 (G.2 4, .double) rfl).1 1 (fun j => .double (f j))) (fun q => by cases q) (by show ¬ ((0 : Int32) < 0 ∨ (arrV _ _ _).slots.size ≤ _); rw [arrV_size]; show ¬ ((0 : Int32) < 0 ∨ 1 ≤ Int32.toNatClampNeg 0); decide) rfl rfl hdg fun H1 e z oq => ?_
  refine kk H1 _ (xl_off hM ho oq) ?_ ((xl_wide hS).put z oq (Or.inr rfl))
  show H1[o]? = some (vp_cell _ _)
  rw [e]
  rw [vp_cell_d, vp_cell_d, arrV_store]
  congr 2
  funext q
  by_cases hq : q = 0
  · subst hq
    simp [updV, vf_upd]
  · simp [updV, vf_upd, hq]
theorem xl_end (B : LB G A ad p s m args meth c cc nL own (some .int)) {ad' : AD} (hae : AE ad ad') (hM : XW G A ad' st H) {o : Nat} {en : va_E} (hO : va_at G.1 vwCl (o, en) H) (hS : va_S (fun q => A q ∨ q = o) s.heap H locs) (hc : cells ≤ MC) (hs : slots ≤ MS) {v w : Int32} (hv : v = w) (hdg : decode cc pc = .ok (.ireturn, 1)) : W p l e R s m args below meth c H locs cells slots (MQ below (QWr G A ad w st o en) args s MC MS (fun q => A q ∨ q = o)) (F0 m pc ls [.int v]) := by
  subst hv
  obtain ⟨⟨hx, hb, hr, -, -, -, hlocks, -⟩, -⟩ := B
  exact W.widen hc hs (W.iret hx hb hr (fun t ht hW => ⟨rfl, ⟨ad', hae, by rw [ht]; exact hM⟩, by rw [ht]; exact hO, hS.F ht⟩) hS.2.2 hdg)
end XLR
theorem xl_of {l : Launch} {y : MethodName} {cc : ByteArray} {n : Nat} {rm : Room} {G : GG} {A : Nat → Prop} {ad : AD} {st st' : XS} {av : List Value} {v : Int32} {o : Nat} {en en' : va_E} {hh : List (Nat × Nat × Nat × Nat)} (hy : plainName y.cls = true) (hyc : y.cls = RL) (hlen : (lg_sl av).length ≤ n) {MC MS : Nat}
    (body : ∀ (p : Program) (e : Env) (s : State) (m : MethodId) (below : List Frame) (meth : Method) (c : Code) (ls : Array Slot), LB G A ad p s m av.toArray meth c cc n RL (some .int) → c.exceptionTable.toList = tableOf hh → XW G A ad st s.heap → va_at G.1 vwCl (o, en) s.heap → ¬ A o → va_S A s.heap s.heap [] → lv_has ls n (lv_args 0 av) → W p l e rm s m av.toArray below meth c s.heap [] 0 0 (MQ below (QWr G A ad v st' o en') av.toArray s MC MS (fun q => A q ∨ q = o)) (F0 m 0 ls [])) :
    Met l y (Cond.codeWith y cc n (some .int) hh :: TG) rm (PWr G A ad st o en av) (QWr G A ad v st' o en') MC MS (fun q => A q ∨ q = o) := by
  refine MetFree.of_bodyS (code := cc) (maxLocals := n) (ret := some .int) hy ?_ ?_
  · intro args s m h hn
    obtain ⟨m9, meth, c, hn9, h1, h2, h3, h4, -, h5, h6, -⟩ := Cond.codeWith_spec (atoms_spec (ws := Cond.codeWith y cc n (some .int) hh :: TG) h _ List.mem_cons_self)
    cases hn.symm.trans hn9
    exact ⟨meth, c, h1, h2, h3, h4, h5, h6⟩
  · intro p e s m args below meth c s₁ B hml hP _
    obtain ⟨rfl, hK, hST, hNC, hM, hA, hO, ho⟩ := hP
    have hh0 : s₁.heap = s.heap := by rw [B.state]; rfl
    have hts := atoms_spec (ws := Cond.codeWith y cc n (some .int) hh :: TG) B.pre
    have hown : s.vm.findClass RL = some m.cls := hyc ▸ findClass_of_methodNamed B.named
    have hl := lv_entry av hlen
    have K := body p e s m below meth c _ ⟨⟨B.exec, B.bytes, B.returns, hml, hown, fun w hw => hts w (List.mem_cons_of_mem _ hw), B.notSynchronized, hK⟩, hST, hNC, hA⟩ (vx_table (x := y) B (hts _ List.mem_cons_self)) hM hO ho va_S.rf hl
    rw [← lg_entry_eq] at K
    obtain ⟨t, a1, o, b1, b2, b3, b4⟩ := K s₁ hh0 (Stand.of_body B)
    exact ⟨t, o, a1, b1, b2, b3, b4⟩
