/-! ArrayList's methods, over one list's own cells. -/
/-- a method that leaves the heap as it is -/
def PH (G : GG) (F : Heap → Prop) (av : List Value) : Array Value → State → Prop := va_Pc av (fun U => VK G U ∧ F U.heap)
def QH (v : Value) : Array Value → State → Outcome → State → Prop := fun _ s0 oc t => oc = .returned (some v) ∧ t.heap = s0.heap
def QHv : Array Value → State → Outcome → State → Prop := fun _ s0 oc t => oc = .returned none ∧ t.heap = s0.heap
theorem ph_blind {G : GG} {F : Heap → Prop} {av : List Value} : FrameBlind (PH G F av) := by
  intro a U g mk q
  obtain ⟨q0, q1, q2⟩ := q
  exact ⟨q0, VK.moved (u := U) (U := U.calling g mk a) (Vm.Alike.refl U.vm) q1, q2⟩
theorem ph_of {l : Launch} {y : MethodName} {cc : ByteArray} {n : Nat} {ret : Option FieldType} {rm : Room} {G : GG} {F : Heap → Prop} {av : List Value} {own : String} {Qc : Array Value → State → Outcome → State → Prop} (hy : plainName y.cls = true) (hyc : y.cls = own) (hlen : (lg_sl av).length ≤ n)
    (body : ∀ (p : Program) (e : Env) (s : State) (m : MethodId) (below : List Frame) (meth : Method) (c : Code) (ls : Array Slot), MB G p s m av.toArray meth c cc n own ret → F s.heap → lv_has ls n (lv_args 0 av) → W p l e rm s m av.toArray below meth c s.heap [] 0 0 (MQ below Qc av.toArray s 0 0 (fun _ => False)) (F0 m 0 ls [])) :
    Met l y (Cond.code y cc n ret :: TG) rm (PH G F av) Qc 0 0 (fun _ => False) := by
  refine Met.ofW (cc := cc) (maxL := n) (ret := ret) hy rfl ?_
  intro p e s m args below meth c s₁ B hml hv
  obtain ⟨rfl, hK, hM⟩ := hv
  have hts := atoms_spec (ws := Cond.code y cc n ret :: TG) B.pre
  have hown : s.vm.findClass own = some m.cls := hyc ▸ findClass_of_methodNamed B.named
  have hl := lv_entry av hlen
  rw [lg_entry_eq]
  exact body p e s m below meth c _ ⟨B.exec, B.bytes, B.returns, hml, hown, fun w hw => hts w (List.mem_cons_of_mem _ hw), B.notSynchronized, hK⟩ hM hl
section PHR
variable {p : Program} {l : Launch} {e : Env} {R : Room} {s : State} {m : MethodId} {args : Array Value} {below : List Frame} {meth : Method} {c : Code} {H : Heap} {locs : List Loc} {cells slots : Nat} {Q : State → Prop}
variable {cc : ByteArray} {nL pc : Nat} {own C : String} {rt : Option FieldType} {ls : Array Slot} {rest : List Value} {G : GG} {F : Heap → Prop}
variable {y : MethodName} {cy : ByteArray} {ny n index : Nat} {ry : Option FieldType} {rm : Room}
theorem ph_behind {v : Value} {a : Array Value} {st0 : List Value} (hr : va_Run p l e R s m args below meth c H locs cells slots 0 0 (F0 m pc ls st0) rest (QH v a) (fun _ => False))
    (kk : W p l e R s m args below meth c H locs cells slots Q (F0 m (pc + 3) ls (v :: rest))) : W p l e R s m args below meth c H locs cells slots Q (F0 m pc ls st0) := by
  intro T hT X
  obtain ⟨v', s₀, t, T', L, h0, X', hL, e1, e2, ⟨hv, hh⟩, stp⟩ := hr T hT X
  cases hv
  have hLn : L = [] := by
    cases L with
    | nil => rfl
    | cons a b => exact (hL a List.mem_cons_self).elim
  subst hLn
  rw [List.append_nil] at X'
  obtain ⟨t2, a1, b1⟩ := kk T' (by rw [e1, hh, h0]) X'
  exact ⟨t2, stp t2 a1, b1⟩
theorem ph_behindv {a : Array Value} {st0 : List Value} (hr : va_Run p l e R s m args below meth c H locs cells slots 0 0 (F0 m pc ls st0) rest (QHv a) (fun _ => False))
    (kk : W p l e R s m args below meth c H locs cells slots Q (F0 m (pc + 3) ls rest)) : W p l e R s m args below meth c H locs cells slots Q (F0 m pc ls st0) := by
  intro T hT X
  obtain ⟨v', s₀, t, T', L, h0, X', hL, e1, e2, ⟨hv, hh⟩, stp⟩ := hr T hT X
  cases hv
  have hLn : L = [] := by
    cases L with
    | nil => rfl
    | cons a b => exact (hL a List.mem_cons_self).elim
  subst hLn
  rw [List.append_nil] at X'
  obtain ⟨t2, a1, b1⟩ := kk T' (by rw [e1, hh, h0]) X'
  exact ⟨t2, stp t2 a1, b1⟩
theorem tg_O (h1 : Cond.methodLink own index y ∈ TG) (h2 : Cond.static y ∈ TG) (h4 : Cond.initialized y.cls ∈ TG) (h5 : Cond.code y cy ny ry ∈ TG) : GoodIn TG (va_wsS own index y (Cond.code y cy ny ry :: TG)) := by
  intro w hw
  have key : w ∈ TG := by
    simp only [va_wsS, List.cons_append, List.nil_append, List.mem_cons] at hw
    rcases hw with rfl | rfl | rfl | rfl | hw
    · exact h1
    · exact h2
    · exact h4
    · exact h5
    · exact hw
  exact ⟨key, good_of_word (tg_good key)⟩
abbrev hdS (y : MethodName) (n : Nat) : Prop := y.cls ≠ "java/lang/invoke/MethodHandle" ∧ y.cls ≠ "java/lang/invoke/VarHandle" ∧ (parseMethodDescriptor y.desc).map (fun d => d.parameters.length) = some n
theorem ph_callS (B : MB G p s m args meth c cc nL own rt) {v : Value} (As : List Value) (hF : F H) (hMet : Met l y (Cond.code y cy ny ry :: TG) rm (PH G F As) (QH v) 0 0 (fun _ => False))
    (h1 : Cond.methodLink own index y ∈ TG) (h2 : Cond.static y ∈ TG) (h4 : Cond.initialized y.cls ∈ TG) (h5 : Cond.code y cy ny ry ∈ TG) (hrc : rm.cells = 0) (hrs : rm.slots = 0) (hd : hdS y n)
    (hR : rm.frames + 1 ≤ R.frames ∧ 8 + (ny + 11) + rm.locals ≤ R.locals) (hf : cells ≤ R.cells ∧ slots ≤ R.slots) (hn : As.length = n) (hls : ls.size = nL) (hW : (rest.map fun v => v.category).sum ≤ 8) {st0 : List Value} (hst : st0 = As.reverse ++ rest) (hdg : decode cc pc = .ok (.invokestatic index, 3))
    (kk : W p l e R s m args below meth c H locs cells slots Q (F0 m (pc + 3) ls (v :: rest))) : W p l e R s m args below meth c H locs cells slots Q (F0 m pc ls st0) := by
  obtain ⟨hx, hb, hr, hml, hown, hT, hlocks, hK⟩ := B
  exact ph_behind (va_runS ⟨hx, hb, hml, hown, hT⟩ hMet (va_cwS n hT (tg_O h1 h2 h4 h5) rfl hrc hrs hd hR) ⟨ph_blind, fun U hU hW => ⟨rfl, VK.moved hW.alike hK, by rw [hU]; exact hF⟩⟩ rfl hn hls hst (lv_room hW) hdg hf) kk
theorem ph_callV (B : MB G p s m args meth c cc nL own rt) {v : Value} {b : Nat} (hrecv : ∃ cellB : Cell, H[b]? = some cellB ∧ cellB.vm.isStatics = false ∧ s.vm.findClass C = some cellB.cls) (As : List Value) (hF : F H) (hMet : Met l y (Cond.code y cy ny ry :: TG) rm (PH G F (.ref b :: As)) (QH v) 0 0 (fun _ => False))
    (h1 : Cond.methodLink own index y ∈ TG) (h2 : Cond.instanceMethod y ∈ TG) (h3 : Cond.selects C y y ∈ TG) (h4 : Cond.initialized C ∈ TG) (h5 : Cond.code y cy ny ry ∈ TG) (hrc : rm.cells = 0) (hrs : rm.slots = 0) (hd : hdV y C n)
    (hR : rm.frames + 1 ≤ R.frames ∧ 8 + (ny + 11) + rm.locals ≤ R.locals) (hf : cells ≤ R.cells ∧ slots ≤ R.slots) (hn : As.length = n) (hls : ls.size = nL) (hW : (rest.map fun v => v.category).sum ≤ 8) {st0 : List Value} (hst : st0 = As.reverse ++ .ref b :: rest) (hdg : decode cc pc = .ok (.invokevirtual index, 3))
    (kk : W p l e R s m args below meth c H locs cells slots Q (F0 m (pc + 3) ls (v :: rest))) : W p l e R s m args below meth c H locs cells slots Q (F0 m pc ls st0) := by
  obtain ⟨hx, hb, hr, hml, hown, hT, hlocks, hK⟩ := B
  exact ph_behind (va_runV ⟨hx, hb, hml, hown, hT⟩ hMet (cwV n hT (tg_V h1 h2 h3 h4 h5) rfl hrc hrs hd hR) ⟨ph_blind, hrecv, fun U hU hW => ⟨rfl, VK.moved hW.alike hK, by rw [hU]; exact hF⟩⟩ rfl hn hls hst (lv_room hW) hdg hf) kk
theorem ph_callVv (B : MB G p s m args meth c cc nL own rt) {b : Nat} (hrecv : ∃ cellB : Cell, H[b]? = some cellB ∧ cellB.vm.isStatics = false ∧ s.vm.findClass C = some cellB.cls) (As : List Value) (hF : F H) (hMet : Met l y (Cond.code y cy ny ry :: TG) rm (PH G F (.ref b :: As)) QHv 0 0 (fun _ => False))
    (h1 : Cond.methodLink own index y ∈ TG) (h2 : Cond.instanceMethod y ∈ TG) (h3 : Cond.selects C y y ∈ TG) (h4 : Cond.initialized C ∈ TG) (h5 : Cond.code y cy ny ry ∈ TG) (hrc : rm.cells = 0) (hrs : rm.slots = 0) (hd : hdV y C n)
    (hR : rm.frames + 1 ≤ R.frames ∧ 8 + (ny + 11) + rm.locals ≤ R.locals) (hf : cells ≤ R.cells ∧ slots ≤ R.slots) (hn : As.length = n) (hls : ls.size = nL) (hW : (rest.map fun v => v.category).sum ≤ 8) {st0 : List Value} (hst : st0 = As.reverse ++ .ref b :: rest) (hdg : decode cc pc = .ok (.invokevirtual index, 3))
    (kk : W p l e R s m args below meth c H locs cells slots Q (F0 m (pc + 3) ls rest)) : W p l e R s m args below meth c H locs cells slots Q (F0 m pc ls st0) := by
  obtain ⟨hx, hb, hr, hml, hown, hT, hlocks, hK⟩ := B
  exact ph_behindv (va_runV ⟨hx, hb, hml, hown, hT⟩ hMet (cwV n hT (tg_V h1 h2 h3 h4 h5) rfl hrc hrs hd hR) ⟨ph_blind, hrecv, fun U hU hW => ⟨rfl, VK.moved hW.alike hK, by rw [hU]; exact hF⟩⟩ rfl hn hls hst (lv_room hW) hdg hf) kk
end PHR
theorem nof {P : Nat → Prop} : ∀ q ∈ ([] : List Loc), P q.base := fun q h => by cases h
/-- an index is in range -/
theorem c_J_check3 {l : Launch} {G : GG} {F : Heap → Prop} {i n : Int32} (h0 : ¬ i < 0) (h1 : i < n) : Met l yJ3_checkIndex_8e157 (Cond.code yJ3_checkIndex_8e157 cJ3_checkIndex_8e157 3 (some .int) :: TG) ({ frames := 0, cells := 0, slots := 0, locals := 0 } : Room) (PH G F [.int i, .int n, .null]) (QH (.int i)) 0 0 (fun _ => False) :=
  ph_of (own := RJ3) (by decide +kernel) rfl (Nat.le_of_ble_eq_true rfl) fun p e s m below meth c ls B hF hl => by
    have ⟨hx, hb, hr, hml, hown, hT, hlocks, hK⟩ := B
    refine lv_iload_n hx hb dJ3_checkIndex_8e157_0 rfl (lv_at hl 0 rfl) ?_
    refine lv_if_lt (tgt := 9) hx hb dJ3_checkIndex_8e157_1 (by decide) (fun c1 => absurd c1 h0) (fun c1 => ?_)
    refine lv_iload_n hx hb dJ3_checkIndex_8e157_4 rfl (lv_at hl 0 rfl) ?_
    refine lv_iload_n hx hb dJ3_checkIndex_8e157_5 rfl (lv_at hl 1 rfl) ?_
    refine lv_icmp_lt (tgt := 16) hx hb dJ3_checkIndex_8e157_6 (by decide) (fun c2 => ?_) (fun c2 => absurd h1 c2)
    refine lv_iload_n hx hb dJ3_checkIndex_8e157_16 rfl (lv_at hl 0 rfl) ?_
    exact W.iret hx hb hr (fun t ht hW => ⟨rfl, ht⟩) nof dJ3_checkIndex_8e157_17
theorem c_J_check2 {l : Launch} {G : GG} {F : Heap → Prop} {i n : Int32} (h0 : ¬ i < 0) (h1 : i < n) : Met l yJ15_checkIndex_7cf53 (Cond.code yJ15_checkIndex_7cf53 cJ15_checkIndex_7cf53 2 (some .int) :: TG) ({ frames := 1, cells := 0, slots := 0, locals := 22 } : Room) (PH G F [.int i, .int n]) (QH (.int i)) 0 0 (fun _ => False) :=
  ph_of (own := RJ15) (by decide +kernel) rfl (Nat.le_of_ble_eq_true rfl) fun p e s m below meth c ls B hF hl => by
    have ⟨hx, hb, hr, hml, hown, hT, hlocks, hK⟩ := B
    refine lv_iload_n hx hb dJ15_checkIndex_7cf53_0 rfl (lv_at hl 0 rfl) ?_
    refine lv_iload_n hx hb dJ15_checkIndex_7cf53_1 rfl (lv_at hl 1 rfl) ?_
    refine lv_null hx hb dJ15_checkIndex_7cf53_2 ?_
    refine ph_callS B [.int i, .int n, .null] (n := 3) (F := F) hF (c_J_check3 h0 h1) wm_RJ15_105 wt_yJ3_checkIndex_8e157 wn_RJ3 wc_yJ3_checkIndex_8e157 rfl rfl (by decide +kernel) ⟨Nat.le_of_ble_eq_true rfl, Nat.le_of_ble_eq_true rfl⟩ ⟨Nat.le_refl 0, Nat.le_refl 0⟩ rfl hl.1 (Nat.le_of_ble_eq_true rfl) rfl dJ15_checkIndex_7cf53_3 ?_
    exact W.iret hx hb hr (fun t ht hW => ⟨rfl, ht⟩) nof dJ15_checkIndex_7cf53_6
/-- the list's own object -/
def LO (G : GG) (h0 : Nat) (mc : Int32) (a : Nat) (n : Int32) (H : Heap) : Prop := va_at G.1 vwCl (h0, .inr (0, [.int mc, .ref a, .int n])) H
def LR (G : GG) (a n : Nat) (f : Nat → Option Nat) (H : Heap) : Prop := va_at G.1 vwCl (a, .inl (G.2 5, n, .inr (.inr (.inr (.inr f))))) H
theorem lo_recv {G : GG} {h0 a : Nat} {mc n : Int32} {H : Heap} {s : State} (hK : VK G s) (h : LO G h0 mc a n H) : ∃ cellB : Cell, H[h0]? = some cellB ∧ cellB.vm.isStatics = false ∧ s.vm.findClass RJx4a65c = some cellB.cls := by
  obtain ⟨r, q0, cell, q1, q2, q3, -⟩ := h
  cases q0
  exact ⟨cell, q1, by rw [q3]; rfl, by rw [q2]; exact (hK.1 0 _ rfl).2.1⟩
theorem c_J_size {l : Launch} {G : GG} {h0 a : Nat} {mc n : Int32} : Met l yJx4a65c_size_8abf5 (Cond.code yJx4a65c_size_8abf5 cJx4a65c_size_8abf5 1 (some .int) :: TG) ({ frames := 0, cells := 0, slots := 0, locals := 0 } : Room) (PH G (LO G h0 mc a n) [.ref h0]) (QH (.int n)) 0 0 (fun _ => False) :=
  ph_of (own := RJx4a65c) (by decide +kernel) rfl (Nat.le_of_ble_eq_true rfl) fun p e s m below meth c ls B hF hl => by
    have ⟨hx, hb, hr, hml, hown, hT, hlocks, hK⟩ := B
    refine lv_aload_n hx hb dJx4a65c_size_8abf5_0 rfl (lv_at hl 0 rfl) ?_
    refine va_get (v := .int n) hx hb hT inJx4a65c hown hK (va_P1 hF) 0 rfl rfl 2 (by decide) (hT _ wf_RJx4a65c_48) (fun _ h => h) rfl dJx4a65c_size_8abf5_1 ?_
    exact W.iret hx hb hr (fun t ht hW => ⟨rfl, ht⟩) nof dJx4a65c_size_8abf5_4
theorem c_J_isEmpty {l : Launch} {G : GG} {h0 a : Nat} {mc n : Int32} : Met l yJx4a65c_isEmpty_aae02 (Cond.code yJx4a65c_isEmpty_aae02 cJx4a65c_isEmpty_aae02 1 (some .boolean) :: TG) ({ frames := 0, cells := 0, slots := 0, locals := 0 } : Room) (PH G (LO G h0 mc a n) [.ref h0]) (QH (.int (if n = 0 then 1 else 0))) 0 0 (fun _ => False) :=
  ph_of (own := RJx4a65c) (by decide +kernel) rfl (Nat.le_of_ble_eq_true rfl) fun p e s m below meth c ls B hF hl => by
    have ⟨hx, hb, hr, hml, hown, hT, hlocks, hK⟩ := B
    refine lv_aload_n hx hb dJx4a65c_isEmpty_aae02_0 rfl (lv_at hl 0 rfl) ?_
    refine va_get (v := .int n) hx hb hT inJx4a65c hown hK (va_P1 hF) 0 rfl rfl 2 (by decide) (hT _ wf_RJx4a65c_48) (fun _ h => h) rfl dJx4a65c_isEmpty_aae02_1 ?_
    refine lv_if_ne (tgt := 11) hx hb dJx4a65c_isEmpty_aae02_4 (by decide) (fun c1 => ?_) (fun c1 => ?_)
    · refine lv_iconst (v := 0) hx hb dJx4a65c_isEmpty_aae02_11 (by decide) ?_
      rw [if_neg c1]
      exact W.zret hx hb hr (by rfl) (fun t ht hW => ⟨rfl, ht⟩) nof dJx4a65c_isEmpty_aae02_12
    · refine lv_iconst (v := 1) hx hb dJx4a65c_isEmpty_aae02_7 (by decide) ?_
      refine lv_goto (tgt := 12) hx hb dJx4a65c_isEmpty_aae02_8 (by decide) ?_
      rw [if_pos c1]
      exact W.zret hx hb hr (by rfl) (fun t ht hW => ⟨rfl, ht⟩) nof dJx4a65c_isEmpty_aae02_12
theorem c_J_elem {l : Launch} {G : GG} {h0 a n : Nat} {mc sz i : Int32} {f : Nat → Option Nat} {x : Nat} (hi : vp_in i n) (hf : f i.toNatClampNeg = some x) : Met l yJx4a65c_elementData_915e3 (Cond.code yJx4a65c_elementData_915e3 cJx4a65c_elementData_915e3 2 (some (.object "java/lang/Object")) :: TG) ({ frames := 0, cells := 0, slots := 0, locals := 0 } : Room) (PH G (fun H => LO G h0 mc a sz H ∧ LR G a n f H) [.ref h0, .int i]) (QH (.ref x)) 0 0 (fun _ => False) :=
  ph_of (own := RJx4a65c) (by decide +kernel) rfl (Nat.le_of_ble_eq_true rfl) fun p e s m below meth c ls B hF hl => by
    have ⟨hx, hb, hr, hml, hown, hT, hlocks, hK⟩ := B
    obtain ⟨hF1, hF2⟩ := hF
    refine lv_aload_n hx hb dJx4a65c_elementData_915e3_0 rfl (lv_at hl 0 rfl) ?_
    refine va_get (v := .ref a) hx hb hT inJx4a65c hown hK (va_P1 hF1) 0 rfl rfl 1 (by decide) (hT _ wf_RJx4a65c_9) (fun _ h => h) rfl dJx4a65c_elementData_915e3_1 ?_
    refine lv_iload_n hx hb dJx4a65c_elementData_915e3_4 rfl (lv_at hl 1 rfl) ?_
    refine va_aldq hx hb hK (va_P1 hF2) 0 5 rfl rfl hi dJx4a65c_elementData_915e3_5 ?_
    rw [hf]
    exact W.aret hx hb hr (Or.inl ⟨_, rfl⟩) (Or.inr ⟨_, rfl⟩) (fun t ht hW => ⟨rfl, ht⟩) nof dJx4a65c_elementData_915e3_6
theorem c_J_get {l : Launch} {G : GG} {h0 a n : Nat} {mc sz i : Int32} {f : Nat → Option Nat} {x : Nat} (h0i : ¬ i < 0) (h1i : i < sz) (hi : vp_in i n) (hf : f i.toNatClampNeg = some x) : Met l yJx4a65c_get_915e3 (Cond.code yJx4a65c_get_915e3 cJx4a65c_get_915e3 2 (some (.object "java/lang/Object")) :: TG) ({ frames := 2, cells := 0, slots := 0, locals := 43 } : Room) (PH G (fun H => LO G h0 mc a sz H ∧ LR G a n f H) [.ref h0, .int i]) (QH (.ref x)) 0 0 (fun _ => False) :=
  ph_of (own := RJx4a65c) (by decide +kernel) rfl (Nat.le_of_ble_eq_true rfl) fun p e s m below meth c ls B hF hl => by
    have ⟨hx, hb, hr, hml, hown, hT, hlocks, hK⟩ := B
    have hF0 := hF
    obtain ⟨hF1, hF2⟩ := hF
    refine lv_iload_n hx hb dJx4a65c_get_915e3_0 rfl (lv_at hl 1 rfl) ?_
    refine lv_aload_n hx hb dJx4a65c_get_915e3_1 rfl (lv_at hl 0 rfl) ?_
    refine va_get (v := .int sz) hx hb hT inJx4a65c hown hK (va_P1 hF1) 0 rfl rfl 2 (by decide) (hT _ wf_RJx4a65c_48) (fun _ h => h) rfl dJx4a65c_get_915e3_2 ?_
    refine ph_callS B [.int i, .int sz] (n := 2) (F := fun _ => True) trivial (c_J_check2 h0i h1i) wm_RJx4a65c_118 wt_yJ15_checkIndex_7cf53 wn_RJ15 wc_yJ15_checkIndex_7cf53 rfl rfl (by decide +kernel) ⟨Nat.le_of_ble_eq_true rfl, Nat.le_of_ble_eq_true rfl⟩ ⟨Nat.le_refl 0, Nat.le_refl 0⟩ rfl hl.1 (Nat.le_of_ble_eq_true rfl) rfl dJx4a65c_get_915e3_5 ?_
    refine lv_pop hx hb dJx4a65c_get_915e3_8 rfl ?_
    refine lv_aload_n hx hb dJx4a65c_get_915e3_9 rfl (lv_at hl 0 rfl) ?_
    refine lv_iload_n hx hb dJx4a65c_get_915e3_10 rfl (lv_at hl 1 rfl) ?_
    refine ph_callV B (lo_recv hK hF1) [.int i] (n := 1) (F := fun H => LO G h0 mc a sz H ∧ LR G a n f H) hF0 (c_J_elem hi hf) wm_RJx4a65c_123 wi_yJx4a65c_elementData_915e3 ws_yJx4a65c_elementData_915e3 wn_RJx4a65c wc_yJx4a65c_elementData_915e3 rfl rfl (by decide +kernel) ⟨Nat.le_of_ble_eq_true rfl, Nat.le_of_ble_eq_true rfl⟩ ⟨Nat.le_refl 0, Nat.le_refl 0⟩ rfl hl.1 (Nat.le_of_ble_eq_true rfl) rfl dJx4a65c_get_915e3_11 ?_
    exact W.aret hx hb hr (Or.inl ⟨_, rfl⟩) (Or.inr ⟨_, rfl⟩) (fun t ht hW => ⟨rfl, ht⟩) nof dJx4a65c_get_915e3_14
