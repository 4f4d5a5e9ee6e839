/-! The reference's world: one object, its rows of numbers. A state: its numbers by the slot, its rows by the slot. -/
abbrev MS : Type := (Nat → Int32) × (Nat → Nat → Int32)
def setS (st : MS) (k : Nat) (x : Int32) : MS := (upd st.1 k x, st.2)
def setA (st : MS) (k i : Nat) (x : Int32) : MS := (st.1, fun j => if j = k then upd (st.2 k) i x else st.2 j)
def mty : Nat → Nat := fun k => match k with
  | 4 => 1 | 10 => 1 | 11 => 1 | 12 => 1 | 13 => 1 | 14 => 1 | 16 => 1 | 26 => 1 | 8 => 2 | 29 => 2 | _ => 0
def mln : Nat → Nat := fun k => match k with
  | 11 => 96 | 12 => 96 | 13 => 96 | 14 => 96 | 24 => 40 | 25 => 40 | 26 => 40 | 27 => 6 | 28 => 6 | 29 => 6 | _ => 24
def mfs (ad : Nat → Nat) (st : MS) : List Value := [.int (st.1 0), .int (st.1 1), .int (st.1 2), .ref (ad 3), .ref (ad 4), .ref (ad 5), .ref (ad 6), .ref (ad 7), .ref (ad 8), .ref (ad 9), .ref (ad 10), .ref (ad 11), .ref (ad 12), .ref (ad 13), .ref (ad 14), .int (st.1 15), .ref (ad 16), .ref (ad 17), .ref (ad 18), .ref (ad 19), .ref (ad 20), .ref (ad 21), .int (st.1 22), .int (st.1 23), .ref (ad 24), .ref (ad 25), .ref (ad 26), .ref (ad 27), .ref (ad 28), .ref (ad 29)]
abbrev VM : Nat → Prop := fun k => k = 0 ∨ (3 ≤ k ∧ k < 30 ∧ k ≠ 15 ∧ k ≠ 22 ∧ k ≠ 23)
def enM (G : GG) (ad : Nat → Nat) (st : MS) (k : Nat) : va_E := if k = 0 then .inr (7, mfs ad st) else .inl (G.2 (mty k), mln k, .inl (st.2 k))
def MW (G : GG) (A : Nat → Prop) (ad : Nat → Nat) (st : MS) (H : Heap) : Prop := FW G.1 VM ad (enM G ad st) A H
theorem vm_0 : VM 0 := Or.inl rfl
theorem mw_setS {G : GG} {A : Nat → Prop} {ad : Nat → Nat} {st : MS} {H : Heap} {k : Nat} {x : Int32} (h : FW G.1 VM ad (up2 (enM G ad st) 0 (.inr (7, (mfs ad st).set k (.int x)))) A H) (hs : (mfs ad st).set k (.int x) = mfs ad (setS st k x)) : MW G A ad (setS st k x) H := by
  refine FW.congr h fun j _ => ?_
  by_cases hj : j = 0
  · subst hj
    rw [up2_self, hs]
    rfl
  · rw [up2_ne _ _ hj]
    simp [enM, hj, setS]
theorem mw_setA {G : GG} {A : Nat → Prop} {ad : Nat → Nat} {st : MS} {H : Heap} {k i : Nat} {x : Int32} (hk : k ≠ 0) (h : FW G.1 VM ad (up2 (enM G ad st) k (.inl (G.2 (mty k), mln k, .inl (upd (st.2 k) i x)))) A H) : MW G A ad (setA st k i x) H := by
  refine FW.congr h fun j _ => ?_
  by_cases hj : j = k
  · subst hj
    rw [up2_self]
    simp [enM, hk, setA]
  · rw [up2_ne _ _ hj]
    by_cases h0 : j = 0
    · subst h0
      rfl
    · simp [enM, h0, setA, hj]
def PM (G : GG) (A : Nat → Prop) (ad : Nat → Nat) (st : MS) (av : List Value) : Array Value → State → Prop := va_Pc av (fun U => VK G U ∧ MW G A ad st U.heap)
def QM (G : GG) (A : Nat → Prop) (ad : Nat → Nat) (v : Option Value) (st : MS) : Array Value → State → Outcome → State → Prop := fun _ s0 oc t => oc = .returned v ∧ MW G A ad st t.heap ∧ va_F A s0 t
theorem pm_blind {G : GG} {A : Nat → Prop} {ad : Nat → Nat} {st : MS} {av : List Value} : FrameBlind (PM G A ad st av) := by
  intro a U g mk q
  obtain ⟨q0, q1, q2⟩ := q
  exact ⟨q0, VK.moved (u := U) (U := U.calling g mk a) (Vm.Alike.refl U.vm) q1, q2⟩
section MWR
variable {p : Program} {l : Launch} {e : Env} {R : Room} {s : State} {m : MethodId} {args : Array Value} {below : List Frame} {meth : Method} {c : Code} {H : Heap} {locs : List Loc} {cells slots : Nat} {Q : State → Prop}
variable {cc : ByteArray} {nL pc : Nat} {rt : Option FieldType} {ls : Array Slot} {rest : List Value} {G : GG} {A : Nat → Prop} {H0 : Heap} {ad : Nat → Nat} {st : MS}
theorem mw_get (B : MB G p s m args meth c cc nL RX6 rt) (hM : MW G A ad st H) (k : Nat) (hk : k < 30) {index : Nat} (hlink : Cond.fieldLink RX6 index RX6 (TX6 k).2.1 (TX6 k).2.2.1 ∈ TG) (ht : (TX6 k).1 = RX6) {v : Value} (hv : (mfs ad st)[k]? = some v) (hdg : decode cc pc = .ok (.getfield index, 3))
    (kk : W p l e R s m args below meth c H locs cells slots Q (F0 m (pc + 3) ls (v :: rest))) : W p l e R s m args below meth c H locs cells slots Q (F0 m pc ls (.ref (ad 0) :: rest)) :=
  fw_get B hM 0 vm_0 rfl (C := RX6) (T := TX6) (N := 30) rfl inX6 k hk hlink (fun x h => by rw [ht] at h; exact h) hv hdg kk
theorem mw_put (B : MB G p s m args meth c cc nL RX6 rt) (hM : MW G A ad st H) (hS : va_S A H0 H locs) (k : Nat) (hk : k < 30) {index : Nat} (hlink : Cond.fieldLink RX6 index RX6 (TX6 k).2.1 (TX6 k).2.2.1 ∈ TG) (ht : (TX6 k).1 = RX6) (hfin : (TX6 k).2.2.2 = false) {x : Int32} (hn : narrow (tyX6 k) (.int x) = .int x) (hfit : fits (tyX6 k) (.int x) = true) (hs : (mfs ad st).set k (.int x) = mfs ad (setS st k x)) (hdg : decode cc pc = .ok (.putfield index, 3))
    (kk : ∀ (H1 : Heap) (locs1 : List Loc), MW G A ad (setS st k x) H1 → va_S A H0 H1 locs1 → W p l e R s m args below meth c H1 locs1 cells slots Q (F0 m (pc + 3) ls rest)) : W p l e R s m args below meth c H locs cells slots Q (F0 m pc ls (.int x :: .ref (ad 0) :: rest)) :=
  fw_put B hM hS 0 vm_0 rfl (C := RX6) (T := TX6) (N := 30) rfl inX6 tyX6_ok nmX6 k hk hlink (fun x h => by rw [ht] at h; exact h) hfin hn hfit hk hdg fun H1 locs1 h1 h2 => kk H1 locs1 (mw_setS h1 hs) h2
theorem mw_iald (B : MB G p s m args meth c cc nL RX6 rt) (hM : MW G A ad st H) (k : Nat) (hk : VM k) (hz : k ≠ 0) (ht : mty k = 0) {j : Int32} (hin : vp_in j (mln k)) (hdg : decode cc pc = .ok (.iaload, 1))
    (kk : W p l e R s m args below meth c H locs cells slots Q (F0 m (pc + 1) ls (.int (st.2 k j.toNatClampNeg) :: rest))) : W p l e R s m args below meth c H locs cells slots Q (F0 m pc ls (.int j :: .ref (ad k) :: rest)) :=
  fw_iald B hM k hk (f := st.2 k) (by simp [enM, hz, ht]) hin hdg kk
theorem mw_cald (B : MB G p s m args meth c cc nL RX6 rt) (hM : MW G A ad st H) (k : Nat) (hk : VM k) (hz : k ≠ 0) (ht : mty k = 1) {j : Int32} (hin : vp_in j (mln k)) (hdg : decode cc pc = .ok (.caload, 1))
    (kk : W p l e R s m args below meth c H locs cells slots Q (F0 m (pc + 1) ls (.int (st.2 k j.toNatClampNeg) :: rest))) : W p l e R s m args below meth c H locs cells slots Q (F0 m pc ls (.int j :: .ref (ad k) :: rest)) :=
  fw_cald B hM k hk (f := st.2 k) (by simp [enM, hz, ht]) hin hdg kk
theorem mw_zald (B : MB G p s m args meth c cc nL RX6 rt) (hM : MW G A ad st H) (k : Nat) (hk : VM k) (hz : k ≠ 0) (ht : mty k = 2) {j : Int32} (hin : vp_in j (mln k)) (hdg : decode cc pc = .ok (.baload, 1))
    (kk : W p l e R s m args below meth c H locs cells slots Q (F0 m (pc + 1) ls (.int (st.2 k j.toNatClampNeg) :: rest))) : W p l e R s m args below meth c H locs cells slots Q (F0 m pc ls (.int j :: .ref (ad k) :: rest)) :=
  fw_zald B hM k hk (f := st.2 k) (by simp [enM, hz, ht]) hin hdg kk
theorem mw_iast (B : MB G p s m args meth c cc nL RX6 rt) (hM : MW G A ad st H) (hS : va_S A H0 H locs) (k : Nat) (hk : VM k) (hz : k ≠ 0) (ht : mty k = 0) {j x : Int32} (hin : vp_in j (mln k)) (hdg : decode cc pc = .ok (.iastore, 1))
    (kk : ∀ (H1 : Heap) (locs1 : List Loc), MW G A ad (setA st k j.toNatClampNeg x) H1 → va_S A H0 H1 locs1 → W p l e R s m args below meth c H1 locs1 cells slots Q (F0 m (pc + 1) ls rest)) : W p l e R s m args below meth c H locs cells slots Q (F0 m pc ls (.int x :: .int j :: .ref (ad k) :: rest)) :=
  fw_iast B hM hS k hk (f := st.2 k) (by simp [enM, hz, ht]) hin hdg fun H1 locs1 h1 h2 => kk H1 locs1 (mw_setA hz (by rw [ht]; exact h1)) h2
theorem mw_cast (B : MB G p s m args meth c cc nL RX6 rt) (hM : MW G A ad st H) (hS : va_S A H0 H locs) (k : Nat) (hk : VM k) (hz : k ≠ 0) (ht : mty k = 1) {j x : Int32} (hin : vp_in j (mln k)) (hdg : decode cc pc = .ok (.castore, 1))
    (kk : ∀ (H1 : Heap) (locs1 : List Loc), MW G A ad (setA st k j.toNatClampNeg (vp_nar .char x)) H1 → va_S A H0 H1 locs1 → W p l e R s m args below meth c H1 locs1 cells slots Q (F0 m (pc + 1) ls rest)) : W p l e R s m args below meth c H locs cells slots Q (F0 m pc ls (.int x :: .int j :: .ref (ad k) :: rest)) :=
  fw_cast B hM hS k hk (f := st.2 k) (by simp [enM, hz, ht]) hin hdg fun H1 locs1 h1 h2 => kk H1 locs1 (mw_setA hz (by rw [ht]; exact h1)) h2
theorem mw_zast (B : MB G p s m args meth c cc nL RX6 rt) (hM : MW G A ad st H) (hS : va_S A H0 H locs) (k : Nat) (hk : VM k) (hz : k ≠ 0) (ht : mty k = 2) {j x : Int32} (hin : vp_in j (mln k)) (hdg : decode cc pc = .ok (.bastore, 1))
    (kk : ∀ (H1 : Heap) (locs1 : List Loc), MW G A ad (setA st k j.toNatClampNeg (vp_nar .boolean x)) H1 → va_S A H0 H1 locs1 → W p l e R s m args below meth c H1 locs1 cells slots Q (F0 m (pc + 1) ls rest)) : W p l e R s m args below meth c H locs cells slots Q (F0 m pc ls (.int x :: .int j :: .ref (ad k) :: rest)) :=
  fw_zast B hM hS k hk (f := st.2 k) (by simp [enM, hz, ht]) hin hdg fun H1 locs1 h1 h2 => kk H1 locs1 (mw_setA hz (by rw [ht]; exact h1)) h2
/-- behind a call -/
theorem mw_behind {st' : MS} {v : Option Value} {a : Array Value} {st0 : List Value} (hr : va_Run p l e R s m args below meth c H locs cells slots 0 0 (F0 m pc ls st0) rest (QM G A ad v st' a) A) (hS : va_S A H0 H locs)
    (kk : ∀ (H1 : Heap) (locs1 : List Loc), MW G A ad st' H1 → va_S A H0 H1 locs1 → W p l e R s m args below meth c H1 locs1 cells slots Q (F0 m (pc + 3) ls (v.toList ++ rest))) : W p l e R s m args below meth c H locs cells slots Q (F0 m pc ls st0) := by
  intro T hT X
  obtain ⟨v', st₀, t, T', L, h0, X', hL, e1, e2, ⟨hv, hm, hz, hk⟩, stp⟩ := hr T hT X
  cases hv
  rw [h0] at hz hk
  rw [← e1] at hm
  obtain ⟨t2, a1, b1⟩ := kk T'.heap (locs ++ L) hm ⟨Nat.le_trans hS.1 (by rw [e1]; exact hz), fun q h1 h2 => by rw [e1, hk q (Nat.lt_of_lt_of_le h1 hS.1) h2]; exact hS.2.1 q h1 h2, fun q hq => by
      rcases List.mem_append.mp hq with h | h
      · exact hS.2.2 q h
      · exact hL q h⟩ T' rfl X'
  exact ⟨t2, stp t2 a1, b1⟩
theorem mw_callV (B : MB G p s m args meth c cc nL RX6 rt) (hM : MW G A ad st H) (hS : va_S A H0 H locs) {y : MethodName} {cy : ByteArray} {ny n index : Nat} {ry : Option FieldType} {rm : Room} {v : Option Value} {st' : MS} (As : List Value)
    (hMet : Met l y (Cond.code y cy ny ry :: TG) rm (PM G A ad st (.ref (ad 0) :: As)) (QM G A ad v st') 0 0 A)
    (h1 : Cond.methodLink RX6 index y ∈ TG) (h2 : Cond.instanceMethod y ∈ TG) (h3 : Cond.selects RX6 y y ∈ TG) (h5 : Cond.code y cy ny ry ∈ TG) (hrc : rm.cells = 0) (hrs : rm.slots = 0)
    (hd : y.cls = RX6 ∧ y.cls ≠ "java/lang/invoke/MethodHandle" ∧ y.cls ≠ "java/lang/invoke/VarHandle" ∧ (parseMethodDescriptor y.desc).map (fun d => d.parameters.length) = some n) (hR : rm.frames + 1 ≤ R.frames ∧ 8 + (ny + 11) + rm.locals ≤ R.locals) (hf : cells ≤ R.cells ∧ slots ≤ R.slots) (hn : As.length = n) (hls : ls.size = nL) (hW : (rest.map fun v => v.category).sum ≤ 8) {st0 : List Value} (hst : st0 = As.reverse ++ .ref (ad 0) :: rest) (hdg : decode cc pc = .ok (.invokevirtual index, 3))
    (kk : ∀ (H1 : Heap) (locs1 : List Loc), MW G A ad st' H1 → va_S A H0 H1 locs1 → W p l e R s m args below meth c H1 locs1 cells slots Q (F0 m (pc + 3) ls (v.toList ++ rest))) : W p l e R s m args below meth c H locs cells slots Q (F0 m pc ls st0) := by
  obtain ⟨hx, hb, -, hml, hown, hT, -, hK⟩ := B
  have hc : ∃ cellB : Cell, H[ad 0]? = some cellB ∧ cellB.vm.isStatics = false ∧ s.vm.findClass RX6 = some cellB.cls := by
    obtain ⟨r, q0, cell, q1, q2, q3, -⟩ := (hM.1 0 vm_0).1
    cases q0
    exact ⟨cell, q1, by rw [q3]; rfl, by rw [q2]; exact (hK.1 7 _ rfl).2.1⟩
  exact mw_behind (va_runV ⟨hx, hb, hml, hown, hT⟩ hMet (cwV n hT (tg_V h1 h2 h3 wn_RX6 h5) rfl hrc hrs hd hR) ⟨pm_blind, hc, fun U hU hWd => ⟨rfl, VK.moved hWd.alike hK, by rw [hU]; exact hM⟩⟩ rfl hn hls hst (lv_room hW) hdg hf) hS kk
theorem mw_callS (B : MB G p s m args meth c cc nL RX6 rt) (hM : MW G A ad st H) (hS : va_S A H0 H locs) {y : MethodName} {cy : ByteArray} {ny n index : Nat} {ry : Option FieldType} {rm : Room} {v : Option Value} {st' : MS} (As : List Value)
    (hMet : Met l y (Cond.code y cy ny ry :: TG) rm (PM G A ad st As) (QM G A ad v st') 0 0 A)
    (h1 : Cond.methodLink RX6 index y ∈ TG) (h2 : Cond.static y ∈ TG) (h5 : Cond.code y cy ny ry ∈ TG) (hrc : rm.cells = 0) (hrs : rm.slots = 0)
    (hd : y.cls = RX6 ∧ y.cls ≠ "java/lang/invoke/MethodHandle" ∧ y.cls ≠ "java/lang/invoke/VarHandle" ∧ (parseMethodDescriptor y.desc).map (fun d => d.parameters.length) = some n) (hR : rm.frames + 1 ≤ R.frames ∧ 8 + (ny + 11) + rm.locals ≤ R.locals) (hf : cells ≤ R.cells ∧ slots ≤ R.slots) (hn : As.length = n) (hls : ls.size = nL) (hW : (rest.map fun v => v.category).sum ≤ 8) {st0 : List Value} (hst : st0 = As.reverse ++ rest) (hdg : decode cc pc = .ok (.invokestatic index, 3))
    (kk : ∀ (H1 : Heap) (locs1 : List Loc), MW G A ad st' H1 → va_S A H0 H1 locs1 → W p l e R s m args below meth c H1 locs1 cells slots Q (F0 m (pc + 3) ls (v.toList ++ rest))) : W p l e R s m args below meth c H locs cells slots Q (F0 m pc ls st0) := by
  obtain ⟨hx, hb, -, hml, hown, hT, -, hK⟩ := B
  exact mw_behind (va_runS ⟨hx, hb, hml, hown, hT⟩ hMet (cwS n hT (tg_S h1 h2 wn_RX6 h5) rfl hrc hrs hd hR) ⟨pm_blind, fun U hU hWd => ⟨rfl, VK.moved hWd.alike hK, by rw [hU]; exact hM⟩⟩ rfl hn hls hst (lv_room hW) hdg hf) hS kk
/-! ends -/
theorem mw_iret (B : MB G p s m args meth c cc nL RX6 (some .int)) (hM : MW G A ad st H) (hS : va_S A s.heap H locs) {v : Int32} (hdg : decode cc pc = .ok (.ireturn, 1)) : W p l e R s m args below meth c H locs cells slots (MQ below (QM G A ad (some (.int v)) st) args s cells slots A) (F0 m pc ls [.int v]) := by
  obtain ⟨hx, hb, hr, -, -, -, hlocks, -⟩ := B
  exact W.iret hx hb hr (fun t ht hW => ⟨rfl, by rw [ht]; exact hM, hS.F ht⟩) hS.2.2 hdg
theorem mw_zret {ty : FieldType} (B : MB G p s m args meth c cc nL RX6 (some ty)) (hM : MW G A ad st H) (hS : va_S A s.heap H locs) {v : Int32} (hn : narrow ty (.int v) = .int v) (hdg : decode cc pc = .ok (.ireturn, 1)) : W p l e R s m args below meth c H locs cells slots (MQ below (QM G A ad (some (.int v)) st) args s cells slots A) (F0 m pc ls [.int v]) := by
  obtain ⟨hx, hb, hr, -, -, -, hlocks, -⟩ := B
  exact W.zret hx hb hr hn (fun t ht hW => ⟨rfl, by rw [ht]; exact hM, hS.F ht⟩) hS.2.2 hdg
theorem mw_vret (B : MB G p s m args meth c cc nL RX6 none) (hM : MW G A ad st H) (hS : va_S A s.heap H locs) (hdg : decode cc pc = .ok (.return_, 1)) : W p l e R s m args below meth c H locs cells slots (MQ below (QM G A ad none st) args s cells slots A) (F0 m pc ls []) := by
  obtain ⟨hx, hb, hr, -, -, -, hlocks, -⟩ := B
  exact W.vret hx hb hr (fun t ht hW => ⟨rfl, by rw [ht]; exact hM, hS.F ht⟩) hS.2.2 hdg
theorem mw_lret (B : MB G p s m args meth c cc nL RX6 (some .long)) (hM : MW G A ad st H) (hS : va_S A s.heap H locs) {v : Int64} (hdg : decode cc pc = .ok (.lreturn, 1)) : W p l e R s m args below meth c H locs cells slots (MQ below (QM G A ad (some (.long v)) st) args s cells slots A) (F0 m pc ls [.long v]) := by
  obtain ⟨hx, hb, hr, -, -, -, hlocks, -⟩ := B
  exact W.lret hx hb hr (fun t ht hW => ⟨rfl, by rw [ht]; exact hM, hS.F ht⟩) hS.2.2 hdg
theorem mw_fret (B : MB G p s m args meth c cc nL RX6 (some .float)) (hM : MW G A ad st H) (hS : va_S A s.heap H locs) {v : UInt32} (hdg : decode cc pc = .ok (.freturn, 1)) : W p l e R s m args below meth c H locs cells slots (MQ below (QM G A ad (some (.float v)) st) args s cells slots A) (F0 m pc ls [.float v]) := by
  obtain ⟨hx, hb, hr, -, -, -, hlocks, -⟩ := B
  exact W.fret hx hb hr (fun t ht hW => ⟨rfl, by rw [ht]; exact hM, hS.F ht⟩) hS.2.2 hdg
theorem mw_dret (B : MB G p s m args meth c cc nL RX6 (some .double)) (hM : MW G A ad st H) (hS : va_S A s.heap H locs) {v : UInt64} (hdg : decode cc pc = .ok (.dreturn, 1)) : W p l e R s m args below meth c H locs cells slots (MQ below (QM G A ad (some (.double v)) st) args s cells slots A) (F0 m pc ls [.double v]) := by
  obtain ⟨hx, hb, hr, -, -, -, hlocks, -⟩ := B
  exact W.dret hx hb hr (fun t ht hW => ⟨rfl, by rw [ht]; exact hM, hS.F ht⟩) hS.2.2 hdg
end MWR
/-- a method's start -/
theorem mw_of {l : Launch} {y : MethodName} {cc : ByteArray} {n : Nat} {ret : Option FieldType} {rm : Room} {G : GG} {A : Nat → Prop} {ad : Nat → Nat} {st st' : MS} {av : List Value} {v : Option Value} {own : String} (hy : plainName y.cls = true) (hyc : y.cls = own) (hrc : rm.cells = 0) (hrs : rm.slots = 0) (hlen : (lg_sl av).length ≤ n)
    (body : ∀ (p : Program) (e : Env) (s : State) (m : MethodId) (below : List Frame) (meth : Method) (c : Code) (ls : Array Slot), MB G p s m av.toArray meth c cc n own ret → MW G A ad st s.heap → va_S A s.heap s.heap [] → lv_has ls n (lv_args 0 av) → W p l e rm s m av.toArray below meth c s.heap [] 0 0 (MQ below (QM G A ad v st') av.toArray s 0 0 A) (F0 m 0 ls [])) :
    Met l y (Cond.code y cc n ret :: TG) rm (PM G A ad st av) (QM G A ad v st') 0 0 A := by
  refine Met.ofW (cc := cc) (maxL := n) (ret := ret) hy rfl ?_
  intro p e s m args below meth c s₁ B hml hv
  obtain ⟨rfl, hK, hM⟩ := hv
  have hts := atoms_spec (ws := Cond.code y cc n ret :: TG) B.pre
  have hown : s.vm.findClass own = some m.cls := hyc ▸ findClass_of_methodNamed B.named
  have hl := lv_entry av hlen
  rw [lg_entry_eq]
  exact body p e s m below meth c _ ⟨B.exec, B.bytes, B.returns, hml, hown, fun w hw => hts w (List.mem_cons_of_mem _ hw), B.notSynchronized, hK⟩ hM va_S.rf hl
