/-! Constructors: a world is a list of cells, apart; a call of a constructor takes the last of them. -/
def IB (G : GG) (A : Nat → Prop) (ad : AD) (p : Program) (s : State) (m : MethodId) (args : Array Value) (meth : Method) (c : Code) (cc : ByteArray) (nL : Nat) (own : String) (rt : Option FieldType) : Prop :=
  MB G p s m args meth c cc nL own rt ∧ ST G A ad s s.heap ∧ ∀ q : Nat, s.heap.size ≤ q → A q
def PI (G : GG) (A : Nat → Prop) (ad : AD) (ro ws : va_W) (av : List Value) : Array Value → State → Prop := va_Pc av (fun U => VK G U ∧ ST G A ad U U.heap ∧ (∀ q : Nat, U.heap.size ≤ q → A q) ∧ (∀ x ∈ ro, va_at G.1 vwCl x U.heap ∧ ¬ A x.1) ∧ va_P G.1 vwCl ws U.heap ∧ va_D A ws)
def QI (G : GG) (A : Nat → Prop) (Wf : (Nat → Nat) → va_W) : Array Value → State → Outcome → State → Prop := fun _ s0 oc t => oc = .returned none ∧ (∃ qs, va_P G.1 vwCl (Wf qs) t.heap ∧ va_D A (Wf qs)) ∧ va_F A s0 t
theorem pi_blind {G : GG} {A : Nat → Prop} {ad : AD} {ro ws : va_W} {av : List Value} : FrameBlind (PI G A ad ro ws av) := by
  intro a U g mk q
  obtain ⟨q0, q1, q2, q3⟩ := q
  exact ⟨q0, VK.moved (u := U) (U := U.calling g mk a) (Vm.Alike.refl U.vm) q1, ST.blind q2, q3⟩
theorem li_join {A : Nat → Prop} {D : va_G} {wr wc w1 : va_W} {H H1 : Heap} (hP : va_P D vwCl (wr ++ wc) H) (hD : va_D A (wr ++ wc)) (hk : ∀ q : Nat, q < H.size → ¬ va_A wc H.size q → H1[q]? = H[q]?) (hF : ∀ q, va_A wc H.size q → A q) (hP1 : va_P D vwCl w1 H1) (hD1 : va_D (va_A wc H.size) w1) : va_P D vwCl (wr ++ w1) H1 ∧ va_D A (wr ++ w1) := by
  have hr : ∀ (k : Nat) (x : Nat × va_E), wr[k]? = some x → x.1 < H.size ∧ ¬ va_A wc H.size x.1 := by
    intro k x hx
    have hl : k < wr.length := (List.getElem?_eq_some_iff.mp hx).1
    have h0 : (wr ++ wc)[k]? = some x := by rw [List.getElem?_append_left hl]; exact hx
    have h1 := (hP k x h0).lt
    refine ⟨h1, fun h => ?_⟩
    rcases h with ⟨j, e, hj⟩ | h
    · have h2 : (wr ++ wc)[wr.length + j]? = some (x.1, e) := by rw [List.getElem?_append_right (by omega)]; simpa using hj
      have := hD.1 _ _ _ _ h0 h2 rfl
      omega
    · omega
  refine ⟨fun k x hx => ?_, fun i j a b hi hj hab => ?_, fun k x hx => ?_⟩
  · by_cases hl : k < wr.length
    · rw [List.getElem?_append_left hl] at hx
      have h0 : (wr ++ wc)[k]? = some x := by rw [List.getElem?_append_left hl]; exact hx
      exact (hP k x h0).kept (hk _ (hr k x hx).1 (hr k x hx).2)
    · rw [List.getElem?_append_right (by omega)] at hx
      exact hP1 _ x hx
  · by_cases hl : i < wr.length
    · rw [List.getElem?_append_left hl] at hi
      by_cases hl2 : j < wr.length
      · rw [List.getElem?_append_left hl2] at hj
        exact hD.1 i j a b (by rw [List.getElem?_append_left hl]; exact hi) (by rw [List.getElem?_append_left hl2]; exact hj) hab
      · rw [List.getElem?_append_right (by omega)] at hj
        exact absurd (hab ▸ hD1.2 _ b hj) (hr i a hi).2
    · rw [List.getElem?_append_right (by omega)] at hi
      by_cases hl2 : j < wr.length
      · rw [List.getElem?_append_left hl2] at hj
        exact absurd (hab ▸ hD1.2 _ a hi) (hr j b hj).2
      · rw [List.getElem?_append_right (by omega)] at hj
        have := hD1.1 _ _ _ _ hi hj hab
        omega
  · by_cases hl : k < wr.length
    · rw [List.getElem?_append_left hl] at hx
      exact hD.2 k x (by rw [List.getElem?_append_left hl]; exact hx)
    · rw [List.getElem?_append_right (by omega)] at hx
      exact hF _ (hD1.2 _ x hx)
section LIR
variable {p : Program} {l : Launch} {e : Env} {R : Room} {s : State} {m : MethodId} {args : Array Value} {below : List Frame} {meth : Method} {c : Code} {H : Heap} {locs : List Loc} {cells slots : Nat} {Q : State → Prop}
variable {cc : ByteArray} {nL pc : Nat} {own : String} {rt : Option FieldType} {ls : Array Slot} {rest : List Value} {G : GG} {A : Nat → Prop} {ad : AD} {ws ro : va_W}
theorem li_new (B : MB G p s m args meth c cc nL own rt) (hA : ∀ q : Nat, s.heap.size ≤ q → A q) (hP : va_P G.1 vwCl ws H) (hD : va_D A ws) (hS : va_S A s.heap H locs) (ci : Nat) {C : String} {T : u_T} {N index : Nat} (hc : vwCl[ci]? = some (C, T, N)) (hin : ∀ w ∈ u_ws C T N, w ∈ TG) {ty : Nat → FieldType} (hty : ∀ k, k < N → parseFieldDescriptor (T k).2.2.1 = some (ty k)) (h1 : Cond.classLink own index C ∈ TG) (h2 : Cond.instantiable C N ∈ TG) (h3 : Cond.initialized C ∈ TG) (fs : List Value) (hfs : ∀ j, j < N → defaultValue (ty j) = vp_V fs j) (hcells : cells + 1 ≤ R.cells) (hslots : slots + N ≤ R.slots) (hdg : decode cc pc = .ok (.new index, 3))
    (kk : ∀ (q : Nat) (H1 : Heap), va_P G.1 vwCl (ws ++ [(q, .inr (ci, fs))]) H1 → va_D A (ws ++ [(q, .inr (ci, fs))]) → va_S A s.heap H1 locs → W p l e R s m args below meth c H1 locs (cells + 1) (slots + N) Q (F0 m (pc + 3) ls (.ref q :: rest))) : W p l e R s m args below meth c H locs cells slots Q (F0 m pc ls rest) := by
  obtain ⟨hx, hb, -, -, hown, hT, -, hK⟩ := B
  exact va_new hx hb hT hin ty hty hown (hT _ h1) (hT _ h2) (hT _ h3) hK hP hD hS hA hc hfs hcells hslots hdg kk
theorem li_cls {cA : ClassId} {k : Nat} {ty : FieldType} (hK : VK G s) (hk : (tysG G.2)[k]? = some (G.2 k, ty)) (hl : k < 5) (h : va_K G.1 vwCl (tysG G.2 ++ [(cA, ty)]) s) : cA = G.2 k := by
  have h1 := (hK.2 k _ hk).2
  have h2 := (h.2 6 (cA, ty) rfl).2
  have hk' : k = 0 ∨ k = 1 ∨ k = 2 ∨ k = 3 ∨ k = 4 := by omega
  rcases hk' with rfl | rfl | rfl | rfl | rfl <;> (cases hk; exact Option.some.inj (h2.symm.trans h1))
theorem li_newa (B : MB G p s m args meth c cc nL own rt) (hA : ∀ q : Nat, s.heap.size ≤ q → A q) (hP : va_P G.1 vwCl ws H) (hD : va_D A ws) (hS : va_S A s.heap H locs) (k : Nat) (hk3 : k < 3) {atype : ArrayType} {ty : FieldType} (hty : newarray.typeOf atype = ty) (hk : (tysG G.2)[k]? = some (G.2 k, ty)) (harr : Cond.arrayClass ty ∈ TG) {n : Int32} (N : Nat) (hn : ¬ n < 0) (hN : n.toNatClampNeg = N) (hbytes : N * componentBytes ty ≤ 536870912) (hcells : cells + 1 ≤ R.cells) (hslots : slots + N ≤ R.slots) (hdg : decode cc pc = .ok (.newarray atype, 2))
    (kk : ∀ (q : Nat) (H1 : Heap), va_P G.1 vwCl (ws ++ [(q, .inl (G.2 k, N, .inl (fun _ => 0)))]) H1 → va_D A (ws ++ [(q, .inl (G.2 k, N, .inl (fun _ => 0)))]) → va_S A s.heap H1 locs → W p l e R s m args below meth c H1 locs (cells + 1) (slots + N) Q (F0 m (pc + 2) ls (.ref q :: rest))) : W p l e R s m args below meth c H locs cells slots Q (F0 m pc ls (.int n :: rest)) := by
  obtain ⟨hx, hb, -, -, hown, hT, -, hK⟩ := B
  have hd : defaultValue ty = .int 0 := by
    have hk' : k = 0 ∨ k = 1 ∨ k = 2 := by omega
    rcases hk' with rfl | rfl | rfl <;> (cases hk; rfl)
  refine va_newa hx hb (by rw [hty]; exact hT _ harr) hty hK hP hD hS hA (a0 := (N, .inl (fun _ => 0))) (fun cA => ?_) hn hN hbytes hcells hslots hdg fun q cA H1 hK1 hP1 hD1 hS1 => ?_
  · rw [hd]
    rfl
  · have e := li_cls hK hk (by omega) hK1
    subst e
    exact kk q H1 hP1 hD1 hS1
theorem li_put (B : MB G p s m args meth c cc nL own rt) (hP : va_P G.1 vwCl ws H) (hD : va_D A ws) (hS : va_S A s.heap H locs) (q0 : Nat) {a ci : Nat} {fs : List Value} (he : ws[q0]? = some (a, .inr (ci, fs))) {C ref : String} {T : u_T} {N index : Nat} (hc : vwCl[ci]? = some (C, T, N)) (hin : ∀ w ∈ u_ws C T N, w ∈ TG) {ty0 : Nat → FieldType} (hty : ∀ k, k < N → parseFieldDescriptor (T k).2.2.1 = some (ty0 k)) (hnm : ∀ a, a < N → ∀ b, b < N → a ≠ b → (T a).2.1 ≠ (T b).2.1) (k : Nat) (hk : k < N) (hlink : Cond.fieldLink own index ref (T k).2.1 (T k).2.2.1 ∈ TG) (href : (T k).1 = ref) (hfin : (T k).2.2.2 = false) {v : Value} (hn : narrow (ty0 k) v = v) (hfit : fits (ty0 k) v = true) (hl : k < fs.length) (hdg : decode cc pc = .ok (.putfield index, 3))
    (kk : ∀ (H1 : Heap) (locs1 : List Loc), va_P G.1 vwCl (ws.set q0 (a, .inr (ci, fs.set k v))) H1 → va_D A (ws.set q0 (a, .inr (ci, fs.set k v))) → va_S A s.heap H1 locs1 → W p l e R s m args below meth c H1 locs1 cells slots Q (F0 m (pc + 3) ls rest)) : W p l e R s m args below meth c H locs cells slots Q (F0 m pc ls (v :: .ref a :: rest)) := by
  obtain ⟨hx, hb, -, -, hown, hT, -, hK⟩ := B
  exact va_put hx hb hT hin ty0 hty hnm hown hK hP hD hS q0 he hc k hk (hT _ hlink) (fun x h => by rw [href] at h; exact h) hfin (hty k hk) hn hfit hl hdg kk
theorem li_putF (B : MB G p s m args meth c cc nL own rt) (hi : meth.name = "<init>") (hP : va_P G.1 vwCl ws H) (hD : va_D A ws) (hS : va_S A s.heap H locs) (q0 : Nat) {a ci : Nat} {fs : List Value} (he : ws[q0]? = some (a, .inr (ci, fs))) {C ref : String} {T : u_T} {N index : Nat} (hc : vwCl[ci]? = some (C, T, N)) (hin : ∀ w ∈ u_ws C T N, w ∈ TG) {ty0 : Nat → FieldType} (hty : ∀ k, k < N → parseFieldDescriptor (T k).2.2.1 = some (ty0 k)) (hnm : ∀ a, a < N → ∀ b, b < N → a ≠ b → (T a).2.1 ≠ (T b).2.1) (k : Nat) (hk : k < N) (hlink : Cond.fieldLink own index ref (T k).2.1 (T k).2.2.1 ∈ TG) (href : (T k).1 = ref) (hfin : (T k).2.2.2 = true) (hdecl : (T k).1 = own) {v : Value} (hn : narrow (ty0 k) v = v) (hfit : fits (ty0 k) v = true) (hl : k < fs.length) (hdg : decode cc pc = .ok (.putfield index, 3))
    (kk : ∀ (H1 : Heap) (locs1 : List Loc), va_P G.1 vwCl (ws.set q0 (a, .inr (ci, fs.set k v))) H1 → va_D A (ws.set q0 (a, .inr (ci, fs.set k v))) → va_S A s.heap H1 locs1 → W p l e R s m args below meth c H1 locs1 cells slots Q (F0 m (pc + 3) ls rest)) : W p l e R s m args below meth c H locs cells slots Q (F0 m pc ls (v :: .ref a :: rest)) := by
  obtain ⟨hx, hb, -, -, hown, hT, -, hK⟩ := B
  exact va_putF hx hb hT hin ty0 hty hnm hown hK hP hD hS q0 he hc k hk (hT _ hlink) (fun x h => by rw [href] at h; exact h) hfin hi hdecl (hty k hk) hn hfit hl hdg kk
theorem li_get (B : MB G p s m args meth c cc nL own rt) (hP : va_P G.1 vwCl ws H) (q0 : Nat) {a ci : Nat} {fs : List Value} (he : ws[q0]? = some (a, .inr (ci, fs))) {C ref : String} {T : u_T} {N index : Nat} (hc : vwCl[ci]? = some (C, T, N)) (hin : ∀ w ∈ u_ws C T N, w ∈ TG) (k : Nat) (hk : k < N) (hlink : Cond.fieldLink own index ref (T k).2.1 (T k).2.2.1 ∈ TG) (href : (T k).1 = ref) {v : Value} (hv : fs[k]? = some v) (hdg : decode cc pc = .ok (.getfield index, 3))
    (kk : W p l e R s m args below meth c H locs cells slots Q (F0 m (pc + 3) ls (v :: rest))) : W p l e R s m args below meth c H locs cells slots Q (F0 m pc ls (.ref a :: rest)) := by
  obtain ⟨hx, hb, -, -, hown, hT, -, hK⟩ := B
  exact va_get hx hb hT hin hown hK hP q0 he hc k hk (hT _ hlink) (fun x h => by rw [href] at h; exact h) hv hdg kk
theorem li_obj (B : MB G p s m args meth c cc nL own rt) {a idx : Nat} (h1 : Cond.methodLink own idx objectInit ∈ TG) (hsz : ls.size = nL) (hR : 1 ≤ R.frames ∧ 20 ≤ R.locals) (hW : (rest.map fun v => v.category).sum ≤ 8) (hdg : decode cc pc = .ok (.invokespecial idx, 3))
    (kk : W p l e R s m args below meth c H locs cells slots Q (F0 m (pc + 3) ls rest)) : W p l e R s m args below meth c H locs cells slots Q (F0 m pc ls (.ref a :: rest)) := by
  obtain ⟨hx, hb, -, hml, hown, hT, -, hK⟩ := B
  refine W.objInit hx hb hown (hT _ h1) (hT _ wi_objectInit) (hT _ wc_objectInit) rfl (by rw [hml]; exact hsz) rfl hdg hR.1 ?_ kk
  show 2 * 0 + (rest.map fun v => v.category).sum + 12 ≤ R.locals
  omega
theorem li_run {mc ms : Nat} {A1 : Nat → Prop} {Wf : (Nat → Nat) → va_W} {a : Array Value} {st0 : List Value} {wr wc : va_W} (hr : va_Run p l e R s m args below meth c H locs cells slots mc ms (F0 m pc ls st0) rest (QI G (va_A wc H.size) Wf a) (va_A wc H.size)) (hP : va_P G.1 vwCl (wr ++ wc) H) (hD : va_D A (wr ++ wc)) (hS : va_S A s.heap H locs) (hA : ∀ q : Nat, s.heap.size ≤ q → A q)
    (kk : ∀ (qs : Nat → Nat) (H1 : Heap) (locs1 : List Loc), va_P G.1 vwCl (wr ++ Wf qs) H1 → va_D A (wr ++ Wf qs) → va_S A s.heap H1 locs1 → (H.size ≤ H1.size ∧ va_D (va_A wc H.size) (Wf qs)) → (∀ q : Nat, q < H.size → ¬ va_A wc H.size q → H1[q]? = H[q]?) → W p l e R s m args below meth c H1 locs1 (cells + mc) (slots + ms) Q (F0 m (pc + 3) ls rest)) : W p l e R s m args below meth c H locs cells slots Q (F0 m pc ls st0) := by
  intro T hT X
  obtain ⟨v', st₀, t, T', L, h0, X', hL, e1, e2, ⟨hv, ⟨qs, hP1, hD1⟩, hz, hk⟩, stp⟩ := hr T hT X
  cases hv
  rw [h0] at hz hk
  rw [← e1] at hP1 hz hk
  have hF : ∀ q, va_A wc H.size q → A q := by
    intro q hq
    rcases hq with ⟨k, e, hk⟩ | hq
    · exact hD.2 (wr.length + k) (q, e) (by rw [List.getElem?_append_right (by omega)]; simpa using hk)
    · exact hA q (Nat.le_trans hS.1 hq)
  obtain ⟨hP2, hD2⟩ := li_join hP hD hk hF hP1 hD1
  obtain ⟨t2, a1, b1⟩ := kk qs T'.heap (locs ++ L) hP2 hD2 ⟨Nat.le_trans hS.1 hz, fun q h1 h2 => by rw [hk q (Nat.lt_of_lt_of_le h1 hS.1) (fun h => h2 (hF q h))]; exact hS.2.1 q h1 h2, fun q hq => by
      rcases List.mem_append.mp hq with h | h
      · exact hS.2.2 q h
      · exact hF _ (hL q h)⟩ ⟨hz, hD1⟩ hk T' rfl X'
  exact ⟨t2, stp t2 a1, b1⟩
theorem li_pre (B : IB G A ad p s m args meth c cc nL own rt) {wr wc : va_W} (hP : va_P G.1 vwCl (wr ++ wc) H) (hD : va_D A (wr ++ wc)) (hS : va_S A s.heap H locs) (hro : ∀ x ∈ ro, va_at G.1 vwCl x H ∧ ¬ va_A wc H.size x.1) (av : List Value) : ∀ U : State, U.heap = H → s.WarmedH U.vm → PI G (va_A wc H.size) ad ro wc av av.toArray U := by
  obtain ⟨⟨hx, hb, -, hml, hown, hT, hlocks, hK⟩, hST, hA⟩ := B
  intro U hU hW
  have hF : ∀ q, va_A wc H.size q → A q := by
    intro q hq
    rcases hq with ⟨k, e, hk⟩ | hq
    · exact hD.2 (wr.length + k) (q, e) (by rw [List.getElem?_append_right (by omega)]; simpa using hk)
    · exact hA q (Nat.le_trans hS.1 hq)
  have hat : ∀ k : Nat, (wr ++ wc)[wr.length + k]? = wc[k]? := fun k => by rw [List.getElem?_append_right (by omega)]; simp
  refine ⟨rfl, VK.moved hW.alike hK, (ST.at hST hS hW hU).narrow hF, fun q hq => Or.inr (by rw [hU] at hq; exact hq), fun x hx => by rw [hU]; exact hro x hx, fun k x hx => ?_, fun i j a b hi hj hab => ?_, fun k x hx => Or.inl ⟨k, x.2, hx⟩⟩
  · rw [hU]
    exact hP (wr.length + k) x (by rw [hat]; exact hx)
  · have := hD.1 (wr.length + i) (wr.length + j) a b (by rw [hat]; exact hi) (by rw [hat]; exact hj) hab
    omega
theorem li_call (B : IB G A ad p s m args meth c cc nL own rt) {wr wc : va_W} (hP : va_P G.1 vwCl (wr ++ wc) H) (hD : va_D A (wr ++ wc)) (hS : va_S A s.heap H locs) (hro : ∀ x ∈ ro, va_at G.1 vwCl x H ∧ ¬ va_A wc H.size x.1) {y : MethodName} {cy : ByteArray} {ny n index a mc ms : Nat} {rm : Room} {Wf : (Nat → Nat) → va_W} (As : List Value)
    (hMet : Met l y (Cond.code y cy ny none :: TG) rm (PI G (va_A wc H.size) ad ro wc (.ref a :: As)) (QI G (va_A wc H.size) Wf) mc ms (va_A wc H.size))
    (h1 : Cond.methodLink own index y ∈ TG) (h2 : Cond.instanceMethod y ∈ TG) (h4 : Cond.initialized y.cls ∈ TG) (h5 : Cond.code y cy ny none ∈ TG) (hrc : rm.cells = mc) (hrs : rm.slots = ms) (hy : y.name = "<init>")
    (hd : y.cls ≠ "java/lang/invoke/MethodHandle" ∧ y.cls ≠ "java/lang/invoke/VarHandle" ∧ (parseMethodDescriptor y.desc).map (fun d => d.parameters.length) = some n) (hR : rm.frames + 1 ≤ R.frames ∧ 8 + (ny + 11) + rm.locals ≤ R.locals) (hf : cells + mc ≤ R.cells ∧ slots + ms ≤ R.slots) (hn : As.length = n) (hls : ls.size = nL) (hW : (rest.map fun v => v.category).sum ≤ 8) {st0 : List Value} (hst : st0 = As.reverse ++ .ref a :: rest) (hdg : decode cc pc = .ok (.invokespecial index, 3))
    (kk : ∀ (qs : Nat → Nat) (H1 : Heap) (locs1 : List Loc), va_P G.1 vwCl (wr ++ Wf qs) H1 → va_D A (wr ++ Wf qs) → va_S A s.heap H1 locs1 → (H.size ≤ H1.size ∧ va_D (va_A wc H.size) (Wf qs)) → (∀ q : Nat, q < H.size → ¬ va_A wc H.size q → H1[q]? = H[q]?) → W p l e R s m args below meth c H1 locs1 (cells + mc) (slots + ms) Q (F0 m (pc + 3) ls rest)) : W p l e R s m args below meth c H locs cells slots Q (F0 m pc ls st0) := by
  have hpre := li_pre B hP hD hS hro (.ref a :: As)
  obtain ⟨⟨hx, hb, -, hml, hown, hT, hlocks, hK⟩, hST, hA⟩ := B
  exact li_run (A1 := A) (va_runI ⟨hx, hb, hml, hown, hT⟩ hMet (cwI n hT (tg_C h5) rfl hrc hrs (hT _ h4) (hT _ h1) (hT _ h2) hy hd hR) ⟨pi_blind, hpre⟩ rfl hn hls hst (lv_room hW) hdg hf) hP hD hS hA kk
theorem li_callN (B : IB G A ad p s m args meth c cc nL own rt) {wr wc : va_W} (hP : va_P G.1 vwCl (wr ++ wc) H) (hD : va_D A (wr ++ wc)) (hS : va_S A s.heap H locs) (hro : ∀ x ∈ ro, va_at G.1 vwCl x H ∧ ¬ va_A wc H.size x.1) {y : MethodName} {cy : ByteArray} {ny n index a mc ms : Nat} {rm : Room} {Wf : (Nat → Nat) → va_W} {host : String} (As : List Value)
    (hMet : Met l y (Cond.code y cy ny none :: TG) rm (PI G (va_A wc H.size) ad ro wc (.ref a :: As)) (QI G (va_A wc H.size) Wf) mc ms (va_A wc H.size))
    (h1 : Cond.methodLinkNest own index y host ∈ nestW) (h2 : Cond.instanceMethod y ∈ TG) (h4 : Cond.initialized y.cls ∈ TG) (h5 : Cond.code y cy ny none ∈ TG) (hrc : rm.cells = mc) (hrs : rm.slots = ms) (hy : y.name = "<init>")
    (hd : y.cls ≠ "java/lang/invoke/MethodHandle" ∧ y.cls ≠ "java/lang/invoke/VarHandle" ∧ (parseMethodDescriptor y.desc).map (fun d => d.parameters.length) = some n) (hR : rm.frames + 1 ≤ R.frames ∧ 8 + (ny + 11) + rm.locals ≤ R.locals) (hf : cells + mc ≤ R.cells ∧ slots + ms ≤ R.slots) (hn : As.length = n) (hls : ls.size = nL) (hW : (rest.map fun v => v.category).sum ≤ 8) {st0 : List Value} (hst : st0 = As.reverse ++ .ref a :: rest) (hdg : decode cc pc = .ok (.invokespecial index, 3))
    (kk : ∀ (qs : Nat → Nat) (H1 : Heap) (locs1 : List Loc), va_P G.1 vwCl (wr ++ Wf qs) H1 → va_D A (wr ++ Wf qs) → va_S A s.heap H1 locs1 → (H.size ≤ H1.size ∧ va_D (va_A wc H.size) (Wf qs)) → (∀ q : Nat, q < H.size → ¬ va_A wc H.size q → H1[q]? = H[q]?) → W p l e R s m args below meth c H1 locs1 (cells + mc) (slots + ms) Q (F0 m (pc + 3) ls rest)) : W p l e R s m args below meth c H locs cells slots Q (F0 m pc ls st0) := by
  have hpre := li_pre B hP hD hS hro (.ref a :: As)
  obtain ⟨⟨hx, hb, -, hml, hown, hT, hlocks, hK⟩, hST, hA⟩ := B
  exact li_run (A1 := A) (va_runIN ⟨hx, hb, hml, hown, hT⟩ hMet ⟨va_cnB n hT (tg_C h5) rfl hrc hrs (hST.2.2.2.1 _ h1) (hT _ h4) hd hR, hy, hT _ h2⟩ ⟨pi_blind, hpre⟩ rfl hn hls hst (lv_room hW) hdg hf) hP hD hS hA kk
theorem li_vret {Wf : (Nat → Nat) → va_W} {mc ms : Nat} (B : IB G A ad p s m args meth c cc nL own none) (qs : Nat → Nat) (hw : Wf qs = ws) (hP : va_P G.1 vwCl ws H) (hD : va_D A ws) (hS : va_S A s.heap H locs) (h1 : cells ≤ mc) (h2 : slots ≤ ms) (hdg : decode cc pc = .ok (.return_, 1)) : W p l e R s m args below meth c H locs cells slots (MQ below (QI G A Wf) args s mc ms A) (F0 m pc ls []) := by
  obtain ⟨⟨hx, hb, hr, -, -, -, hlocks, -⟩, -, -⟩ := B
  exact W.widen h1 h2 (W.vret hx hb hr (fun t ht hW => ⟨rfl, ⟨qs, by rw [hw, ht]; exact hP, by rw [hw]; exact hD⟩, hS.F ht⟩) hS.2.2 hdg)
end LIR
/-- a constructor's start -/
theorem li_of {l : Launch} {y : MethodName} {cc : ByteArray} {n : Nat} {rm : Room} {G : GG} {A : Nat → Prop} {ad : AD} {ro ws : va_W} {av : List Value} {Wf : (Nat → Nat) → va_W} {own : String} (hy : plainName y.cls = true) (hyc : y.cls = own) (hyn : y.name = "<init>") (hlen : (lg_sl av).length ≤ n) {MC MS : Nat}
    (body : ∀ (p : Program) (e : Env) (s : State) (m : MethodId) (below : List Frame) (meth : Method) (c : Code) (ls : Array Slot), IB G A ad p s m av.toArray meth c cc n own none → meth.name = "<init>" → (∀ x ∈ ro, va_at G.1 vwCl x s.heap ∧ ¬ A x.1) → va_P G.1 vwCl ws s.heap → va_D A ws → va_S A s.heap s.heap [] → lv_has ls n (lv_args 0 av) → W p l e rm s m av.toArray below meth c s.heap [] 0 0 (MQ below (QI G A Wf) av.toArray s MC MS A) (F0 m 0 ls [])) :
    Met l y (Cond.code y cc n none :: TG) rm (PI G A ad ro ws av) (QI G A Wf) MC MS A := by
  refine Met.ofW (cc := cc) (maxL := n) (ret := none) hy rfl ?_
  intro p e s m args below meth c s₁ B hml hv
  obtain ⟨rfl, hK, hST, hA, hro, hP, hD⟩ := hv
  have hts := atoms_spec (ws := Cond.code y cc n none :: TG) B.pre
  have hown : s.vm.findClass own = some m.cls := hyc ▸ findClass_of_methodNamed B.named
  have hl := lv_entry av hlen
  rw [lg_entry_eq]
  exact body p e s m below meth c _ ⟨⟨B.exec, B.bytes, B.returns, hml, hown, fun w hw => hts w (List.mem_cons_of_mem _ hw), B.notSynchronized, hK⟩, hST, hA⟩ (by rw [(name_of_methodNamed B.named B.method).1]; exact hyn) hro hP hD va_S.rf hl
