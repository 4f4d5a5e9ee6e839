/-! ArrayList's methods that write. -/
def PL (G : GG) (A : Nat → Prop) (ad : AD) (ws : va_W) (E : Heap → Prop) (av : List Value) : Array Value → State → Prop := va_Pc av (fun U => VK G U ∧ ST G A ad U U.heap ∧ (∀ q : Nat, U.heap.size ≤ q → A q) ∧ va_P G.1 vwCl ws U.heap ∧ va_D A ws ∧ E U.heap)
def QL (G : GG) (A : Nat → Prop) (post : Option Value → va_W → Prop) : Array Value → State → Outcome → State → Prop := fun _ s0 oc t => ∃ v ws', oc = .returned v ∧ post v ws' ∧ va_P G.1 vwCl ws' t.heap ∧ va_D A ws' ∧ va_F A s0 t
theorem pl_blind {G : GG} {A : Nat → Prop} {ad : AD} {ws : va_W} {E : Heap → Prop} {av : List Value} : FrameBlind (PL G A ad ws E av) := by
  intro a U g mk q
  obtain ⟨q0, q1, q2, q3, q4, q5, q6⟩ := q
  exact ⟨q0, VK.moved (u := U) (U := U.calling g mk a) (Vm.Alike.refl U.vm) q1, ST.blind q2, q3, q4, q5, q6⟩
theorem ql_mono {l : Launch} {y : MethodName} {ws0 : List Cond} {rm : Room} {Pc : Array Value → State → Prop} {G : GG} {A : Nat → Prop} {post post' : Option Value → va_W → Prop} {mc ms : Nat} (h : Met l y ws0 rm Pc (QL G A post) mc ms A) (hp : ∀ v ws', post v ws' → post' v ws') : Met l y ws0 rm Pc (QL G A post') mc ms A := by
  intro p e ha hc hk s m args below hf hfit hpre hcalls
  obtain ⟨t, o, h1, h2, h3, ⟨v, ws', q1, q2, q3⟩, h5⟩ := h p e ha hc hk s m args below hf hfit hpre hcalls
  exact ⟨t, o, h1, h2, h3, ⟨v, ws', q1, hp v ws' q2, q3⟩, h5⟩
theorem pl_of {l : Launch} {y : MethodName} {cc : ByteArray} {n : Nat} {ret : Option FieldType} {rm : Room} {G : GG} {A : Nat → Prop} {ad : AD} {ws : va_W} {E : Heap → Prop} {av : List Value} {own : String} {Qc : Array Value → State → Outcome → State → Prop} {mc ms : Nat} (hy : plainName y.cls = true) (hyc : y.cls = own) (hlen : (lg_sl av).length ≤ n)
    (body : ∀ (p : Program) (e : Env) (s : State) (m : MethodId) (below : List Frame) (meth : Method) (c : Code) (ls : Array Slot), MB G p s m av.toArray meth c cc n own ret → ST G A ad s s.heap → (∀ q : Nat, s.heap.size ≤ q → A q) → va_P G.1 vwCl ws s.heap → va_D A ws → E s.heap → lv_has ls n (lv_args 0 av) → W p l e rm s m av.toArray below meth c s.heap [] 0 0 (MQ below Qc av.toArray s mc ms A) (F0 m 0 ls [])) :
    Met l y (Cond.code y cc n ret :: TG) rm (PL G A ad ws E av) Qc mc ms A := by
  refine Met.ofW (cc := cc) (maxL := n) (ret := ret) hy rfl ?_
  intro p e s m args below meth c s₁ B hml hv
  obtain ⟨rfl, hK, hST, hA, hP, hD, hE⟩ := hv
  have hts := atoms_spec (ws := Cond.code y cc n ret :: TG) B.pre
  have hown : s.vm.findClass own = some m.cls := hyc ▸ findClass_of_methodNamed B.named
  have hl := lv_entry av hlen
  rw [lg_entry_eq]
  exact body p e s m below meth c _ ⟨B.exec, B.bytes, B.returns, hml, hown, fun w hw => hts w (List.mem_cons_of_mem _ hw), B.notSynchronized, hK⟩ hST hA hP hD hE hl
section PLR
variable {p : Program} {l : Launch} {e : Env} {R : Room} {s : State} {m : MethodId} {args : Array Value} {below : List Frame} {meth : Method} {c : Code} {H : Heap} {locs : List Loc} {cells slots mc ms : Nat} {Q : State → Prop}
variable {cc : ByteArray} {nL pc : Nat} {own C : String} {rt : Option FieldType} {ls : Array Slot} {rest : List Value} {G : GG} {A : Nat → Prop} {ad : AD} {ws : va_W} {E : Heap → Prop}
variable {y : MethodName} {cy : ByteArray} {ny n index : Nat} {ry : Option FieldType} {rm : Room}
theorem pl_behind {A1 : Nat → Prop} (hA1 : ∀ q, A1 q → A q) {post : Option Value → va_W → Prop} {a : Array Value} {st0 : List Value} (hr : va_Run p l e R s m args below meth c H locs cells slots mc ms (F0 m pc ls st0) rest (QL G A1 post a) A1) (hS : va_S A s.heap H locs)
    (kk : ∀ (v : Option Value) (ws' : va_W) (H1 : Heap) (locs1 : List Loc), post v ws' → va_P G.1 vwCl ws' H1 → va_D A1 ws' → va_S A s.heap H1 locs1 → (∀ q : Nat, q < H.size → ¬ A1 q → H1[q]? = H[q]?) → W p l e R s m args below meth c H1 locs1 (cells + mc) (slots + ms) Q (F0 m (pc + 3) ls (v.toList ++ rest))) : W p l e R s m args below meth c H locs cells slots Q (F0 m pc ls st0) := by
  intro T hT X
  obtain ⟨v', s₀, t, T', L, h0, X', hL, e1, e2, ⟨v, ws', hv, hp, hP, hD, hz, hk⟩, stp⟩ := hr T hT X
  cases hv
  rw [h0] at hz hk
  obtain ⟨t2, a1, b1⟩ := kk v' ws' T'.heap (locs ++ L) hp (by rw [e1]; exact hP) hD ⟨Nat.le_trans hS.1 (by rw [e1]; exact hz), fun q h1 h2 => by rw [e1, hk q (Nat.lt_of_lt_of_le h1 hS.1) (fun z => h2 (hA1 q z))]; exact hS.2.1 q h1 h2, fun q hq => by
      rcases List.mem_append.mp hq with h | h
      · exact hS.2.2 q h
      · exact hA1 _ (hL q h)⟩ (fun q h1 h2 => by rw [e1]; exact hk q h1 h2) T' rfl X'
  exact ⟨t2, stp t2 a1, b1⟩
theorem pl_pre (B : MB G p s m args meth c cc nL own rt) (hST : ST G A ad s s.heap) {A1 : Nat → Prop} (hA1 : ∀ q, A1 q → A q) (hC : ∀ q : Nat, H.size ≤ q → A1 q) (hS : va_S A s.heap H locs) (hP : va_P G.1 vwCl ws H) (hD : va_D A1 ws) (hE : E H) (av : List Value) : ∀ U : State, U.heap = H → s.WarmedH U.vm → PL G A1 ad ws E av av.toArray U := by
  intro U hU hW
  exact ⟨rfl, VK.moved hW.alike B.2.2.2.2.2.2.2, (ST.at hST hS hW hU).narrow hA1, fun q hq => hC q (by rw [hU] at hq; exact hq), by rw [hU]; exact hP, hD, by rw [hU]; exact hE⟩
theorem pl_callV (B : MB G p s m args meth c cc nL own rt) (hST : ST G A ad s s.heap) {A1 : Nat → Prop} (hA1 : ∀ q, A1 q → A q) (hC : ∀ q : Nat, H.size ≤ q → A1 q) (hS : va_S A s.heap H locs) (hP : va_P G.1 vwCl ws H) (hD : va_D A1 ws) (hE : E H) {post : Option Value → va_W → Prop} {b : Nat} (hrecv : ∃ cellB : Cell, H[b]? = some cellB ∧ cellB.vm.isStatics = false ∧ s.vm.findClass C = some cellB.cls) (As : List Value) (hMet : Met l y (Cond.code y cy ny ry :: TG) rm (PL G A1 ad ws E (.ref b :: As)) (QL G A1 post) mc ms A1)
    (h1 : Cond.methodLink own index y ∈ TG) (h2 : Cond.instanceMethod y ∈ TG) (h3 : Cond.selects C y y ∈ TG) (h4 : Cond.initialized C ∈ TG) (h5 : Cond.code y cy ny ry ∈ TG) (hrc : rm.cells = mc) (hrs : rm.slots = ms) (hd : hdV y C n)
    (hR : rm.frames + 1 ≤ R.frames ∧ 8 + (ny + 11) + rm.locals ≤ R.locals) (hf : cells + mc ≤ R.cells ∧ slots + ms ≤ R.slots) (hn : As.length = n) (hls : ls.size = nL) (hW : (rest.map fun v => v.category).sum ≤ 8) {st0 : List Value} (hst : st0 = As.reverse ++ .ref b :: rest) (hdg : decode cc pc = .ok (.invokevirtual index, 3))
    (kk : ∀ (v : Option Value) (ws' : va_W) (H1 : Heap) (locs1 : List Loc), post v ws' → va_P G.1 vwCl ws' H1 → va_D A1 ws' → va_S A s.heap H1 locs1 → (∀ q : Nat, q < H.size → ¬ A1 q → H1[q]? = H[q]?) → W p l e R s m args below meth c H1 locs1 (cells + mc) (slots + ms) Q (F0 m (pc + 3) ls (v.toList ++ rest))) : W p l e R s m args below meth c H locs cells slots Q (F0 m pc ls st0) := by
  have ⟨hx, hb, hr, hml, hown, hT, hlocks, hK⟩ := B
  exact pl_behind hA1 (va_runV ⟨hx, hb, hml, hown, hT⟩ hMet (cwV n hT (tg_V h1 h2 h3 h4 h5) rfl hrc hrs hd hR) ⟨pl_blind, hrecv, pl_pre B hST hA1 hC hS hP hD hE (.ref b :: As)⟩ rfl hn hls hst (lv_room hW) hdg hf) hS kk
theorem pl_callS (B : MB G p s m args meth c cc nL own rt) (hST : ST G A ad s s.heap) {A1 : Nat → Prop} (hA1 : ∀ q, A1 q → A q) (hC : ∀ q : Nat, H.size ≤ q → A1 q) (hS : va_S A s.heap H locs) (hP : va_P G.1 vwCl ws H) (hD : va_D A1 ws) (hE : E H) {post : Option Value → va_W → Prop} (As : List Value) (hMet : Met l y (Cond.code y cy ny ry :: TG) rm (PL G A1 ad ws E As) (QL G A1 post) mc ms A1)
    (h1 : Cond.methodLink own index y ∈ TG) (h2 : Cond.static y ∈ TG) (h4 : Cond.initialized y.cls ∈ TG) (h5 : Cond.code y cy ny ry ∈ TG) (hrc : rm.cells = mc) (hrs : rm.slots = ms) (hd : hdS y n)
    (hR : rm.frames + 1 ≤ R.frames ∧ 8 + (ny + 11) + rm.locals ≤ R.locals) (hf : cells + mc ≤ R.cells ∧ slots + ms ≤ R.slots) (hn : As.length = n) (hls : ls.size = nL) (hW : (rest.map fun v => v.category).sum ≤ 8) {st0 : List Value} (hst : st0 = As.reverse ++ rest) (hdg : decode cc pc = .ok (.invokestatic index, 3))
    (kk : ∀ (v : Option Value) (ws' : va_W) (H1 : Heap) (locs1 : List Loc), post v ws' → va_P G.1 vwCl ws' H1 → va_D A1 ws' → va_S A s.heap H1 locs1 → (∀ q : Nat, q < H.size → ¬ A1 q → H1[q]? = H[q]?) → W p l e R s m args below meth c H1 locs1 (cells + mc) (slots + ms) Q (F0 m (pc + 3) ls (v.toList ++ rest))) : W p l e R s m args below meth c H locs cells slots Q (F0 m pc ls st0) := by
  have ⟨hx, hb, hr, hml, hown, hT, hlocks, hK⟩ := B
  exact pl_behind hA1 (va_runS ⟨hx, hb, hml, hown, hT⟩ hMet (va_cwS n hT (tg_O h1 h2 h4 h5) rfl hrc hrs hd hR) ⟨pl_blind, pl_pre B hST hA1 hC hS hP hD hE As⟩ rfl hn hls hst (lv_room hW) hdg hf) hS kk
end PLR
/-- an element: a thing of one class of ours -/
def EL (G : GG) (ci : Nat) (y : Nat) (H : Heap) : Prop := ∃ cellV : Cell, H[y]? = some cellV ∧ cellV.vm.isStatics = false ∧ cellV.cls = G.1.1 ci
def EE (G : GG) (A : Nat → Prop) (ci : Nat) (f : Nat → Option Nat) (H : Heap) : Prop := ∀ t y, f t = some y → EL G ci y H ∧ ¬ A y
def Eci (ci : Nat) : Prop := ci = 5 ∨ ci = 2
def ecn (ci : Nat) : String := if ci = 5 then RX4 else RX1
theorem EL.kept {G : GG} {A : Nat → Prop} {ci y : Nat} {H H1 : Heap} (h : EL G ci y H) (hA : ¬ A y) (hq : ∀ q : Nat, q < H.size → ¬ A q → H1[q]? = H[q]?) : EL G ci y H1 := by
  obtain ⟨cellV, h1, h2, h3⟩ := h
  exact ⟨cellV, by rw [hq y (Array.getElem?_eq_some_iff.mp h1).1 hA]; exact h1, h2, h3⟩
theorem EE.kept {G : GG} {A : Nat → Prop} {ci : Nat} {f : Nat → Option Nat} {H H1 : Heap} (h : EE G A ci f H) (hq : ∀ q : Nat, q < H.size → ¬ A q → H1[q]? = H[q]?) : EE G A ci f H1 := fun t y hy => ⟨(h t y hy).1.kept (h t y hy).2 hq, (h t y hy).2⟩
theorem ecn_find {G : GG} {s : State} (hK : VK G s) {ci : Nat} (hc : Eci ci) : s.vm.findClass (ecn ci) = some (G.1.1 ci) := by
  rcases hc with rfl | rfl
  · exact (hK.1 5 _ rfl).2.1
  · exact (hK.1 2 _ rfl).2.1
theorem ecn_cast {G : GG} {A : Nat → Prop} {ad : AD} {s : State} {H : Heap} (hST : ST G A ad s H) {ci : Nat} (hc : Eci ci) : va_Nw (.castable (ecn ci) "java/lang/Object") s := by
  rcases hc with rfl | rfl
  · exact hST.2.2.2.1 _ (by decide +kernel)
  · exact hST.2.2.2.1 _ (by decide +kernel)
theorem ecn_asg {G : GG} {A : Nat → Prop} {ad : AD} {s : State} {H : Heap} (hST : ST G A ad s H) {ci : Nat} (hc : Eci ci) : ∀ comp c0 : ClassId, s.vm.findClass "java/lang/Object" = some comp → s.vm.findClass (ecn ci) = some c0 → s.vm.assignable c0 comp = true := by
  intro comp c0 h1 h2
  obtain ⟨c3, c4, hc3, hc4, hasg⟩ := Cond.castable_spec (ecn_cast hST hc)
  cases Option.some.inj (hc3.symm.trans h2)
  cases Option.some.inj (hc4.symm.trans h1)
  exact hasg
theorem ecn_any {G : GG} {A : Nat → Prop} {ad : AD} {s : State} {H H0 : Heap} (hK : VK G s) (hST : ST G A ad s H0) {ci y : Nat} (hc : Eci ci) (h : EL G ci y H) : va_Any "java/lang/Object" s H y := by
  obtain ⟨cellV, h1, h2, h3⟩ := h
  have hf := ecn_find hK hc
  obtain ⟨kC, hkC, -⟩ := Vm.findClass_spec hf
  exact ⟨cellV, h1, h2, ⟨kC, by rw [h3]; exact hkC⟩, fun comp hcomp => by rw [h3]; exact ecn_asg hST hc comp _ hcomp hf⟩
theorem vk_obj {G : GG} {s : State} (hK : VK G s) {cA : ClassId} (h : va_RA s cA (.object "java/lang/Object")) : cA = G.2 5 := by
  have h5 := (hK.2 5 (G.2 5, .object "java/lang/Object") rfl).2
  obtain ⟨_, _, _, _, _, h4⟩ := h
  obtain ⟨_, _, _, _, _, h6⟩ := h5
  exact Option.some.inj (h4.symm.trans h6)
theorem c_J_newLength {l : Launch} {G : GG} {F : Heap → Prop} {o mg pg L : Int32} (hL : o + (if mg < pg then pg else mg) = L) (h1 : ¬ L ≤ 0) (h2 : ¬ 2147483639 < L) : Met l yJ8_newLength_cabcc (Cond.code yJ8_newLength_cabcc cJ8_newLength_cabcc 4 (some .int) :: TG) ({ frames := 1, cells := 0, slots := 0, locals := 30 } : Room) (PH G F [.int o, .int mg, .int pg]) (QH (.int L)) 0 0 (fun _ => False) :=
  ph_of (own := RJ8) (by decide +kernel) rfl (Nat.le_of_ble_eq_true rfl) fun p e s m below meth c ls B hF hl => by
    have ⟨hx, hb, hr, hml, hown, hT, hlocks, hK⟩ := B
    refine lv_iload_n hx hb dJ8_newLength_cabcc_0 rfl (lv_at hl 0 rfl) ?_
    refine lv_iload_n hx hb dJ8_newLength_cabcc_1 rfl (lv_at hl 1 rfl) ?_
    refine lv_iload_n hx hb dJ8_newLength_cabcc_2 rfl (lv_at hl 2 rfl) ?_
    refine va_mmax hx hb (hml.trans hl.1.symm) hown (hT _ wm_RJ8_194) (hT _ wt_yJ9_max_7cf53) (hT _ wn_RJ9) (hT _ wc_yJ9_max_7cf53) (Nat.le_of_ble_eq_true rfl) (Nat.le_of_ble_eq_true rfl) (Nat.le_refl 0) (Nat.le_refl 0) dJ8_newLength_cabcc_3 ?_
    refine lv_iadd hx hb dJ8_newLength_cabcc_6 ?_
    rw [hL]
    refine lv_istore_n (lv' := [(3, .int L), (0, .int o), (1, .int mg), (2, .int pg)]) hx hb dJ8_newLength_cabcc_7 rfl hl (by decide) rfl (fun ls hl => ?_)
    refine lv_iconst (v := 0) hx hb dJ8_newLength_cabcc_8 (by decide) ?_
    refine lv_iload_n hx hb dJ8_newLength_cabcc_9 rfl (lv_at hl 0 rfl) ?_
    refine lv_icmp_ge (tgt := 21) hx hb dJ8_newLength_cabcc_10 (by decide) (fun c1 => absurd c1 h1) (fun c1 => ?_)
    refine lv_iload_n hx hb dJ8_newLength_cabcc_13 rfl (lv_at hl 0 rfl) ?_
    refine lv_ldc (v := 2147483639) hx hb hown (hT _ wq_RJ8_200) dJ8_newLength_cabcc_14 ?_
    refine lv_icmp_gt (tgt := 21) hx hb dJ8_newLength_cabcc_16 (by decide) (fun c2 => absurd c2 h2) (fun c2 => ?_)
    refine lv_iload_n hx hb dJ8_newLength_cabcc_19 rfl (lv_at hl 0 rfl) ?_
    exact W.iret hx hb hr (fun t ht hW => ⟨rfl, ht⟩) nof dJ8_newLength_cabcc_20
