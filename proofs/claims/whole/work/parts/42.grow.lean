/-! New things in the class's world: a shot with its cast and pardon, a note. -/
def AE (ad ad' : AD) : Prop := ad' 0 0 = ad 0 0 ∧ ad' 15 0 = ad 15 0 ∧ ad' 16 0 = ad 16 0
theorem AE.rf {ad : AD} : AE ad ad := ⟨rfl, rfl, rfl⟩
theorem ST.ad {G : GG} {A : Nat → Prop} {ad ad' : AD} {U : State} {H : Heap} (he : AE ad ad') (h : ST G A ad U H) : ST G A ad' U H := by
  obtain ⟨-, e1, e2⟩ := he
  unfold ST at h ⊢
  rw [e1, e2]
  exact h
theorem XB.ad {G : GG} {A : Nat → Prop} {ad ad' : AD} {p : Program} {l : Launch} {s : State} {m : MethodId} {args : Array Value} {meth : Method} {c : Code} {cc : ByteArray} {nL : Nat} {own : String} {rt : Option FieldType} (he : AE ad ad') (h : XB G A ad p l s m args meth c cc nL own rt) : XB G A ad' p l s m args meth c cc nL own rt := ⟨h.1, h.2.1, ST.ad he h.2.2.1, h.2.2.2.1, h.2.2.2.2⟩
def QEr (G : GG) (A : Nat → Prop) (ad : AD) (o : Nat ⊕ Option Value) (st : XS) : Array Value → State → Outcome → State → Prop := fun _ s0 oc t => (∃ v, o = .inr v ∧ oc = .returned v) ∧ (∃ ad', AE ad ad' ∧ XW G A ad' st t.heap) ∧ va_F A s0 t
def QEx (G : GG) (A : Nat → Prop) (ad : AD) (o : Nat ⊕ Option Value) (st : XS) : String → State → State → Prop := fun E s0 t => (∃ k, o = .inl k ∧ E = exn k) ∧ (∃ ad', AE ad ad' ∧ XW G A ad' st t.heap) ∧ va_F A s0 t
section GRW
variable {p : Program} {l : Launch} {e : Env} {R : Room} {s : State} {m : MethodId} {args : Array Value} {below : List Frame} {meth : Method} {c : Code} {H : Heap} {locs : List Loc} {cells slots : Nat} {Q : State → Prop}
variable {cc : ByteArray} {nL pc : Nat} {own : String} {rt : Option FieldType} {ls : Array Slot} {rest : List Value} {G : GG} {A : Nat → Prop} {ad ad' : AD} {st : XS} {MC MS : Nat}
theorem xe_mono2 {g : JFrame} {o : Nat ⊕ Option Value} (he : AE ad ad') (h : W p l e R s m args below meth c H locs cells slots (vx_MQ below (QXr G A ad' o st) (QXx G A ad' o st) args s MC MS A) g) : W p l e R s m args below meth c H locs cells slots (vx_MQ below (QEr G A ad o st) (QEx G A ad o st) args s MC MS A) g := by
  intro T hT X
  obtain ⟨t, a1, o, b1, b2, b3⟩ := h T hT X
  refine ⟨t, a1, o, b1, b2, ?_⟩
  rcases b3 with ⟨⟨c1, c2, c3⟩, d⟩ | h
  · exact Or.inl ⟨⟨c1, ⟨ad', he, c2⟩, c3⟩, d⟩
  · obtain ⟨q, h0, E, ce, L9, ⟨g1, g2, g3⟩, h4⟩ := h
    exact Or.inr ⟨q, h0, E, ce, L9, ⟨g1, ⟨ad', he, g2⟩, g3⟩, h4⟩
theorem xe_mono {g : JFrame} {o : Nat ⊕ Option Value} (h : W p l e R s m args below meth c H locs cells slots (vx_MQ below (QXr G A ad o st) (QXx G A ad o st) args s MC MS A) g) : W p l e R s m args below meth c H locs cells slots (vx_MQ below (QEr G A ad o st) (QEx G A ad o st) args s MC MS A) g := xe_mono2 AE.rf h
/-- a new object, by itself -/
theorem xn_new (B : MB G p s m args meth c cc nL own rt) (ci : Nat) {C : String} {T : u_T} {N index : Nat} (hc : vwCl[ci]? = some (C, T, N)) (hin : ∀ w ∈ u_ws C T N, w ∈ TG) {ty : Nat → FieldType} (hty : ∀ k, k < N → parseFieldDescriptor (T k).2.2.1 = some (ty k)) (h1 : Cond.classLink own index C ∈ TG) (h2 : Cond.instantiable C N ∈ TG) (h3 : Cond.initialized C ∈ TG) (fs : List Value) (hfs : ∀ j, j < N → defaultValue (ty j) = vp_V fs j) (hcells : cells + 1 ≤ R.cells) (hslots : slots + N ≤ R.slots) (hdg : decode cc pc = .ok (.new index, 3))
    (kk : ∀ (H1 : Heap), va_at G.1 vwCl (H.size, .inr (ci, fs)) H1 → H1.size = H.size + 1 → (∀ x : Nat, x < H.size → H1[x]? = H[x]?) → W p l e R s m args below meth c H1 locs (cells + 1) (slots + N) Q (F0 m (pc + 3) ls (.ref H.size :: rest))) : W p l e R s m args below meth c H locs cells slots Q (F0 m pc ls rest) := by
  obtain ⟨hx, hb, -, -, hown, hT, -, hK⟩ := B
  have hKn := hK.1 ci _ hc
  refine W.newcK hx hb hown (hT _ h1) (hT _ h2) (hT _ h3) rfl hdg hcells hslots hKn.2.1 rfl fun H1 kC hkC e1 z1 o1 => ?_
  exact kk H1 ⟨_, hc, (u_born ty hT hin hKn hkC e1 hty).to hfs⟩ z1 o1
end GRW
theorem FW.kept2 {ι : Type} {D : va_G} {V : ι → Prop} {ad : ι → Nat} {en : ι → va_E} {A : Nat → Prop} {H H1 : Heap} (h : FW D V ad en A H) (hq : ∀ i, V i → ad i < H.size → H1[ad i]? = H[ad i]?) : FW D V ad en A H1 :=
  ⟨fun i hi => ⟨(h.1 i hi).1.kept (hq i hi (h.1 i hi).1.lt), (h.1 i hi).2⟩, h.2⟩
theorem XW.kept2 {G : GG} {A : Nat → Prop} {ad : AD} {st : XS} {H H1 : Heap} (h : XW G A ad st H) (hq : ∀ x : Nat, x < H.size → H1[x]? = H[x]?) : XW G A ad st H1 := by
  obtain ⟨gh, h1, h2⟩ := h
  exact ⟨gh, h1.kept2 fun i _ hl => hq _ hl, h2⟩
/-- a method's start, when the world may grow -/
theorem xe_of {l : Launch} {y : MethodName} {cc : ByteArray} {n : Nat} {ret : Option FieldType} {rm : Room} {G : GG} {A : Nat → Prop} {ad : AD} {st st' : XS} {av : List Value} {o : Nat ⊕ Option Value} {own : String} {MC MS : Nat} (hll : l.stackTraces = false) (hy : plainName y.cls = true) (hyc : y.cls = own) (hlen : (lg_sl av).length ≤ n)
    (body : ∀ (p : Program) (e : Env) (s : State) (m : MethodId) (below : List Frame) (meth : Method) (c : Code) (ls : Array Slot), XB G A ad p l s m av.toArray meth c cc n own ret → XW G A ad st s.heap → va_S A s.heap s.heap [] → lv_has ls n (lv_args 0 av) → W p l e rm s m av.toArray below meth c s.heap [] 0 0 (vx_MQ below (QEr G A ad o st') (QEx G A ad o st') av.toArray s MC MS A) (F0 m 0 ls [])) :
    vx_Met l y (Cond.code y cc n ret :: TG) rm (PX G A ad st av) (QEr G A ad o st') (QEx G A ad o st') MC MS A := by
  refine vx_ofW (cc := cc) (maxL := n) (ret := ret) hy rfl ?_
  intro p e s m args below meth c s₁ B hml hnt hv
  obtain ⟨rfl, hK, hST, hM, hA⟩ := hv
  have hts := atoms_spec (ws := Cond.code y cc n ret :: TG) B.pre
  have hown : s.vm.findClass own = some m.cls := hyc ▸ findClass_of_methodNamed B.named
  have hl := lv_entry av hlen
  rw [lg_entry_eq]
  exact body p e s m below meth c _ ⟨⟨B.exec, B.bytes, B.returns, hml, hown, fun w hw => hts w (List.mem_cons_of_mem _ hw), B.notSynchronized, hK⟩, hnt, hST, hA, hll⟩ hM va_S.rf hl
/-! a shot -/
def adS (ad : AD) (n q : Nat) (qs : Nat → Nat) : AD := fun k i => if i = n then (match k with | 1 => q | 2 => qs 0 | 3 => qs 5 | 4 => qs 1 | 5 => qs 2 | 6 => qs 3 | 7 => qs 4 | _ => ad k i) else ad k i
def nwF (a b c : Int32) (f : Nat) : Int32 := match f with | 3 => a | 4 => b | 5 => c | 7 => -1 | 8 => 45 | 9 => -1 | _ => 0
def nwS (st : XS) (a b c : Int32) : XS := (fun k i f => if i = xN st 0 ∧ k = 1 then nwF a b c f else if i = xN st 0 ∧ k = 2 then (if f = 0 then 45 else 0) else st.1 k i f, fun w i => if i = xN st 0 ∧ w < 4 then r45 4 else st.2.1 w i, st.2.2.1, fun j => if j = 0 then xN st 0 + 1 else st.2.2.2.1 j, st.2.2.2.2)
def ceS (G : GG) (n : Nat) (a b c : Int32) (q : Nat) (qs : Nat → Nat) : va_W := [(q, .inr (5, [.int (nI n), .ref (qs 0), .ref (qs 5), .int a, .int b, .int c, .int 0, .int (-1), .int 45, .int (-1), .int 0, .int 0])), (qs 0, .inr (1, [.ref (qs 1), .ref (qs 2), .ref (qs 3), .ref (qs 4)])), (qs 1, .inl (G.2 1, 4, .inl (r45 4))), (qs 2, .inl (G.2 1, 4, .inl (r45 4))), (qs 3, .inl (G.2 1, 4, .inl (r45 4))), (qs 4, .inl (G.2 1, 4, .inl (r45 4))), (qs 5, .inr (4, [.int 45, .int 0, .int 0, .int 0]))]
def ixS (k : Nat) : Nat := match k with | 1 => 0 | 2 => 1 | 3 => 6 | 4 => 2 | 5 => 3 | 6 => 4 | _ => 5
theorem ixS_inj {a b : Nat} (ha : 1 ≤ a ∧ a < 8) (hb : 1 ≤ b ∧ b < 8) (h : ixS a = ixS b) : a = b := by
  obtain ⟨ha1, ha2⟩ := ha
  obtain ⟨hb1, hb2⟩ := hb
  rcases (show a = 1 ∨ a = 2 ∨ a = 3 ∨ a = 4 ∨ a = 5 ∨ a = 6 ∨ a = 7 by omega) with rfl | rfl | rfl | rfl | rfl | rfl | rfl <;> rcases (show b = 1 ∨ b = 2 ∨ b = 3 ∨ b = 4 ∨ b = 5 ∨ b = 6 ∨ b = 7 by omega) with rfl | rfl | rfl | rfl | rfl | rfl | rfl <;> first | rfl | cases h
theorem ceS_at {G : GG} {ad : AD} {st : XS} {a b c : Int32} {q : Nat} {qs : Nat → Nat} {gh : LG} {k : Nat} (h1 : 1 ≤ k) (h2 : k < 8) : (ceS G (xN st 0) a b c q qs)[ixS k]? = some (adx (adS ad (xN st 0) q qs) gh (k, xN st 0), enX G (adS ad (xN st 0) q qs) gh (nwS st a b c) (k, xN st 0)) := by
  rcases (show k = 1 ∨ k = 2 ∨ k = 3 ∨ k = 4 ∨ k = 5 ∨ k = 6 ∨ k = 7 by omega) with rfl | rfl | rfl | rfl | rfl | rfl | rfl <;> simp [ceS, ixS, adx, adS, enX, fSh, fCa, fPa, xF, xR, nwS, nwF]
theorem vxS_old {G : GG} {ad : AD} {st : XS} {a b c : Int32} {q : Nat} {qs : Nat → Nat} {gh : LG} (hU : ∀ i, i < xN st 1 → xU st i < xN st 0) {z : Nat × Nat} (hv : VX st gh z) : adx (adS ad (xN st 0) q qs) gh z = adx ad gh z ∧ enX G ad gh st z = enX G (adS ad (xN st 0) q qs) gh (nwS st a b c) z := by
  obtain ⟨k, i⟩ := z
  have hor : (k = 0 ∧ i = 0) ∨ (1 ≤ k ∧ k < 8 ∧ i ≠ xN st 0) ∨ (k = 8 ∧ i < xN st 1) ∨ (9 ≤ k ∧ k < 13 ∧ i = 0) ∨ k = 13 ∨ k = 14 := by
    rcases hv with h | h | h
    · rcases h with h | h | h | h
      · exact Or.inl h
      · exact Or.inr (Or.inl ⟨h.1, h.2.1, Nat.ne_of_lt h.2.2⟩)
      · exact Or.inr (Or.inr (Or.inl h))
      · exact Or.inr (Or.inr (Or.inr (Or.inl h)))
    · exact Or.inr (Or.inr (Or.inr (Or.inr (Or.inl h.1))))
    · exact Or.inr (Or.inr (Or.inr (Or.inr (Or.inr h.1))))
  rcases hor with ⟨rfl, rfl⟩ | ⟨h1, h2, h3⟩ | ⟨rfl, h⟩ | ⟨h1, h2, rfl⟩ | rfl | rfl
  · simp [adx, adS, enX, fTR, xF, nwS]
  · rcases (show k = 1 ∨ k = 2 ∨ k = 3 ∨ k = 4 ∨ k = 5 ∨ k = 6 ∨ k = 7 by omega) with rfl | rfl | rfl | rfl | rfl | rfl | rfl <;> simp [adx, adS, enX, fSh, fCa, fPa, xF, xR, nwS, h3]
  · have := Nat.ne_of_lt (hU i h)
    constructor
    · simp [adx, adS]
    · have this2 : st.2.2.2.2 i ≠ xN st 0 := this
      simp [enX, fNo, adS, nwS, xU, xF, this2]
  · rcases (show k = 9 ∨ k = 10 ∨ k = 11 ∨ k = 12 by omega) with rfl | rfl | rfl | rfl <;> simp [adx, adS, enX, fOr, xF, xR, nwS]
  · simp [adx, adS, enX, xL, nwS]
  · simp [adx, enX]
theorem xw_growS {G : GG} {A A1 : Nat → Prop} {ad : AD} {st : XS} {H H2 : Heap} {a b c : Int32} {q : Nat} {qs : Nat → Nat} (hM : XW G A ad st H) (hA : ∀ x : Nat, H.size ≤ x → A x) (hk : ∀ x : Nat, x < H.size → H2[x]? = H[x]?) (hP : va_P G.1 vwCl (ceS G (xN st 0) a b c q qs) H2) (hD : va_D A1 (ceS G (xN st 0) a b c q qs)) (hA1 : ∀ x, A1 x → H.size ≤ x) : XW G A (adS ad (xN st 0) q qs) (nwS st a b c) H2 := by
  obtain ⟨gh, hW, hL, hU⟩ := hM
  have split : ∀ z : Nat × Nat, VX (nwS st a b c) gh z → (1 ≤ z.1 ∧ z.1 < 8 ∧ z.2 = xN st 0) ∨ VX st gh z := by
    intro z hz
    rcases hz with h | h | h
    · rcases h with h | h | h | h
      · exact Or.inr (Or.inl (Or.inl h))
      · have h2 : z.2 < xN st 0 + 1 := h.2.2
        rcases Nat.lt_or_ge z.2 (xN st 0) with h3 | h3
        · exact Or.inr (Or.inl (Or.inr (Or.inl ⟨h.1, h.2.1, h3⟩)))
        · exact Or.inl ⟨h.1, h.2.1, by omega⟩
      · exact Or.inr (Or.inl (Or.inr (Or.inr (Or.inl h))))
      · exact Or.inr (Or.inl (Or.inr (Or.inr (Or.inr h))))
    · exact Or.inr (Or.inr (Or.inl h))
    · exact Or.inr (Or.inr (Or.inr h))
  have hold : ∀ z : Nat × Nat, VX st gh z → adx ad gh z < H.size := fun z hz => (hW.1 z hz).1.lt
  have hnew : ∀ k : Nat, 1 ≤ k → k < 8 → H.size ≤ adx (adS ad (xN st 0) q qs) gh (k, xN st 0) := fun k h1 h2 => hA1 _ (hD.2 _ _ (ceS_at h1 h2))
  refine ⟨gh, ⟨fun z hz => ?_, fun x y hx hy hxy => ?_⟩, ?_, ?_⟩
  · rcases split z hz with h | h
    · obtain ⟨k, i⟩ := z
      obtain ⟨h1, h2, rfl⟩ := h
      exact ⟨hP _ _ (ceS_at h1 h2), hA _ (hnew k h1 h2)⟩
    · obtain ⟨e1, e2⟩ := vxS_old (G := G) (ad := ad) (a := a) (b := b) (c := c) (q := q) (qs := qs) hU h
      rw [e1, ← e2]
      exact ⟨(hW.1 z h).1.kept (hk _ (hold z h)), (hW.1 z h).2⟩
  · rcases split x hx with h | h <;> rcases split y hy with h' | h'
    · obtain ⟨k, i⟩ := x
      obtain ⟨k', i'⟩ := y
      obtain ⟨h1, h2, rfl⟩ := h
      obtain ⟨g1, g2, rfl⟩ := h'
      have := ixS_inj ⟨h1, h2⟩ ⟨g1, g2⟩ (hD.1 _ _ _ _ (ceS_at h1 h2) (ceS_at g1 g2) hxy)
      dsimp only at this
      rw [this]
    · obtain ⟨k, i⟩ := x
      obtain ⟨h1, h2, rfl⟩ := h
      have e1 := (vxS_old (G := G) (ad := ad) (a := a) (b := b) (c := c) (q := q) (qs := qs) hU h').1
      have := hnew k h1 h2
      have := hold y h'
      rw [e1] at hxy
      omega
    · obtain ⟨k, i⟩ := y
      obtain ⟨h1, h2, rfl⟩ := h'
      have e1 := (vxS_old (G := G) (ad := ad) (a := a) (b := b) (c := c) (q := q) (qs := qs) hU h).1
      have := hnew k h1 h2
      have := hold x h
      rw [e1] at hxy
      omega
    · have e1 := (vxS_old (G := G) (ad := ad) (a := a) (b := b) (c := c) (q := q) (qs := qs) hU h).1
      have e2 := (vxS_old (G := G) (ad := ad) (a := a) (b := b) (c := c) (q := q) (qs := qs) hU h').1
      rw [e1, e2] at hxy
      exact hW.2 x y h h' hxy
  · intro j hj
    obtain ⟨l1, l2, l3, l4, l5, l6⟩ := hL j hj
    refine ⟨l1, l2, fun t ht => ?_, l4, l5, fun x hx => ?_⟩
    · have hm : (xL st j).getD t 0 ∈ xL st j := by
        have ht' : t < (xL st j).length := ht
        rw [List.getD_eq_getElem?_getD, List.getElem?_eq_getElem ht']
        exact List.getElem_mem ht'
      have h6 := l6 _ hm
      show (gh j).2.2.2 t = some (adS ad (xN st 0) q qs (elk j) ((xL st j).getD t 0))
      rw [l3 t ht]
      congr 1
      unfold elk elc at *
      by_cases h2 : j = 2
      · simp [h2, adS]
      · rw [if_neg h2] at h6 ⊢
        simp only [adS]
        rw [if_neg (Nat.ne_of_lt h6)]
    · have h6 := l6 x hx
      unfold elc at h6 ⊢
      by_cases h2 : j = 2
      · rw [if_pos h2] at h6 ⊢
        exact h6
      · rw [if_neg h2] at h6 ⊢
        show x < xN st 0 + 1
        omega
  · intro i hi
    have := hU i hi
    show xU st i < xN st 0 + 1
    omega
/-! a note -/
def adN (ad : AD) (n q : Nat) : AD := fun k i => if k = 8 ∧ i = n then q else ad k i
def nwN (st : XS) (x : Nat) : XS := (fun k i f => if k = 3 ∧ i = xN st 1 then (match f with | 1 => xF st 1 x 6 | 2 => 111 | _ => st.1 k i f) else st.1 k i f, st.2.1, st.2.2.1, fun j => if j = 1 then xN st 1 + 1 else st.2.2.2.1 j, fun i => if i = xN st 1 then x else st.2.2.2.2 i)
theorem vxN_old {G : GG} {ad : AD} {st : XS} {x q : Nat} {gh : LG} {z : Nat × Nat} (hv : VX st gh z) : adx (adN ad (xN st 1) q) gh z = adx ad gh z ∧ enX G ad gh st z = enX G (adN ad (xN st 1) q) gh (nwN st x) z := by
  obtain ⟨k, i⟩ := z
  have hor : (k = 0 ∧ i = 0) ∨ (1 ≤ k ∧ k < 8) ∨ (k = 8 ∧ i ≠ xN st 1) ∨ (9 ≤ k ∧ k < 13) ∨ k = 13 ∨ k = 14 := by
    rcases hv with h | h | h
    · rcases h with h | h | h | h
      · exact Or.inl h
      · exact Or.inr (Or.inl ⟨h.1, h.2.1⟩)
      · exact Or.inr (Or.inr (Or.inl ⟨h.1, Nat.ne_of_lt h.2⟩))
      · exact Or.inr (Or.inr (Or.inr (Or.inl ⟨h.1, h.2.1⟩)))
    · exact Or.inr (Or.inr (Or.inr (Or.inr (Or.inl h.1))))
    · exact Or.inr (Or.inr (Or.inr (Or.inr (Or.inr h.1))))
  rcases hor with ⟨rfl, rfl⟩ | ⟨h1, h2⟩ | ⟨rfl, h⟩ | ⟨h1, h2⟩ | rfl | rfl
  · simp [adx, adN, enX, fTR, xF, nwN]
  · rcases (show k = 1 ∨ k = 2 ∨ k = 3 ∨ k = 4 ∨ k = 5 ∨ k = 6 ∨ k = 7 by omega) with rfl | rfl | rfl | rfl | rfl | rfl | rfl <;> simp [adx, adN, enX, fSh, fCa, fPa, xF, xR, nwN]
  · simp [adx, adN, enX, fNo, xF, xU, nwN, h]
  · rcases (show k = 9 ∨ k = 10 ∨ k = 11 ∨ k = 12 by omega) with rfl | rfl | rfl | rfl <;> simp [adx, adN, enX, fOr, xF, xR, nwN]
  · simp [adx, adN, enX, xL, nwN]
  · simp [adx, enX]
theorem xw_growN {G : GG} {A : Nat → Prop} {ad : AD} {st : XS} {H H2 : Heap} {x q : Nat} (hM : XW G A ad st H) (hA : ∀ x : Nat, H.size ≤ x → A x) (hx : x < xN st 0) (hk : ∀ x : Nat, x < H.size → H2[x]? = H[x]?) (hq : H.size ≤ q) (hP : va_at G.1 vwCl (q, .inr (2, [.ref (ad 1 x), .int (xF st 1 x 6), .int 111])) H2) : XW G A (adN ad (xN st 1) q) (nwN st x) H2 := by
  obtain ⟨gh, hW, hL, hU⟩ := hM
  have split : ∀ z : Nat × Nat, VX (nwN st x) gh z → z = (8, xN st 1) ∨ VX st gh z := by
    intro z hz
    rcases hz with h | h | h
    · rcases h with h | h | h | h
      · exact Or.inr (Or.inl (Or.inl h))
      · exact Or.inr (Or.inl (Or.inr (Or.inl h)))
      · have h2 : z.2 < xN st 1 + 1 := h.2
        rcases Nat.lt_or_ge z.2 (xN st 1) with h3 | h3
        · exact Or.inr (Or.inl (Or.inr (Or.inr (Or.inl ⟨h.1, h3⟩))))
        · exact Or.inl (Prod.ext h.1 (by show z.2 = xN st 1; omega))
      · exact Or.inr (Or.inl (Or.inr (Or.inr (Or.inr h))))
    · exact Or.inr (Or.inr (Or.inl h))
    · exact Or.inr (Or.inr (Or.inr h))
  have hold : ∀ z : Nat × Nat, VX st gh z → adx ad gh z < H.size := fun z hz => (hW.1 z hz).1.lt
  have e8 : adx (adN ad (xN st 1) q) gh (8, xN st 1) = q := by simp [adx, adN]
  have f8 : enX G (adN ad (xN st 1) q) gh (nwN st x) (8, xN st 1) = .inr (2, [.ref (ad 1 x), .int (xF st 1 x 6), .int 111]) := by simp [enX, fNo, adN, nwN, xU, xF]
  refine ⟨gh, ⟨fun z hz => ?_, fun u y hx hy hxy => ?_⟩, ?_, ?_⟩
  · rcases split z hz with rfl | h
    · rw [e8, f8]
      exact ⟨hP, hA _ hq⟩
    · obtain ⟨e1, e2⟩ := vxN_old (G := G) (ad := ad) (x := x) (q := q) h
      rw [e1, ← e2]
      exact ⟨(hW.1 z h).1.kept (hk _ (hold z h)), (hW.1 z h).2⟩
  · rcases split u hx with rfl | h <;> rcases split y hy with rfl | h'
    · rfl
    · have e1 := (vxN_old (G := G) (ad := ad) (x := x) (q := q) h').1
      have := hold y h'
      rw [e1, e8] at hxy
      omega
    · have e1 := (vxN_old (G := G) (ad := ad) (x := x) (q := q) h).1
      have := hold u h
      rw [e1, e8] at hxy
      omega
    · have e1 := (vxN_old (G := G) (ad := ad) (x := x) (q := q) h).1
      have e2 := (vxN_old (G := G) (ad := ad) (x := x) (q := q) h').1
      rw [e1, e2] at hxy
      exact hW.2 u y h h' hxy
  · intro j hj
    obtain ⟨l1, l2, l3, l4, l5, l6⟩ := hL j hj
    refine ⟨l1, l2, fun t ht => ?_, l4, l5, fun x hx => ?_⟩
    · have hm : (xL st j).getD t 0 ∈ xL st j := by
        have ht' : t < (xL st j).length := ht
        rw [List.getD_eq_getElem?_getD, List.getElem?_eq_getElem ht']
        exact List.getElem_mem ht'
      have h6 := l6 _ hm
      show (gh j).2.2.2 t = some (adN ad (xN st 1) q (elk j) ((xL st j).getD t 0))
      rw [l3 t ht]
      congr 1
      unfold elk elc at *
      by_cases h2 : j = 2
      · rw [if_pos h2] at h6 ⊢
        simp only [adN]
        rw [if_neg (fun h => Nat.ne_of_lt h6 h.2)]
      · simp [h2, adN]
    · have h6 := l6 x hx
      unfold elc at h6 ⊢
      by_cases h2 : j = 2
      · rw [if_pos h2] at h6 ⊢
        show x < xN st 1 + 1
        omega
      · rw [if_neg h2] at h6 ⊢
        exact h6
  · intro i hi
    have hi' : i < xN st 1 + 1 := hi
    show (if i = xN st 1 then x else xU st i) < xN st 0
    by_cases h : i = xN st 1
    · rw [if_pos h]
      exact hx
    · rw [if_neg h]
      exact hU i (by omega)
