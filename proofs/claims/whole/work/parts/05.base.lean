/-! The base of the walks: one list of words for all methods, worlds as families of cells, and the pure control words. -/
theorem tg_V {own : String} {idx : Nat} {C : String} {y : MethodName} {cc : ByteArray} {n : Nat} {ret : Option FieldType} (h1 : Cond.methodLink own idx y ∈ TG) (h2 : Cond.instanceMethod y ∈ TG) (h3 : Cond.selects C y y ∈ TG) (h4 : Cond.initialized C ∈ TG) (h5 : Cond.code y cc n ret ∈ TG) : GoodIn TG (wsV own idx C y (Cond.code y cc n ret :: TG)) := by
  intro w hw
  have key : w ∈ TG := by
    simp only [wsV, List.cons_append, List.nil_append, List.mem_cons] at hw
    rcases hw with rfl | rfl | rfl | rfl | rfl | hw
    · exact h1
    · exact h2
    · exact h3
    · exact h4
    · exact h5
    · exact hw
  exact ⟨key, good_of_word (tg_good key)⟩
theorem tg_S {own : String} {idx : Nat} {y : MethodName} {cc : ByteArray} {n : Nat} {ret : Option FieldType} (h1 : Cond.methodLink own idx y ∈ TG) (h2 : Cond.static y ∈ TG) (h4 : Cond.initialized own ∈ TG) (h5 : Cond.code y cc n ret ∈ TG) : GoodIn TG (wsS own idx y (Cond.code y cc n ret :: TG)) := by
  intro w hw
  have key : w ∈ TG := by
    simp only [wsS, List.cons_append, List.nil_append, List.mem_cons] at hw
    rcases hw with rfl | rfl | rfl | rfl | hw
    · exact h1
    · exact h2
    · exact h4
    · exact h5
    · exact hw
  exact ⟨key, good_of_word (tg_good key)⟩
theorem tg_C {y : MethodName} {cc : ByteArray} {n : Nat} {ret : Option FieldType} (h5 : Cond.code y cc n ret ∈ TG) : GoodIn TG (Cond.code y cc n ret :: TG) := by
  intro w hw
  have key : w ∈ TG := by
    rcases List.mem_cons.mp hw with rfl | hw
    · exact h5
    · exact hw
  exact ⟨key, good_of_word (tg_good key)⟩
/-! pure control: a branch, a guard, a call -/
noncomputable def bi {α : Type} (c : Prop) (a b : Option α) : Option α := @ite _ c (Classical.propDecidable c) a b
theorem bi_pos {α : Type} {c : Prop} (hc : c) (a b : Option α) : bi c a b = a := if_pos hc
theorem bi_neg {α : Type} {c : Prop} (hc : ¬ c) (a b : Option α) : bi c a b = b := if_neg hc
theorem bi_t {α : Type} {c : Prop} {a b o : Option α} (hc : c) (h : bi c a b = o) : a = o := (bi_pos hc a b).symm.trans h
theorem bi_f {α : Type} {c : Prop} {a b o : Option α} (hc : ¬ c) (h : bi c a b = o) : b = o := (bi_neg hc a b).symm.trans h
noncomputable def gd {α : Type} (c : Prop) (k : Option α) : Option α := bi c k none
theorem gd_pos {α : Type} {c : Prop} (hc : c) (k : Option α) : gd c k = k := if_pos hc
theorem gd_e {α : Type} {c : Prop} {k : Option α} {o : α} (h : gd c k = some o) : c ∧ k = some o := by
  by_cases hc : c
  · exact ⟨hc, (bi_pos hc k none).symm.trans h⟩
  · have h1 := (bi_neg hc k none).symm.trans h
    cases h1
def bd {α β γ : Type} (x : Option (α × β)) (k : α → β → Option γ) : Option γ := match x with
  | none => none
  | some (r, t) => k r t
theorem bd_e {α β γ : Type} {x : Option (α × β)} {k : α → β → Option γ} {o : γ} (h : bd x k = some o) : ∃ r t, x = some (r, t) ∧ k r t = some o := by
  cases x with
  | none => cases h
  | some q => exact ⟨q.1, q.2, rfl, h⟩
theorem bd_some {α β γ : Type} (r : α) (t : β) (k : α → β → Option γ) : bd (some (r, t)) k = k r t := rfl
/-! array kinds, and what the tables know -/
def tysG (g : Nat → ClassId) : List (ClassId × FieldType) := [(g 0, .int), (g 1, .char), (g 2, .boolean), (g 3, .long), (g 4, .double), (g 5, .object "java/lang/Object")]
abbrev GG : Type := va_G × (Nat → ClassId)
def VK (G : GG) (s : State) : Prop := va_K G.1 vwCl (tysG G.2) s
theorem VK.moved {G : GG} {u U : State} (hvm : u.vm.Alike U.vm) (h : VK G u) : VK G U := va_K.moved hvm h
def MB (G : GG) (p : Program) (s : State) (m : MethodId) (args : Array Value) (meth : Method) (c : Code) (cc : ByteArray) (nL : Nat) (own : String) (rt : Option FieldType) : Prop :=
  p.tables.exec = Jvm.exec ∧ c.code = cc ∧ meth.sig.returnType = rt ∧ c.maxLocals = nL ∧ s.vm.findClass own = some m.cls ∧ (∀ w ∈ TG, w.before args s = true) ∧ meth.locks = false ∧ VK G s
/-! worlds: a family of cells, apart, at addresses of a kind -/
section FWS
variable {ι : Type}
def FW (D : va_G) (V : ι → Prop) (ad : ι → Nat) (en : ι → va_E) (A : Nat → Prop) (H : Heap) : Prop :=
  (∀ i, V i → va_at D vwCl (ad i, en i) H ∧ A (ad i)) ∧ ∀ i j, V i → V j → ad i = ad j → i = j
noncomputable def up2 (en : ι → va_E) (i : ι) (e : va_E) : ι → va_E := fun j => @ite _ (j = i) (Classical.propDecidable _) e (en j)
theorem up2_self (en : ι → va_E) (i : ι) (e : va_E) : up2 en i e i = e := if_pos rfl
theorem up2_ne (en : ι → va_E) {i j : ι} (e : va_E) (h : j ≠ i) : up2 en i e j = en j := if_neg h
theorem FW.congr {D : va_G} {V : ι → Prop} {ad : ι → Nat} {en en' : ι → va_E} {A : Nat → Prop} {H : Heap} (h : FW D V ad en A H) (he : ∀ i, V i → en i = en' i) : FW D V ad en' A H :=
  ⟨fun i hi => ⟨by rw [← he i hi]; exact (h.1 i hi).1, (h.1 i hi).2⟩, h.2⟩
theorem FW.set {D : va_G} {V : ι → Prop} {ad : ι → Nat} {en : ι → va_E} {A : Nat → Prop} {H H1 : Heap} (h : FW D V ad en A H) {i : ι} {e : va_E} (hi : V i) (he : va_at D vwCl (ad i, e) H1) (oq : ∀ q : Nat, q ≠ ad i → H1[q]? = H[q]?) : FW D V ad (up2 en i e) A H1 := by
  refine ⟨fun j hj => ⟨?_, (h.1 j hj).2⟩, h.2⟩
  by_cases hji : j = i
  · subst hji
    rw [up2_self]
    exact he
  · rw [up2_ne en e hji]
    exact (h.1 j hj).1.kept (oq _ (fun z => hji (h.2 j i hj hi z)))
theorem FW.kept {D : va_G} {V : ι → Prop} {ad : ι → Nat} {en : ι → va_E} {A B : Nat → Prop} {H H1 : Heap} (h : FW D V ad en A H) (hB : ∀ q, A q → ¬ B q) (hq : ∀ q : Nat, q < H.size → ¬ B q → H1[q]? = H[q]?) : FW D V ad en A H1 :=
  ⟨fun i hi => ⟨(h.1 i hi).1.kept (hq _ (h.1 i hi).1.lt (hB _ (h.1 i hi).2)), (h.1 i hi).2⟩, h.2⟩
end FWS
section FWR
variable {ι : Type} {p : Program} {l : Launch} {e : Env} {R : Room} {s : State} {m : MethodId} {args : Array Value} {below : List Frame} {meth : Method} {c : Code} {H : Heap} {locs : List Loc} {cells slots : Nat} {Q : State → Prop}
variable {cc : ByteArray} {nL pc : Nat} {own : String} {rt : Option FieldType} {ls : Array Slot} {rest : List Value} {G : GG} {A : Nat → Prop} {H0 : Heap} {V : ι → Prop} {ad : ι → Nat} {en : ι → va_E}
theorem va_P1 {D : va_G} {q : Nat × va_E} (h : va_at D vwCl q H) : va_P D vwCl [q] H := by
  intro k z hz
  cases k with
  | zero => cases hz; exact h
  | succ k => cases hz
theorem fw_get (B : MB G p s m args meth c cc nL own rt) (hW : FW G.1 V ad en A H) (i : ι) (hi : V i) {ci N : Nat} {fs : List Value} (he : en i = .inr (ci, fs)) {C ref : String} {T : u_T} (hc : vwCl[ci]? = some (C, T, N)) (hin : ∀ w ∈ u_ws C T N, w ∈ TG) (k : Nat) (hk : k < N) {index : Nat} (hlink : Cond.fieldLink own index ref (T k).2.1 (T k).2.2.1 ∈ TG) (hsame : ∀ x, s.fieldFound? (T k).1 (T k).2.1 (T k).2.2.1 = some x → s.fieldFound? ref (T k).2.1 (T k).2.2.1 = some x) {v : Value} (hv : fs[k]? = some v) (hdg : decode cc pc = .ok (.getfield index, 3))
    (kk : W p l e R s m args below meth c H locs cells slots Q (F0 m (pc + 3) ls (v :: rest))) : W p l e R s m args below meth c H locs cells slots Q (F0 m pc ls (.ref (ad i) :: rest)) := by
  obtain ⟨hx, hb, -, -, hown, hT, -, hK⟩ := B
  have h1 := (hW.1 i hi).1
  rw [he] at h1
  exact va_get hx hb hT hin hown hK (va_P1 h1) 0 rfl hc k hk (hT _ hlink) hsame hv hdg kk
theorem fw_put (B : MB G p s m args meth c cc nL own rt) (hW : FW G.1 V ad en A H) (hS0 : va_S A H0 H locs) (i : ι) (hi : V i) {ci N : Nat} {fs : List Value} (he : en i = .inr (ci, fs)) {C ref : String} {T : u_T} (hc : vwCl[ci]? = some (C, T, N)) (hin : ∀ w ∈ u_ws C T N, w ∈ TG) {ty0 : Nat → FieldType} (hty : ∀ k, k < N → parseFieldDescriptor (T k).2.2.1 = some (ty0 k)) (hnm : ∀ a, a < N → ∀ b, b < N → a ≠ b → (T a).2.1 ≠ (T b).2.1) (k : Nat) (hk : k < N) {index : Nat} (hlink : Cond.fieldLink own index ref (T k).2.1 (T k).2.2.1 ∈ TG) (hsame : ∀ x, s.fieldFound? (T k).1 (T k).2.1 (T k).2.2.1 = some x → s.fieldFound? ref (T k).2.1 (T k).2.2.1 = some x) (hfin : (T k).2.2.2 = false) {v : Value} (hn : narrow (ty0 k) v = v) (hfit : fits (ty0 k) v = true) (hl : k < fs.length) (hdg : decode cc pc = .ok (.putfield index, 3))
    (kk : ∀ (H1 : Heap) (locs1 : List Loc), FW G.1 V ad (up2 en i (.inr (ci, fs.set k v))) A H1 → va_S A H0 H1 locs1 → W p l e R s m args below meth c H1 locs1 cells slots Q (F0 m (pc + 3) ls rest)) : W p l e R s m args below meth c H locs cells slots Q (F0 m pc ls (v :: .ref (ad i) :: rest)) := by
  obtain ⟨hx, hb, -, -, hown, hT, -, hK⟩ := B
  have h0 := (hW.1 i hi).1
  rw [he] at h0
  have hap := va_apart (own := own) hT hin ty0 hty hnm hK hc
  obtain ⟨r, h1, cell, q1, q2, q3, q4⟩ := h0
  have hr : r = (C, T, N) := Option.some.inj (h1.symm.trans hc)
  subst hr
  obtain ⟨hS, hfc, kC, hkC, hkind⟩ := hK.1 ci _ hc
  obtain ⟨cf, kf, fi, f, hi2, hsl⟩ := hS k hk
  have hlay := hT _ (hin _ (u_in_lay hk))
  unfold u_lay at hlay
  rw [if_neg (by rw [hfin]; decide)] at hlay
  have hst := (u_facts hfc hkC (u_lays hT hin hk) hi2).1
  have h6 := u_store hfc hkC hkind hlay hi2 (hty k hk) hn hfit
  refine W.putK hx hb (f := f) ⟨hown, hT _ hlink, ⟨_, _, _, hsame _ hi2⟩, hst⟩ (by rw [q2]; exact h6) q1 q3 (by rw [hsl]; exact k2_hasslot (q4 k hk)) rfl rfl hdg fun H' e1 e2 e3 => ?_
  rw [hsl] at e1 ⊢
  exact kk H' _ (hW.set hi ⟨_, hc, t_OB.to (V := updV (vp_V fs) k v) ⟨_, e1, q2, q3, t_set q4 hap hk v⟩ (fun j _ => vp_updV_set hl v j)⟩ e3) (hS0.put e2 e3 (hW.1 i hi).2)
theorem fw_iald (B : MB G p s m args meth c cc nL own rt) (hW : FW G.1 V ad en A H) (i : ι) (hi : V i) {n : Nat} {f : Nat → Int32} (he : en i = .inl (G.2 0, n, .inl f)) {j : Int32} (hin : vp_in j n) (hdg : decode cc pc = .ok (.iaload, 1))
    (kk : W p l e R s m args below meth c H locs cells slots Q (F0 m (pc + 1) ls (.int (f j.toNatClampNeg) :: rest))) : W p l e R s m args below meth c H locs cells slots Q (F0 m pc ls (.int j :: .ref (ad i) :: rest)) := by
  obtain ⟨hx, hb, -, -, hown, hT, -, hK⟩ := B
  have h1 := (hW.1 i hi).1
  rw [he] at h1
  exact va_iald hx hb hK (va_P1 h1) 0 0 rfl rfl hin hdg kk
theorem fw_cald (B : MB G p s m args meth c cc nL own rt) (hW : FW G.1 V ad en A H) (i : ι) (hi : V i) {n : Nat} {f : Nat → Int32} (he : en i = .inl (G.2 1, n, .inl f)) {j : Int32} (hin : vp_in j n) (hdg : decode cc pc = .ok (.caload, 1))
    (kk : W p l e R s m args below meth c H locs cells slots Q (F0 m (pc + 1) ls (.int (f j.toNatClampNeg) :: rest))) : W p l e R s m args below meth c H locs cells slots Q (F0 m pc ls (.int j :: .ref (ad i) :: rest)) := by
  obtain ⟨hx, hb, -, -, hown, hT, -, hK⟩ := B
  have h1 := (hW.1 i hi).1
  rw [he] at h1
  exact va_cald hx hb hK (va_P1 h1) 0 1 rfl rfl hin hdg kk
theorem fw_zald (B : MB G p s m args meth c cc nL own rt) (hW : FW G.1 V ad en A H) (i : ι) (hi : V i) {n : Nat} {f : Nat → Int32} (he : en i = .inl (G.2 2, n, .inl f)) {j : Int32} (hin : vp_in j n) (hdg : decode cc pc = .ok (.baload, 1))
    (kk : W p l e R s m args below meth c H locs cells slots Q (F0 m (pc + 1) ls (.int (f j.toNatClampNeg) :: rest))) : W p l e R s m args below meth c H locs cells slots Q (F0 m pc ls (.int j :: .ref (ad i) :: rest)) := by
  obtain ⟨hx, hb, -, -, hown, hT, -, hK⟩ := B
  have h1 := (hW.1 i hi).1
  rw [he] at h1
  exact va_zald hx hb hK (va_P1 h1) 0 2 rfl rfl hin hdg kk
theorem fw_iast (B : MB G p s m args meth c cc nL own rt) (hW : FW G.1 V ad en A H) (hS : va_S A H0 H locs) (i : ι) (hi : V i) {n : Nat} {f : Nat → Int32} (he : en i = .inl (G.2 0, n, .inl f)) {j x : Int32} (hin : vp_in j n) (hdg : decode cc pc = .ok (.iastore, 1))
    (kk : ∀ (H1 : Heap) (locs1 : List Loc), FW G.1 V ad (up2 en i (.inl (G.2 0, n, .inl (upd f j.toNatClampNeg x)))) A H1 → va_S A H0 H1 locs1 → W p l e R s m args below meth c H1 locs1 cells slots Q (F0 m (pc + 1) ls rest)) : W p l e R s m args below meth c H locs cells slots Q (F0 m pc ls (.int x :: .int j :: .ref (ad i) :: rest)) := by
  obtain ⟨hx, hb, -, -, hown, hT, -, hK⟩ := B
  have h1 := (hW.1 i hi).1
  rw [he] at h1
  refine W.iast hx hb h1 ((hK.2 0 (G.2 0, .int) rfl).1 n (fun j => .int (f j))) (fun q => by cases q) (by show ¬ (j < 0 ∨ (arrV _ _ _).slots.size ≤ _); rw [arrV_size]; exact hin) rfl rfl hdg fun H1 e z oq => ?_
  refine kk H1 _ (hW.set hi ?_ oq) (hS.put z oq (hW.1 i hi).2)
  show H1[ad i]? = some (vp_cell _ _)
  rw [e]
  rw [vp_cell_i, vp_cell_i, arrV_store]
  congr 2
  funext q
  by_cases hq : q = j.toNatClampNeg
  · subst hq
    simp [updV, upd]
  · simp [updV, upd, hq]
theorem fw_cast (B : MB G p s m args meth c cc nL own rt) (hW : FW G.1 V ad en A H) (hS : va_S A H0 H locs) (i : ι) (hi : V i) {n : Nat} {f : Nat → Int32} (he : en i = .inl (G.2 1, n, .inl f)) {j x : Int32} (hin : vp_in j n) (hdg : decode cc pc = .ok (.castore, 1))
    (kk : ∀ (H1 : Heap) (locs1 : List Loc), FW G.1 V ad (up2 en i (.inl (G.2 1, n, .inl (upd f j.toNatClampNeg (vp_nar .char x))))) A H1 → va_S A H0 H1 locs1 → W p l e R s m args below meth c H1 locs1 cells slots Q (F0 m (pc + 1) ls rest)) : W p l e R s m args below meth c H locs cells slots Q (F0 m pc ls (.int x :: .int j :: .ref (ad i) :: rest)) := by
  obtain ⟨hx, hb, -, -, hown, hT, -, hK⟩ := B
  have h1 := (hW.1 i hi).1
  rw [he] at h1
  refine W.cast hx hb h1 ((hK.2 1 (G.2 1, .char) rfl).1 n (fun j => .int (f j))) (fun q => by cases q) (by show ¬ (j < 0 ∨ (arrV _ _ _).slots.size ≤ _); rw [arrV_size]; exact hin) rfl rfl hdg fun H1 e z oq => ?_
  refine kk H1 _ (hW.set hi ?_ oq) (hS.put z oq (hW.1 i hi).2)
  show H1[ad i]? = some (vp_cell _ _)
  rw [e]
  rw [vp_cell_i, vp_cell_i, arrV_store]
  congr 2
  funext q
  by_cases hq : q = j.toNatClampNeg
  · subst hq
    simp [updV, upd, vp_nar]
    try rfl
  · simp [updV, upd, hq]
theorem fw_zast (B : MB G p s m args meth c cc nL own rt) (hW : FW G.1 V ad en A H) (hS : va_S A H0 H locs) (i : ι) (hi : V i) {n : Nat} {f : Nat → Int32} (he : en i = .inl (G.2 2, n, .inl f)) {j x : Int32} (hin : vp_in j n) (hdg : decode cc pc = .ok (.bastore, 1))
    (kk : ∀ (H1 : Heap) (locs1 : List Loc), FW G.1 V ad (up2 en i (.inl (G.2 2, n, .inl (upd f j.toNatClampNeg (vp_nar .boolean x))))) A H1 → va_S A H0 H1 locs1 → W p l e R s m args below meth c H1 locs1 cells slots Q (F0 m (pc + 1) ls rest)) : W p l e R s m args below meth c H locs cells slots Q (F0 m pc ls (.int x :: .int j :: .ref (ad i) :: rest)) := by
  obtain ⟨hx, hb, -, -, hown, hT, -, hK⟩ := B
  have h1 := (hW.1 i hi).1
  rw [he] at h1
  refine W.zast hx hb h1 ((hK.2 2 (G.2 2, .boolean) rfl).1 n (fun j => .int (f j))) (fun q => by cases q) (by show ¬ (j < 0 ∨ (arrV _ _ _).slots.size ≤ _); rw [arrV_size]; exact hin) rfl rfl hdg fun H1 e z oq => ?_
  refine kk H1 _ (hW.set hi ?_ oq) (hS.put z oq (hW.1 i hi).2)
  show H1[ad i]? = some (vp_cell _ _)
  rw [e]
  rw [vp_cell_i, vp_cell_i, arrV_store]
  congr 2
  funext q
  by_cases hq : q = j.toNatClampNeg
  · subst hq
    simp [updV, upd, vp_nar]
    try rfl
  · simp [updV, upd, hq]
end FWR
