/-! The class's world. A state: numbers by (kind, which, field), rows by (kind, which), three lists of numbers of things, how many things, the shot of a note. -/
abbrev XS : Type := (Nat → Nat → Nat → Int32) × (Nat → Nat → Nat → Int32) × (Nat → List Nat) × (Nat → Nat) × (Nat → Nat)
def xF (st : XS) (k i f : Nat) : Int32 := st.1 k i f
def xR (st : XS) (k i : Nat) : Nat → Int32 := st.2.1 k i
def xL (st : XS) (j : Nat) : List Nat := st.2.2.1 j
def xN (st : XS) (j : Nat) : Nat := st.2.2.2.1 j
def xU (st : XS) (j : Nat) : Nat := st.2.2.2.2 j
def sF (st : XS) (k i f : Nat) (x : Int32) : XS := (fun k' i' f' => if k' = k ∧ i' = i ∧ f' = f then x else st.1 k' i' f', st.2)
def sR (st : XS) (k i j : Nat) (x : Int32) : XS := (st.1, fun k' i' => if k' = k ∧ i' = i then upd (st.2.1 k i) j x else st.2.1 k' i', st.2.2)
def sL (st : XS) (j : Nat) (l : List Nat) : XS := (st.1, st.2.1, fun j' => if j' = j then l else st.2.2.1 j', st.2.2.2)
abbrev LG : Type := Nat → Int32 × Nat × Nat × (Nat → Option Nat)
abbrev AD : Type := Nat → Nat → Nat
def VXs (st : XS) (k i : Nat) : Prop := (k = 0 ∧ i = 0) ∨ (1 ≤ k ∧ k < 8 ∧ i < xN st 0) ∨ (k = 8 ∧ i < xN st 1) ∨ (9 ≤ k ∧ k < 13 ∧ i = 0)
def VX (st : XS) (gh : LG) (q : Nat × Nat) : Prop := VXs st q.1 q.2 ∨ (q.1 = 13 ∧ q.2 < 3) ∨ (q.1 = 14 ∧ q.2 < 3 ∧ (gh q.2).2.2.1 ≠ 0)
def adx (ad : AD) (gh : LG) (q : Nat × Nat) : Nat := if q.1 = 14 then (gh q.2).2.1 else ad q.1 q.2
def fTR (ad : AD) (st : XS) : List Value := [.ref (ad 13 0), .ref (ad 13 1), .ref (ad 13 2), .ref (ad 9 0), .int (xF st 0 0 4), .int (xF st 0 0 5)]
def fSh (ad : AD) (st : XS) (i : Nat) : List Value := [.int (nI i), .ref (ad 2 i), .ref (ad 3 i), .int (xF st 1 i 3), .int (xF st 1 i 4), .int (xF st 1 i 5), .int (xF st 1 i 6), .int (xF st 1 i 7), .int (xF st 1 i 8), .int (xF st 1 i 9), .int (xF st 1 i 10), .int (xF st 1 i 11)]
def fCa (ad : AD) (i : Nat) : List Value := [.ref (ad 4 i), .ref (ad 5 i), .ref (ad 6 i), .ref (ad 7 i)]
def fPa (st : XS) (i : Nat) : List Value := [.int (xF st 2 i 0), .int (xF st 2 i 1), .int (xF st 2 i 2), .int (xF st 2 i 3)]
def fNo (ad : AD) (st : XS) (i : Nat) : List Value := [.ref (ad 1 (xU st i)), .int (xF st 3 i 1), .int (xF st 3 i 2)]
def fOr (ad : AD) (st : XS) : List Value := [.ref (ad 10 0), .ref (ad 11 0), .ref (ad 12 0), .int (xF st 4 0 3)]
def enX (G : GG) (ad : AD) (gh : LG) (st : XS) (q : Nat × Nat) : va_E := match q.1 with
  | 0 => .inr (6, fTR ad st)
  | 1 => .inr (5, fSh ad st q.2)
  | 2 => .inr (1, fCa ad q.2)
  | 3 => .inr (4, fPa st q.2)
  | 4 => .inl (G.2 1, 4, .inl (xR st 0 q.2))
  | 5 => .inl (G.2 1, 4, .inl (xR st 1 q.2))
  | 6 => .inl (G.2 1, 4, .inl (xR st 2 q.2))
  | 7 => .inl (G.2 1, 4, .inl (xR st 3 q.2))
  | 8 => .inr (2, fNo ad st q.2)
  | 9 => .inr (3, fOr ad st)
  | 10 => .inl (G.2 2, 36, .inl (xR st 4 0))
  | 11 => .inl (G.2 0, 384, .inl (xR st 5 0))
  | 12 => .inl (G.2 0, 384, .inl (xR st 6 0))
  | 13 => .inr (0, [.int (gh q.2).1, .ref (if (gh q.2).2.2.1 = 0 then ad 15 0 else (gh q.2).2.1), .int (nI (xL st q.2).length)])
  | _ => .inl (G.2 5, (gh q.2).2.2.1, .inr (.inr (.inr (.inr (gh q.2).2.2.2))))
def elk (j : Nat) : Nat := if j = 2 then 8 else 1
def elc (j : Nat) : Nat := if j = 2 then 1 else 0
/-- the lists' rows hold the lists; what they hold is there -/
def LOK (ad : AD) (st : XS) (gh : LG) : Prop := ∀ j, j < 3 → (xL st j).length ≤ (gh j).2.2.1 ∧ (gh j).2.2.1 ≤ 100 ∧ (∀ t, t < (xL st j).length → (gh j).2.2.2 t = some (ad (elk j) ((xL st j).getD t 0))) ∧ (∀ t, (xL st j).length ≤ t → (gh j).2.2.2 t = none) ∧ ((gh j).2.2.1 ≠ 0 → 2 ≤ (gh j).2.2.1) ∧ ∀ x ∈ xL st j, x < xN st (elc j)
def XW (G : GG) (A : Nat → Prop) (ad : AD) (st : XS) (H : Heap) : Prop := ∃ gh : LG, FW G.1 (VX st gh) (adx ad gh) (enX G ad gh st) A H ∧ LOK ad st gh ∧ (∀ i, i < xN st 1 → xU st i < xN st 0)
/-! what an address's kind says of a store elsewhere -/
theorem enx_F {G : GG} {ad : AD} {gh : LG} {st : XS} {fk k i f : Nat} {x : Int32} (hk : (k = 0 ∧ fk = 0 ∧ i = 0) ∨ (k = 1 ∧ fk = 1) ∨ (k = 3 ∧ fk = 2) ∨ (k = 8 ∧ fk = 3) ∨ (k = 9 ∧ fk = 4 ∧ i = 0)) {q : Nat × Nat} (hv : VX st gh q) (hq : q ≠ (k, i)) : enX G ad gh st q = enX G ad gh (sF st fk i f x) q := by
  obtain ⟨k', i'⟩ := q
  have hne : ¬ (k' = k ∧ i' = i) := fun h => hq (by rw [h.1, h.2])
  rcases k' with _ | _ | _ | _ | _ | _ | _ | _ | _ | _ | k'
  · have hi' : i' = 0 := by
      rcases hv with h | h | h
      · rcases h with h | h | h | h <;> simp_all
      · simp_all
      · simp_all
    rcases hk with h | h | h | h | h <;> simp_all [enX, fTR, sF, xF]
  · rcases hk with h | h | h | h | h <;> simp_all [enX, fSh, sF, xF]
  · rfl
  · rcases hk with h | h | h | h | h <;> simp_all [enX, fPa, sF, xF]
  · rfl
  · rfl
  · rfl
  · rfl
  · rcases hk with h | h | h | h | h <;> simp_all [enX, fNo, sF, xF, xU]
  · have hi' : i' = 0 := by
      rcases hv with h | h | h
      · rcases h with h | h | h | h <;> simp_all
      · simp_all
      · simp_all
    rcases hk with h | h | h | h | h <;> simp_all [enX, fOr, sF, xF]
  · rcases k' with _ | _ | _ | _ | k' <;> rfl
theorem xw_setF {G : GG} {A : Nat → Prop} {ad : AD} {st : XS} {H1 : Heap} {fk k i f ci : Nat} {x : Int32} {fs : List Value} {gh : LG} (hk : (k = 0 ∧ fk = 0 ∧ i = 0) ∨ (k = 1 ∧ fk = 1) ∨ (k = 3 ∧ fk = 2) ∨ (k = 8 ∧ fk = 3) ∨ (k = 9 ∧ fk = 4 ∧ i = 0)) (h : FW G.1 (VX st gh) (adx ad gh) (up2 (enX G ad gh st) (k, i) (.inr (ci, fs.set f (.int x)))) A H1) (hL : LOK ad st gh) (hU : ∀ i, i < xN st 1 → xU st i < xN st 0) (hs : enX G ad gh (sF st fk i f x) (k, i) = .inr (ci, fs.set f (.int x))) : XW G A ad (sF st fk i f x) H1 := by
  refine ⟨gh, FW.congr h fun q hv => ?_, hL, hU⟩
  by_cases hq : q = (k, i)
  · subst hq
    rw [up2_self, hs]
  · rw [up2_ne _ _ hq]
    exact enx_F hk hv hq
theorem enx_R {G : GG} {ad : AD} {gh : LG} {st : XS} {w i j : Nat} {x : Int32} (hw : w < 4) {q : Nat × Nat} (hq : q ≠ (4 + w, i)) : enX G ad gh st q = enX G ad gh (sR st w i j x) q := by
  obtain ⟨k', i'⟩ := q
  have hne : ¬ (k' = 4 + w ∧ i' = i) := fun h => hq (by rw [h.1, h.2])
  rcases k' with _ | _ | _ | _ | _ | _ | _ | _ | _ | _ | _ | _ | _ | _ | k'
  all_goals first | rfl | (simp only [enX, sR, xR]; congr 3; rw [if_neg (by omega)])
theorem enx_O {G : GG} {ad : AD} {gh : LG} {st : XS} {k j : Nat} {x : Int32} (hk : k = 10 ∨ k = 11 ∨ k = 12) {q : Nat × Nat} (hv : VX st gh q) (hq : q ≠ (k, 0)) : enX G ad gh st q = enX G ad gh (sR st (k - 6) 0 j x) q := by
  obtain ⟨k', i'⟩ := q
  rcases k' with _ | _ | _ | _ | _ | _ | _ | _ | _ | _ | _ | _ | _ | _ | k'
  all_goals first | rfl | skip
  all_goals (have hi' : i' = 0 ∨ i' ≠ 0 := by omega)
  all_goals (rcases hk with h | h | h <;> subst h <;> simp_all [enX, sR, xR, VX, VXs])
/-! what stands outside of the class's cells: two statics of Throwable, the texts, ArrayList's empty row, words on nest mates -/
def strs : List (Nat × String) := [(43, "no such place"), (62, "all letters are used"), (67, "all shots were made"), (113, "no shot at this place"), (139, "no such place or gaze"), (183, "no shot is seen then"), (185, "no such length"), (196, "no such name"), (205, "no such letter"), (228, "no such hand"), (230, "the board is with somebody"), (238, "the board is with nobody"), (243, "all notes were made"), (257, "the note is not open"), (262, "the note is not stale"), (303, "no cuts"), (305, "no shots"), (322, "no such shot"), (325, "no such note"), (330, "the shot is not in the reel"), (335, "the shot has no name"), (337, "no such side"), (339, "no such lens"), (341, "no such character"), (343, "no such edge"), (349, "the character is not in the shot"), (351, "no cut to this place"), (356, "the reel is empty or too long")]
def nestW : List Cond := [Cond.fieldLinkNest RX4 72 "ThumbnailRow$Pardon" "cause" "C" "ThumbnailRow", Cond.methodLinkNest RX5 24 yX2_init "ThumbnailRow", Cond.methodLinkNest RX4 20 yX3_init "ThumbnailRow", Cond.methodLinkNest RX2 47 yX5_faultBetween "ThumbnailRow", Cond.castable "java/lang/IllegalArgumentException" "java/lang/IllegalArgumentException", Cond.castable "java/lang/UnsupportedOperationException" "java/lang/UnsupportedOperationException", Cond.castable "java/lang/IllegalStateException" "java/lang/IllegalStateException", Cond.castable "java/lang/IndexOutOfBoundsException" "java/lang/IndexOutOfBoundsException", Cond.castable "java/util/NoSuchElementException" "java/util/NoSuchElementException", Cond.castable RX4 "java/lang/Object", Cond.castable RX1 "java/lang/Object", Cond.declares ⟨"java/lang/RuntimeException", "<init>", "()V"⟩, Cond.declares ⟨"java/lang/RuntimeException", "<init>", "(Ljava/lang/String;)V"⟩, Cond.declares ⟨"java/lang/Exception", "<init>", "()V"⟩, Cond.declares ⟨"java/lang/Exception", "<init>", "(Ljava/lang/String;)V"⟩, Cond.declares ⟨"java/lang/Throwable", "<init>", "()V"⟩, Cond.declares ⟨"java/lang/Throwable", "<init>", "(Ljava/lang/String;)V"⟩, Cond.declares ⟨"java/lang/Object", "getClass", "()Ljava/lang/Class;"⟩]
def ST (G : GG) (A : Nat → Prop) (ad : AD) (U : State) (H : Heap) : Prop :=
  vx_Zq Bundle.tN "UNASSIGNED_STACK" Bundle.steD A U H ∧ vx_Zq Bundle.tN "SUPPRESSED_SENTINEL" Bundle.listD A U H ∧ (∀ q ∈ strs, ∃ sa, vk_R RX5 q.1 q.2 sa U) ∧ (∀ w ∈ nestW, va_Nw w U) ∧
  va_Z "java/util/ArrayList" "DEFAULTCAPACITY_EMPTY_ELEMENTDATA" "[Ljava/lang/Object;" (.ref (ad 15 0)) A U H ∧ va_T (.object "java/lang/Object") (ad 15 0) 0 (fun _ => .null) A U H ∧ va_Mi "[Ljava/lang/Object;" (ad 16 0) U ∧ va_AO "java/lang/Object" U
theorem nest_tab : ∀ w ∈ nestW, w.onTables = true := by decide +kernel
theorem nest_tbl : ∀ w ∈ nestW, w ∈ lw_tbl := by decide +kernel
theorem nest_warm {s U : State} (hW : s.WarmedH U.vm) (h : ∀ w ∈ nestW, va_Nw w s) : ∀ w ∈ nestW, va_Nw w U := by
  intro w hw
  have h0 := h w hw
  simp only [nestW, List.mem_cons, List.not_mem_nil, or_false] at hw
  rcases hw with rfl | rfl | rfl | rfl | rfl | rfl | rfl | rfl | rfl | rfl | rfl | rfl | rfl | rfl | rfl | rfl | rfl | rfl <;> first | exact va_Nw.warmC hW h0 | exact va_Nw.warmD hW h0 | exact va_Nw.warmF hW h0 | exact va_Nw.warmM hW h0
theorem ST.at {G : GG} {A : Nat → Prop} {ad : AD} {s U : State} {H : Heap} {locs : List Loc} (h : ST G A ad s s.heap) (hS : va_S A s.heap H locs) (hW : s.WarmedH U.vm) (hU : U.heap = H) : ST G A ad U U.heap := by
  obtain ⟨h1, h2, h3, h4, h5, h6, h7, h8⟩ := h
  rw [hU]
  exact ⟨vx_Zq.moved hW.alike (h1.kept hS.2.1), vx_Zq.moved hW.alike (h2.kept hS.2.1), fun q hq => (h3 q hq).imp fun sa hs => vk_R.warm hW hs, nest_warm hW h4, va_Z.moved hW.alike (h5.kept hS.2.1), va_T.moved hW.alike (h6.kept hS.2.1), va_Mi.moved hW.alike h7, va_AO.moved hW.alike h8⟩
theorem ST.narrow {G : GG} {A B : Nat → Prop} {ad : AD} {U : State} {H : Heap} (h : ST G A ad U H) (hAB : ∀ q, B q → A q) : ST G B ad U H := by
  obtain ⟨h1, h2, h3, h4, h5, h6, h7, h8⟩ := h
  exact ⟨h1.narrow hAB, h2.narrow hAB, h3, h4, h5.narrow hAB, h6.narrow hAB, h7, h8⟩
theorem ST.blind {G : GG} {A : Nat → Prop} {ad : AD} {U : State} {a : Array Value} {g : JFrame} {mk : MethodId} (h : ST G A ad U U.heap) : ST G A ad (U.calling g mk a) (U.calling g mk a).heap := by
  obtain ⟨h1, h2, h3, h4, h5, h6, h7, h8⟩ := h
  have hal : U.vm.Alike (U.calling g mk a).vm := Vm.Alike.refl U.vm
  exact ⟨vx_Zq.moved hal h1, vx_Zq.moved hal h2, fun q hq => (h3 q hq).imp fun sa hs => vk_R.same (u := U) (U := U.calling g mk a) rfl hs, fun w hw => va_tabs (nest_tab w hw) (u := U) (U := U.calling g mk a) rfl (h4 w hw), va_Z.moved hal h5, va_T.moved hal h6, va_Mi.moved hal h7, va_AO.moved hal h8⟩
def XB (G : GG) (A : Nat → Prop) (ad : AD) (p : Program) (l : Launch) (s : State) (m : MethodId) (args : Array Value) (meth : Method) (c : Code) (cc : ByteArray) (nL : Nat) (own : String) (rt : Option FieldType) : Prop :=
  MB G p s m args meth c cc nL own rt ∧ (∀ x ∈ c.exceptionTable.toList, False) ∧ ST G A ad s s.heap ∧ (∀ q : Nat, s.heap.size ≤ q → A q) ∧ l.stackTraces = false
/-! outcomes: thrown (by its number) or returned -/
def exn : Nat → String := fun k => match k with
  | 0 => "java/lang/IllegalArgumentException" | 1 => "java/lang/UnsupportedOperationException" | 2 => "java/lang/IllegalStateException" | 3 => "java/lang/IndexOutOfBoundsException" | _ => "java/util/NoSuchElementException"
def ovw {α : Type} (f : α → Option Value) : Nat ⊕ α → Nat ⊕ Option Value := fun o => match o with
  | .inl k => .inl k
  | .inr x => .inr (f x)
def bdx {α β γ : Type} (x : Option ((Nat ⊕ α) × β)) (k : α → β → Option ((Nat ⊕ γ) × β)) : Option ((Nat ⊕ γ) × β) := match x with
  | none => none
  | some (.inl e, t) => some (.inl e, t)
  | some (.inr r, t) => k r t
theorem bdx_e {α β γ : Type} {x : Option ((Nat ⊕ α) × β)} {k : α → β → Option ((Nat ⊕ γ) × β)} {o : (Nat ⊕ γ) × β} (h : bdx x k = some o) : (∃ e t, x = some (.inl e, t) ∧ (some (.inl e, t) : Option ((Nat ⊕ γ) × β)) = some o) ∨ ∃ r t, x = some (.inr r, t) ∧ k r t = some o := by
  match x, h with
  | some (.inl e, t), h => exact Or.inl ⟨e, t, rfl, h⟩
  | some (.inr r, t), h => exact Or.inr ⟨r, t, rfl, h⟩
def PX (G : GG) (A : Nat → Prop) (ad : AD) (st : XS) (av : List Value) : Array Value → State → Prop := va_Pc av (fun U => VK G U ∧ ST G A ad U U.heap ∧ XW G A ad st U.heap ∧ ∀ q : Nat, U.heap.size ≤ q → A q)
def QX (G : GG) (A : Nat → Prop) (ad : AD) (v : Option Value) (st : XS) : Array Value → State → Outcome → State → Prop := fun _ s0 oc t => oc = .returned v ∧ XW G A ad st t.heap ∧ va_F A s0 t
def QXr (G : GG) (A : Nat → Prop) (ad : AD) (o : Nat ⊕ Option Value) (st : XS) : Array Value → State → Outcome → State → Prop := fun _ s0 oc t => (∃ v, o = .inr v ∧ oc = .returned v) ∧ XW G A ad st t.heap ∧ va_F A s0 t
def QXx (G : GG) (A : Nat → Prop) (ad : AD) (o : Nat ⊕ Option Value) (st : XS) : String → State → State → Prop := fun E s0 t => (∃ k, o = .inl k ∧ E = exn k) ∧ XW G A ad st t.heap ∧ va_F A s0 t
theorem px_blind {G : GG} {A : Nat → Prop} {ad : AD} {st : XS} {av : List Value} : FrameBlind (PX G A ad st av) := by
  intro a U g mk q
  obtain ⟨q0, q1, q2, q3, q4⟩ := q
  exact ⟨q0, VK.moved (u := U) (U := U.calling g mk a) (Vm.Alike.refl U.vm) q1, ST.blind q2, q3, q4⟩
