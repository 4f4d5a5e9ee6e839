/-! The law's entry. -/
section START
variable {s : State} {b : Nat}
theorem st_flat {w : Cond} (hgv : (Jvm.Cond.and given_1 narrow_1).before #[Value.ref b] s = true) (hw : w ∈ flatC (Jvm.Cond.and given_1 narrow_1)) : w.before #[Value.ref b] s = true := flat_of_before _ hgv _ hw
theorem st_nc (hgv : (Jvm.Cond.and given_1 narrow_1).before #[Value.ref b] s = true) : NC s := by
  intro i j hi hj hij
  rcases (show i = 0 ∨ i = 1 ∨ i = 2 ∨ i = 3 ∨ i = 4 by omega) with rfl | rfl | rfl | rfl | rfl <;> rcases (show j = 0 ∨ j = 1 ∨ j = 2 ∨ j = 3 ∨ j = 4 by omega) with rfl | rfl | rfl | rfl | rfl <;> first | exact absurd rfl hij | exact va_Nc.of (st_flat hgv (by decide +kernel))
theorem st_arr {ty : FieldType} (h : (Cond.arrayClass ty).before #[Value.ref b] s = true) (ht : ∀ C, ty ≠ .object C) : ∃ cA, ArrOfT s cA ty ∧ va_RA s cA ty := by
  obtain ⟨c, k, comp, h1, h2, h3⟩ := Cond.arrayClass_spec h
  refine ⟨c, fun n z => ⟨fun k h => (by cases h), k, h2, comp, h3⟩, ?_⟩
  cases ty <;> first | exact h1 | exact absurd rfl (ht _)
theorem st_arrO {C : String} (h : (Cond.arrayOver (.object C)).before #[Value.ref b] s = true) : ∃ cA, ArrOfT s cA (.object C) ∧ va_RA s cA (.object C) := by
  obtain ⟨comp, c, k, h1, h2, h3, h4, h5⟩ := Cond.arrayOver_spec h
  exact ⟨c, fun n z => ⟨fun k h => (by cases h), k, h3, comp, h4⟩, k, comp, h3, h4, h1, h5⟩
theorem st_vk (hts : ∀ w ∈ lw_tbl, w.before #[Value.ref b] s = true) : ∃ G : GG, VK G s := by
  have hT : ∀ w ∈ TG, w.before #[Value.ref b] s = true := fun w hw => hts w (tg_tbl hw)
  obtain ⟨c0, i0, h0⟩ := u_known (C := RJx4a65c) (T := TJx4a65c) (N := 3) hT inJx4a65c (hT _ wo_RJx4a65c)
  obtain ⟨c1, i1, h1⟩ := u_known (C := RX0) (T := TX0) (N := 4) hT inX0 (hT _ wo_RX0)
  obtain ⟨c2, i2, h2⟩ := u_known (C := RX1) (T := TX1) (N := 3) hT inX1 (hT _ wo_RX1)
  obtain ⟨c3, i3, h3⟩ := u_known (C := RX2) (T := TX2) (N := 4) hT inX2 (hT _ wo_RX2)
  obtain ⟨c4, i4, h4⟩ := u_known (C := RX3) (T := TX3) (N := 4) hT inX3 (hT _ wo_RX3)
  obtain ⟨c5, i5, h5⟩ := u_known (C := RX4) (T := TX4) (N := 12) hT inX4 (hT _ wo_RX4)
  obtain ⟨c6, i6, h6⟩ := u_known (C := RX5) (T := TX5) (N := 6) hT inX5 (hT _ wo_RX5)
  obtain ⟨c7, i7, h7⟩ := u_known (C := RX6) (T := TX6) (N := 30) hT inX6 (hT _ wo_RX6)
  obtain ⟨a0, b0⟩ := st_arr (hT _ wa_int) (fun C h => by cases h)
  obtain ⟨a1, b1⟩ := st_arr (hT _ wa_char) (fun C h => by cases h)
  obtain ⟨a2, b2⟩ := st_arr (hT _ wa_boolean) (fun C h => by cases h)
  obtain ⟨a3, b3⟩ := st_arr (hT _ wa_long) (fun C h => by cases h)
  obtain ⟨a4, b4⟩ := st_arr (hT _ wa_double) (fun C h => by cases h)
  obtain ⟨a5, b5⟩ := st_arrO (C := "java/lang/Object") (hts _ (by decide +kernel))
  refine ⟨⟨(fun k => match k with | 0 => c0 | 1 => c1 | 2 => c2 | 3 => c3 | 4 => c4 | 5 => c5 | 6 => c6 | _ => c7, fun k => match k with | 0 => i0 | 1 => i1 | 2 => i2 | 3 => i3 | 4 => i4 | 5 => i5 | 6 => i6 | _ => i7), fun k => match k with | 0 => a0 | 1 => a1 | 2 => a2 | 3 => a3 | 4 => a4 | _ => a5⟩, fun k q hq => ?_, fun k q hq => ?_⟩
  · match k, hq with
    | 0, hq => cases hq; exact h0
    | 1, hq => cases hq; exact h1
    | 2, hq => cases hq; exact h2
    | 3, hq => cases hq; exact h3
    | 4, hq => cases hq; exact h4
    | 5, hq => cases hq; exact h5
    | 6, hq => cases hq; exact h6
    | 7, hq => cases hq; exact h7
    | k + 8, hq => simp at hq
  · match k, hq with
    | 0, hq => cases hq; exact b0
    | 1, hq => cases hq; exact b1
    | 2, hq => cases hq; exact b2
    | 3, hq => cases hq; exact b3
    | 4, hq => cases hq; exact b4
    | 5, hq => cases hq; exact b5
    | k + 6, hq => simp [tysG] at hq
theorem st_strs (hts : ∀ w ∈ lw_tbl, w.before #[Value.ref b] s = true) {cur : ClassId} (hc : s.vm.findClass RX5 = some cur) : ∀ q ∈ strs, ∃ sa, vk_R RX5 q.1 q.2 sa s := by
  have h0 : ∀ q ∈ strs, Cond.stringRef RX5 q.1 q.2 ∈ lw_tbl := by decide +kernel
  intro q hq
  have h1 := hts _ (h0 q hq)
  obtain ⟨k, cf, i, a, -, -, -, -, -, hev⟩ := Cond.stringRef_spec hc h1
  exact ⟨a, (h1 : _), hev⟩
theorem st_st (G : GG) (hts : ∀ w ∈ lw_tbl, w.before #[Value.ref b] s = true) (hgv : (Jvm.Cond.and given_1 narrow_1).before #[Value.ref b] s = true) (hK : VK G s) : ∃ e0 mi : Nat, ∀ ad : AD, ad 15 0 = e0 → ad 16 0 = mi → ST G (fun q : Nat => s.heap.size ≤ q) ad s s.heap := by
  have hA : ∀ a : Nat, a < s.heap.size → ¬ (fun q : Nat => s.heap.size ≤ q) a := fun a h => Nat.not_le.mpr h
  obtain ⟨mi, hmi⟩ := va_Mi.of (C := "[Ljava/lang/Object;") (st_flat hgv (by decide +kernel))
  have hlen : (Term.length (Term.static "java/util/ArrayList" "DEFAULTCAPACITY_EMPTY_ELEMENTDATA" "[Ljava/lang/Object;")).eval #[Value.ref b] s none [] s = some (.int (Int32.ofNat 0)) := va_eqt (st_flat hgv (by decide +kernel))
  obtain ⟨e0, he, hT⟩ := va_Tof (ty := .object "java/lang/Object") (N := 0) (f := fun _ => .null) (A := fun q : Nat => s.heap.size ≤ q) (by decide) (st_flat hgv (by decide +kernel)) hlen (fun j hj => absurd hj (Nat.not_lt_zero _)) hA
  have hZ := va_Zref (A := fun q : Nat => s.heap.size ≤ q) (hts (Cond.laysStatic "java/util/ArrayList" "DEFAULTCAPACITY_EMPTY_ELEMENTDATA" "[Ljava/lang/Object;") (by decide +kernel)) (hts (Cond.initialized "java/util/ArrayList") (by decide +kernel)) he hA
  have hS1 := vx_Zqof (C := Bundle.tN) (n := "UNASSIGNED_STACK") (d := Bundle.steD) (A := fun q : Nat => s.heap.size ≤ q) (hts _ (by decide +kernel)) (hts _ (by decide +kernel)) (st_flat hgv (by decide +kernel)) hA
  have hS2 := vx_Zqof (C := Bundle.tN) (n := "SUPPRESSED_SENTINEL") (d := Bundle.listD) (A := fun q : Nat => s.heap.size ≤ q) (hts _ (by decide +kernel)) (hts _ (by decide +kernel)) (st_flat hgv (by decide +kernel)) hA
  have hfc : s.vm.findClass RX5 = some (G.1.1 6) := (hK.1 6 _ rfl).2.1
  refine ⟨e0, mi, fun ad h1 h2 => ?_⟩
  refine ⟨hS1, hS2, st_strs hts hfc, fun w hw => va_Nw.of (nest_tab w hw) (hts w (nest_tbl w hw)), ?_, ?_, ?_, va_AO.of (hts _ (by decide +kernel))⟩
  · rw [h1]; exact hZ
  · rw [h1]; exact hT
  · rw [h2]; exact hmi
end START
section XNA
variable {p : Program} {l : Launch} {e : Env} {R : Room} {s : State} {m : MethodId} {args : Array Value} {below : List Frame} {meth : Method} {c : Code} {H : Heap} {locs : List Loc} {cells slots : Nat} {Q : State → Prop}
variable {cc : ByteArray} {nL pc : Nat} {own : String} {rt : Option FieldType} {ls : Array Slot} {rest : List Value} {G : GG}
/-- a new row, by itself -/
theorem xn_newa (B : MB G p s m args meth c cc nL own rt) (k : Nat) (hk5 : k < 5) {atype : ArrayType} {ty : FieldType} (hty : newarray.typeOf atype = ty) (hk : (tysG G.2)[k]? = some (G.2 k, ty)) (harr : Cond.arrayClass ty ∈ TG) {n : Int32} {N : Nat} (hn : ¬ n < 0) (hN : n.toNatClampNeg = N) (hbytes : N * componentBytes ty ≤ 536870912) (hcells : cells + 1 ≤ R.cells) (hslots : slots + N ≤ R.slots) (hdg : decode cc pc = .ok (.newarray atype, 2))
    (kk : ∀ (H1 : Heap), H1[H.size]? = some (arrV (G.2 k) N (fun _ => defaultValue ty)) → H1.size = H.size + 1 → (∀ x : Nat, x < H.size → H1[x]? = H[x]?) → W p l e R s m args below meth c H1 locs (cells + 1) (slots + N) Q (F0 m (pc + 2) ls (.ref H.size :: rest))) : W p l e R s m args below meth c H locs cells slots Q (F0 m pc ls (.int n :: rest)) := by
  obtain ⟨hx, hb, -, -, hown, hT, -, hK⟩ := B
  subst hty
  refine va_newaK hx hb (hT _ harr) rfl hdg rfl hn hN hbytes hcells hslots rfl fun H1 cA e1 z1 o1 hAr hNm => ?_
  have hcA : cA = G.2 k := by
    have h1 := (hK.2 k _ hk).2
    have hk' : k = 0 ∨ k = 1 ∨ k = 2 ∨ k = 3 ∨ k = 4 := by omega
    rcases hk' with rfl | rfl | rfl | rfl | rfl
    all_goals
      have e9 := Option.some.inj hk
      have e8 := congrArg Prod.snd e9
      dsimp only at e8
      rw [← e8] at hNm
      exact Option.some.inj (hNm.symm.trans (by rw [← e8] at h1; exact h1))
  subst hcA
  exact kk H1 e1 z1 o1
end XNA
theorem XW.lt {G : GG} {A : Nat → Prop} {ad : AD} {st : XS} {H : Heap} {n : Nat} (h : XW G A ad st H) (hn : H.size ≤ n) : XW G (fun q => A q ∧ q < n) ad st H := by
  obtain ⟨gh, hW, h2⟩ := h
  exact ⟨gh, ⟨fun i hi => ⟨(hW.1 i hi).1, (hW.1 i hi).2, Nat.lt_of_lt_of_le (hW.1 i hi).1.lt hn⟩, hW.2⟩, h2⟩
theorem XW.reg {G : GG} {A B : Nat → Prop} {ad : AD} {st : XS} {H : Heap} (h : XW G A ad st H) (hab : ∀ q, A q → B q) : XW G B ad st H := by
  obtain ⟨gh, hW, h2⟩ := h
  exact ⟨gh, ⟨fun i hi => ⟨(hW.1 i hi).1, hab _ (hW.1 i hi).2⟩, hW.2⟩, h2⟩
theorem MW.lt {G : GG} {A : Nat → Prop} {am : Nat → Nat} {ms : MS} {H : Heap} (h : MW G A am ms H) : MW G (fun q => A q ∧ q < H.size) am ms H :=
  ⟨fun i hi => ⟨(h.1 i hi).1, (h.1 i hi).2, (h.1 i hi).1.lt⟩, h.2⟩
theorem li_one {A : Nat → Prop} {x : Nat × va_E} (h : A x.1) : va_D A [x] := by
  refine ⟨fun i j a b hi hj _ => ?_, fun k y hy => ?_⟩
  · have h1 := (List.getElem?_eq_some_iff.mp hi).1
    have h2 := (List.getElem?_eq_some_iff.mp hj).1
    simp at h1 h2
    omega
  · have h1 : k < 1 := (List.getElem?_eq_some_iff.mp hy).1
    rw [show k = 0 by omega] at hy
    cases hy
    exact h
set_option maxHeartbeats 4000000 in
set_option maxRecDepth 100000 in
/-- from the entry, for every script, the law comes to its end with true -/
theorem whole_start {p : Program} {e : Env} {s : State} {m : MethodId} {below : List Frame} {meth : Method} {c : Code} (l : Launch) (hflags : l.flags = flags0) {b L : Nat} {xs : Nat → Int32} (hL : L ≤ 2560) (C0 : lw_At p s m meth c b L xs) : W p l e room_1 s m #[Value.ref b] below meth c s.heap [] 0 0 (lw_Z below #[Value.ref b] s) (entryFrame m ([Value.ref b] : List Value).toArray 9) := by
  obtain ⟨hx, hb, hr, hml, hown, hts, hX, hbl, hlocks, hgv⟩ := id C0
  have hll : l.stackTraces = false := by unfold Launch.stackTraces; rw [hflags]; decide +kernel
  have hT : ∀ w ∈ TG, w.before #[Value.ref b] s = true := fun w hw => hts w (tg_tbl hw)
  obtain ⟨G, hK⟩ := st_vk hts
  obtain ⟨e0, mi, hSTf⟩ := st_st G hts hgv hK
  have hA : ∀ q : Nat, s.heap.size ≤ q → (fun q : Nat => s.heap.size ≤ q) q := fun _ h => h
  have B : MB G p s m #[Value.ref b] meth c code 9 RL ret := ⟨hx, hb, hr, hml, hown, hT, hlocks, hK⟩
  have hS : va_S (fun q : Nat => s.heap.size ≤ q) s.heap s.heap [] := va_S.rf
  have hl := lv_entry ([.ref b]) (n := 9) (Nat.le_of_ble_eq_true rfl)
  rw [lg_entry_eq]
  generalize (lg_sl ([.ref b]) ++ List.replicate (9 - (lg_sl ([.ref b])).length) Slot.unset).toArray = ls at hl ⊢
  have hl : lv_has ls 9 [(0, .ref b)] := hl
  have r1 : room_1.cells = 601024 := rfl
  have r2 : room_1.slots = 7293034 := rfl
  refine xn_new B 6 (C := RX5) (T := TX5) (N := 6) rfl inX5 (ty := tyX5) tyX5_ok wk_RL_8 wo_RX5 wn_RX5 [.null, .null, .null, .null, .int 0, .int 0] (fun j hj => by rcases (show j = 0 ∨ j = 1 ∨ j = 2 ∨ j = 3 ∨ j = 4 ∨ j = 5 by omega) with rfl | rfl | rfl | rfl | rfl | rfl <;> rfl) (Nat.le_of_ble_eq_true rfl) (Nat.le_of_ble_eq_true rfl) dL_law_0 (fun H hq z0 o0 => ?_)
  have hS : va_S (fun q : Nat => s.heap.size ≤ q) s.heap H [] := ⟨by omega, fun x h1 _ => o0 x h1, fun x hx => by cases hx⟩
  refine lv_dup hx hb dL_law_3 rfl ?_
  have hST0 : ST G (fun q : Nat => s.heap.size ≤ q) (ad00 e0 mi 0 (fun _ => 0)) s s.heap := hSTf _ rfl rfl
  refine li_call (ro := []) (wr := []) (wc := [(s.heap.size, .inr (6, [.null, .null, .null, .null, .int 0, .int 0]))]) ⟨B, hST0, hA⟩ (va_P1 hq) (li_one (Nat.le_refl s.heap.size)) hS (fun x hx => by cases hx) [] (n := 0) c_I_X5 wm_RL_134 wi_yX5_init wn_RX5 wc_yX5_init rfl rfl rfl (by decide +kernel) ⟨Nat.le_of_ble_eq_true rfl, Nat.le_of_ble_eq_true rfl⟩ ⟨Nat.le_of_ble_eq_true rfl, Nat.le_of_ble_eq_true rfl⟩ rfl hl.1 (Nat.le_of_ble_eq_true rfl) rfl dL_law_4 (fun qs H2 locs2 hP2 hD2 hS2 z2 o2 => ?_)
  have hX1 : XW G (fun q : Nat => s.heap.size ≤ q) (ad00 e0 mi s.heap.size qs) st00 H2 := xw_first hP2 hD2
  refine lv_astore_n (lv' := [(1, .ref s.heap.size), (0, .ref b)]) hx hb dL_law_7 rfl hl (by decide) rfl (fun ls hl => ?_)
  refine xn_new B 7 (C := RX6) (T := TX6) (N := 30) rfl inX6 (ty := tyX6) tyX6_ok wk_RL_135 wo_RX6 wn_RX6 [.int 0, .int 0, .int 0, .null, .null, .null, .null, .null, .null, .null, .null, .null, .null, .null, .null, .int 0, .null, .null, .null, .null, .null, .null, .int 0, .int 0, .null, .null, .null, .null, .null, .null] (fun j hj => ?_) (Nat.le_of_ble_eq_true rfl) (Nat.le_of_ble_eq_true rfl) dL_law_8 (fun H3 hq3 z3 o3 => ?_)
  · rcases (show j = 0 ∨ j = 1 ∨ j = 2 ∨ j = 3 ∨ j = 4 ∨ j = 5 ∨ j = 6 ∨ j = 7 ∨ j = 8 ∨ j = 9 ∨ j = 10 ∨ j = 11 ∨ j = 12 ∨ j = 13 ∨ j = 14 ∨ j = 15 ∨ j = 16 ∨ j = 17 ∨ j = 18 ∨ j = 19 ∨ j = 20 ∨ j = 21 ∨ j = 22 ∨ j = 23 ∨ j = 24 ∨ j = 25 ∨ j = 26 ∨ j = 27 ∨ j = 28 ∨ j = 29 by omega) with rfl | rfl | rfl | rfl | rfl | rfl | rfl | rfl | rfl | rfl | rfl | rfl | rfl | rfl | rfl | rfl | rfl | rfl | rfl | rfl | rfl | rfl | rfl | rfl | rfl | rfl | rfl | rfl | rfl | rfl <;> rfl
  have hS3 : va_S (fun q : Nat => s.heap.size ≤ q) s.heap H3 locs2 := ⟨by have := hS2.1; omega, fun x h1 h2 => (o3 x (Nat.lt_of_lt_of_le h1 hS2.1)).trans (hS2.2.1 x h1 h2), hS2.2.2⟩
  have hX3 := hX1.kept2 o3
  refine lv_dup hx hb dL_law_11 rfl ?_
  refine li_call (ro := []) (wr := []) (wc := [(H2.size, .inr (7, [.int 0, .int 0, .int 0, .null, .null, .null, .null, .null, .null, .null, .null, .null, .null, .null, .null, .int 0, .null, .null, .null, .null, .null, .null, .int 0, .int 0, .null, .null, .null, .null, .null, .null]))]) ⟨B, hST0, hA⟩ (va_P1 hq3) (li_one (show s.heap.size ≤ H2.size from hS2.1)) hS3 (fun x hx => by cases hx) [] (n := 0) c_I_X6 wm_RL_137 wi_yX6_init wn_RX6 wc_yX6_init rfl rfl rfl (by decide +kernel) ⟨Nat.le_of_ble_eq_true rfl, Nat.le_of_ble_eq_true rfl⟩ ⟨Nat.le_of_ble_eq_true rfl, Nat.le_of_ble_eq_true rfl⟩ rfl hl.1 (Nat.le_of_ble_eq_true rfl) rfl dL_law_12 (fun qm H4 locs4 hP4 hD4 hS4 z4 o4 => ?_)
  have h32 : H2.size ≤ H3.size := by omega
  have hM4 : MW G (fun q => H2.size ≤ q ∧ q < H4.size) (am00 H2.size qm) ms00 H4 := by
    have h := (mw_first hP4 z4.2).lt
    refine ⟨fun i hi => ⟨(h.1 i hi).1, ?_, (h.1 i hi).2.2⟩, h.2⟩
    rcases (h.1 i hi).2.1 with ⟨k, e, hk⟩ | hk
    · have h1 : k < 1 := (List.getElem?_eq_some_iff.mp hk).1
      rw [show k = 0 by omega] at hk
      have h2 : H2.size = am00 H2.size qm i := by injection hk with hk; injection hk
      omega
    · have h3 : H3.size ≤ am00 H2.size qm i := hk
      omega
  have hX4 : XW G (fun q => s.heap.size ≤ q ∧ q < H2.size) (ad00 e0 mi s.heap.size qs) st00 H4 := by
    refine (hX1.lt (Nat.le_refl _)).kept3 fun q hl hq => ?_
    rw [o4 q (by omega) (fun h => ?_), o3 q hl]
    rcases h with ⟨k, e, hk⟩ | hk
    · have h1 : k < 1 := (List.getElem?_eq_some_iff.mp hk).1
      rw [show k = 0 by omega] at hk
      have h2 : H2.size = q := by injection hk with hk; injection hk
      omega
    · have h3 : H3.size ≤ q := hk
      omega
  refine lv_astore_n (lv' := [(2, .ref H2.size), (1, .ref s.heap.size), (0, .ref b)]) hx hb dL_law_15 rfl hl (by decide) rfl (fun ls hl => ?_)
  refine lv_iconst (v := 1) hx hb dL_law_16 (by decide) ?_
  refine xn_newa B 3 (by decide) (ty := .long) (atype := .long) rfl rfl wa_long (N := 1) (by decide) (by decide) (Nat.le_of_ble_eq_true rfl) (Nat.le_of_ble_eq_true rfl) (Nat.le_of_ble_eq_true rfl) dL_law_17 (fun H5 hq5 z5 o5 => ?_)
  refine lv_astore_n (lv' := [(3, .ref H4.size), (2, .ref H2.size), (1, .ref s.heap.size), (0, .ref b)]) hx hb dL_law_19 rfl hl (by decide) rfl (fun ls hl => ?_)
  refine lv_iconst (v := 1) hx hb dL_law_20 (by decide) ?_
  refine xn_newa B 4 (by decide) (ty := .double) (atype := .double) rfl rfl wa_double (N := 1) (by decide) (by decide) (Nat.le_of_ble_eq_true rfl) (Nat.le_of_ble_eq_true rfl) (Nat.le_of_ble_eq_true rfl) dL_law_21 (fun H6 hq6 z6 o6 => ?_)
  refine lv_astore (lv' := [(4, .ref H5.size), (3, .ref H4.size), (2, .ref H2.size), (1, .ref s.heap.size), (0, .ref b)]) hx hb dL_law_23 hl (by decide) rfl (fun ls hl => ?_)
  refine lv_iconst (v := 0) hx hb dL_law_25 (by decide) ?_
  refine lv_istore (lv' := [(5, .int 0), (4, .ref H5.size), (3, .ref H4.size), (2, .ref H2.size), (1, .ref s.heap.size), (0, .ref b)]) hx hb dL_law_26 hl (by decide) rfl (fun ls hl => ?_)
  have h20 := hS2.1
  have h43 : H3.size ≤ H4.size := z4.1
  have hS6 : va_S (fun q : Nat => s.heap.size ≤ q) s.heap H6 locs4 := ⟨by have := hS4.1; omega, fun x h1 h2 => (o6 x (by have := hS4.1; omega)).trans ((o5 x (Nat.lt_of_lt_of_le h1 hS4.1)).trans (hS4.2.1 x h1 h2)), hS4.2.2⟩
  have k6 : ∀ x : Nat, x < H4.size → H6[x]? = H4[x]? := fun x hx => (o6 x (by omega)).trans (o5 x hx)
  have hLR : LRG (fun q : Nat => s.heap.size ≤ q) (fun q => (s.heap.size ≤ q ∧ q < H2.size) ∨ H6.size ≤ q) (fun q => H2.size ≤ q ∧ q < H4.size) H4.size H5.size := by
    refine ⟨fun q hq => ?_, fun q hq => ?_, ?_, ?_, ?_⟩
    · show s.heap.size ≤ q ∧ ¬ (H2.size ≤ q ∧ q < H4.size) ∧ q ≠ H4.size ∧ q ≠ H5.size
      rcases hq with h | h
      · refine ⟨h.1, fun h' => ?_, ?_, ?_⟩ <;> omega
      · refine ⟨by omega, fun h' => ?_, ?_, ?_⟩ <;> omega
    · show s.heap.size ≤ q ∧ q ≠ H4.size ∧ q ≠ H5.size
      have := hq.1
      have := hq.2
      refine ⟨?_, ?_, ?_⟩ <;> omega
    · show s.heap.size ≤ H4.size
      omega
    · show s.heap.size ≤ H5.size
      omega
    · omega
  have hLW : LW G (fun q : Nat => s.heap.size ≤ q) (fun q => (s.heap.size ≤ q ∧ q < H2.size) ∨ H6.size ≤ q) (fun q => H2.size ≤ q ∧ q < H4.size) (am00 H2.size qm) H4.size H5.size s (ad00 e0 mi s.heap.size qs) st00 ms00 (fun _ => 0) (fun _ => 0) H6 := by
    refine ⟨hSTf _ rfl rfl, ?_, hM4.kept2 (fun q hl _ => k6 q hl), ?_, ?_, fun q hq => Or.inr hq⟩
    · exact (hX4.kept3 (fun q hl _ => k6 q hl)).reg fun q hq => Or.inl hq
    · show H6[H4.size]? = some (vp_cell _ _)
      rw [o6 _ (by omega), hq5, vp_cell_l]
      rfl
    · show H6[H5.size]? = some (vp_cell _ _)
      rw [hq6, vp_cell_d]
      rfl
  refine W.widen (k := 100) (n := 3000) (Nat.le_of_ble_eq_true rfl) (Nat.le_of_ble_eq_true rfl) ?_
  exact law_loop (o1 := H4.size) (o2 := H5.size) l hll ⟨B, st_nc hgv, hLR, hA⟩ hX hbl hL (L + 1) 0 (by omega) (by omega) _ _ _ _ _ _ _ _ _ _ rfl inv00 hLW hS6 (by rw [show nI (5 * 0) = 0 from nI_0]; exact lv_sub hl [5, 4, 3, 2, 1, 0] rfl) rfl rfl
