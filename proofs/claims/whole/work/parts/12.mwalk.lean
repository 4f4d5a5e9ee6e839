set_option maxHeartbeats 4000000 in
set_option maxRecDepth 100000 in
theorem w_X6_noEdge_60 {p : Program} {l : Launch} {e : Env} {s : State} {m : MethodId} {args : Array Value} {below : List Frame} {meth : Method} {c : Code} {G : GG} {A : Nat → Prop} {ad : Nat → Nat} (B : MB G p s m args meth c cX6_noEdge 4 RX6 (some .int)) {r : Int32} {st' : MS} : ∀ (st : MS) (y0 : Int32) (H : Heap) (locs : List Loc) (ls : Array Slot), f_X6_noEdge_60 st y0 = some (r, st') → MW G A ad st H → va_S A s.heap H locs → lv_has ls 4 [] → W p l e ({ frames := 2, cells := 0, slots := 0, locals := 43 } : Room) s m args below meth c H locs 0 0 (MQ below (QM G A ad (some (.int r)) st') args s 0 0 A) (F0 m 60 ls [.int y0]) := by
  have ⟨hx, hb, hr, hml, hown, hT, hlocks, hK⟩ := B
  intro st y0 H locs ls h hM hS hl
  rw [f_X6_noEdge_60] at h
  cases h
  exact mw_iret B hM hS dX6_noEdge_60
set_option maxHeartbeats 4000000 in
set_option maxRecDepth 100000 in
theorem w_X6_noEdge_55 {p : Program} {l : Launch} {e : Env} {s : State} {m : MethodId} {args : Array Value} {below : List Frame} {meth : Method} {c : Code} {G : GG} {A : Nat → Prop} {ad : Nat → Nat} (B : MB G p s m args meth c cX6_noEdge 4 RX6 (some .int)) {r : Int32} {st' : MS} : ∀ (st : MS) (H : Heap) (locs : List Loc) (ls : Array Slot), f_X6_noEdge_55 st = some (r, st') → MW G A ad st H → va_S A s.heap H locs → lv_has ls 4 [] → W p l e ({ frames := 2, cells := 0, slots := 0, locals := 43 } : Room) s m args below meth c H locs 0 0 (MQ below (QM G A ad (some (.int r)) st') args s 0 0 A) (F0 m 55 ls []) := by
  have ⟨hx, hb, hr, hml, hown, hT, hlocks, hK⟩ := B
  intro st  H locs ls h hM hS hl
  rw [f_X6_noEdge_55] at h
  refine lv_iconst (v := 3) hx hb dX6_noEdge_55 (by decide) ?_
  refine lv_goto (tgt := 60) hx hb dX6_noEdge_56 (by decide) ?_
  exact w_X6_noEdge_60 B _ _ _ _ _ h hM hS (lv_sub hl [] rfl)
set_option maxHeartbeats 4000000 in
set_option maxRecDepth 100000 in
theorem w_X6_noEdge_28 {p : Program} {l : Launch} {e : Env} {s : State} {m : MethodId} {args : Array Value} {below : List Frame} {meth : Method} {c : Code} {G : GG} {A : Nat → Prop} {ad : Nat → Nat} (B : MB G p s m args meth c cX6_noEdge 4 RX6 (some .int)) {r : Int32} {st' : MS} : ∀ (st : MS) (H : Heap) (locs : List Loc) (ls : Array Slot), f_X6_noEdge_28 st = some (r, st') → MW G A ad st H → va_S A s.heap H locs → lv_has ls 4 [] → W p l e ({ frames := 2, cells := 0, slots := 0, locals := 43 } : Room) s m args below meth c H locs 0 0 (MQ below (QM G A ad (some (.int r)) st') args s 0 0 A) (F0 m 28 ls []) := by
  have ⟨hx, hb, hr, hml, hown, hT, hlocks, hK⟩ := B
  intro st  H locs ls h hM hS hl
  rw [f_X6_noEdge_28] at h
  refine lv_iconst (v := 2) hx hb dX6_noEdge_28 (by decide) ?_
  refine lv_goto (tgt := 60) hx hb dX6_noEdge_29 (by decide) ?_
  exact w_X6_noEdge_60 B _ _ _ _ _ h hM hS (lv_sub hl [] rfl)
set_option maxHeartbeats 4000000 in
set_option maxRecDepth 100000 in
theorem w_X6_noEdge {p : Program} {l : Launch} {e : Env} {s : State} {m : MethodId} {args : Array Value} {below : List Frame} {meth : Method} {c : Code} {G : GG} {A : Nat → Prop} {ad : Nat → Nat} (B : MB G p s m args meth c cX6_noEdge 4 RX6 (some .int)) {r : Int32} {st' : MS} : ∀ (st : MS) (x1 : Int32) (x2 : Int32) (x3 : Int32) (H : Heap) (locs : List Loc) (ls : Array Slot), f_X6_noEdge st x1 x2 x3 = some (r, st') → MW G A ad st H → va_S A s.heap H locs → lv_has ls 4 [(0, .ref (ad 0)), (1, .int x1), (2, .int x2), (3, .int x3)] → W p l e ({ frames := 2, cells := 0, slots := 0, locals := 43 } : Room) s m args below meth c H locs 0 0 (MQ below (QM G A ad (some (.int r)) st') args s 0 0 A) (F0 m 0 ls []) := by
  have ⟨hx, hb, hr, hml, hown, hT, hlocks, hK⟩ := B
  intro st x1 x2 x3 H locs ls h hM hS hl
  rw [f_X6_noEdge] at h
  refine lv_aload_n hx hb dX6_noEdge_0 rfl (lv_at hl 0 rfl) ?_
  refine lv_iload_n hx hb dX6_noEdge_1 rfl (lv_at hl 1 rfl) ?_
  obtain ⟨r1, t2, e3, h⟩ := bd_e h
  refine mw_callV B hM hS [.int x1] (n := 1) (v := (some (.int r1))) (c_X6_isShot e3) wm_RX6_118 wi_yX6_isShot ws_yX6_isShot wc_yX6_isShot rfl rfl (by decide +kernel) ⟨Nat.le_of_ble_eq_true rfl, Nat.le_of_ble_eq_true rfl⟩ ⟨Nat.le_refl 0, Nat.le_refl 0⟩ rfl hl.1 (Nat.le_of_ble_eq_true rfl) rfl dX6_noEdge_2 (fun H locs hM hS => ?_)
  refine lv_if_ne (tgt := 12) hx hb dX6_noEdge_5 (by decide) (fun c4 => ?_) (fun c4 => ?_)
  · have h := bi_f c4 h
    refine lv_iload_n hx hb dX6_noEdge_12 rfl (lv_at hl 2 rfl) ?_
    refine lv_iconst (v := 0) hx hb dX6_noEdge_13 (by decide) ?_
    refine lv_iconst (v := 3) hx hb dX6_noEdge_14 (by decide) ?_
    obtain ⟨r5, t6, e7, h⟩ := bd_e h
    refine mw_callS B hM hS [.int x2, .int 0, .int 3] (n := 3) (v := (some (.int r5))) (c_X6_in e7) wm_RX6_91 wt_yX6_in wc_yX6_in rfl rfl (by decide +kernel) ⟨Nat.le_of_ble_eq_true rfl, Nat.le_of_ble_eq_true rfl⟩ ⟨Nat.le_refl 0, Nat.le_refl 0⟩ rfl hl.1 (Nat.le_of_ble_eq_true rfl) rfl dX6_noEdge_15 (fun H locs hM hS => ?_)
    refine lv_if_eq (tgt := 28) hx hb dX6_noEdge_18 (by decide) (fun c8 => ?_) (fun c8 => ?_)
    · have h := bi_t c8 h
      exact w_X6_noEdge_28 B _ _ _ _ h hM hS (lv_sub hl [] rfl)
    · have h := bi_f c8 h
      refine lv_iload_n hx hb dX6_noEdge_21 rfl (lv_at hl 3 rfl) ?_
      obtain ⟨r9, t10, e11, h⟩ := bd_e h
      refine mw_callS B hM hS [.int x3] (n := 1) (v := (some (.int r9))) (c_X6_isEdge e11) wm_RX6_140 wt_yX6_isEdge wc_yX6_isEdge rfl rfl (by decide +kernel) ⟨Nat.le_of_ble_eq_true rfl, Nat.le_of_ble_eq_true rfl⟩ ⟨Nat.le_refl 0, Nat.le_refl 0⟩ rfl hl.1 (Nat.le_of_ble_eq_true rfl) rfl dX6_noEdge_22 (fun H locs hM hS => ?_)
      refine lv_if_ne (tgt := 32) hx hb dX6_noEdge_25 (by decide) (fun c12 => ?_) (fun c12 => ?_)
      · have h := bi_f c12 h
        refine lv_aload_n hx hb dX6_noEdge_32 rfl (lv_at hl 0 rfl) ?_
        refine lv_iload_n hx hb dX6_noEdge_33 rfl (lv_at hl 1 rfl) ?_
        obtain ⟨r13, t14, e15, h⟩ := bd_e h
        refine mw_callV B hM hS [.int x1] (n := 1) (v := (some (.int r13))) (c_X6_placeOf e15) wm_RX6_121 wi_yX6_placeOf ws_yX6_placeOf wc_yX6_placeOf rfl rfl (by decide +kernel) ⟨Nat.le_of_ble_eq_true rfl, Nat.le_of_ble_eq_true rfl⟩ ⟨Nat.le_refl 0, Nat.le_refl 0⟩ rfl hl.1 (Nat.le_of_ble_eq_true rfl) rfl dX6_noEdge_34 (fun H locs hM hS => ?_)
        refine lv_if_lt (tgt := 55) hx hb dX6_noEdge_37 (by decide) (fun c16 => ?_) (fun c16 => ?_)
        · have h := bi_t c16 h
          exact w_X6_noEdge_55 B _ _ _ _ h hM hS (lv_sub hl [] rfl)
        · have h := bi_f c16 h
          refine lv_aload_n hx hb dX6_noEdge_40 rfl (lv_at hl 0 rfl) ?_
          refine mw_get B hM 11 (by decide) wf_RX6_36 rfl (v := .ref (ad 11)) rfl dX6_noEdge_41 ?_
          refine lv_iconst (v := 4) hx hb dX6_noEdge_44 (by decide) ?_
          refine lv_iload_n hx hb dX6_noEdge_45 rfl (lv_at hl 1 rfl) ?_
          refine lv_imul hx hb dX6_noEdge_46 ?_
          refine lv_iload_n hx hb dX6_noEdge_47 rfl (lv_at hl 2 rfl) ?_
          refine lv_iadd hx hb dX6_noEdge_48 ?_
          obtain ⟨g17, h⟩ := gd_e h
          refine mw_cald B hM 11 (by decide) (by decide) rfl g17 dX6_noEdge_49 ?_
          refine lv_bipush (v := 45) hx hb dX6_noEdge_50 (by decide) ?_
          refine lv_icmp_ne (tgt := 59) hx hb dX6_noEdge_52 (by decide) (fun c18 => ?_) (fun c18 => ?_)
          · have h := bi_f c18 h
            refine lv_iconst (v := 0) hx hb dX6_noEdge_59 (by decide) ?_
            exact w_X6_noEdge_60 B _ _ _ _ _ h hM hS (lv_sub hl [] rfl)
          · have h := bi_t c18 h
            exact w_X6_noEdge_55 B _ _ _ _ h hM hS (lv_sub hl [] rfl)
      · have h := bi_t c12 h
        exact w_X6_noEdge_28 B _ _ _ _ h hM hS (lv_sub hl [] rfl)
  · have h := bi_t c4 h
    refine lv_iconst (v := 1) hx hb dX6_noEdge_8 (by decide) ?_
    refine lv_goto (tgt := 60) hx hb dX6_noEdge_9 (by decide) ?_
    exact w_X6_noEdge_60 B _ _ _ _ _ h hM hS (lv_sub hl [] rfl)
theorem c_X6_noEdge {l : Launch} {G : GG} {A : Nat → Prop} {ad : Nat → Nat} {st : MS} {x1 : Int32} {x2 : Int32} {x3 : Int32} {r : Int32} {st' : MS} (h : f_X6_noEdge st x1 x2 x3 = some (r, st')) : Met l yX6_noEdge (Cond.code yX6_noEdge cX6_noEdge 4 (some .int) :: TG) ({ frames := 2, cells := 0, slots := 0, locals := 43 } : Room) (PM G A ad st [.ref (ad 0), .int x1, .int x2, .int x3]) (QM G A ad (some (.int r)) st') 0 0 A :=
  mw_of (own := RX6) (by decide +kernel) rfl rfl rfl (Nat.le_of_ble_eq_true rfl) fun p e s m below meth c ls B hM hS hl => w_X6_noEdge B _ _ _ _ _ _ _ h hM hS hl
set_option maxHeartbeats 4000000 in
set_option maxRecDepth 100000 in
theorem w_X6_enters_42 {p : Program} {l : Launch} {e : Env} {s : State} {m : MethodId} {args : Array Value} {below : List Frame} {meth : Method} {c : Code} {G : GG} {A : Nat → Prop} {ad : Nat → Nat} (B : MB G p s m args meth c cX6_enters 5 RX6 (some .char)) {r : Int32} {st' : MS} : ∀ (st : MS) (x1 : Int32) (x2 : Int32) (x3 : Int32) (x4 : Int32) (y1 : Int32) (y2 : Int32) (H : Heap) (locs : List Loc) (ls : Array Slot), f_X6_enters_42 st x1 x2 x3 x4 y1 y2 = some (r, st') → MW G A ad st H → va_S A s.heap H locs → lv_has ls 5 [(0, .ref (ad 0)), (1, .int x1), (2, .int x2), (3, .int x3), (4, .int x4)] → W p l e ({ frames := 3, cells := 0, slots := 0, locals := 66 } : Room) s m args below meth c H locs 0 0 (MQ below (QM G A ad (some (.int r)) st') args s 0 0 A) (F0 m 42 ls [.int y2, .int y1, .ref (ad 0)]) := by
  have ⟨hx, hb, hr, hml, hown, hT, hlocks, hK⟩ := B
  intro st x1 x2 x3 x4 y1 y2 H locs ls h hM hS hl
  rw [f_X6_enters_42] at h
  obtain ⟨r1, t2, e3, h⟩ := bd_e h
  refine mw_callV B hM hS [.int y1, .int y2] (n := 2) (v := none) (c_X6_change e3) wm_RX6_129 wi_yX6_change ws_yX6_change wc_yX6_change rfl rfl (by decide +kernel) ⟨Nat.le_of_ble_eq_true rfl, Nat.le_of_ble_eq_true rfl⟩ ⟨Nat.le_refl 0, Nat.le_refl 0⟩ rfl hl.1 (Nat.le_of_ble_eq_true rfl) rfl dX6_enters_42 (fun H locs hM hS => ?_)
  refine lv_aload_n hx hb dX6_enters_45 rfl (lv_at hl 0 rfl) ?_
  refine mw_get B hM 13 (by decide) wf_RX6_42 rfl (v := .ref (ad 13)) rfl dX6_enters_46 ?_
  refine lv_iconst (v := 4) hx hb dX6_enters_49 (by decide) ?_
  refine lv_iload_n hx hb dX6_enters_50 rfl (lv_at hl 1 rfl) ?_
  refine lv_imul hx hb dX6_enters_51 ?_
  refine lv_iload_n hx hb dX6_enters_52 rfl (lv_at hl 2 rfl) ?_
  refine lv_iadd hx hb dX6_enters_53 ?_
  refine lv_iload_n hx hb dX6_enters_54 rfl (lv_at hl 3 rfl) ?_
  obtain ⟨g4, h⟩ := gd_e h
  refine mw_cast B hM hS 13 (by decide) (by decide) rfl g4 dX6_enters_55 (fun H locs hM hS => ?_)
  refine lv_iload hx hb dX6_enters_56 (lv_at hl 4 rfl) ?_
  obtain ⟨g5, h⟩ := gd_e h
  cases h
  exact mw_zret B hM hS g5 dX6_enters_58
set_option maxHeartbeats 4000000 in
set_option maxRecDepth 100000 in
theorem w_X6_enters {p : Program} {l : Launch} {e : Env} {s : State} {m : MethodId} {args : Array Value} {below : List Frame} {meth : Method} {c : Code} {G : GG} {A : Nat → Prop} {ad : Nat → Nat} (B : MB G p s m args meth c cX6_enters 5 RX6 (some .char)) {r : Int32} {st' : MS} : ∀ (st : MS) (x1 : Int32) (x2 : Int32) (x3 : Int32) (H : Heap) (locs : List Loc) (ls : Array Slot), f_X6_enters st x1 x2 x3 = some (r, st') → MW G A ad st H → va_S A s.heap H locs → lv_has ls 5 [(0, .ref (ad 0)), (1, .int x1), (2, .int x2), (3, .int x3)] → W p l e ({ frames := 3, cells := 0, slots := 0, locals := 66 } : Room) s m args below meth c H locs 0 0 (MQ below (QM G A ad (some (.int r)) st') args s 0 0 A) (F0 m 0 ls []) := by
  have ⟨hx, hb, hr, hml, hown, hT, hlocks, hK⟩ := B
  intro st x1 x2 x3 H locs ls h hM hS hl
  rw [f_X6_enters] at h
  refine lv_aload_n hx hb dX6_enters_0 rfl (lv_at hl 0 rfl) ?_
  refine lv_aload_n hx hb dX6_enters_1 rfl (lv_at hl 0 rfl) ?_
  refine lv_iload_n hx hb dX6_enters_2 rfl (lv_at hl 1 rfl) ?_
  refine lv_iload_n hx hb dX6_enters_3 rfl (lv_at hl 2 rfl) ?_
  refine lv_iload_n hx hb dX6_enters_4 rfl (lv_at hl 3 rfl) ?_
  obtain ⟨r1, t2, e3, h⟩ := bd_e h
  refine mw_callV B hM hS [.int x1, .int x2, .int x3] (n := 3) (v := (some (.int r1))) (c_X6_noEdge e3) wm_RX6_143 wi_yX6_noEdge ws_yX6_noEdge wc_yX6_noEdge rfl rfl (by decide +kernel) ⟨Nat.le_of_ble_eq_true rfl, Nat.le_of_ble_eq_true rfl⟩ ⟨Nat.le_refl 0, Nat.le_refl 0⟩ rfl hl.1 (Nat.le_of_ble_eq_true rfl) rfl dX6_enters_5 (fun H locs hM hS => ?_)
  obtain ⟨r4, t5, e6, h⟩ := bd_e h
  refine mw_callV B hM hS [.int r1] (n := 1) (v := (some (.int r4))) (c_X6_fails e6) wm_RX6_102 wi_yX6_fails ws_yX6_fails wc_yX6_fails rfl rfl (by decide +kernel) ⟨Nat.le_of_ble_eq_true rfl, Nat.le_of_ble_eq_true rfl⟩ ⟨Nat.le_refl 0, Nat.le_refl 0⟩ rfl hl.1 (Nat.le_of_ble_eq_true rfl) rfl dX6_enters_8 (fun H locs hM hS => ?_)
  refine lv_if_eq (tgt := 17) hx hb dX6_enters_11 (by decide) (fun c7 => ?_) (fun c7 => ?_)
  · have h := bi_t c7 h
    refine lv_aload_n hx hb dX6_enters_17 rfl (lv_at hl 0 rfl) ?_
    refine mw_get B hM 13 (by decide) wf_RX6_42 rfl (v := .ref (ad 13)) rfl dX6_enters_18 ?_
    refine lv_iconst (v := 4) hx hb dX6_enters_21 (by decide) ?_
    refine lv_iload_n hx hb dX6_enters_22 rfl (lv_at hl 1 rfl) ?_
    refine lv_imul hx hb dX6_enters_23 ?_
    refine lv_iload_n hx hb dX6_enters_24 rfl (lv_at hl 2 rfl) ?_
    refine lv_iadd hx hb dX6_enters_25 ?_
    obtain ⟨g8, h⟩ := gd_e h
    refine mw_cald B hM 13 (by decide) (by decide) rfl g8 dX6_enters_26 ?_
    refine lv_istore (lv' := [(4, .int (t5.2 13 ((4 * x1) + x2).toNatClampNeg)), (0, .ref (ad 0)), (1, .int x1), (2, .int x2), (3, .int x3)]) hx hb dX6_enters_27 hl (by decide) rfl (fun ls hl => ?_)
    refine lv_aload_n hx hb dX6_enters_29 rfl (lv_at hl 1 rfl) ?_
    refine lv_iload_n hx hb dX6_enters_30 rfl (lv_at hl 2 rfl) ?_
    refine lv_iload hx hb dX6_enters_31 (lv_at hl 0 rfl) ?_
    refine lv_iload_n hx hb dX6_enters_33 rfl (lv_at hl 4 rfl) ?_
    refine lv_icmp_eq (tgt := 41) hx hb dX6_enters_34 (by decide) (fun c9 => ?_) (fun c9 => ?_)
    · have h := bi_t c9 h
      refine lv_iconst (v := 0) hx hb dX6_enters_41 (by decide) ?_
      exact w_X6_enters_42 B _ _ _ _ _ _ _ _ _ _ h hM hS (lv_sub hl [1, 2, 3, 4, 0] rfl)
    · have h := bi_f c9 h
      refine lv_iconst (v := 1) hx hb dX6_enters_37 (by decide) ?_
      refine lv_goto (tgt := 42) hx hb dX6_enters_38 (by decide) ?_
      exact w_X6_enters_42 B _ _ _ _ _ _ _ _ _ _ h hM hS (lv_sub hl [1, 2, 3, 4, 0] rfl)
  · have h := bi_f c7 h
    refine lv_bipush (v := 32) hx hb dX6_enters_14 (by decide) ?_
    cases h
    exact mw_zret B hM hS (by rfl) dX6_enters_16
theorem c_X6_enters {l : Launch} {G : GG} {A : Nat → Prop} {ad : Nat → Nat} {st : MS} {x1 : Int32} {x2 : Int32} {x3 : Int32} {r : Int32} {st' : MS} (h : f_X6_enters st x1 x2 x3 = some (r, st')) : Met l yX6_enters (Cond.code yX6_enters cX6_enters 5 (some .char) :: TG) ({ frames := 3, cells := 0, slots := 0, locals := 66 } : Room) (PM G A ad st [.ref (ad 0), .int x1, .int x2, .int x3]) (QM G A ad (some (.int r)) st') 0 0 A :=
  mw_of (own := RX6) (by decide +kernel) rfl rfl rfl (Nat.le_of_ble_eq_true rfl) fun p e s m below meth c ls B hM hS hl => w_X6_enters B _ _ _ _ _ _ _ h hM hS hl
set_option maxHeartbeats 4000000 in
set_option maxRecDepth 100000 in
theorem w_X6_leaves_42 {p : Program} {l : Launch} {e : Env} {s : State} {m : MethodId} {args : Array Value} {below : List Frame} {meth : Method} {c : Code} {G : GG} {A : Nat → Prop} {ad : Nat → Nat} (B : MB G p s m args meth c cX6_leaves 5 RX6 (some .char)) {r : Int32} {st' : MS} : ∀ (st : MS) (x1 : Int32) (x2 : Int32) (x3 : Int32) (x4 : Int32) (y1 : Int32) (y2 : Int32) (H : Heap) (locs : List Loc) (ls : Array Slot), f_X6_leaves_42 st x1 x2 x3 x4 y1 y2 = some (r, st') → MW G A ad st H → va_S A s.heap H locs → lv_has ls 5 [(0, .ref (ad 0)), (1, .int x1), (2, .int x2), (3, .int x3), (4, .int x4)] → W p l e ({ frames := 3, cells := 0, slots := 0, locals := 66 } : Room) s m args below meth c H locs 0 0 (MQ below (QM G A ad (some (.int r)) st') args s 0 0 A) (F0 m 42 ls [.int y2, .int y1, .ref (ad 0)]) := by
  have ⟨hx, hb, hr, hml, hown, hT, hlocks, hK⟩ := B
  intro st x1 x2 x3 x4 y1 y2 H locs ls h hM hS hl
  rw [f_X6_leaves_42] at h
  obtain ⟨r1, t2, e3, h⟩ := bd_e h
  refine mw_callV B hM hS [.int y1, .int y2] (n := 2) (v := none) (c_X6_change e3) wm_RX6_129 wi_yX6_change ws_yX6_change wc_yX6_change rfl rfl (by decide +kernel) ⟨Nat.le_of_ble_eq_true rfl, Nat.le_of_ble_eq_true rfl⟩ ⟨Nat.le_refl 0, Nat.le_refl 0⟩ rfl hl.1 (Nat.le_of_ble_eq_true rfl) rfl dX6_leaves_42 (fun H locs hM hS => ?_)
  refine lv_aload_n hx hb dX6_leaves_45 rfl (lv_at hl 0 rfl) ?_
  refine mw_get B hM 14 (by decide) wf_RX6_45 rfl (v := .ref (ad 14)) rfl dX6_leaves_46 ?_
  refine lv_iconst (v := 4) hx hb dX6_leaves_49 (by decide) ?_
  refine lv_iload_n hx hb dX6_leaves_50 rfl (lv_at hl 1 rfl) ?_
  refine lv_imul hx hb dX6_leaves_51 ?_
  refine lv_iload_n hx hb dX6_leaves_52 rfl (lv_at hl 2 rfl) ?_
  refine lv_iadd hx hb dX6_leaves_53 ?_
  refine lv_iload_n hx hb dX6_leaves_54 rfl (lv_at hl 3 rfl) ?_
  obtain ⟨g4, h⟩ := gd_e h
  refine mw_cast B hM hS 14 (by decide) (by decide) rfl g4 dX6_leaves_55 (fun H locs hM hS => ?_)
  refine lv_iload hx hb dX6_leaves_56 (lv_at hl 4 rfl) ?_
  obtain ⟨g5, h⟩ := gd_e h
  cases h
  exact mw_zret B hM hS g5 dX6_leaves_58
set_option maxHeartbeats 4000000 in
set_option maxRecDepth 100000 in
theorem w_X6_leaves {p : Program} {l : Launch} {e : Env} {s : State} {m : MethodId} {args : Array Value} {below : List Frame} {meth : Method} {c : Code} {G : GG} {A : Nat → Prop} {ad : Nat → Nat} (B : MB G p s m args meth c cX6_leaves 5 RX6 (some .char)) {r : Int32} {st' : MS} : ∀ (st : MS) (x1 : Int32) (x2 : Int32) (x3 : Int32) (H : Heap) (locs : List Loc) (ls : Array Slot), f_X6_leaves st x1 x2 x3 = some (r, st') → MW G A ad st H → va_S A s.heap H locs → lv_has ls 5 [(0, .ref (ad 0)), (1, .int x1), (2, .int x2), (3, .int x3)] → W p l e ({ frames := 3, cells := 0, slots := 0, locals := 66 } : Room) s m args below meth c H locs 0 0 (MQ below (QM G A ad (some (.int r)) st') args s 0 0 A) (F0 m 0 ls []) := by
  have ⟨hx, hb, hr, hml, hown, hT, hlocks, hK⟩ := B
  intro st x1 x2 x3 H locs ls h hM hS hl
  rw [f_X6_leaves] at h
  refine lv_aload_n hx hb dX6_leaves_0 rfl (lv_at hl 0 rfl) ?_
  refine lv_aload_n hx hb dX6_leaves_1 rfl (lv_at hl 0 rfl) ?_
  refine lv_iload_n hx hb dX6_leaves_2 rfl (lv_at hl 1 rfl) ?_
  refine lv_iload_n hx hb dX6_leaves_3 rfl (lv_at hl 2 rfl) ?_
  refine lv_iload_n hx hb dX6_leaves_4 rfl (lv_at hl 3 rfl) ?_
  obtain ⟨r1, t2, e3, h⟩ := bd_e h
  refine mw_callV B hM hS [.int x1, .int x2, .int x3] (n := 3) (v := (some (.int r1))) (c_X6_noEdge e3) wm_RX6_143 wi_yX6_noEdge ws_yX6_noEdge wc_yX6_noEdge rfl rfl (by decide +kernel) ⟨Nat.le_of_ble_eq_true rfl, Nat.le_of_ble_eq_true rfl⟩ ⟨Nat.le_refl 0, Nat.le_refl 0⟩ rfl hl.1 (Nat.le_of_ble_eq_true rfl) rfl dX6_leaves_5 (fun H locs hM hS => ?_)
  obtain ⟨r4, t5, e6, h⟩ := bd_e h
  refine mw_callV B hM hS [.int r1] (n := 1) (v := (some (.int r4))) (c_X6_fails e6) wm_RX6_102 wi_yX6_fails ws_yX6_fails wc_yX6_fails rfl rfl (by decide +kernel) ⟨Nat.le_of_ble_eq_true rfl, Nat.le_of_ble_eq_true rfl⟩ ⟨Nat.le_refl 0, Nat.le_refl 0⟩ rfl hl.1 (Nat.le_of_ble_eq_true rfl) rfl dX6_leaves_8 (fun H locs hM hS => ?_)
  refine lv_if_eq (tgt := 17) hx hb dX6_leaves_11 (by decide) (fun c7 => ?_) (fun c7 => ?_)
  · have h := bi_t c7 h
    refine lv_aload_n hx hb dX6_leaves_17 rfl (lv_at hl 0 rfl) ?_
    refine mw_get B hM 14 (by decide) wf_RX6_45 rfl (v := .ref (ad 14)) rfl dX6_leaves_18 ?_
    refine lv_iconst (v := 4) hx hb dX6_leaves_21 (by decide) ?_
    refine lv_iload_n hx hb dX6_leaves_22 rfl (lv_at hl 1 rfl) ?_
    refine lv_imul hx hb dX6_leaves_23 ?_
    refine lv_iload_n hx hb dX6_leaves_24 rfl (lv_at hl 2 rfl) ?_
    refine lv_iadd hx hb dX6_leaves_25 ?_
    obtain ⟨g8, h⟩ := gd_e h
    refine mw_cald B hM 14 (by decide) (by decide) rfl g8 dX6_leaves_26 ?_
    refine lv_istore (lv' := [(4, .int (t5.2 14 ((4 * x1) + x2).toNatClampNeg)), (0, .ref (ad 0)), (1, .int x1), (2, .int x2), (3, .int x3)]) hx hb dX6_leaves_27 hl (by decide) rfl (fun ls hl => ?_)
    refine lv_aload_n hx hb dX6_leaves_29 rfl (lv_at hl 1 rfl) ?_
    refine lv_iload_n hx hb dX6_leaves_30 rfl (lv_at hl 2 rfl) ?_
    refine lv_iload hx hb dX6_leaves_31 (lv_at hl 0 rfl) ?_
    refine lv_iload_n hx hb dX6_leaves_33 rfl (lv_at hl 4 rfl) ?_
    refine lv_icmp_eq (tgt := 41) hx hb dX6_leaves_34 (by decide) (fun c9 => ?_) (fun c9 => ?_)
    · have h := bi_t c9 h
      refine lv_iconst (v := 0) hx hb dX6_leaves_41 (by decide) ?_
      exact w_X6_leaves_42 B _ _ _ _ _ _ _ _ _ _ h hM hS (lv_sub hl [1, 2, 3, 4, 0] rfl)
    · have h := bi_f c9 h
      refine lv_iconst (v := 1) hx hb dX6_leaves_37 (by decide) ?_
      refine lv_goto (tgt := 42) hx hb dX6_leaves_38 (by decide) ?_
      exact w_X6_leaves_42 B _ _ _ _ _ _ _ _ _ _ h hM hS (lv_sub hl [1, 2, 3, 4, 0] rfl)
  · have h := bi_f c7 h
    refine lv_bipush (v := 32) hx hb dX6_leaves_14 (by decide) ?_
    cases h
    exact mw_zret B hM hS (by rfl) dX6_leaves_16
theorem c_X6_leaves {l : Launch} {G : GG} {A : Nat → Prop} {ad : Nat → Nat} {st : MS} {x1 : Int32} {x2 : Int32} {x3 : Int32} {r : Int32} {st' : MS} (h : f_X6_leaves st x1 x2 x3 = some (r, st')) : Met l yX6_leaves (Cond.code yX6_leaves cX6_leaves 5 (some .char) :: TG) ({ frames := 3, cells := 0, slots := 0, locals := 66 } : Room) (PM G A ad st [.ref (ad 0), .int x1, .int x2, .int x3]) (QM G A ad (some (.int r)) st') 0 0 A :=
  mw_of (own := RX6) (by decide +kernel) rfl rfl rfl (Nat.le_of_ble_eq_true rfl) fun p e s m below meth c ls B hM hS hl => w_X6_leaves B _ _ _ _ _ _ _ h hM hS hl
set_option maxHeartbeats 4000000 in
set_option maxRecDepth 100000 in
theorem w_X6_version_30 {p : Program} {l : Launch} {e : Env} {s : State} {m : MethodId} {args : Array Value} {below : List Frame} {meth : Method} {c : Code} {G : GG} {A : Nat → Prop} {ad : Nat → Nat} (B : MB G p s m args meth c cX6_version 2 RX6 (some .int)) {r : Int32} {st' : MS} : ∀ (st : MS) (y0 : Int32) (H : Heap) (locs : List Loc) (ls : Array Slot), f_X6_version_30 st y0 = some (r, st') → MW G A ad st H → va_S A s.heap H locs → lv_has ls 2 [] → W p l e ({ frames := 2, cells := 0, slots := 0, locals := 43 } : Room) s m args below meth c H locs 0 0 (MQ below (QM G A ad (some (.int r)) st') args s 0 0 A) (F0 m 30 ls [.int y0]) := by
  have ⟨hx, hb, hr, hml, hown, hT, hlocks, hK⟩ := B
  intro st y0 H locs ls h hM hS hl
  rw [f_X6_version_30] at h
  cases h
  exact mw_iret B hM hS dX6_version_30
set_option maxHeartbeats 4000000 in
set_option maxRecDepth 100000 in
theorem w_X6_version_14 {p : Program} {l : Launch} {e : Env} {s : State} {m : MethodId} {args : Array Value} {below : List Frame} {meth : Method} {c : Code} {G : GG} {A : Nat → Prop} {ad : Nat → Nat} (B : MB G p s m args meth c cX6_version 2 RX6 (some .int)) {r : Int32} {st' : MS} : ∀ (st : MS) (x1 : Int32) (y1 : Int32) (H : Heap) (locs : List Loc) (ls : Array Slot), f_X6_version_14 st x1 y1 = some (r, st') → MW G A ad st H → va_S A s.heap H locs → lv_has ls 2 [(0, .ref (ad 0)), (1, .int x1)] → W p l e ({ frames := 2, cells := 0, slots := 0, locals := 43 } : Room) s m args below meth c H locs 0 0 (MQ below (QM G A ad (some (.int r)) st') args s 0 0 A) (F0 m 14 ls [.int y1, .ref (ad 0)]) := by
  have ⟨hx, hb, hr, hml, hown, hT, hlocks, hK⟩ := B
  intro st x1 y1 H locs ls h hM hS hl
  rw [f_X6_version_14] at h
  obtain ⟨r1, t2, e3, h⟩ := bd_e h
  refine mw_callV B hM hS [.int y1] (n := 1) (v := (some (.int r1))) (c_X6_fails e3) wm_RX6_102 wi_yX6_fails ws_yX6_fails wc_yX6_fails rfl rfl (by decide +kernel) ⟨Nat.le_of_ble_eq_true rfl, Nat.le_of_ble_eq_true rfl⟩ ⟨Nat.le_refl 0, Nat.le_refl 0⟩ rfl hl.1 (Nat.le_of_ble_eq_true rfl) rfl dX6_version_14 (fun H locs hM hS => ?_)
  refine lv_if_eq (tgt := 24) hx hb dX6_version_17 (by decide) (fun c4 => ?_) (fun c4 => ?_)
  · have h := bi_t c4 h
    refine lv_aload_n hx hb dX6_version_24 rfl (lv_at hl 0 rfl) ?_
    refine mw_get B hM 7 (by decide) wf_RX6_23 rfl (v := .ref (ad 7)) rfl dX6_version_25 ?_
    refine lv_iload_n hx hb dX6_version_28 rfl (lv_at hl 1 rfl) ?_
    obtain ⟨g5, h⟩ := gd_e h
    refine mw_iald B hM 7 (by decide) (by decide) rfl g5 dX6_version_29 ?_
    exact w_X6_version_30 B _ _ _ _ _ h hM hS (lv_sub hl [] rfl)
  · have h := bi_f c4 h
    refine lv_iconst (v := 0) hx hb dX6_version_20 (by decide) ?_
    refine lv_goto (tgt := 30) hx hb dX6_version_21 (by decide) ?_
    exact w_X6_version_30 B _ _ _ _ _ h hM hS (lv_sub hl [] rfl)
set_option maxHeartbeats 4000000 in
set_option maxRecDepth 100000 in
theorem w_X6_version {p : Program} {l : Launch} {e : Env} {s : State} {m : MethodId} {args : Array Value} {below : List Frame} {meth : Method} {c : Code} {G : GG} {A : Nat → Prop} {ad : Nat → Nat} (B : MB G p s m args meth c cX6_version 2 RX6 (some .int)) {r : Int32} {st' : MS} : ∀ (st : MS) (x1 : Int32) (H : Heap) (locs : List Loc) (ls : Array Slot), f_X6_version st x1 = some (r, st') → MW G A ad st H → va_S A s.heap H locs → lv_has ls 2 [(0, .ref (ad 0)), (1, .int x1)] → W p l e ({ frames := 2, cells := 0, slots := 0, locals := 43 } : Room) s m args below meth c H locs 0 0 (MQ below (QM G A ad (some (.int r)) st') args s 0 0 A) (F0 m 0 ls []) := by
  have ⟨hx, hb, hr, hml, hown, hT, hlocks, hK⟩ := B
  intro st x1 H locs ls h hM hS hl
  rw [f_X6_version] at h
  refine lv_aload_n hx hb dX6_version_0 rfl (lv_at hl 0 rfl) ?_
  refine lv_aload_n hx hb dX6_version_1 rfl (lv_at hl 0 rfl) ?_
  refine lv_iload_n hx hb dX6_version_2 rfl (lv_at hl 1 rfl) ?_
  obtain ⟨r1, t2, e3, h⟩ := bd_e h
  refine mw_callV B hM hS [.int x1] (n := 1) (v := (some (.int r1))) (c_X6_isShot e3) wm_RX6_118 wi_yX6_isShot ws_yX6_isShot wc_yX6_isShot rfl rfl (by decide +kernel) ⟨Nat.le_of_ble_eq_true rfl, Nat.le_of_ble_eq_true rfl⟩ ⟨Nat.le_refl 0, Nat.le_refl 0⟩ rfl hl.1 (Nat.le_of_ble_eq_true rfl) rfl dX6_version_3 (fun H locs hM hS => ?_)
  refine lv_if_eq (tgt := 13) hx hb dX6_version_6 (by decide) (fun c4 => ?_) (fun c4 => ?_)
  · have h := bi_t c4 h
    refine lv_iconst (v := 1) hx hb dX6_version_13 (by decide) ?_
    exact w_X6_version_14 B _ _ _ _ _ _ h hM hS (lv_sub hl [0, 1] rfl)
  · have h := bi_f c4 h
    refine lv_iconst (v := 0) hx hb dX6_version_9 (by decide) ?_
    refine lv_goto (tgt := 14) hx hb dX6_version_10 (by decide) ?_
    exact w_X6_version_14 B _ _ _ _ _ _ h hM hS (lv_sub hl [0, 1] rfl)
theorem c_X6_version {l : Launch} {G : GG} {A : Nat → Prop} {ad : Nat → Nat} {st : MS} {x1 : Int32} {r : Int32} {st' : MS} (h : f_X6_version st x1 = some (r, st')) : Met l yX6_version (Cond.code yX6_version cX6_version 2 (some .int) :: TG) ({ frames := 2, cells := 0, slots := 0, locals := 43 } : Room) (PM G A ad st [.ref (ad 0), .int x1]) (QM G A ad (some (.int r)) st') 0 0 A :=
  mw_of (own := RX6) (by decide +kernel) rfl rfl rfl (Nat.le_of_ble_eq_true rfl) fun p e s m below meth c ls B hM hS hl => w_X6_version B _ _ _ _ _ h hM hS hl
set_option maxHeartbeats 4000000 in
set_option maxRecDepth 100000 in
theorem w_X6_begins_4 {p : Program} {l : Launch} {e : Env} {s : State} {m : MethodId} {args : Array Value} {below : List Frame} {meth : Method} {c : Code} {G : GG} {A : Nat → Prop} {ad : Nat → Nat} (B : MB G p s m args meth c cX6_begins 4 RX6 (some .int)) {r : Int32} {st' : MS} : ∀ (n : Nat) (st : MS) (x1 : Int32) (x2 : Int32) (x3 : Int32) (H : Heap) (locs : List Loc) (ls : Array Slot), f_X6_begins_4 n st x1 x2 x3 = some (r, st') → MW G A ad st H → va_S A s.heap H locs → lv_has ls 4 [(0, .ref (ad 0)), (1, .int x1), (2, .int x2), (3, .int x3)] → W p l e ({ frames := 0, cells := 0, slots := 0, locals := 0 } : Room) s m args below meth c H locs 0 0 (MQ below (QM G A ad (some (.int r)) st') args s 0 0 A) (F0 m 4 ls []) := by
  have ⟨hx, hb, hr, hml, hown, hT, hlocks, hK⟩ := B
  intro n
  induction n with
  | zero =>
    intro st x1 x2 x3 H locs ls h
    cases h
  | succ n ih =>
    intro st x1 x2 x3 H locs ls h hM hS hl
    rw [f_X6_begins_4] at h
    refine lv_iload_n hx hb dX6_begins_4 rfl (lv_at hl 3 rfl) ?_
    refine lv_iload_n hx hb dX6_begins_5 rfl (lv_at hl 1 rfl) ?_
    refine lv_icmp_ge (tgt := 29) hx hb dX6_begins_6 (by decide) (fun c1 => ?_) (fun c1 => ?_)
    · have h := bi_t c1 h
      refine lv_iload_n hx hb dX6_begins_29 rfl (lv_at hl 2 rfl) ?_
      cases h
      exact mw_iret B hM hS dX6_begins_30
    · have h := bi_f c1 h
      refine lv_iload_n hx hb dX6_begins_9 rfl (lv_at hl 2 rfl) ?_
      refine lv_aload_n hx hb dX6_begins_10 rfl (lv_at hl 0 rfl) ?_
      refine mw_get B hM 6 (by decide) wf_RX6_20 rfl (v := .ref (ad 6)) rfl dX6_begins_11 ?_
      refine lv_aload_n hx hb dX6_begins_14 rfl (lv_at hl 0 rfl) ?_
      refine mw_get B hM 3 (by decide) wf_RX6_7 rfl (v := .ref (ad 3)) rfl dX6_begins_15 ?_
      refine lv_iload_n hx hb dX6_begins_18 rfl (lv_at hl 3 rfl) ?_
      obtain ⟨g2, h⟩ := gd_e h
      refine mw_iald B hM 3 (by decide) (by decide) rfl g2 dX6_begins_19 ?_
      obtain ⟨g3, h⟩ := gd_e h
      refine mw_iald B hM 6 (by decide) (by decide) rfl g3 dX6_begins_20 ?_
      refine lv_iadd hx hb dX6_begins_21 ?_
      refine lv_istore_n (lv' := [(2, .int (x2 + (st.2 6 (st.2 3 x3.toNatClampNeg).toNatClampNeg))), (0, .ref (ad 0)), (1, .int x1), (3, .int x3)]) hx hb dX6_begins_22 rfl hl (by decide) rfl (fun ls hl => ?_)
      refine lv_iinc (v := (x3 + 1)) (lv' := [(3, .int (x3 + 1)), (2, .int (x2 + (st.2 6 (st.2 3 x3.toNatClampNeg).toNatClampNeg))), (0, .ref (ad 0)), (1, .int x1)]) hx hb dX6_begins_23 hl (k := 3) rfl rfl (by decide) rfl (fun ls hl => ?_)
      refine lv_goto (tgt := 4) hx hb dX6_begins_26 (by decide) ?_
      exact ih _ _ _ _ _ _ _ h hM hS (lv_sub hl [2, 3, 1, 0] rfl)
set_option maxHeartbeats 4000000 in
set_option maxRecDepth 100000 in
theorem w_X6_begins {p : Program} {l : Launch} {e : Env} {s : State} {m : MethodId} {args : Array Value} {below : List Frame} {meth : Method} {c : Code} {G : GG} {A : Nat → Prop} {ad : Nat → Nat} (B : MB G p s m args meth c cX6_begins 4 RX6 (some .int)) {r : Int32} {st' : MS} : ∀ (st : MS) (x1 : Int32) (H : Heap) (locs : List Loc) (ls : Array Slot), f_X6_begins st x1 = some (r, st') → MW G A ad st H → va_S A s.heap H locs → lv_has ls 4 [(0, .ref (ad 0)), (1, .int x1)] → W p l e ({ frames := 0, cells := 0, slots := 0, locals := 0 } : Room) s m args below meth c H locs 0 0 (MQ below (QM G A ad (some (.int r)) st') args s 0 0 A) (F0 m 0 ls []) := by
  have ⟨hx, hb, hr, hml, hown, hT, hlocks, hK⟩ := B
  intro st x1 H locs ls h hM hS hl
  rw [f_X6_begins] at h
  refine lv_iconst (v := 0) hx hb dX6_begins_0 (by decide) ?_
  refine lv_istore_n (lv' := [(2, .int 0), (0, .ref (ad 0)), (1, .int x1)]) hx hb dX6_begins_1 rfl hl (by decide) rfl (fun ls hl => ?_)
  refine lv_iconst (v := 0) hx hb dX6_begins_2 (by decide) ?_
  refine lv_istore_n (lv' := [(3, .int 0), (2, .int 0), (0, .ref (ad 0)), (1, .int x1)]) hx hb dX6_begins_3 rfl hl (by decide) rfl (fun ls hl => ?_)
  exact w_X6_begins_4 B FU _ _ _ _ _ _ _ h hM hS (lv_sub hl [2, 3, 1, 0] rfl)
theorem c_X6_begins {l : Launch} {G : GG} {A : Nat → Prop} {ad : Nat → Nat} {st : MS} {x1 : Int32} {r : Int32} {st' : MS} (h : f_X6_begins st x1 = some (r, st')) : Met l yX6_begins (Cond.code yX6_begins cX6_begins 4 (some .int) :: TG) ({ frames := 0, cells := 0, slots := 0, locals := 0 } : Room) (PM G A ad st [.ref (ad 0), .int x1]) (QM G A ad (some (.int r)) st') 0 0 A :=
  mw_of (own := RX6) (by decide +kernel) rfl rfl rfl (Nat.le_of_ble_eq_true rfl) fun p e s m below meth c ls B hM hS hl => w_X6_begins B _ _ _ _ _ h hM hS hl
set_option maxHeartbeats 4000000 in
set_option maxRecDepth 100000 in
theorem w_X6_time_45 {p : Program} {l : Launch} {e : Env} {s : State} {m : MethodId} {args : Array Value} {below : List Frame} {meth : Method} {c : Code} {G : GG} {A : Nat → Prop} {ad : Nat → Nat} (B : MB G p s m args meth c cX6_time 2 RX6 (some .int)) {r : Int32} {st' : MS} : ∀ (st : MS) (y0 : Int32) (H : Heap) (locs : List Loc) (ls : Array Slot), f_X6_time_45 st y0 = some (r, st') → MW G A ad st H → va_S A s.heap H locs → lv_has ls 2 [] → W p l e ({ frames := 2, cells := 0, slots := 0, locals := 43 } : Room) s m args below meth c H locs 0 0 (MQ below (QM G A ad (some (.int r)) st') args s 0 0 A) (F0 m 45 ls [.int y0]) := by
  have ⟨hx, hb, hr, hml, hown, hT, hlocks, hK⟩ := B
  intro st y0 H locs ls h hM hS hl
  rw [f_X6_time_45] at h
  cases h
  exact mw_iret B hM hS dX6_time_45
set_option maxHeartbeats 4000000 in
set_option maxRecDepth 100000 in
theorem w_X6_time_26 {p : Program} {l : Launch} {e : Env} {s : State} {m : MethodId} {args : Array Value} {below : List Frame} {meth : Method} {c : Code} {G : GG} {A : Nat → Prop} {ad : Nat → Nat} (B : MB G p s m args meth c cX6_time 2 RX6 (some .int)) {r : Int32} {st' : MS} : ∀ (st : MS) (x1 : Int32) (y1 : Int32) (H : Heap) (locs : List Loc) (ls : Array Slot), f_X6_time_26 st x1 y1 = some (r, st') → MW G A ad st H → va_S A s.heap H locs → lv_has ls 2 [(0, .ref (ad 0)), (1, .int x1)] → W p l e ({ frames := 2, cells := 0, slots := 0, locals := 43 } : Room) s m args below meth c H locs 0 0 (MQ below (QM G A ad (some (.int r)) st') args s 0 0 A) (F0 m 26 ls [.int y1, .ref (ad 0)]) := by
  have ⟨hx, hb, hr, hml, hown, hT, hlocks, hK⟩ := B
  intro st x1 y1 H locs ls h hM hS hl
  rw [f_X6_time_26] at h
  obtain ⟨r1, t2, e3, h⟩ := bd_e h
  refine mw_callV B hM hS [.int y1] (n := 1) (v := (some (.int r1))) (c_X6_fails e3) wm_RX6_102 wi_yX6_fails ws_yX6_fails wc_yX6_fails rfl rfl (by decide +kernel) ⟨Nat.le_of_ble_eq_true rfl, Nat.le_of_ble_eq_true rfl⟩ ⟨Nat.le_refl 0, Nat.le_refl 0⟩ rfl hl.1 (Nat.le_of_ble_eq_true rfl) rfl dX6_time_26 (fun H locs hM hS => ?_)
  refine lv_if_eq (tgt := 36) hx hb dX6_time_29 (by decide) (fun c4 => ?_) (fun c4 => ?_)
  · have h := bi_t c4 h
    refine lv_aload_n hx hb dX6_time_36 rfl (lv_at hl 0 rfl) ?_
    refine lv_aload_n hx hb dX6_time_37 rfl (lv_at hl 0 rfl) ?_
    refine lv_iload_n hx hb dX6_time_38 rfl (lv_at hl 1 rfl) ?_
    obtain ⟨r5, t6, e7, h⟩ := bd_e h
    refine mw_callV B hM hS [.int x1] (n := 1) (v := (some (.int r5))) (c_X6_placeOf e7) wm_RX6_121 wi_yX6_placeOf ws_yX6_placeOf wc_yX6_placeOf rfl rfl (by decide +kernel) ⟨Nat.le_of_ble_eq_true rfl, Nat.le_of_ble_eq_true rfl⟩ ⟨Nat.le_refl 0, Nat.le_refl 0⟩ rfl hl.1 (Nat.le_of_ble_eq_true rfl) rfl dX6_time_39 (fun H locs hM hS => ?_)
    obtain ⟨r8, t9, e10, h⟩ := bd_e h
    refine mw_callV B hM hS [.int r5] (n := 1) (v := (some (.int r8))) (c_X6_begins e10) wm_RX6_147 wi_yX6_begins ws_yX6_begins wc_yX6_begins rfl rfl (by decide +kernel) ⟨Nat.le_of_ble_eq_true rfl, Nat.le_of_ble_eq_true rfl⟩ ⟨Nat.le_refl 0, Nat.le_refl 0⟩ rfl hl.1 (Nat.le_of_ble_eq_true rfl) rfl dX6_time_42 (fun H locs hM hS => ?_)
    exact w_X6_time_45 B _ _ _ _ _ h hM hS (lv_sub hl [] rfl)
  · have h := bi_f c4 h
    refine lv_iconst (v := 0) hx hb dX6_time_32 (by decide) ?_
    refine lv_goto (tgt := 45) hx hb dX6_time_33 (by decide) ?_
    exact w_X6_time_45 B _ _ _ _ _ h hM hS (lv_sub hl [] rfl)
set_option maxHeartbeats 4000000 in
set_option maxRecDepth 100000 in
theorem w_X6_time {p : Program} {l : Launch} {e : Env} {s : State} {m : MethodId} {args : Array Value} {below : List Frame} {meth : Method} {c : Code} {G : GG} {A : Nat → Prop} {ad : Nat → Nat} (B : MB G p s m args meth c cX6_time 2 RX6 (some .int)) {r : Int32} {st' : MS} : ∀ (st : MS) (x1 : Int32) (H : Heap) (locs : List Loc) (ls : Array Slot), f_X6_time st x1 = some (r, st') → MW G A ad st H → va_S A s.heap H locs → lv_has ls 2 [(0, .ref (ad 0)), (1, .int x1)] → W p l e ({ frames := 2, cells := 0, slots := 0, locals := 43 } : Room) s m args below meth c H locs 0 0 (MQ below (QM G A ad (some (.int r)) st') args s 0 0 A) (F0 m 0 ls []) := by
  have ⟨hx, hb, hr, hml, hown, hT, hlocks, hK⟩ := B
  intro st x1 H locs ls h hM hS hl
  rw [f_X6_time] at h
  refine lv_aload_n hx hb dX6_time_0 rfl (lv_at hl 0 rfl) ?_
  refine lv_aload_n hx hb dX6_time_1 rfl (lv_at hl 0 rfl) ?_
  refine lv_iload_n hx hb dX6_time_2 rfl (lv_at hl 1 rfl) ?_
  obtain ⟨r1, t2, e3, h⟩ := bd_e h
  refine mw_callV B hM hS [.int x1] (n := 1) (v := (some (.int r1))) (c_X6_isShot e3) wm_RX6_118 wi_yX6_isShot ws_yX6_isShot wc_yX6_isShot rfl rfl (by decide +kernel) ⟨Nat.le_of_ble_eq_true rfl, Nat.le_of_ble_eq_true rfl⟩ ⟨Nat.le_refl 0, Nat.le_refl 0⟩ rfl hl.1 (Nat.le_of_ble_eq_true rfl) rfl dX6_time_3 (fun H locs hM hS => ?_)
  refine lv_if_ne (tgt := 13) hx hb dX6_time_6 (by decide) (fun c4 => ?_) (fun c4 => ?_)
  · have h := bi_f c4 h
    refine lv_aload_n hx hb dX6_time_13 rfl (lv_at hl 0 rfl) ?_
    refine lv_iload_n hx hb dX6_time_14 rfl (lv_at hl 1 rfl) ?_
    obtain ⟨r5, t6, e7, h⟩ := bd_e h
    refine mw_callV B hM hS [.int x1] (n := 1) (v := (some (.int r5))) (c_X6_placeOf e7) wm_RX6_121 wi_yX6_placeOf ws_yX6_placeOf wc_yX6_placeOf rfl rfl (by decide +kernel) ⟨Nat.le_of_ble_eq_true rfl, Nat.le_of_ble_eq_true rfl⟩ ⟨Nat.le_refl 0, Nat.le_refl 0⟩ rfl hl.1 (Nat.le_of_ble_eq_true rfl) rfl dX6_time_15 (fun H locs hM hS => ?_)
    refine lv_if_ge (tgt := 25) hx hb dX6_time_18 (by decide) (fun c8 => ?_) (fun c8 => ?_)
    · have h := bi_t c8 h
      refine lv_iconst (v := 0) hx hb dX6_time_25 (by decide) ?_
      exact w_X6_time_26 B _ _ _ _ _ _ h hM hS (lv_sub hl [0, 1] rfl)
    · have h := bi_f c8 h
      refine lv_iconst (v := 2) hx hb dX6_time_21 (by decide) ?_
      refine lv_goto (tgt := 26) hx hb dX6_time_22 (by decide) ?_
      exact w_X6_time_26 B _ _ _ _ _ _ h hM hS (lv_sub hl [0, 1] rfl)
  · have h := bi_t c4 h
    refine lv_iconst (v := 1) hx hb dX6_time_9 (by decide) ?_
    refine lv_goto (tgt := 26) hx hb dX6_time_10 (by decide) ?_
    exact w_X6_time_26 B _ _ _ _ _ _ h hM hS (lv_sub hl [0, 1] rfl)
theorem c_X6_time {l : Launch} {G : GG} {A : Nat → Prop} {ad : Nat → Nat} {st : MS} {x1 : Int32} {r : Int32} {st' : MS} (h : f_X6_time st x1 = some (r, st')) : Met l yX6_time (Cond.code yX6_time cX6_time 2 (some .int) :: TG) ({ frames := 2, cells := 0, slots := 0, locals := 43 } : Room) (PM G A ad st [.ref (ad 0), .int x1]) (QM G A ad (some (.int r)) st') 0 0 A :=
  mw_of (own := RX6) (by decide +kernel) rfl rfl rfl (Nat.le_of_ble_eq_true rfl) fun p e s m below meth c ls B hM hS hl => w_X6_time B _ _ _ _ _ h hM hS hl
set_option maxHeartbeats 4000000 in
set_option maxRecDepth 100000 in
theorem w_X6_seen_71 {p : Program} {l : Launch} {e : Env} {s : State} {m : MethodId} {args : Array Value} {below : List Frame} {meth : Method} {c : Code} {G : GG} {A : Nat → Prop} {ad : Nat → Nat} (B : MB G p s m args meth c cX6_seen 4 RX6 (some .int)) {r : Int32} {st' : MS} : ∀ (st : MS) (y0 : Int32) (H : Heap) (locs : List Loc) (ls : Array Slot), f_X6_seen_71 st y0 = some (r, st') → MW G A ad st H → va_S A s.heap H locs → lv_has ls 4 [] → W p l e ({ frames := 1, cells := 0, slots := 0, locals := 23 } : Room) s m args below meth c H locs 0 0 (MQ below (QM G A ad (some (.int r)) st') args s 0 0 A) (F0 m 71 ls [.int y0]) := by
  have ⟨hx, hb, hr, hml, hown, hT, hlocks, hK⟩ := B
  intro st y0 H locs ls h hM hS hl
  rw [f_X6_seen_71] at h
  cases h
  exact mw_iret B hM hS dX6_seen_71
set_option maxHeartbeats 4000000 in
set_option maxRecDepth 100000 in
theorem w_X6_seen_60 {p : Program} {l : Launch} {e : Env} {s : State} {m : MethodId} {args : Array Value} {below : List Frame} {meth : Method} {c : Code} {G : GG} {A : Nat → Prop} {ad : Nat → Nat} (B : MB G p s m args meth c cX6_seen 4 RX6 (some .int)) {r : Int32} {st' : MS} : ∀ (st : MS) (x2 : Int32) (y1 : Int32) (H : Heap) (locs : List Loc) (ls : Array Slot), f_X6_seen_60 st x2 y1 = some (r, st') → MW G A ad st H → va_S A s.heap H locs → lv_has ls 4 [(2, .int x2)] → W p l e ({ frames := 1, cells := 0, slots := 0, locals := 23 } : Room) s m args below meth c H locs 0 0 (MQ below (QM G A ad (some (.int r)) st') args s 0 0 A) (F0 m 60 ls [.int y1, .ref (ad 0)]) := by
  have ⟨hx, hb, hr, hml, hown, hT, hlocks, hK⟩ := B
  intro st x2 y1 H locs ls h hM hS hl
  rw [f_X6_seen_60] at h
  obtain ⟨r1, t2, e3, h⟩ := bd_e h
  refine mw_callV B hM hS [.int y1] (n := 1) (v := (some (.int r1))) (c_X6_fails e3) wm_RX6_102 wi_yX6_fails ws_yX6_fails wc_yX6_fails rfl rfl (by decide +kernel) ⟨Nat.le_of_ble_eq_true rfl, Nat.le_of_ble_eq_true rfl⟩ ⟨Nat.le_refl 0, Nat.le_refl 0⟩ rfl hl.1 (Nat.le_of_ble_eq_true rfl) rfl dX6_seen_60 (fun H locs hM hS => ?_)
  refine lv_if_eq (tgt := 70) hx hb dX6_seen_63 (by decide) (fun c4 => ?_) (fun c4 => ?_)
  · have h := bi_t c4 h
    refine lv_iload_n hx hb dX6_seen_70 rfl (lv_at hl 0 rfl) ?_
    exact w_X6_seen_71 B _ _ _ _ _ h hM hS (lv_sub hl [] rfl)
  · have h := bi_f c4 h
    refine lv_iconst (v := 0) hx hb dX6_seen_66 (by decide) ?_
    refine lv_goto (tgt := 71) hx hb dX6_seen_67 (by decide) ?_
    exact w_X6_seen_71 B _ _ _ _ _ h hM hS (lv_sub hl [] rfl)
set_option maxHeartbeats 4000000 in
set_option maxRecDepth 100000 in
theorem w_X6_seen_42 {p : Program} {l : Launch} {e : Env} {s : State} {m : MethodId} {args : Array Value} {below : List Frame} {meth : Method} {c : Code} {G : GG} {A : Nat → Prop} {ad : Nat → Nat} (B : MB G p s m args meth c cX6_seen 4 RX6 (some .int)) {r : Int32} {st' : MS} {k4 : MS → Int32 → Int32 → Int32 → Option (Int32 × MS)} (hk4 : ∀ (st : MS) (x1 : Int32) (x2 : Int32) (x3 : Int32) (H : Heap) (locs : List Loc) (ls : Array Slot), k4 st x1 x2 x3 = some (r, st') → MW G A ad st H → va_S A s.heap H locs → lv_has ls 4 [(0, .ref (ad 0)), (1, .int x1), (2, .int x2), (3, .int x3)] → W p l e ({ frames := 1, cells := 0, slots := 0, locals := 23 } : Room) s m args below meth c H locs 0 0 (MQ below (QM G A ad (some (.int r)) st') args s 0 0 A) (F0 m 4 ls [])) : ∀ (st : MS) (x1 : Int32) (x3 : Int32) (y0 : Int32) (H : Heap) (locs : List Loc) (ls : Array Slot), f_X6_seen_42 k4 st x1 x3 y0 = some (r, st') → MW G A ad st H → va_S A s.heap H locs → lv_has ls 4 [(0, .ref (ad 0)), (1, .int x1), (3, .int x3)] → W p l e ({ frames := 1, cells := 0, slots := 0, locals := 23 } : Room) s m args below meth c H locs 0 0 (MQ below (QM G A ad (some (.int r)) st') args s 0 0 A) (F0 m 42 ls [.int y0]) := by
  have ⟨hx, hb, hr, hml, hown, hT, hlocks, hK⟩ := B
  intro st x1 x3 y0 H locs ls h hM hS hl
  rw [f_X6_seen_42] at h
  refine lv_istore_n (lv' := [(2, .int y0), (0, .ref (ad 0)), (1, .int x1), (3, .int x3)]) hx hb dX6_seen_42 rfl hl (by decide) rfl (fun ls hl => ?_)
  refine lv_iinc (v := (x3 + 1)) (lv' := [(3, .int (x3 + 1)), (2, .int y0), (0, .ref (ad 0)), (1, .int x1)]) hx hb dX6_seen_43 hl (k := 3) rfl rfl (by decide) rfl (fun ls hl => ?_)
  refine lv_goto (tgt := 4) hx hb dX6_seen_46 (by decide) ?_
  exact hk4 _ _ _ _ _ _ _ h hM hS (lv_sub hl [2, 3, 1, 0] rfl)
set_option maxHeartbeats 4000000 in
set_option maxRecDepth 100000 in
theorem w_X6_seen_41 {p : Program} {l : Launch} {e : Env} {s : State} {m : MethodId} {args : Array Value} {below : List Frame} {meth : Method} {c : Code} {G : GG} {A : Nat → Prop} {ad : Nat → Nat} (B : MB G p s m args meth c cX6_seen 4 RX6 (some .int)) {r : Int32} {st' : MS} {k4 : MS → Int32 → Int32 → Int32 → Option (Int32 × MS)} (hk4 : ∀ (st : MS) (x1 : Int32) (x2 : Int32) (x3 : Int32) (H : Heap) (locs : List Loc) (ls : Array Slot), k4 st x1 x2 x3 = some (r, st') → MW G A ad st H → va_S A s.heap H locs → lv_has ls 4 [(0, .ref (ad 0)), (1, .int x1), (2, .int x2), (3, .int x3)] → W p l e ({ frames := 1, cells := 0, slots := 0, locals := 23 } : Room) s m args below meth c H locs 0 0 (MQ below (QM G A ad (some (.int r)) st') args s 0 0 A) (F0 m 4 ls [])) : ∀ (st : MS) (x1 : Int32) (x2 : Int32) (x3 : Int32) (H : Heap) (locs : List Loc) (ls : Array Slot), f_X6_seen_41 k4 st x1 x2 x3 = some (r, st') → MW G A ad st H → va_S A s.heap H locs → lv_has ls 4 [(0, .ref (ad 0)), (1, .int x1), (2, .int x2), (3, .int x3)] → W p l e ({ frames := 1, cells := 0, slots := 0, locals := 23 } : Room) s m args below meth c H locs 0 0 (MQ below (QM G A ad (some (.int r)) st') args s 0 0 A) (F0 m 41 ls []) := by
  have ⟨hx, hb, hr, hml, hown, hT, hlocks, hK⟩ := B
  intro st x1 x2 x3 H locs ls h hM hS hl
  rw [f_X6_seen_41] at h
  refine lv_iload_n hx hb dX6_seen_41 rfl (lv_at hl 2 rfl) ?_
  exact w_X6_seen_42 B hk4 _ _ _ _ _ _ _ h hM hS (lv_sub hl [0, 1, 3] rfl)
set_option maxHeartbeats 4000000 in
set_option maxRecDepth 100000 in
theorem w_X6_seen_4 {p : Program} {l : Launch} {e : Env} {s : State} {m : MethodId} {args : Array Value} {below : List Frame} {meth : Method} {c : Code} {G : GG} {A : Nat → Prop} {ad : Nat → Nat} (B : MB G p s m args meth c cX6_seen 4 RX6 (some .int)) {r : Int32} {st' : MS} : ∀ (n : Nat) (st : MS) (x1 : Int32) (x2 : Int32) (x3 : Int32) (H : Heap) (locs : List Loc) (ls : Array Slot), f_X6_seen_4 n st x1 x2 x3 = some (r, st') → MW G A ad st H → va_S A s.heap H locs → lv_has ls 4 [(0, .ref (ad 0)), (1, .int x1), (2, .int x2), (3, .int x3)] → W p l e ({ frames := 1, cells := 0, slots := 0, locals := 23 } : Room) s m args below meth c H locs 0 0 (MQ below (QM G A ad (some (.int r)) st') args s 0 0 A) (F0 m 4 ls []) := by
  have ⟨hx, hb, hr, hml, hown, hT, hlocks, hK⟩ := B
  intro n
  induction n with
  | zero =>
    intro st x1 x2 x3 H locs ls h
    cases h
  | succ n ih =>
    intro st x1 x2 x3 H locs ls h hM hS hl
    rw [f_X6_seen_4] at h
    refine lv_iload_n hx hb dX6_seen_4 rfl (lv_at hl 3 rfl) ?_
    refine lv_aload_n hx hb dX6_seen_5 rfl (lv_at hl 0 rfl) ?_
    refine mw_get B hM 2 (by decide) wf_RX6_95 rfl (v := .int (st.1 2)) rfl dX6_seen_6 ?_
    refine lv_icmp_ge (tgt := 49) hx hb dX6_seen_9 (by decide) (fun c1 => ?_) (fun c1 => ?_)
    · have h := bi_t c1 h
      refine lv_aload_n hx hb dX6_seen_49 rfl (lv_at hl 0 rfl) ?_
      refine lv_iload_n hx hb dX6_seen_50 rfl (lv_at hl 2 rfl) ?_
      refine lv_iconst (v := (-1)) hx hb dX6_seen_51 (by decide) ?_
      refine lv_icmp_ne (tgt := 59) hx hb dX6_seen_52 (by decide) (fun c2 => ?_) (fun c2 => ?_)
      · have h := bi_f c2 h
        refine lv_iconst (v := 0) hx hb dX6_seen_59 (by decide) ?_
        exact w_X6_seen_60 B _ _ _ _ _ _ h hM hS (lv_sub hl [2] rfl)
      · have h := bi_t c2 h
        refine lv_iconst (v := 1) hx hb dX6_seen_55 (by decide) ?_
        refine lv_goto (tgt := 60) hx hb dX6_seen_56 (by decide) ?_
        exact w_X6_seen_60 B _ _ _ _ _ _ h hM hS (lv_sub hl [2] rfl)
    · have h := bi_f c1 h
      refine lv_iload_n hx hb dX6_seen_12 rfl (lv_at hl 1 rfl) ?_
      refine lv_aload_n hx hb dX6_seen_13 rfl (lv_at hl 0 rfl) ?_
      refine lv_iload_n hx hb dX6_seen_14 rfl (lv_at hl 3 rfl) ?_
      obtain ⟨r3, t4, e5, h⟩ := bd_e h
      refine mw_callV B hM hS [.int x3] (n := 1) (v := (some (.int r3))) (c_X6_begins e5) wm_RX6_147 wi_yX6_begins ws_yX6_begins wc_yX6_begins rfl rfl (by decide +kernel) ⟨Nat.le_of_ble_eq_true rfl, Nat.le_of_ble_eq_true rfl⟩ ⟨Nat.le_refl 0, Nat.le_refl 0⟩ rfl hl.1 (Nat.le_of_ble_eq_true rfl) rfl dX6_seen_15 (fun H locs hM hS => ?_)
      refine lv_icmp_lt (tgt := 41) hx hb dX6_seen_18 (by decide) (fun c6 => ?_) (fun c6 => ?_)
      · have h := bi_t c6 h
        exact w_X6_seen_41 B ih _ _ _ _ _ _ _ h hM hS (lv_sub hl [0, 1, 2, 3] rfl)
      · have h := bi_f c6 h
        refine lv_iload_n hx hb dX6_seen_21 rfl (lv_at hl 1 rfl) ?_
        refine lv_aload_n hx hb dX6_seen_22 rfl (lv_at hl 0 rfl) ?_
        refine lv_iload_n hx hb dX6_seen_23 rfl (lv_at hl 3 rfl) ?_
        refine lv_iconst (v := 1) hx hb dX6_seen_24 (by decide) ?_
        refine lv_iadd hx hb dX6_seen_25 ?_
        obtain ⟨r7, t8, e9, h⟩ := bd_e h
        refine mw_callV B hM hS [.int (x3 + 1)] (n := 1) (v := (some (.int r7))) (c_X6_begins e9) wm_RX6_147 wi_yX6_begins ws_yX6_begins wc_yX6_begins rfl rfl (by decide +kernel) ⟨Nat.le_of_ble_eq_true rfl, Nat.le_of_ble_eq_true rfl⟩ ⟨Nat.le_refl 0, Nat.le_refl 0⟩ rfl hl.1 (Nat.le_of_ble_eq_true rfl) rfl dX6_seen_26 (fun H locs hM hS => ?_)
        refine lv_icmp_ge (tgt := 41) hx hb dX6_seen_29 (by decide) (fun c10 => ?_) (fun c10 => ?_)
        · have h := bi_t c10 h
          exact w_X6_seen_41 B ih _ _ _ _ _ _ _ h hM hS (lv_sub hl [0, 1, 2, 3] rfl)
        · have h := bi_f c10 h
          refine lv_aload_n hx hb dX6_seen_32 rfl (lv_at hl 0 rfl) ?_
          refine mw_get B hM 3 (by decide) wf_RX6_7 rfl (v := .ref (ad 3)) rfl dX6_seen_33 ?_
          refine lv_iload_n hx hb dX6_seen_36 rfl (lv_at hl 3 rfl) ?_
          obtain ⟨g11, h⟩ := gd_e h
          refine mw_iald B hM 3 (by decide) (by decide) rfl g11 dX6_seen_37 ?_
          refine lv_goto (tgt := 42) hx hb dX6_seen_38 (by decide) ?_
          exact w_X6_seen_42 B ih _ _ _ _ _ _ _ h hM hS (lv_sub hl [0, 1, 3] rfl)
set_option maxHeartbeats 4000000 in
set_option maxRecDepth 100000 in
theorem w_X6_seen {p : Program} {l : Launch} {e : Env} {s : State} {m : MethodId} {args : Array Value} {below : List Frame} {meth : Method} {c : Code} {G : GG} {A : Nat → Prop} {ad : Nat → Nat} (B : MB G p s m args meth c cX6_seen 4 RX6 (some .int)) {r : Int32} {st' : MS} : ∀ (st : MS) (x1 : Int32) (H : Heap) (locs : List Loc) (ls : Array Slot), f_X6_seen st x1 = some (r, st') → MW G A ad st H → va_S A s.heap H locs → lv_has ls 4 [(0, .ref (ad 0)), (1, .int x1)] → W p l e ({ frames := 1, cells := 0, slots := 0, locals := 23 } : Room) s m args below meth c H locs 0 0 (MQ below (QM G A ad (some (.int r)) st') args s 0 0 A) (F0 m 0 ls []) := by
  have ⟨hx, hb, hr, hml, hown, hT, hlocks, hK⟩ := B
  intro st x1 H locs ls h hM hS hl
  rw [f_X6_seen] at h
  refine lv_iconst (v := (-1)) hx hb dX6_seen_0 (by decide) ?_
  refine lv_istore_n (lv' := [(2, .int (-1)), (0, .ref (ad 0)), (1, .int x1)]) hx hb dX6_seen_1 rfl hl (by decide) rfl (fun ls hl => ?_)
  refine lv_iconst (v := 0) hx hb dX6_seen_2 (by decide) ?_
  refine lv_istore_n (lv' := [(3, .int 0), (2, .int (-1)), (0, .ref (ad 0)), (1, .int x1)]) hx hb dX6_seen_3 rfl hl (by decide) rfl (fun ls hl => ?_)
  exact w_X6_seen_4 B FU _ _ _ _ _ _ _ h hM hS (lv_sub hl [2, 3, 1, 0] rfl)
theorem c_X6_seen {l : Launch} {G : GG} {A : Nat → Prop} {ad : Nat → Nat} {st : MS} {x1 : Int32} {r : Int32} {st' : MS} (h : f_X6_seen st x1 = some (r, st')) : Met l yX6_seen (Cond.code yX6_seen cX6_seen 4 (some .int) :: TG) ({ frames := 1, cells := 0, slots := 0, locals := 23 } : Room) (PM G A ad st [.ref (ad 0), .int x1]) (QM G A ad (some (.int r)) st') 0 0 A :=
  mw_of (own := RX6) (by decide +kernel) rfl rfl rfl (Nat.le_of_ble_eq_true rfl) fun p e s m below meth c ls B hM hS hl => w_X6_seen B _ _ _ _ _ h hM hS hl
set_option maxHeartbeats 4000000 in
set_option maxRecDepth 100000 in
theorem w_X6_ended_55 {p : Program} {l : Launch} {e : Env} {s : State} {m : MethodId} {args : Array Value} {below : List Frame} {meth : Method} {c : Code} {G : GG} {A : Nat → Prop} {ad : Nat → Nat} (B : MB G p s m args meth c cX6_ended 4 RX6 (some .int)) {r : Int32} {st' : MS} {k29 : MS → Int32 → Int32 → Int32 → Option (Int32 × MS)} (hk29 : ∀ (st : MS) (x1 : Int32) (x2 : Int32) (x3 : Int32) (H : Heap) (locs : List Loc) (ls : Array Slot), k29 st x1 x2 x3 = some (r, st') → MW G A ad st H → va_S A s.heap H locs → lv_has ls 4 [(0, .ref (ad 0)), (1, .int x1), (2, .int x2), (3, .int x3)] → W p l e ({ frames := 1, cells := 0, slots := 0, locals := 23 } : Room) s m args below meth c H locs 0 0 (MQ below (QM G A ad (some (.int r)) st') args s 0 0 A) (F0 m 29 ls [])) : ∀ (st : MS) (x1 : Int32) (x3 : Int32) (y0 : Int32) (H : Heap) (locs : List Loc) (ls : Array Slot), f_X6_ended_55 k29 st x1 x3 y0 = some (r, st') → MW G A ad st H → va_S A s.heap H locs → lv_has ls 4 [(0, .ref (ad 0)), (1, .int x1), (3, .int x3)] → W p l e ({ frames := 1, cells := 0, slots := 0, locals := 23 } : Room) s m args below meth c H locs 0 0 (MQ below (QM G A ad (some (.int r)) st') args s 0 0 A) (F0 m 55 ls [.int y0]) := by
  have ⟨hx, hb, hr, hml, hown, hT, hlocks, hK⟩ := B
  intro st x1 x3 y0 H locs ls h hM hS hl
  rw [f_X6_ended_55] at h
  refine lv_istore_n (lv' := [(2, .int y0), (0, .ref (ad 0)), (1, .int x1), (3, .int x3)]) hx hb dX6_ended_55 rfl hl (by decide) rfl (fun ls hl => ?_)
  refine lv_iinc (v := (x3 + 1)) (lv' := [(3, .int (x3 + 1)), (2, .int y0), (0, .ref (ad 0)), (1, .int x1)]) hx hb dX6_ended_56 hl (k := 3) rfl rfl (by decide) rfl (fun ls hl => ?_)
  refine lv_goto (tgt := 29) hx hb dX6_ended_59 (by decide) ?_
  exact hk29 _ _ _ _ _ _ _ h hM hS (lv_sub hl [2, 3, 1, 0] rfl)
set_option maxHeartbeats 4000000 in
set_option maxRecDepth 100000 in
theorem w_X6_ended_29 {p : Program} {l : Launch} {e : Env} {s : State} {m : MethodId} {args : Array Value} {below : List Frame} {meth : Method} {c : Code} {G : GG} {A : Nat → Prop} {ad : Nat → Nat} (B : MB G p s m args meth c cX6_ended 4 RX6 (some .int)) {r : Int32} {st' : MS} : ∀ (n : Nat) (st : MS) (x1 : Int32) (x2 : Int32) (x3 : Int32) (H : Heap) (locs : List Loc) (ls : Array Slot), f_X6_ended_29 n st x1 x2 x3 = some (r, st') → MW G A ad st H → va_S A s.heap H locs → lv_has ls 4 [(0, .ref (ad 0)), (1, .int x1), (2, .int x2), (3, .int x3)] → W p l e ({ frames := 1, cells := 0, slots := 0, locals := 23 } : Room) s m args below meth c H locs 0 0 (MQ below (QM G A ad (some (.int r)) st') args s 0 0 A) (F0 m 29 ls []) := by
  have ⟨hx, hb, hr, hml, hown, hT, hlocks, hK⟩ := B
  intro n
  induction n with
  | zero =>
    intro st x1 x2 x3 H locs ls h
    cases h
  | succ n ih =>
    intro st x1 x2 x3 H locs ls h hM hS hl
    rw [f_X6_ended_29] at h
    refine lv_iload_n hx hb dX6_ended_29 rfl (lv_at hl 3 rfl) ?_
    refine lv_aload_n hx hb dX6_ended_30 rfl (lv_at hl 0 rfl) ?_
    refine mw_get B hM 2 (by decide) wf_RX6_95 rfl (v := .int (st.1 2)) rfl dX6_ended_31 ?_
    refine lv_icmp_ge (tgt := 62) hx hb dX6_ended_34 (by decide) (fun c1 => ?_) (fun c1 => ?_)
    · have h := bi_t c1 h
      refine lv_iload_n hx hb dX6_ended_62 rfl (lv_at hl 2 rfl) ?_
      cases h
      exact mw_iret B hM hS dX6_ended_63
    · have h := bi_f c1 h
      refine lv_aload_n hx hb dX6_ended_37 rfl (lv_at hl 0 rfl) ?_
      refine lv_iload_n hx hb dX6_ended_38 rfl (lv_at hl 3 rfl) ?_
      refine lv_iconst (v := 1) hx hb dX6_ended_39 (by decide) ?_
      refine lv_iadd hx hb dX6_ended_40 ?_
      obtain ⟨r2, t3, e4, h⟩ := bd_e h
      refine mw_callV B hM hS [.int (x3 + 1)] (n := 1) (v := (some (.int r2))) (c_X6_begins e4) wm_RX6_147 wi_yX6_begins ws_yX6_begins wc_yX6_begins rfl rfl (by decide +kernel) ⟨Nat.le_of_ble_eq_true rfl, Nat.le_of_ble_eq_true rfl⟩ ⟨Nat.le_refl 0, Nat.le_refl 0⟩ rfl hl.1 (Nat.le_of_ble_eq_true rfl) rfl dX6_ended_41 (fun H locs hM hS => ?_)
      refine lv_iload_n hx hb dX6_ended_44 rfl (lv_at hl 1 rfl) ?_
      refine lv_icmp_gt (tgt := 54) hx hb dX6_ended_45 (by decide) (fun c5 => ?_) (fun c5 => ?_)
      · have h := bi_t c5 h
        refine lv_iload_n hx hb dX6_ended_54 rfl (lv_at hl 2 rfl) ?_
        exact w_X6_ended_55 B ih _ _ _ _ _ _ _ h hM hS (lv_sub hl [0, 1, 3] rfl)
      · have h := bi_f c5 h
        refine lv_iload_n hx hb dX6_ended_48 rfl (lv_at hl 2 rfl) ?_
        refine lv_iconst (v := 1) hx hb dX6_ended_49 (by decide) ?_
        refine lv_iadd hx hb dX6_ended_50 ?_
        refine lv_goto (tgt := 55) hx hb dX6_ended_51 (by decide) ?_
        exact w_X6_ended_55 B ih _ _ _ _ _ _ _ h hM hS (lv_sub hl [0, 1, 3] rfl)
set_option maxHeartbeats 4000000 in
set_option maxRecDepth 100000 in
theorem w_X6_ended_17 {p : Program} {l : Launch} {e : Env} {s : State} {m : MethodId} {args : Array Value} {below : List Frame} {meth : Method} {c : Code} {G : GG} {A : Nat → Prop} {ad : Nat → Nat} (B : MB G p s m args meth c cX6_ended 4 RX6 (some .int)) {r : Int32} {st' : MS} : ∀ (st : MS) (x1 : Int32) (y1 : Int32) (H : Heap) (locs : List Loc) (ls : Array Slot), f_X6_ended_17 st x1 y1 = some (r, st') → MW G A ad st H → va_S A s.heap H locs → lv_has ls 4 [(0, .ref (ad 0)), (1, .int x1)] → W p l e ({ frames := 1, cells := 0, slots := 0, locals := 23 } : Room) s m args below meth c H locs 0 0 (MQ below (QM G A ad (some (.int r)) st') args s 0 0 A) (F0 m 17 ls [.int y1, .ref (ad 0)]) := by
  have ⟨hx, hb, hr, hml, hown, hT, hlocks, hK⟩ := B
  intro st x1 y1 H locs ls h hM hS hl
  rw [f_X6_ended_17] at h
  obtain ⟨r1, t2, e3, h⟩ := bd_e h
  refine mw_callV B hM hS [.int y1] (n := 1) (v := (some (.int r1))) (c_X6_fails e3) wm_RX6_102 wi_yX6_fails ws_yX6_fails wc_yX6_fails rfl rfl (by decide +kernel) ⟨Nat.le_of_ble_eq_true rfl, Nat.le_of_ble_eq_true rfl⟩ ⟨Nat.le_refl 0, Nat.le_refl 0⟩ rfl hl.1 (Nat.le_of_ble_eq_true rfl) rfl dX6_ended_17 (fun H locs hM hS => ?_)
  refine lv_if_eq (tgt := 25) hx hb dX6_ended_20 (by decide) (fun c4 => ?_) (fun c4 => ?_)
  · have h := bi_t c4 h
    refine lv_iconst (v := 0) hx hb dX6_ended_25 (by decide) ?_
    refine lv_istore_n (lv' := [(2, .int 0), (0, .ref (ad 0)), (1, .int x1)]) hx hb dX6_ended_26 rfl hl (by decide) rfl (fun ls hl => ?_)
    refine lv_iconst (v := 0) hx hb dX6_ended_27 (by decide) ?_
    refine lv_istore_n (lv' := [(3, .int 0), (2, .int 0), (0, .ref (ad 0)), (1, .int x1)]) hx hb dX6_ended_28 rfl hl (by decide) rfl (fun ls hl => ?_)
    exact w_X6_ended_29 B FU _ _ _ _ _ _ _ h hM hS (lv_sub hl [2, 3, 1, 0] rfl)
  · have h := bi_f c4 h
    refine lv_iconst (v := 0) hx hb dX6_ended_23 (by decide) ?_
    cases h
    exact mw_iret B hM hS dX6_ended_24
set_option maxHeartbeats 4000000 in
set_option maxRecDepth 100000 in
theorem w_X6_ended {p : Program} {l : Launch} {e : Env} {s : State} {m : MethodId} {args : Array Value} {below : List Frame} {meth : Method} {c : Code} {G : GG} {A : Nat → Prop} {ad : Nat → Nat} (B : MB G p s m args meth c cX6_ended 4 RX6 (some .int)) {r : Int32} {st' : MS} : ∀ (st : MS) (x1 : Int32) (H : Heap) (locs : List Loc) (ls : Array Slot), f_X6_ended st x1 = some (r, st') → MW G A ad st H → va_S A s.heap H locs → lv_has ls 4 [(0, .ref (ad 0)), (1, .int x1)] → W p l e ({ frames := 1, cells := 0, slots := 0, locals := 23 } : Room) s m args below meth c H locs 0 0 (MQ below (QM G A ad (some (.int r)) st') args s 0 0 A) (F0 m 0 ls []) := by
  have ⟨hx, hb, hr, hml, hown, hT, hlocks, hK⟩ := B
  intro st x1 H locs ls h hM hS hl
  rw [f_X6_ended] at h
  refine lv_aload_n hx hb dX6_ended_0 rfl (lv_at hl 0 rfl) ?_
  refine lv_iload_n hx hb dX6_ended_1 rfl (lv_at hl 1 rfl) ?_
  refine lv_iconst (v := 0) hx hb dX6_ended_2 (by decide) ?_
  refine lv_sipush (v := 9999) hx hb dX6_ended_3 (by decide) ?_
  obtain ⟨r1, t2, e3, h⟩ := bd_e h
  refine mw_callS B hM hS [.int x1, .int 0, .int 9999] (n := 3) (v := (some (.int r1))) (c_X6_in e3) wm_RX6_91 wt_yX6_in wc_yX6_in rfl rfl (by decide +kernel) ⟨Nat.le_of_ble_eq_true rfl, Nat.le_of_ble_eq_true rfl⟩ ⟨Nat.le_refl 0, Nat.le_refl 0⟩ rfl hl.1 (Nat.le_of_ble_eq_true rfl) rfl dX6_ended_6 (fun H locs hM hS => ?_)
  refine lv_if_eq (tgt := 16) hx hb dX6_ended_9 (by decide) (fun c4 => ?_) (fun c4 => ?_)
  · have h := bi_t c4 h
    refine lv_iconst (v := 1) hx hb dX6_ended_16 (by decide) ?_
    exact w_X6_ended_17 B _ _ _ _ _ _ h hM hS (lv_sub hl [0, 1] rfl)
  · have h := bi_f c4 h
    refine lv_iconst (v := 0) hx hb dX6_ended_12 (by decide) ?_
    refine lv_goto (tgt := 17) hx hb dX6_ended_13 (by decide) ?_
    exact w_X6_ended_17 B _ _ _ _ _ _ h hM hS (lv_sub hl [0, 1] rfl)
theorem c_X6_ended {l : Launch} {G : GG} {A : Nat → Prop} {ad : Nat → Nat} {st : MS} {x1 : Int32} {r : Int32} {st' : MS} (h : f_X6_ended st x1 = some (r, st')) : Met l yX6_ended (Cond.code yX6_ended cX6_ended 4 (some .int) :: TG) ({ frames := 1, cells := 0, slots := 0, locals := 23 } : Room) (PM G A ad st [.ref (ad 0), .int x1]) (QM G A ad (some (.int r)) st') 0 0 A :=
  mw_of (own := RX6) (by decide +kernel) rfl rfl rfl (Nat.le_of_ble_eq_true rfl) fun p e s m below meth c ls B hM hS hl => w_X6_ended B _ _ _ _ _ h hM hS hl
set_option maxHeartbeats 4000000 in
set_option maxRecDepth 100000 in
theorem w_X6_lock_57 {p : Program} {l : Launch} {e : Env} {s : State} {m : MethodId} {args : Array Value} {below : List Frame} {meth : Method} {c : Code} {G : GG} {A : Nat → Prop} {ad : Nat → Nat} (B : MB G p s m args meth c cX6_lock 3 RX6 (some .boolean)) {r : Int32} {st' : MS} : ∀ (st : MS) (x1 : Int32) (H : Heap) (locs : List Loc) (ls : Array Slot), f_X6_lock_57 st x1 = some (r, st') → MW G A ad st H → va_S A s.heap H locs → lv_has ls 3 [(0, .ref (ad 0)), (1, .int x1)] → W p l e ({ frames := 0, cells := 0, slots := 0, locals := 0 } : Room) s m args below meth c H locs 0 0 (MQ below (QM G A ad (some (.int r)) st') args s 0 0 A) (F0 m 57 ls []) := by
  have ⟨hx, hb, hr, hml, hown, hT, hlocks, hK⟩ := B
  intro st x1 H locs ls h hM hS hl
  rw [f_X6_lock_57] at h
  refine lv_aload_n hx hb dX6_lock_57 rfl (lv_at hl 0 rfl) ?_
  refine lv_iconst (v := 1) hx hb dX6_lock_58 (by decide) ?_
  refine mw_put B hM hS 15 (by decide) wf_RX6_106 rfl rfl rfl rfl rfl dX6_lock_59 (fun H locs hM hS => ?_)
  refine lv_iload_n hx hb dX6_lock_62 rfl (lv_at hl 1 rfl) ?_
  obtain ⟨g1, h⟩ := gd_e h
  cases h
  exact mw_zret B hM hS g1 dX6_lock_63
set_option maxHeartbeats 4000000 in
set_option maxRecDepth 100000 in
theorem w_X6_lock_12 {p : Program} {l : Launch} {e : Env} {s : State} {m : MethodId} {args : Array Value} {below : List Frame} {meth : Method} {c : Code} {G : GG} {A : Nat → Prop} {ad : Nat → Nat} (B : MB G p s m args meth c cX6_lock 3 RX6 (some .boolean)) {r : Int32} {st' : MS} : ∀ (n : Nat) (st : MS) (x1 : Int32) (x2 : Int32) (H : Heap) (locs : List Loc) (ls : Array Slot), f_X6_lock_12 n st x1 x2 = some (r, st') → MW G A ad st H → va_S A s.heap H locs → lv_has ls 3 [(0, .ref (ad 0)), (1, .int x1), (2, .int x2)] → W p l e ({ frames := 0, cells := 0, slots := 0, locals := 0 } : Room) s m args below meth c H locs 0 0 (MQ below (QM G A ad (some (.int r)) st') args s 0 0 A) (F0 m 12 ls []) := by
  have ⟨hx, hb, hr, hml, hown, hT, hlocks, hK⟩ := B
  intro n
  induction n with
  | zero =>
    intro st x1 x2 H locs ls h
    cases h
  | succ n ih =>
    intro st x1 x2 H locs ls h hM hS hl
    rw [f_X6_lock_12] at h
    refine lv_iload_n hx hb dX6_lock_12 rfl (lv_at hl 2 rfl) ?_
    refine lv_aload_n hx hb dX6_lock_13 rfl (lv_at hl 0 rfl) ?_
    refine mw_get B hM 2 (by decide) wf_RX6_95 rfl (v := .int (st.1 2)) rfl dX6_lock_14 ?_
    refine lv_icmp_ge (tgt := 57) hx hb dX6_lock_17 (by decide) (fun c1 => ?_) (fun c1 => ?_)
    · have h := bi_t c1 h
      exact w_X6_lock_57 B _ _ _ _ _ h hM hS (lv_sub hl [0, 1] rfl)
    · have h := bi_f c1 h
      refine lv_iload_n hx hb dX6_lock_20 rfl (lv_at hl 1 rfl) ?_
      refine lv_if_ne (tgt := 57) hx hb dX6_lock_21 (by decide) (fun c2 => ?_) (fun c2 => ?_)
      · have h := bi_f c2 h
        exact w_X6_lock_57 B _ _ _ _ _ h hM hS (lv_sub hl [0, 1] rfl)
      · have h := bi_t c2 h
        refine lv_aload_n hx hb dX6_lock_24 rfl (lv_at hl 0 rfl) ?_
        refine mw_get B hM 9 (by decide) wf_RX6_30 rfl (v := .ref (ad 9)) rfl dX6_lock_25 ?_
        refine lv_aload_n hx hb dX6_lock_28 rfl (lv_at hl 0 rfl) ?_
        refine mw_get B hM 3 (by decide) wf_RX6_7 rfl (v := .ref (ad 3)) rfl dX6_lock_29 ?_
        refine lv_iload_n hx hb dX6_lock_32 rfl (lv_at hl 2 rfl) ?_
        obtain ⟨g3, h⟩ := gd_e h
        refine mw_iald B hM 3 (by decide) (by decide) rfl g3 dX6_lock_33 ?_
        refine lv_iload_n hx hb dX6_lock_34 rfl (lv_at hl 2 rfl) ?_
        refine lv_iconst (v := 1) hx hb dX6_lock_35 (by decide) ?_
        refine lv_iadd hx hb dX6_lock_36 ?_
        obtain ⟨g4, h⟩ := gd_e h
        refine mw_iast B hM hS 9 (by decide) (by decide) rfl g4 dX6_lock_37 (fun H locs hM hS => ?_)
        refine lv_aload_n hx hb dX6_lock_38 rfl (lv_at hl 0 rfl) ?_
        refine mw_get B hM 10 (by decide) wf_RX6_33 rfl (v := .ref (ad 10)) rfl dX6_lock_39 ?_
        refine lv_aload_n hx hb dX6_lock_42 rfl (lv_at hl 0 rfl) ?_
        refine mw_get B hM 3 (by decide) wf_RX6_7 rfl (v := .ref (ad 3)) rfl dX6_lock_43 ?_
        refine lv_iload_n hx hb dX6_lock_46 rfl (lv_at hl 2 rfl) ?_
        obtain ⟨g5, h⟩ := gd_e h
        refine mw_iald B hM 3 (by decide) (by decide) rfl g5 dX6_lock_47 ?_
        refine lv_bipush (v := 45) hx hb dX6_lock_48 (by decide) ?_
        obtain ⟨g6, h⟩ := gd_e h
        refine mw_cast B hM hS 10 (by decide) (by decide) rfl g6 dX6_lock_50 (fun H locs hM hS => ?_)
        refine lv_iinc (v := (x2 + 1)) (lv' := [(2, .int (x2 + 1)), (0, .ref (ad 0)), (1, .int x1)]) hx hb dX6_lock_51 hl (k := 2) rfl rfl (by decide) rfl (fun ls hl => ?_)
        refine lv_goto (tgt := 12) hx hb dX6_lock_54 (by decide) ?_
        exact ih _ _ _ _ _ _ h hM hS (lv_sub hl [1, 2, 0] rfl)
set_option maxHeartbeats 4000000 in
set_option maxRecDepth 100000 in
theorem w_X6_lock {p : Program} {l : Launch} {e : Env} {s : State} {m : MethodId} {args : Array Value} {below : List Frame} {meth : Method} {c : Code} {G : GG} {A : Nat → Prop} {ad : Nat → Nat} (B : MB G p s m args meth c cX6_lock 3 RX6 (some .boolean)) {r : Int32} {st' : MS} : ∀ (st : MS) (H : Heap) (locs : List Loc) (ls : Array Slot), f_X6_lock st = some (r, st') → MW G A ad st H → va_S A s.heap H locs → lv_has ls 3 [(0, .ref (ad 0))] → W p l e ({ frames := 0, cells := 0, slots := 0, locals := 0 } : Room) s m args below meth c H locs 0 0 (MQ below (QM G A ad (some (.int r)) st') args s 0 0 A) (F0 m 0 ls []) := by
  have ⟨hx, hb, hr, hml, hown, hT, hlocks, hK⟩ := B
  intro st  H locs ls h hM hS hl
  rw [f_X6_lock] at h
  refine lv_aload_n hx hb dX6_lock_0 rfl (lv_at hl 0 rfl) ?_
  refine lv_iconst (v := 0) hx hb dX6_lock_1 (by decide) ?_
  refine mw_put B hM hS 0 (by decide) wf_RX6_84 rfl rfl rfl rfl rfl dX6_lock_2 (fun H locs hM hS => ?_)
  refine lv_aload_n hx hb dX6_lock_5 rfl (lv_at hl 0 rfl) ?_
  refine mw_get B hM 15 (by decide) wf_RX6_106 rfl (v := .int ((setS st 0 0).1 15)) rfl dX6_lock_6 ?_
  refine lv_istore_n (lv' := [(1, .int ((setS st 0 0).1 15)), (0, .ref (ad 0))]) hx hb dX6_lock_9 rfl hl (by decide) rfl (fun ls hl => ?_)
  refine lv_iconst (v := 0) hx hb dX6_lock_10 (by decide) ?_
  refine lv_istore_n (lv' := [(2, .int 0), (1, .int ((setS st 0 0).1 15)), (0, .ref (ad 0))]) hx hb dX6_lock_11 rfl hl (by decide) rfl (fun ls hl => ?_)
  exact w_X6_lock_12 B FU _ _ _ _ _ _ h hM hS (lv_sub hl [2, 1, 0] rfl)
theorem c_X6_lock {l : Launch} {G : GG} {A : Nat → Prop} {ad : Nat → Nat} {st : MS} {r : Int32} {st' : MS} (h : f_X6_lock st = some (r, st')) : Met l yX6_lock (Cond.code yX6_lock cX6_lock 3 (some .boolean) :: TG) ({ frames := 0, cells := 0, slots := 0, locals := 0 } : Room) (PM G A ad st [.ref (ad 0)]) (QM G A ad (some (.int r)) st') 0 0 A :=
  mw_of (own := RX6) (by decide +kernel) rfl rfl rfl (Nat.le_of_ble_eq_true rfl) fun p e s m below meth c ls B hM hS hl => w_X6_lock B _ _ _ _ h hM hS hl
set_option maxHeartbeats 4000000 in
set_option maxRecDepth 100000 in
theorem w_X6_hasName_22 {p : Program} {l : Launch} {e : Env} {s : State} {m : MethodId} {args : Array Value} {below : List Frame} {meth : Method} {c : Code} {G : GG} {A : Nat → Prop} {ad : Nat → Nat} (B : MB G p s m args meth c cX6_hasName 2 RX6 (some .boolean)) {r : Int32} {st' : MS} : ∀ (st : MS) (y0 : Int32) (H : Heap) (locs : List Loc) (ls : Array Slot), f_X6_hasName_22 st y0 = some (r, st') → MW G A ad st H → va_S A s.heap H locs → lv_has ls 2 [] → W p l e ({ frames := 1, cells := 0, slots := 0, locals := 23 } : Room) s m args below meth c H locs 0 0 (MQ below (QM G A ad (some (.int r)) st') args s 0 0 A) (F0 m 22 ls [.int y0]) := by
  have ⟨hx, hb, hr, hml, hown, hT, hlocks, hK⟩ := B
  intro st y0 H locs ls h hM hS hl
  rw [f_X6_hasName_22] at h
  obtain ⟨g1, h⟩ := gd_e h
  cases h
  exact mw_zret B hM hS g1 dX6_hasName_22
set_option maxHeartbeats 4000000 in
set_option maxRecDepth 100000 in
theorem w_X6_hasName_17 {p : Program} {l : Launch} {e : Env} {s : State} {m : MethodId} {args : Array Value} {below : List Frame} {meth : Method} {c : Code} {G : GG} {A : Nat → Prop} {ad : Nat → Nat} (B : MB G p s m args meth c cX6_hasName 2 RX6 (some .boolean)) {r : Int32} {st' : MS} : ∀ (st : MS) (H : Heap) (locs : List Loc) (ls : Array Slot), f_X6_hasName_17 st = some (r, st') → MW G A ad st H → va_S A s.heap H locs → lv_has ls 2 [] → W p l e ({ frames := 1, cells := 0, slots := 0, locals := 23 } : Room) s m args below meth c H locs 0 0 (MQ below (QM G A ad (some (.int r)) st') args s 0 0 A) (F0 m 17 ls []) := by
  have ⟨hx, hb, hr, hml, hown, hT, hlocks, hK⟩ := B
  intro st  H locs ls h hM hS hl
  rw [f_X6_hasName_17] at h
  refine lv_iconst (v := 1) hx hb dX6_hasName_17 (by decide) ?_
  refine lv_goto (tgt := 22) hx hb dX6_hasName_18 (by decide) ?_
  exact w_X6_hasName_22 B _ _ _ _ _ h hM hS (lv_sub hl [] rfl)
set_option maxHeartbeats 4000000 in
set_option maxRecDepth 100000 in
theorem w_X6_hasName {p : Program} {l : Launch} {e : Env} {s : State} {m : MethodId} {args : Array Value} {below : List Frame} {meth : Method} {c : Code} {G : GG} {A : Nat → Prop} {ad : Nat → Nat} (B : MB G p s m args meth c cX6_hasName 2 RX6 (some .boolean)) {r : Int32} {st' : MS} : ∀ (st : MS) (x1 : Int32) (H : Heap) (locs : List Loc) (ls : Array Slot), f_X6_hasName st x1 = some (r, st') → MW G A ad st H → va_S A s.heap H locs → lv_has ls 2 [(0, .ref (ad 0)), (1, .int x1)] → W p l e ({ frames := 1, cells := 0, slots := 0, locals := 23 } : Room) s m args below meth c H locs 0 0 (MQ below (QM G A ad (some (.int r)) st') args s 0 0 A) (F0 m 0 ls []) := by
  have ⟨hx, hb, hr, hml, hown, hT, hlocks, hK⟩ := B
  intro st x1 H locs ls h hM hS hl
  rw [f_X6_hasName] at h
  refine lv_aload_n hx hb dX6_hasName_0 rfl (lv_at hl 0 rfl) ?_
  refine lv_iload_n hx hb dX6_hasName_1 rfl (lv_at hl 1 rfl) ?_
  obtain ⟨r1, t2, e3, h⟩ := bd_e h
  refine mw_callV B hM hS [.int x1] (n := 1) (v := (some (.int r1))) (c_X6_placeOf e3) wm_RX6_121 wi_yX6_placeOf ws_yX6_placeOf wc_yX6_placeOf rfl rfl (by decide +kernel) ⟨Nat.le_of_ble_eq_true rfl, Nat.le_of_ble_eq_true rfl⟩ ⟨Nat.le_refl 0, Nat.le_refl 0⟩ rfl hl.1 (Nat.le_of_ble_eq_true rfl) rfl dX6_hasName_2 (fun H locs hM hS => ?_)
  refine lv_if_ge (tgt := 17) hx hb dX6_hasName_5 (by decide) (fun c4 => ?_) (fun c4 => ?_)
  · have h := bi_t c4 h
    exact w_X6_hasName_17 B _ _ _ _ h hM hS (lv_sub hl [] rfl)
  · have h := bi_f c4 h
    refine lv_aload_n hx hb dX6_hasName_8 rfl (lv_at hl 0 rfl) ?_
    refine mw_get B hM 9 (by decide) wf_RX6_30 rfl (v := .ref (ad 9)) rfl dX6_hasName_9 ?_
    refine lv_iload_n hx hb dX6_hasName_12 rfl (lv_at hl 1 rfl) ?_
    obtain ⟨g5, h⟩ := gd_e h
    refine mw_iald B hM 9 (by decide) (by decide) rfl g5 dX6_hasName_13 ?_
    refine lv_if_lt (tgt := 21) hx hb dX6_hasName_14 (by decide) (fun c6 => ?_) (fun c6 => ?_)
    · have h := bi_t c6 h
      refine lv_iconst (v := 0) hx hb dX6_hasName_21 (by decide) ?_
      exact w_X6_hasName_22 B _ _ _ _ _ h hM hS (lv_sub hl [] rfl)
    · have h := bi_f c6 h
      exact w_X6_hasName_17 B _ _ _ _ h hM hS (lv_sub hl [] rfl)
theorem c_X6_hasName {l : Launch} {G : GG} {A : Nat → Prop} {ad : Nat → Nat} {st : MS} {x1 : Int32} {r : Int32} {st' : MS} (h : f_X6_hasName st x1 = some (r, st')) : Met l yX6_hasName (Cond.code yX6_hasName cX6_hasName 2 (some .boolean) :: TG) ({ frames := 1, cells := 0, slots := 0, locals := 23 } : Room) (PM G A ad st [.ref (ad 0), .int x1]) (QM G A ad (some (.int r)) st') 0 0 A :=
  mw_of (own := RX6) (by decide +kernel) rfl rfl rfl (Nat.le_of_ble_eq_true rfl) fun p e s m below meth c ls B hM hS hl => w_X6_hasName B _ _ _ _ _ h hM hS hl
set_option maxHeartbeats 4000000 in
set_option maxRecDepth 100000 in
theorem w_X6_numberOf_23 {p : Program} {l : Launch} {e : Env} {s : State} {m : MethodId} {args : Array Value} {below : List Frame} {meth : Method} {c : Code} {G : GG} {A : Nat → Prop} {ad : Nat → Nat} (B : MB G p s m args meth c cX6_numberOf 2 RX6 (some .int)) {r : Int32} {st' : MS} : ∀ (st : MS) (y0 : Int32) (H : Heap) (locs : List Loc) (ls : Array Slot), f_X6_numberOf_23 st y0 = some (r, st') → MW G A ad st H → va_S A s.heap H locs → lv_has ls 2 [] → W p l e ({ frames := 1, cells := 0, slots := 0, locals := 23 } : Room) s m args below meth c H locs 0 0 (MQ below (QM G A ad (some (.int r)) st') args s 0 0 A) (F0 m 23 ls [.int y0]) := by
  have ⟨hx, hb, hr, hml, hown, hT, hlocks, hK⟩ := B
  intro st y0 H locs ls h hM hS hl
  rw [f_X6_numberOf_23] at h
  cases h
  exact mw_iret B hM hS dX6_numberOf_23
set_option maxHeartbeats 4000000 in
set_option maxRecDepth 100000 in
theorem w_X6_numberOf {p : Program} {l : Launch} {e : Env} {s : State} {m : MethodId} {args : Array Value} {below : List Frame} {meth : Method} {c : Code} {G : GG} {A : Nat → Prop} {ad : Nat → Nat} (B : MB G p s m args meth c cX6_numberOf 2 RX6 (some .int)) {r : Int32} {st' : MS} : ∀ (st : MS) (x1 : Int32) (H : Heap) (locs : List Loc) (ls : Array Slot), f_X6_numberOf st x1 = some (r, st') → MW G A ad st H → va_S A s.heap H locs → lv_has ls 2 [(0, .ref (ad 0)), (1, .int x1)] → W p l e ({ frames := 1, cells := 0, slots := 0, locals := 23 } : Room) s m args below meth c H locs 0 0 (MQ below (QM G A ad (some (.int r)) st') args s 0 0 A) (F0 m 0 ls []) := by
  have ⟨hx, hb, hr, hml, hown, hT, hlocks, hK⟩ := B
  intro st x1 H locs ls h hM hS hl
  rw [f_X6_numberOf] at h
  refine lv_aload_n hx hb dX6_numberOf_0 rfl (lv_at hl 0 rfl) ?_
  refine mw_get B hM 15 (by decide) wf_RX6_106 rfl (v := .int (st.1 15)) rfl dX6_numberOf_1 ?_
  refine lv_if_eq (tgt := 16) hx hb dX6_numberOf_4 (by decide) (fun c1 => ?_) (fun c1 => ?_)
  · have h := bi_t c1 h
    refine lv_aload_n hx hb dX6_numberOf_16 rfl (lv_at hl 0 rfl) ?_
    refine lv_iload_n hx hb dX6_numberOf_17 rfl (lv_at hl 1 rfl) ?_
    obtain ⟨r2, t3, e4, h⟩ := bd_e h
    refine mw_callV B hM hS [.int x1] (n := 1) (v := (some (.int r2))) (c_X6_placeOf e4) wm_RX6_121 wi_yX6_placeOf ws_yX6_placeOf wc_yX6_placeOf rfl rfl (by decide +kernel) ⟨Nat.le_of_ble_eq_true rfl, Nat.le_of_ble_eq_true rfl⟩ ⟨Nat.le_refl 0, Nat.le_refl 0⟩ rfl hl.1 (Nat.le_of_ble_eq_true rfl) rfl dX6_numberOf_18 (fun H locs hM hS => ?_)
    refine lv_iconst (v := 1) hx hb dX6_numberOf_21 (by decide) ?_
    refine lv_iadd hx hb dX6_numberOf_22 ?_
    exact w_X6_numberOf_23 B _ _ _ _ _ h hM hS (lv_sub hl [] rfl)
  · have h := bi_f c1 h
    refine lv_aload_n hx hb dX6_numberOf_7 rfl (lv_at hl 0 rfl) ?_
    refine mw_get B hM 9 (by decide) wf_RX6_30 rfl (v := .ref (ad 9)) rfl dX6_numberOf_8 ?_
    refine lv_iload_n hx hb dX6_numberOf_11 rfl (lv_at hl 1 rfl) ?_
    obtain ⟨g5, h⟩ := gd_e h
    refine mw_iald B hM 9 (by decide) (by decide) rfl g5 dX6_numberOf_12 ?_
    refine lv_goto (tgt := 23) hx hb dX6_numberOf_13 (by decide) ?_
    exact w_X6_numberOf_23 B _ _ _ _ _ h hM hS (lv_sub hl [] rfl)
theorem c_X6_numberOf {l : Launch} {G : GG} {A : Nat → Prop} {ad : Nat → Nat} {st : MS} {x1 : Int32} {r : Int32} {st' : MS} (h : f_X6_numberOf st x1 = some (r, st')) : Met l yX6_numberOf (Cond.code yX6_numberOf cX6_numberOf 2 (some .int) :: TG) ({ frames := 1, cells := 0, slots := 0, locals := 23 } : Room) (PM G A ad st [.ref (ad 0), .int x1]) (QM G A ad (some (.int r)) st') 0 0 A :=
  mw_of (own := RX6) (by decide +kernel) rfl rfl rfl (Nat.le_of_ble_eq_true rfl) fun p e s m below meth c ls B hM hS hl => w_X6_numberOf B _ _ _ _ _ h hM hS hl
set_option maxHeartbeats 4000000 in
set_option maxRecDepth 100000 in
theorem w_X6_number_41 {p : Program} {l : Launch} {e : Env} {s : State} {m : MethodId} {args : Array Value} {below : List Frame} {meth : Method} {c : Code} {G : GG} {A : Nat → Prop} {ad : Nat → Nat} (B : MB G p s m args meth c cX6_number 2 RX6 (some .int)) {r : Int32} {st' : MS} : ∀ (st : MS) (y0 : Int32) (H : Heap) (locs : List Loc) (ls : Array Slot), f_X6_number_41 st y0 = some (r, st') → MW G A ad st H → va_S A s.heap H locs → lv_has ls 2 [] → W p l e ({ frames := 2, cells := 0, slots := 0, locals := 44 } : Room) s m args below meth c H locs 0 0 (MQ below (QM G A ad (some (.int r)) st') args s 0 0 A) (F0 m 41 ls [.int y0]) := by
  have ⟨hx, hb, hr, hml, hown, hT, hlocks, hK⟩ := B
  intro st y0 H locs ls h hM hS hl
  rw [f_X6_number_41] at h
  cases h
  exact mw_iret B hM hS dX6_number_41
set_option maxHeartbeats 4000000 in
set_option maxRecDepth 100000 in
theorem w_X6_number_26 {p : Program} {l : Launch} {e : Env} {s : State} {m : MethodId} {args : Array Value} {below : List Frame} {meth : Method} {c : Code} {G : GG} {A : Nat → Prop} {ad : Nat → Nat} (B : MB G p s m args meth c cX6_number 2 RX6 (some .int)) {r : Int32} {st' : MS} : ∀ (st : MS) (x1 : Int32) (y1 : Int32) (H : Heap) (locs : List Loc) (ls : Array Slot), f_X6_number_26 st x1 y1 = some (r, st') → MW G A ad st H → va_S A s.heap H locs → lv_has ls 2 [(0, .ref (ad 0)), (1, .int x1)] → W p l e ({ frames := 2, cells := 0, slots := 0, locals := 44 } : Room) s m args below meth c H locs 0 0 (MQ below (QM G A ad (some (.int r)) st') args s 0 0 A) (F0 m 26 ls [.int y1, .ref (ad 0)]) := by
  have ⟨hx, hb, hr, hml, hown, hT, hlocks, hK⟩ := B
  intro st x1 y1 H locs ls h hM hS hl
  rw [f_X6_number_26] at h
  obtain ⟨r1, t2, e3, h⟩ := bd_e h
  refine mw_callV B hM hS [.int y1] (n := 1) (v := (some (.int r1))) (c_X6_fails e3) wm_RX6_102 wi_yX6_fails ws_yX6_fails wc_yX6_fails rfl rfl (by decide +kernel) ⟨Nat.le_of_ble_eq_true rfl, Nat.le_of_ble_eq_true rfl⟩ ⟨Nat.le_refl 0, Nat.le_refl 0⟩ rfl hl.1 (Nat.le_of_ble_eq_true rfl) rfl dX6_number_26 (fun H locs hM hS => ?_)
  refine lv_if_eq (tgt := 36) hx hb dX6_number_29 (by decide) (fun c4 => ?_) (fun c4 => ?_)
  · have h := bi_t c4 h
    refine lv_aload_n hx hb dX6_number_36 rfl (lv_at hl 0 rfl) ?_
    refine lv_iload_n hx hb dX6_number_37 rfl (lv_at hl 1 rfl) ?_
    obtain ⟨r5, t6, e7, h⟩ := bd_e h
    refine mw_callV B hM hS [.int x1] (n := 1) (v := (some (.int r5))) (c_X6_numberOf e7) wm_RX6_153 wi_yX6_numberOf ws_yX6_numberOf wc_yX6_numberOf rfl rfl (by decide +kernel) ⟨Nat.le_of_ble_eq_true rfl, Nat.le_of_ble_eq_true rfl⟩ ⟨Nat.le_refl 0, Nat.le_refl 0⟩ rfl hl.1 (Nat.le_of_ble_eq_true rfl) rfl dX6_number_38 (fun H locs hM hS => ?_)
    exact w_X6_number_41 B _ _ _ _ _ h hM hS (lv_sub hl [] rfl)
  · have h := bi_f c4 h
    refine lv_iconst (v := 0) hx hb dX6_number_32 (by decide) ?_
    refine lv_goto (tgt := 41) hx hb dX6_number_33 (by decide) ?_
    exact w_X6_number_41 B _ _ _ _ _ h hM hS (lv_sub hl [] rfl)
set_option maxHeartbeats 4000000 in
set_option maxRecDepth 100000 in
theorem w_X6_number {p : Program} {l : Launch} {e : Env} {s : State} {m : MethodId} {args : Array Value} {below : List Frame} {meth : Method} {c : Code} {G : GG} {A : Nat → Prop} {ad : Nat → Nat} (B : MB G p s m args meth c cX6_number 2 RX6 (some .int)) {r : Int32} {st' : MS} : ∀ (st : MS) (x1 : Int32) (H : Heap) (locs : List Loc) (ls : Array Slot), f_X6_number st x1 = some (r, st') → MW G A ad st H → va_S A s.heap H locs → lv_has ls 2 [(0, .ref (ad 0)), (1, .int x1)] → W p l e ({ frames := 2, cells := 0, slots := 0, locals := 44 } : Room) s m args below meth c H locs 0 0 (MQ below (QM G A ad (some (.int r)) st') args s 0 0 A) (F0 m 0 ls []) := by
  have ⟨hx, hb, hr, hml, hown, hT, hlocks, hK⟩ := B
  intro st x1 H locs ls h hM hS hl
  rw [f_X6_number] at h
  refine lv_aload_n hx hb dX6_number_0 rfl (lv_at hl 0 rfl) ?_
  refine lv_aload_n hx hb dX6_number_1 rfl (lv_at hl 0 rfl) ?_
  refine lv_iload_n hx hb dX6_number_2 rfl (lv_at hl 1 rfl) ?_
  obtain ⟨r1, t2, e3, h⟩ := bd_e h
  refine mw_callV B hM hS [.int x1] (n := 1) (v := (some (.int r1))) (c_X6_isShot e3) wm_RX6_118 wi_yX6_isShot ws_yX6_isShot wc_yX6_isShot rfl rfl (by decide +kernel) ⟨Nat.le_of_ble_eq_true rfl, Nat.le_of_ble_eq_true rfl⟩ ⟨Nat.le_refl 0, Nat.le_refl 0⟩ rfl hl.1 (Nat.le_of_ble_eq_true rfl) rfl dX6_number_3 (fun H locs hM hS => ?_)
  refine lv_if_ne (tgt := 13) hx hb dX6_number_6 (by decide) (fun c4 => ?_) (fun c4 => ?_)
  · have h := bi_f c4 h
    refine lv_aload_n hx hb dX6_number_13 rfl (lv_at hl 0 rfl) ?_
    refine lv_iload_n hx hb dX6_number_14 rfl (lv_at hl 1 rfl) ?_
    obtain ⟨r5, t6, e7, h⟩ := bd_e h
    refine mw_callV B hM hS [.int x1] (n := 1) (v := (some (.int r5))) (c_X6_hasName e7) wm_RX6_150 wi_yX6_hasName ws_yX6_hasName wc_yX6_hasName rfl rfl (by decide +kernel) ⟨Nat.le_of_ble_eq_true rfl, Nat.le_of_ble_eq_true rfl⟩ ⟨Nat.le_refl 0, Nat.le_refl 0⟩ rfl hl.1 (Nat.le_of_ble_eq_true rfl) rfl dX6_number_15 (fun H locs hM hS => ?_)
    refine lv_if_ne (tgt := 25) hx hb dX6_number_18 (by decide) (fun c8 => ?_) (fun c8 => ?_)
    · have h := bi_f c8 h
      refine lv_iconst (v := 0) hx hb dX6_number_25 (by decide) ?_
      exact w_X6_number_26 B _ _ _ _ _ _ h hM hS (lv_sub hl [0, 1] rfl)
    · have h := bi_t c8 h
      refine lv_iconst (v := 2) hx hb dX6_number_21 (by decide) ?_
      refine lv_goto (tgt := 26) hx hb dX6_number_22 (by decide) ?_
      exact w_X6_number_26 B _ _ _ _ _ _ h hM hS (lv_sub hl [0, 1] rfl)
  · have h := bi_t c4 h
    refine lv_iconst (v := 1) hx hb dX6_number_9 (by decide) ?_
    refine lv_goto (tgt := 26) hx hb dX6_number_10 (by decide) ?_
    exact w_X6_number_26 B _ _ _ _ _ _ h hM hS (lv_sub hl [0, 1] rfl)
theorem c_X6_number {l : Launch} {G : GG} {A : Nat → Prop} {ad : Nat → Nat} {st : MS} {x1 : Int32} {r : Int32} {st' : MS} (h : f_X6_number st x1 = some (r, st')) : Met l yX6_number (Cond.code yX6_number cX6_number 2 (some .int) :: TG) ({ frames := 2, cells := 0, slots := 0, locals := 44 } : Room) (PM G A ad st [.ref (ad 0), .int x1]) (QM G A ad (some (.int r)) st') 0 0 A :=
  mw_of (own := RX6) (by decide +kernel) rfl rfl rfl (Nat.le_of_ble_eq_true rfl) fun p e s m below meth c ls B hM hS hl => w_X6_number B _ _ _ _ _ h hM hS hl
set_option maxHeartbeats 4000000 in
set_option maxRecDepth 100000 in
theorem w_X6_letter_43 {p : Program} {l : Launch} {e : Env} {s : State} {m : MethodId} {args : Array Value} {below : List Frame} {meth : Method} {c : Code} {G : GG} {A : Nat → Prop} {ad : Nat → Nat} (B : MB G p s m args meth c cX6_letter 2 RX6 (some .char)) {r : Int32} {st' : MS} : ∀ (st : MS) (y0 : Int32) (H : Heap) (locs : List Loc) (ls : Array Slot), f_X6_letter_43 st y0 = some (r, st') → MW G A ad st H → va_S A s.heap H locs → lv_has ls 2 [] → W p l e ({ frames := 2, cells := 0, slots := 0, locals := 44 } : Room) s m args below meth c H locs 0 0 (MQ below (QM G A ad (some (.int r)) st') args s 0 0 A) (F0 m 43 ls [.int y0]) := by
  have ⟨hx, hb, hr, hml, hown, hT, hlocks, hK⟩ := B
  intro st y0 H locs ls h hM hS hl
  rw [f_X6_letter_43] at h
  obtain ⟨g1, h⟩ := gd_e h
  cases h
  exact mw_zret B hM hS g1 dX6_letter_43
set_option maxHeartbeats 4000000 in
set_option maxRecDepth 100000 in
theorem w_X6_letter_26 {p : Program} {l : Launch} {e : Env} {s : State} {m : MethodId} {args : Array Value} {below : List Frame} {meth : Method} {c : Code} {G : GG} {A : Nat → Prop} {ad : Nat → Nat} (B : MB G p s m args meth c cX6_letter 2 RX6 (some .char)) {r : Int32} {st' : MS} : ∀ (st : MS) (x1 : Int32) (y1 : Int32) (H : Heap) (locs : List Loc) (ls : Array Slot), f_X6_letter_26 st x1 y1 = some (r, st') → MW G A ad st H → va_S A s.heap H locs → lv_has ls 2 [(0, .ref (ad 0)), (1, .int x1)] → W p l e ({ frames := 2, cells := 0, slots := 0, locals := 44 } : Room) s m args below meth c H locs 0 0 (MQ below (QM G A ad (some (.int r)) st') args s 0 0 A) (F0 m 26 ls [.int y1, .ref (ad 0)]) := by
  have ⟨hx, hb, hr, hml, hown, hT, hlocks, hK⟩ := B
  intro st x1 y1 H locs ls h hM hS hl
  rw [f_X6_letter_26] at h
  obtain ⟨r1, t2, e3, h⟩ := bd_e h
  refine mw_callV B hM hS [.int y1] (n := 1) (v := (some (.int r1))) (c_X6_fails e3) wm_RX6_102 wi_yX6_fails ws_yX6_fails wc_yX6_fails rfl rfl (by decide +kernel) ⟨Nat.le_of_ble_eq_true rfl, Nat.le_of_ble_eq_true rfl⟩ ⟨Nat.le_refl 0, Nat.le_refl 0⟩ rfl hl.1 (Nat.le_of_ble_eq_true rfl) rfl dX6_letter_26 (fun H locs hM hS => ?_)
  refine lv_if_eq (tgt := 37) hx hb dX6_letter_29 (by decide) (fun c4 => ?_) (fun c4 => ?_)
  · have h := bi_t c4 h
    refine lv_aload_n hx hb dX6_letter_37 rfl (lv_at hl 0 rfl) ?_
    refine mw_get B hM 10 (by decide) wf_RX6_33 rfl (v := .ref (ad 10)) rfl dX6_letter_38 ?_
    refine lv_iload_n hx hb dX6_letter_41 rfl (lv_at hl 1 rfl) ?_
    obtain ⟨g5, h⟩ := gd_e h
    refine mw_cald B hM 10 (by decide) (by decide) rfl g5 dX6_letter_42 ?_
    exact w_X6_letter_43 B _ _ _ _ _ h hM hS (lv_sub hl [] rfl)
  · have h := bi_f c4 h
    refine lv_bipush (v := 32) hx hb dX6_letter_32 (by decide) ?_
    refine lv_goto (tgt := 43) hx hb dX6_letter_34 (by decide) ?_
    exact w_X6_letter_43 B _ _ _ _ _ h hM hS (lv_sub hl [] rfl)
set_option maxHeartbeats 4000000 in
set_option maxRecDepth 100000 in
theorem w_X6_letter {p : Program} {l : Launch} {e : Env} {s : State} {m : MethodId} {args : Array Value} {below : List Frame} {meth : Method} {c : Code} {G : GG} {A : Nat → Prop} {ad : Nat → Nat} (B : MB G p s m args meth c cX6_letter 2 RX6 (some .char)) {r : Int32} {st' : MS} : ∀ (st : MS) (x1 : Int32) (H : Heap) (locs : List Loc) (ls : Array Slot), f_X6_letter st x1 = some (r, st') → MW G A ad st H → va_S A s.heap H locs → lv_has ls 2 [(0, .ref (ad 0)), (1, .int x1)] → W p l e ({ frames := 2, cells := 0, slots := 0, locals := 44 } : Room) s m args below meth c H locs 0 0 (MQ below (QM G A ad (some (.int r)) st') args s 0 0 A) (F0 m 0 ls []) := by
  have ⟨hx, hb, hr, hml, hown, hT, hlocks, hK⟩ := B
  intro st x1 H locs ls h hM hS hl
  rw [f_X6_letter] at h
  refine lv_aload_n hx hb dX6_letter_0 rfl (lv_at hl 0 rfl) ?_
  refine lv_aload_n hx hb dX6_letter_1 rfl (lv_at hl 0 rfl) ?_
  refine lv_iload_n hx hb dX6_letter_2 rfl (lv_at hl 1 rfl) ?_
  obtain ⟨r1, t2, e3, h⟩ := bd_e h
  refine mw_callV B hM hS [.int x1] (n := 1) (v := (some (.int r1))) (c_X6_isShot e3) wm_RX6_118 wi_yX6_isShot ws_yX6_isShot wc_yX6_isShot rfl rfl (by decide +kernel) ⟨Nat.le_of_ble_eq_true rfl, Nat.le_of_ble_eq_true rfl⟩ ⟨Nat.le_refl 0, Nat.le_refl 0⟩ rfl hl.1 (Nat.le_of_ble_eq_true rfl) rfl dX6_letter_3 (fun H locs hM hS => ?_)
  refine lv_if_ne (tgt := 13) hx hb dX6_letter_6 (by decide) (fun c4 => ?_) (fun c4 => ?_)
  · have h := bi_f c4 h
    refine lv_aload_n hx hb dX6_letter_13 rfl (lv_at hl 0 rfl) ?_
    refine lv_iload_n hx hb dX6_letter_14 rfl (lv_at hl 1 rfl) ?_
    obtain ⟨r5, t6, e7, h⟩ := bd_e h
    refine mw_callV B hM hS [.int x1] (n := 1) (v := (some (.int r5))) (c_X6_hasName e7) wm_RX6_150 wi_yX6_hasName ws_yX6_hasName wc_yX6_hasName rfl rfl (by decide +kernel) ⟨Nat.le_of_ble_eq_true rfl, Nat.le_of_ble_eq_true rfl⟩ ⟨Nat.le_refl 0, Nat.le_refl 0⟩ rfl hl.1 (Nat.le_of_ble_eq_true rfl) rfl dX6_letter_15 (fun H locs hM hS => ?_)
    refine lv_if_ne (tgt := 25) hx hb dX6_letter_18 (by decide) (fun c8 => ?_) (fun c8 => ?_)
    · have h := bi_f c8 h
      refine lv_iconst (v := 0) hx hb dX6_letter_25 (by decide) ?_
      exact w_X6_letter_26 B _ _ _ _ _ _ h hM hS (lv_sub hl [0, 1] rfl)
    · have h := bi_t c8 h
      refine lv_iconst (v := 2) hx hb dX6_letter_21 (by decide) ?_
      refine lv_goto (tgt := 26) hx hb dX6_letter_22 (by decide) ?_
      exact w_X6_letter_26 B _ _ _ _ _ _ h hM hS (lv_sub hl [0, 1] rfl)
  · have h := bi_t c4 h
    refine lv_iconst (v := 1) hx hb dX6_letter_9 (by decide) ?_
    refine lv_goto (tgt := 26) hx hb dX6_letter_10 (by decide) ?_
    exact w_X6_letter_26 B _ _ _ _ _ _ h hM hS (lv_sub hl [0, 1] rfl)
theorem c_X6_letter {l : Launch} {G : GG} {A : Nat → Prop} {ad : Nat → Nat} {st : MS} {x1 : Int32} {r : Int32} {st' : MS} (h : f_X6_letter st x1 = some (r, st')) : Met l yX6_letter (Cond.code yX6_letter cX6_letter 2 (some .char) :: TG) ({ frames := 2, cells := 0, slots := 0, locals := 44 } : Room) (PM G A ad st [.ref (ad 0), .int x1]) (QM G A ad (some (.int r)) st') 0 0 A :=
  mw_of (own := RX6) (by decide +kernel) rfl rfl rfl (Nat.le_of_ble_eq_true rfl) fun p e s m below meth c ls B hM hS hl => w_X6_letter B _ _ _ _ _ h hM hS hl
set_option maxHeartbeats 4000000 in
set_option maxRecDepth 100000 in
theorem w_X6_named_85 {p : Program} {l : Launch} {e : Env} {s : State} {m : MethodId} {args : Array Value} {below : List Frame} {meth : Method} {c : Code} {G : GG} {A : Nat → Prop} {ad : Nat → Nat} (B : MB G p s m args meth c cX6_named 5 RX6 (some .int)) {r : Int32} {st' : MS} : ∀ (st : MS) (y0 : Int32) (H : Heap) (locs : List Loc) (ls : Array Slot), f_X6_named_85 st y0 = some (r, st') → MW G A ad st H → va_S A s.heap H locs → lv_has ls 5 [] → W p l e ({ frames := 2, cells := 0, slots := 0, locals := 44 } : Room) s m args below meth c H locs 0 0 (MQ below (QM G A ad (some (.int r)) st') args s 0 0 A) (F0 m 85 ls [.int y0]) := by
  have ⟨hx, hb, hr, hml, hown, hT, hlocks, hK⟩ := B
  intro st y0 H locs ls h hM hS hl
  rw [f_X6_named_85] at h
  cases h
  exact mw_iret B hM hS dX6_named_85
set_option maxHeartbeats 4000000 in
set_option maxRecDepth 100000 in
theorem w_X6_named_74 {p : Program} {l : Launch} {e : Env} {s : State} {m : MethodId} {args : Array Value} {below : List Frame} {meth : Method} {c : Code} {G : GG} {A : Nat → Prop} {ad : Nat → Nat} (B : MB G p s m args meth c cX6_named 5 RX6 (some .int)) {r : Int32} {st' : MS} : ∀ (st : MS) (x3 : Int32) (y1 : Int32) (H : Heap) (locs : List Loc) (ls : Array Slot), f_X6_named_74 st x3 y1 = some (r, st') → MW G A ad st H → va_S A s.heap H locs → lv_has ls 5 [(3, .int x3)] → W p l e ({ frames := 2, cells := 0, slots := 0, locals := 44 } : Room) s m args below meth c H locs 0 0 (MQ below (QM G A ad (some (.int r)) st') args s 0 0 A) (F0 m 74 ls [.int y1, .ref (ad 0)]) := by
  have ⟨hx, hb, hr, hml, hown, hT, hlocks, hK⟩ := B
  intro st x3 y1 H locs ls h hM hS hl
  rw [f_X6_named_74] at h
  obtain ⟨r1, t2, e3, h⟩ := bd_e h
  refine mw_callV B hM hS [.int y1] (n := 1) (v := (some (.int r1))) (c_X6_fails e3) wm_RX6_102 wi_yX6_fails ws_yX6_fails wc_yX6_fails rfl rfl (by decide +kernel) ⟨Nat.le_of_ble_eq_true rfl, Nat.le_of_ble_eq_true rfl⟩ ⟨Nat.le_refl 0, Nat.le_refl 0⟩ rfl hl.1 (Nat.le_of_ble_eq_true rfl) rfl dX6_named_74 (fun H locs hM hS => ?_)
  refine lv_if_eq (tgt := 84) hx hb dX6_named_77 (by decide) (fun c4 => ?_) (fun c4 => ?_)
  · have h := bi_t c4 h
    refine lv_iload_n hx hb dX6_named_84 rfl (lv_at hl 0 rfl) ?_
    exact w_X6_named_85 B _ _ _ _ _ h hM hS (lv_sub hl [] rfl)
  · have h := bi_f c4 h
    refine lv_iconst (v := 0) hx hb dX6_named_80 (by decide) ?_
    refine lv_goto (tgt := 85) hx hb dX6_named_81 (by decide) ?_
    exact w_X6_named_85 B _ _ _ _ _ h hM hS (lv_sub hl [] rfl)
set_option maxHeartbeats 4000000 in
set_option maxRecDepth 100000 in
theorem w_X6_named_56 {p : Program} {l : Launch} {e : Env} {s : State} {m : MethodId} {args : Array Value} {below : List Frame} {meth : Method} {c : Code} {G : GG} {A : Nat → Prop} {ad : Nat → Nat} (B : MB G p s m args meth c cX6_named 5 RX6 (some .int)) {r : Int32} {st' : MS} {k5 : MS → Int32 → Int32 → Int32 → Int32 → Option (Int32 × MS)} (hk5 : ∀ (st : MS) (x1 : Int32) (x2 : Int32) (x3 : Int32) (x4 : Int32) (H : Heap) (locs : List Loc) (ls : Array Slot), k5 st x1 x2 x3 x4 = some (r, st') → MW G A ad st H → va_S A s.heap H locs → lv_has ls 5 [(0, .ref (ad 0)), (1, .int x1), (2, .int x2), (3, .int x3), (4, .int x4)] → W p l e ({ frames := 2, cells := 0, slots := 0, locals := 44 } : Room) s m args below meth c H locs 0 0 (MQ below (QM G A ad (some (.int r)) st') args s 0 0 A) (F0 m 5 ls [])) : ∀ (st : MS) (x1 : Int32) (x2 : Int32) (x4 : Int32) (y0 : Int32) (H : Heap) (locs : List Loc) (ls : Array Slot), f_X6_named_56 k5 st x1 x2 x4 y0 = some (r, st') → MW G A ad st H → va_S A s.heap H locs → lv_has ls 5 [(0, .ref (ad 0)), (1, .int x1), (2, .int x2), (4, .int x4)] → W p l e ({ frames := 2, cells := 0, slots := 0, locals := 44 } : Room) s m args below meth c H locs 0 0 (MQ below (QM G A ad (some (.int r)) st') args s 0 0 A) (F0 m 56 ls [.int y0]) := by
  have ⟨hx, hb, hr, hml, hown, hT, hlocks, hK⟩ := B
  intro st x1 x2 x4 y0 H locs ls h hM hS hl
  rw [f_X6_named_56] at h
  refine lv_istore_n (lv' := [(3, .int y0), (0, .ref (ad 0)), (1, .int x1), (2, .int x2), (4, .int x4)]) hx hb dX6_named_56 rfl hl (by decide) rfl (fun ls hl => ?_)
  refine lv_iinc (v := (x4 + 1)) (lv' := [(4, .int (x4 + 1)), (3, .int y0), (0, .ref (ad 0)), (1, .int x1), (2, .int x2)]) hx hb dX6_named_57 hl (k := 4) rfl rfl (by decide) rfl (fun ls hl => ?_)
  refine lv_goto (tgt := 5) hx hb dX6_named_60 (by decide) ?_
  exact hk5 _ _ _ _ _ _ _ _ h hM hS (lv_sub hl [2, 3, 4, 1, 0] rfl)
set_option maxHeartbeats 4000000 in
set_option maxRecDepth 100000 in
theorem w_X6_named_55 {p : Program} {l : Launch} {e : Env} {s : State} {m : MethodId} {args : Array Value} {below : List Frame} {meth : Method} {c : Code} {G : GG} {A : Nat → Prop} {ad : Nat → Nat} (B : MB G p s m args meth c cX6_named 5 RX6 (some .int)) {r : Int32} {st' : MS} {k5 : MS → Int32 → Int32 → Int32 → Int32 → Option (Int32 × MS)} (hk5 : ∀ (st : MS) (x1 : Int32) (x2 : Int32) (x3 : Int32) (x4 : Int32) (H : Heap) (locs : List Loc) (ls : Array Slot), k5 st x1 x2 x3 x4 = some (r, st') → MW G A ad st H → va_S A s.heap H locs → lv_has ls 5 [(0, .ref (ad 0)), (1, .int x1), (2, .int x2), (3, .int x3), (4, .int x4)] → W p l e ({ frames := 2, cells := 0, slots := 0, locals := 44 } : Room) s m args below meth c H locs 0 0 (MQ below (QM G A ad (some (.int r)) st') args s 0 0 A) (F0 m 5 ls [])) : ∀ (st : MS) (x1 : Int32) (x2 : Int32) (x3 : Int32) (x4 : Int32) (H : Heap) (locs : List Loc) (ls : Array Slot), f_X6_named_55 k5 st x1 x2 x3 x4 = some (r, st') → MW G A ad st H → va_S A s.heap H locs → lv_has ls 5 [(0, .ref (ad 0)), (1, .int x1), (2, .int x2), (3, .int x3), (4, .int x4)] → W p l e ({ frames := 2, cells := 0, slots := 0, locals := 44 } : Room) s m args below meth c H locs 0 0 (MQ below (QM G A ad (some (.int r)) st') args s 0 0 A) (F0 m 55 ls []) := by
  have ⟨hx, hb, hr, hml, hown, hT, hlocks, hK⟩ := B
  intro st x1 x2 x3 x4 H locs ls h hM hS hl
  rw [f_X6_named_55] at h
  refine lv_iload_n hx hb dX6_named_55 rfl (lv_at hl 3 rfl) ?_
  exact w_X6_named_56 B hk5 _ _ _ _ _ _ _ _ h hM hS (lv_sub hl [0, 1, 2, 4] rfl)
set_option maxHeartbeats 4000000 in
set_option maxRecDepth 100000 in
theorem w_X6_named_5 {p : Program} {l : Launch} {e : Env} {s : State} {m : MethodId} {args : Array Value} {below : List Frame} {meth : Method} {c : Code} {G : GG} {A : Nat → Prop} {ad : Nat → Nat} (B : MB G p s m args meth c cX6_named 5 RX6 (some .int)) {r : Int32} {st' : MS} : ∀ (n : Nat) (st : MS) (x1 : Int32) (x2 : Int32) (x3 : Int32) (x4 : Int32) (H : Heap) (locs : List Loc) (ls : Array Slot), f_X6_named_5 n st x1 x2 x3 x4 = some (r, st') → MW G A ad st H → va_S A s.heap H locs → lv_has ls 5 [(0, .ref (ad 0)), (1, .int x1), (2, .int x2), (3, .int x3), (4, .int x4)] → W p l e ({ frames := 2, cells := 0, slots := 0, locals := 44 } : Room) s m args below meth c H locs 0 0 (MQ below (QM G A ad (some (.int r)) st') args s 0 0 A) (F0 m 5 ls []) := by
  have ⟨hx, hb, hr, hml, hown, hT, hlocks, hK⟩ := B
  intro n
  induction n with
  | zero =>
    intro st x1 x2 x3 x4 H locs ls h
    cases h
  | succ n ih =>
    intro st x1 x2 x3 x4 H locs ls h hM hS hl
    rw [f_X6_named_5] at h
    refine lv_iload hx hb dX6_named_5 (lv_at hl 4 rfl) ?_
    refine lv_aload_n hx hb dX6_named_7 rfl (lv_at hl 0 rfl) ?_
    refine mw_get B hM 2 (by decide) wf_RX6_95 rfl (v := .int (st.1 2)) rfl dX6_named_8 ?_
    refine lv_icmp_ge (tgt := 63) hx hb dX6_named_11 (by decide) (fun c1 => ?_) (fun c1 => ?_)
    · have h := bi_t c1 h
      refine lv_aload_n hx hb dX6_named_63 rfl (lv_at hl 0 rfl) ?_
      refine lv_iload_n hx hb dX6_named_64 rfl (lv_at hl 3 rfl) ?_
      refine lv_iconst (v := (-1)) hx hb dX6_named_65 (by decide) ?_
      refine lv_icmp_ne (tgt := 73) hx hb dX6_named_66 (by decide) (fun c2 => ?_) (fun c2 => ?_)
      · have h := bi_f c2 h
        refine lv_iconst (v := 0) hx hb dX6_named_73 (by decide) ?_
        exact w_X6_named_74 B _ _ _ _ _ _ h hM hS (lv_sub hl [3] rfl)
      · have h := bi_t c2 h
        refine lv_iconst (v := 1) hx hb dX6_named_69 (by decide) ?_
        refine lv_goto (tgt := 74) hx hb dX6_named_70 (by decide) ?_
        exact w_X6_named_74 B _ _ _ _ _ _ h hM hS (lv_sub hl [3] rfl)
    · have h := bi_f c1 h
      refine lv_aload_n hx hb dX6_named_14 rfl (lv_at hl 0 rfl) ?_
      refine lv_aload_n hx hb dX6_named_15 rfl (lv_at hl 0 rfl) ?_
      refine mw_get B hM 3 (by decide) wf_RX6_7 rfl (v := .ref (ad 3)) rfl dX6_named_16 ?_
      refine lv_iload hx hb dX6_named_19 (lv_at hl 4 rfl) ?_
      obtain ⟨g3, h⟩ := gd_e h
      refine mw_iald B hM 3 (by decide) (by decide) rfl g3 dX6_named_21 ?_
      obtain ⟨r4, t5, e6, h⟩ := bd_e h
      refine mw_callV B hM hS [.int (st.2 3 x4.toNatClampNeg)] (n := 1) (v := (some (.int r4))) (c_X6_numberOf e6) wm_RX6_153 wi_yX6_numberOf ws_yX6_numberOf wc_yX6_numberOf rfl rfl (by decide +kernel) ⟨Nat.le_of_ble_eq_true rfl, Nat.le_of_ble_eq_true rfl⟩ ⟨Nat.le_refl 0, Nat.le_refl 0⟩ rfl hl.1 (Nat.le_of_ble_eq_true rfl) rfl dX6_named_22 (fun H locs hM hS => ?_)
      refine lv_iload_n hx hb dX6_named_25 rfl (lv_at hl 1 rfl) ?_
      refine lv_icmp_ne (tgt := 55) hx hb dX6_named_26 (by decide) (fun c7 => ?_) (fun c7 => ?_)
      · have h := bi_f c7 h
        exact w_X6_named_55 B ih _ _ _ _ _ _ _ _ h hM hS (lv_sub hl [0, 1, 2, 3, 4] rfl)
      · have h := bi_t c7 h
        refine lv_aload_n hx hb dX6_named_29 rfl (lv_at hl 0 rfl) ?_
        refine mw_get B hM 10 (by decide) wf_RX6_33 rfl (v := .ref (ad 10)) rfl dX6_named_30 ?_
        refine lv_aload_n hx hb dX6_named_33 rfl (lv_at hl 0 rfl) ?_
        refine mw_get B hM 3 (by decide) wf_RX6_7 rfl (v := .ref (ad 3)) rfl dX6_named_34 ?_
        refine lv_iload hx hb dX6_named_37 (lv_at hl 4 rfl) ?_
        obtain ⟨g8, h⟩ := gd_e h
        refine mw_iald B hM 3 (by decide) (by decide) rfl g8 dX6_named_39 ?_
        obtain ⟨g9, h⟩ := gd_e h
        refine mw_cald B hM 10 (by decide) (by decide) rfl g9 dX6_named_40 ?_
        refine lv_iload_n hx hb dX6_named_41 rfl (lv_at hl 2 rfl) ?_
        refine lv_icmp_ne (tgt := 55) hx hb dX6_named_42 (by decide) (fun c10 => ?_) (fun c10 => ?_)
        · have h := bi_f c10 h
          exact w_X6_named_55 B ih _ _ _ _ _ _ _ _ h hM hS (lv_sub hl [0, 1, 2, 3, 4] rfl)
        · have h := bi_t c10 h
          refine lv_aload_n hx hb dX6_named_45 rfl (lv_at hl 0 rfl) ?_
          refine mw_get B hM 3 (by decide) wf_RX6_7 rfl (v := .ref (ad 3)) rfl dX6_named_46 ?_
          refine lv_iload hx hb dX6_named_49 (lv_at hl 4 rfl) ?_
          obtain ⟨g11, h⟩ := gd_e h
          refine mw_iald B hM 3 (by decide) (by decide) rfl g11 dX6_named_51 ?_
          refine lv_goto (tgt := 56) hx hb dX6_named_52 (by decide) ?_
          exact w_X6_named_56 B ih _ _ _ _ _ _ _ _ h hM hS (lv_sub hl [0, 1, 2, 4] rfl)
set_option maxHeartbeats 4000000 in
set_option maxRecDepth 100000 in
theorem w_X6_named {p : Program} {l : Launch} {e : Env} {s : State} {m : MethodId} {args : Array Value} {below : List Frame} {meth : Method} {c : Code} {G : GG} {A : Nat → Prop} {ad : Nat → Nat} (B : MB G p s m args meth c cX6_named 5 RX6 (some .int)) {r : Int32} {st' : MS} : ∀ (st : MS) (x1 : Int32) (x2 : Int32) (H : Heap) (locs : List Loc) (ls : Array Slot), f_X6_named st x1 x2 = some (r, st') → MW G A ad st H → va_S A s.heap H locs → lv_has ls 5 [(0, .ref (ad 0)), (1, .int x1), (2, .int x2)] → W p l e ({ frames := 2, cells := 0, slots := 0, locals := 44 } : Room) s m args below meth c H locs 0 0 (MQ below (QM G A ad (some (.int r)) st') args s 0 0 A) (F0 m 0 ls []) := by
  have ⟨hx, hb, hr, hml, hown, hT, hlocks, hK⟩ := B
  intro st x1 x2 H locs ls h hM hS hl
  rw [f_X6_named] at h
  refine lv_iconst (v := (-1)) hx hb dX6_named_0 (by decide) ?_
  refine lv_istore_n (lv' := [(3, .int (-1)), (0, .ref (ad 0)), (1, .int x1), (2, .int x2)]) hx hb dX6_named_1 rfl hl (by decide) rfl (fun ls hl => ?_)
  refine lv_iconst (v := 0) hx hb dX6_named_2 (by decide) ?_
  refine lv_istore (lv' := [(4, .int 0), (3, .int (-1)), (0, .ref (ad 0)), (1, .int x1), (2, .int x2)]) hx hb dX6_named_3 hl (by decide) rfl (fun ls hl => ?_)
  exact w_X6_named_5 B FU _ _ _ _ _ _ _ _ h hM hS (lv_sub hl [2, 3, 4, 1, 0] rfl)
theorem c_X6_named {l : Launch} {G : GG} {A : Nat → Prop} {ad : Nat → Nat} {st : MS} {x1 : Int32} {x2 : Int32} {r : Int32} {st' : MS} (h : f_X6_named st x1 x2 = some (r, st')) : Met l yX6_named (Cond.code yX6_named cX6_named 5 (some .int) :: TG) ({ frames := 2, cells := 0, slots := 0, locals := 44 } : Room) (PM G A ad st [.ref (ad 0), .int x1, .int x2]) (QM G A ad (some (.int r)) st') 0 0 A :=
  mw_of (own := RX6) (by decide +kernel) rfl rfl rfl (Nat.le_of_ble_eq_true rfl) fun p e s m below meth c ls B hM hS hl => w_X6_named B _ _ _ _ _ _ h hM hS hl
set_option maxHeartbeats 4000000 in
set_option maxRecDepth 100000 in
theorem w_X6_isIn_20 {p : Program} {l : Launch} {e : Env} {s : State} {m : MethodId} {args : Array Value} {below : List Frame} {meth : Method} {c : Code} {G : GG} {A : Nat → Prop} {ad : Nat → Nat} (B : MB G p s m args meth c cX6_isIn 3 RX6 (some .boolean)) {r : Int32} {st' : MS} : ∀ (st : MS) (y0 : Int32) (H : Heap) (locs : List Loc) (ls : Array Slot), f_X6_isIn_20 st y0 = some (r, st') → MW G A ad st H → va_S A s.heap H locs → lv_has ls 3 [] → W p l e ({ frames := 0, cells := 0, slots := 0, locals := 0 } : Room) s m args below meth c H locs 0 0 (MQ below (QM G A ad (some (.int r)) st') args s 0 0 A) (F0 m 20 ls [.int y0]) := by
  have ⟨hx, hb, hr, hml, hown, hT, hlocks, hK⟩ := B
  intro st y0 H locs ls h hM hS hl
  rw [f_X6_isIn_20] at h
  obtain ⟨g1, h⟩ := gd_e h
  cases h
  exact mw_zret B hM hS g1 dX6_isIn_20
set_option maxHeartbeats 4000000 in
set_option maxRecDepth 100000 in
theorem w_X6_isIn {p : Program} {l : Launch} {e : Env} {s : State} {m : MethodId} {args : Array Value} {below : List Frame} {meth : Method} {c : Code} {G : GG} {A : Nat → Prop} {ad : Nat → Nat} (B : MB G p s m args meth c cX6_isIn 3 RX6 (some .boolean)) {r : Int32} {st' : MS} : ∀ (st : MS) (x1 : Int32) (x2 : Int32) (H : Heap) (locs : List Loc) (ls : Array Slot), f_X6_isIn st x1 x2 = some (r, st') → MW G A ad st H → va_S A s.heap H locs → lv_has ls 3 [(0, .ref (ad 0)), (1, .int x1), (2, .int x2)] → W p l e ({ frames := 0, cells := 0, slots := 0, locals := 0 } : Room) s m args below meth c H locs 0 0 (MQ below (QM G A ad (some (.int r)) st') args s 0 0 A) (F0 m 0 ls []) := by
  have ⟨hx, hb, hr, hml, hown, hT, hlocks, hK⟩ := B
  intro st x1 x2 H locs ls h hM hS hl
  rw [f_X6_isIn] at h
  refine lv_aload_n hx hb dX6_isIn_0 rfl (lv_at hl 0 rfl) ?_
  refine mw_get B hM 11 (by decide) wf_RX6_36 rfl (v := .ref (ad 11)) rfl dX6_isIn_1 ?_
  refine lv_iconst (v := 4) hx hb dX6_isIn_4 (by decide) ?_
  refine lv_iload_n hx hb dX6_isIn_5 rfl (lv_at hl 1 rfl) ?_
  refine lv_imul hx hb dX6_isIn_6 ?_
  refine lv_iload_n hx hb dX6_isIn_7 rfl (lv_at hl 2 rfl) ?_
  refine lv_iadd hx hb dX6_isIn_8 ?_
  obtain ⟨g1, h⟩ := gd_e h
  refine mw_cald B hM 11 (by decide) (by decide) rfl g1 dX6_isIn_9 ?_
  refine lv_bipush (v := 45) hx hb dX6_isIn_10 (by decide) ?_
  refine lv_icmp_eq (tgt := 19) hx hb dX6_isIn_12 (by decide) (fun c2 => ?_) (fun c2 => ?_)
  · have h := bi_t c2 h
    refine lv_iconst (v := 0) hx hb dX6_isIn_19 (by decide) ?_
    exact w_X6_isIn_20 B _ _ _ _ _ h hM hS (lv_sub hl [] rfl)
  · have h := bi_f c2 h
    refine lv_iconst (v := 1) hx hb dX6_isIn_15 (by decide) ?_
    refine lv_goto (tgt := 20) hx hb dX6_isIn_16 (by decide) ?_
    exact w_X6_isIn_20 B _ _ _ _ _ h hM hS (lv_sub hl [] rfl)
theorem c_X6_isIn {l : Launch} {G : GG} {A : Nat → Prop} {ad : Nat → Nat} {st : MS} {x1 : Int32} {x2 : Int32} {r : Int32} {st' : MS} (h : f_X6_isIn st x1 x2 = some (r, st')) : Met l yX6_isIn (Cond.code yX6_isIn cX6_isIn 3 (some .boolean) :: TG) ({ frames := 0, cells := 0, slots := 0, locals := 0 } : Room) (PM G A ad st [.ref (ad 0), .int x1, .int x2]) (QM G A ad (some (.int r)) st') 0 0 A :=
  mw_of (own := RX6) (by decide +kernel) rfl rfl rfl (Nat.le_of_ble_eq_true rfl) fun p e s m below meth c ls B hM hS hl => w_X6_isIn B _ _ _ _ _ _ h hM hS hl
set_option maxHeartbeats 4000000 in
set_option maxRecDepth 100000 in
theorem w_X6_areSame_79 {p : Program} {l : Launch} {e : Env} {s : State} {m : MethodId} {args : Array Value} {below : List Frame} {meth : Method} {c : Code} {G : GG} {A : Nat → Prop} {ad : Nat → Nat} (B : MB G p s m args meth c cX6_areSame 5 RX6 (some .boolean)) {r : Int32} {st' : MS} {k47 : MS → Int32 → Int32 → Int32 → Int32 → Option (Int32 × MS)} (hk47 : ∀ (st : MS) (x1 : Int32) (x2 : Int32) (x3 : Int32) (x4 : Int32) (H : Heap) (locs : List Loc) (ls : Array Slot), k47 st x1 x2 x3 x4 = some (r, st') → MW G A ad st H → va_S A s.heap H locs → lv_has ls 5 [(0, .ref (ad 0)), (1, .int x1), (2, .int x2), (3, .int x3), (4, .int x4)] → W p l e ({ frames := 1, cells := 0, slots := 0, locals := 23 } : Room) s m args below meth c H locs 0 0 (MQ below (QM G A ad (some (.int r)) st') args s 0 0 A) (F0 m 47 ls [])) : ∀ (st : MS) (x1 : Int32) (x2 : Int32) (x4 : Int32) (y0 : Int32) (H : Heap) (locs : List Loc) (ls : Array Slot), f_X6_areSame_79 k47 st x1 x2 x4 y0 = some (r, st') → MW G A ad st H → va_S A s.heap H locs → lv_has ls 5 [(0, .ref (ad 0)), (1, .int x1), (2, .int x2), (4, .int x4)] → W p l e ({ frames := 1, cells := 0, slots := 0, locals := 23 } : Room) s m args below meth c H locs 0 0 (MQ below (QM G A ad (some (.int r)) st') args s 0 0 A) (F0 m 79 ls [.int y0]) := by
  have ⟨hx, hb, hr, hml, hown, hT, hlocks, hK⟩ := B
  intro st x1 x2 x4 y0 H locs ls h hM hS hl
  rw [f_X6_areSame_79] at h
  refine lv_istore_n (lv' := [(3, .int y0), (0, .ref (ad 0)), (1, .int x1), (2, .int x2), (4, .int x4)]) hx hb dX6_areSame_79 rfl hl (by decide) rfl (fun ls hl => ?_)
  refine lv_iinc (v := (x4 + 1)) (lv' := [(4, .int (x4 + 1)), (3, .int y0), (0, .ref (ad 0)), (1, .int x1), (2, .int x2)]) hx hb dX6_areSame_80 hl (k := 4) rfl rfl (by decide) rfl (fun ls hl => ?_)
  refine lv_goto (tgt := 47) hx hb dX6_areSame_83 (by decide) ?_
  exact hk47 _ _ _ _ _ _ _ _ h hM hS (lv_sub hl [2, 3, 4, 1, 0] rfl)
set_option maxHeartbeats 4000000 in
set_option maxRecDepth 100000 in
theorem w_X6_areSame_78 {p : Program} {l : Launch} {e : Env} {s : State} {m : MethodId} {args : Array Value} {below : List Frame} {meth : Method} {c : Code} {G : GG} {A : Nat → Prop} {ad : Nat → Nat} (B : MB G p s m args meth c cX6_areSame 5 RX6 (some .boolean)) {r : Int32} {st' : MS} {k47 : MS → Int32 → Int32 → Int32 → Int32 → Option (Int32 × MS)} (hk47 : ∀ (st : MS) (x1 : Int32) (x2 : Int32) (x3 : Int32) (x4 : Int32) (H : Heap) (locs : List Loc) (ls : Array Slot), k47 st x1 x2 x3 x4 = some (r, st') → MW G A ad st H → va_S A s.heap H locs → lv_has ls 5 [(0, .ref (ad 0)), (1, .int x1), (2, .int x2), (3, .int x3), (4, .int x4)] → W p l e ({ frames := 1, cells := 0, slots := 0, locals := 23 } : Room) s m args below meth c H locs 0 0 (MQ below (QM G A ad (some (.int r)) st') args s 0 0 A) (F0 m 47 ls [])) : ∀ (st : MS) (x1 : Int32) (x2 : Int32) (x4 : Int32) (H : Heap) (locs : List Loc) (ls : Array Slot), f_X6_areSame_78 k47 st x1 x2 x4 = some (r, st') → MW G A ad st H → va_S A s.heap H locs → lv_has ls 5 [(0, .ref (ad 0)), (1, .int x1), (2, .int x2), (4, .int x4)] → W p l e ({ frames := 1, cells := 0, slots := 0, locals := 23 } : Room) s m args below meth c H locs 0 0 (MQ below (QM G A ad (some (.int r)) st') args s 0 0 A) (F0 m 78 ls []) := by
  have ⟨hx, hb, hr, hml, hown, hT, hlocks, hK⟩ := B
  intro st x1 x2 x4 H locs ls h hM hS hl
  rw [f_X6_areSame_78] at h
  refine lv_iconst (v := 0) hx hb dX6_areSame_78 (by decide) ?_
  exact w_X6_areSame_79 B hk47 _ _ _ _ _ _ _ _ h hM hS (lv_sub hl [0, 1, 2, 3] rfl)
set_option maxHeartbeats 4000000 in
set_option maxRecDepth 100000 in
theorem w_X6_areSame_47 {p : Program} {l : Launch} {e : Env} {s : State} {m : MethodId} {args : Array Value} {below : List Frame} {meth : Method} {c : Code} {G : GG} {A : Nat → Prop} {ad : Nat → Nat} (B : MB G p s m args meth c cX6_areSame 5 RX6 (some .boolean)) {r : Int32} {st' : MS} : ∀ (n : Nat) (st : MS) (x1 : Int32) (x2 : Int32) (x3 : Int32) (x4 : Int32) (H : Heap) (locs : List Loc) (ls : Array Slot), f_X6_areSame_47 n st x1 x2 x3 x4 = some (r, st') → MW G A ad st H → va_S A s.heap H locs → lv_has ls 5 [(0, .ref (ad 0)), (1, .int x1), (2, .int x2), (3, .int x3), (4, .int x4)] → W p l e ({ frames := 1, cells := 0, slots := 0, locals := 23 } : Room) s m args below meth c H locs 0 0 (MQ below (QM G A ad (some (.int r)) st') args s 0 0 A) (F0 m 47 ls []) := by
  have ⟨hx, hb, hr, hml, hown, hT, hlocks, hK⟩ := B
  intro n
  induction n with
  | zero =>
    intro st x1 x2 x3 x4 H locs ls h
    cases h
  | succ n ih =>
    intro st x1 x2 x3 x4 H locs ls h hM hS hl
    rw [f_X6_areSame_47] at h
    refine lv_iload hx hb dX6_areSame_47 (lv_at hl 4 rfl) ?_
    refine lv_iconst (v := 4) hx hb dX6_areSame_49 (by decide) ?_
    refine lv_icmp_ge (tgt := 86) hx hb dX6_areSame_50 (by decide) (fun c1 => ?_) (fun c1 => ?_)
    · have h := bi_t c1 h
      refine lv_iload_n hx hb dX6_areSame_86 rfl (lv_at hl 3 rfl) ?_
      obtain ⟨g2, h⟩ := gd_e h
      cases h
      exact mw_zret B hM hS g2 dX6_areSame_87
    · have h := bi_f c1 h
      refine lv_iload_n hx hb dX6_areSame_53 rfl (lv_at hl 3 rfl) ?_
      refine lv_if_eq (tgt := 78) hx hb dX6_areSame_54 (by decide) (fun c3 => ?_) (fun c3 => ?_)
      · have h := bi_t c3 h
        exact w_X6_areSame_78 B ih _ _ _ _ _ _ _ h hM hS (lv_sub hl [0, 1, 2, 4] rfl)
      · have h := bi_f c3 h
        refine lv_aload_n hx hb dX6_areSame_57 rfl (lv_at hl 0 rfl) ?_
        refine lv_iload_n hx hb dX6_areSame_58 rfl (lv_at hl 1 rfl) ?_
        refine lv_iload hx hb dX6_areSame_59 (lv_at hl 4 rfl) ?_
        obtain ⟨r4, t5, e6, h⟩ := bd_e h
        refine mw_callV B hM hS [.int x1, .int x4] (n := 2) (v := (some (.int r4))) (c_X6_isIn e6) wm_RX6_156 wi_yX6_isIn ws_yX6_isIn wc_yX6_isIn rfl rfl (by decide +kernel) ⟨Nat.le_of_ble_eq_true rfl, Nat.le_of_ble_eq_true rfl⟩ ⟨Nat.le_refl 0, Nat.le_refl 0⟩ rfl hl.1 (Nat.le_of_ble_eq_true rfl) rfl dX6_areSame_61 (fun H locs hM hS => ?_)
        refine lv_aload_n hx hb dX6_areSame_64 rfl (lv_at hl 0 rfl) ?_
        refine lv_iload_n hx hb dX6_areSame_65 rfl (lv_at hl 2 rfl) ?_
        refine lv_iload hx hb dX6_areSame_66 (lv_at hl 4 rfl) ?_
        obtain ⟨r7, t8, e9, h⟩ := bd_e h
        refine mw_callV B hM hS [.int x2, .int x4] (n := 2) (v := (some (.int r7))) (c_X6_isIn e9) wm_RX6_156 wi_yX6_isIn ws_yX6_isIn wc_yX6_isIn rfl rfl (by decide +kernel) ⟨Nat.le_of_ble_eq_true rfl, Nat.le_of_ble_eq_true rfl⟩ ⟨Nat.le_refl 0, Nat.le_refl 0⟩ rfl hl.1 (Nat.le_of_ble_eq_true rfl) rfl dX6_areSame_68 (fun H locs hM hS => ?_)
        refine lv_icmp_ne (tgt := 78) hx hb dX6_areSame_71 (by decide) (fun c10 => ?_) (fun c10 => ?_)
        · have h := bi_f c10 h
          exact w_X6_areSame_78 B ih _ _ _ _ _ _ _ h hM hS (lv_sub hl [0, 1, 2, 4] rfl)
        · have h := bi_t c10 h
          refine lv_iconst (v := 1) hx hb dX6_areSame_74 (by decide) ?_
          refine lv_goto (tgt := 79) hx hb dX6_areSame_75 (by decide) ?_
          exact w_X6_areSame_79 B ih _ _ _ _ _ _ _ _ h hM hS (lv_sub hl [0, 1, 2, 4] rfl)
set_option maxHeartbeats 4000000 in
set_option maxRecDepth 100000 in
theorem w_X6_areSame_43 {p : Program} {l : Launch} {e : Env} {s : State} {m : MethodId} {args : Array Value} {below : List Frame} {meth : Method} {c : Code} {G : GG} {A : Nat → Prop} {ad : Nat → Nat} (B : MB G p s m args meth c cX6_areSame 5 RX6 (some .boolean)) {r : Int32} {st' : MS} : ∀ (st : MS) (x1 : Int32) (x2 : Int32) (y0 : Int32) (H : Heap) (locs : List Loc) (ls : Array Slot), f_X6_areSame_43 st x1 x2 y0 = some (r, st') → MW G A ad st H → va_S A s.heap H locs → lv_has ls 5 [(0, .ref (ad 0)), (1, .int x1), (2, .int x2)] → W p l e ({ frames := 1, cells := 0, slots := 0, locals := 23 } : Room) s m args below meth c H locs 0 0 (MQ below (QM G A ad (some (.int r)) st') args s 0 0 A) (F0 m 43 ls [.int y0]) := by
  have ⟨hx, hb, hr, hml, hown, hT, hlocks, hK⟩ := B
  intro st x1 x2 y0 H locs ls h hM hS hl
  rw [f_X6_areSame_43] at h
  refine lv_istore_n (lv' := [(3, .int y0), (0, .ref (ad 0)), (1, .int x1), (2, .int x2)]) hx hb dX6_areSame_43 rfl hl (by decide) rfl (fun ls hl => ?_)
  refine lv_iconst (v := 0) hx hb dX6_areSame_44 (by decide) ?_
  refine lv_istore (lv' := [(4, .int 0), (3, .int y0), (0, .ref (ad 0)), (1, .int x1), (2, .int x2)]) hx hb dX6_areSame_45 hl (by decide) rfl (fun ls hl => ?_)
  exact w_X6_areSame_47 B FU _ _ _ _ _ _ _ _ h hM hS (lv_sub hl [2, 3, 4, 1, 0] rfl)
set_option maxHeartbeats 4000000 in
set_option maxRecDepth 100000 in
theorem w_X6_areSame_42 {p : Program} {l : Launch} {e : Env} {s : State} {m : MethodId} {args : Array Value} {below : List Frame} {meth : Method} {c : Code} {G : GG} {A : Nat → Prop} {ad : Nat → Nat} (B : MB G p s m args meth c cX6_areSame 5 RX6 (some .boolean)) {r : Int32} {st' : MS} : ∀ (st : MS) (x1 : Int32) (x2 : Int32) (H : Heap) (locs : List Loc) (ls : Array Slot), f_X6_areSame_42 st x1 x2 = some (r, st') → MW G A ad st H → va_S A s.heap H locs → lv_has ls 5 [(0, .ref (ad 0)), (1, .int x1), (2, .int x2)] → W p l e ({ frames := 1, cells := 0, slots := 0, locals := 23 } : Room) s m args below meth c H locs 0 0 (MQ below (QM G A ad (some (.int r)) st') args s 0 0 A) (F0 m 42 ls []) := by
  have ⟨hx, hb, hr, hml, hown, hT, hlocks, hK⟩ := B
  intro st x1 x2 H locs ls h hM hS hl
  rw [f_X6_areSame_42] at h
  refine lv_iconst (v := 0) hx hb dX6_areSame_42 (by decide) ?_
  exact w_X6_areSame_43 B _ _ _ _ _ _ _ h hM hS (lv_sub hl [0, 1, 2] rfl)
set_option maxHeartbeats 4000000 in
set_option maxRecDepth 100000 in
theorem w_X6_areSame {p : Program} {l : Launch} {e : Env} {s : State} {m : MethodId} {args : Array Value} {below : List Frame} {meth : Method} {c : Code} {G : GG} {A : Nat → Prop} {ad : Nat → Nat} (B : MB G p s m args meth c cX6_areSame 5 RX6 (some .boolean)) {r : Int32} {st' : MS} : ∀ (st : MS) (x1 : Int32) (x2 : Int32) (H : Heap) (locs : List Loc) (ls : Array Slot), f_X6_areSame st x1 x2 = some (r, st') → MW G A ad st H → va_S A s.heap H locs → lv_has ls 5 [(0, .ref (ad 0)), (1, .int x1), (2, .int x2)] → W p l e ({ frames := 1, cells := 0, slots := 0, locals := 23 } : Room) s m args below meth c H locs 0 0 (MQ below (QM G A ad (some (.int r)) st') args s 0 0 A) (F0 m 0 ls []) := by
  have ⟨hx, hb, hr, hml, hown, hT, hlocks, hK⟩ := B
  intro st x1 x2 H locs ls h hM hS hl
  rw [f_X6_areSame] at h
  refine lv_aload_n hx hb dX6_areSame_0 rfl (lv_at hl 0 rfl) ?_
  refine mw_get B hM 4 (by decide) wf_RX6_13 rfl (v := .ref (ad 4)) rfl dX6_areSame_1 ?_
  refine lv_iload_n hx hb dX6_areSame_4 rfl (lv_at hl 1 rfl) ?_
  obtain ⟨g1, h⟩ := gd_e h
  refine mw_cald B hM 4 (by decide) (by decide) rfl g1 dX6_areSame_5 ?_
  refine lv_aload_n hx hb dX6_areSame_6 rfl (lv_at hl 0 rfl) ?_
  refine mw_get B hM 4 (by decide) wf_RX6_13 rfl (v := .ref (ad 4)) rfl dX6_areSame_7 ?_
  refine lv_iload_n hx hb dX6_areSame_10 rfl (lv_at hl 2 rfl) ?_
  obtain ⟨g2, h⟩ := gd_e h
  refine mw_cald B hM 4 (by decide) (by decide) rfl g2 dX6_areSame_11 ?_
  refine lv_icmp_ne (tgt := 42) hx hb dX6_areSame_12 (by decide) (fun c3 => ?_) (fun c3 => ?_)
  · have h := bi_f c3 h
    exact w_X6_areSame_42 B _ _ _ _ _ _ h hM hS (lv_sub hl [0, 1, 2] rfl)
  · have h := bi_t c3 h
    refine lv_aload_n hx hb dX6_areSame_15 rfl (lv_at hl 0 rfl) ?_
    refine mw_get B hM 5 (by decide) wf_RX6_17 rfl (v := .ref (ad 5)) rfl dX6_areSame_16 ?_
    refine lv_iload_n hx hb dX6_areSame_19 rfl (lv_at hl 1 rfl) ?_
    obtain ⟨g4, h⟩ := gd_e h
    refine mw_iald B hM 5 (by decide) (by decide) rfl g4 dX6_areSame_20 ?_
    refine lv_aload_n hx hb dX6_areSame_21 rfl (lv_at hl 0 rfl) ?_
    refine mw_get B hM 5 (by decide) wf_RX6_17 rfl (v := .ref (ad 5)) rfl dX6_areSame_22 ?_
    refine lv_iload_n hx hb dX6_areSame_25 rfl (lv_at hl 2 rfl) ?_
    obtain ⟨g5, h⟩ := gd_e h
    refine mw_iald B hM 5 (by decide) (by decide) rfl g5 dX6_areSame_26 ?_
    refine lv_icmp_ne (tgt := 42) hx hb dX6_areSame_27 (by decide) (fun c6 => ?_) (fun c6 => ?_)
    · have h := bi_f c6 h
      exact w_X6_areSame_42 B _ _ _ _ _ _ h hM hS (lv_sub hl [0, 1, 2] rfl)
    · have h := bi_t c6 h
      refine lv_aload_n hx hb dX6_areSame_30 rfl (lv_at hl 0 rfl) ?_
      refine lv_iload_n hx hb dX6_areSame_31 rfl (lv_at hl 1 rfl) ?_
      obtain ⟨r7, t8, e9, h⟩ := bd_e h
      refine mw_callV B hM hS [.int x1] (n := 1) (v := (some (.int r7))) (c_X6_countIn e9) wm_RX6_137 wi_yX6_countIn ws_yX6_countIn wc_yX6_countIn rfl rfl (by decide +kernel) ⟨Nat.le_of_ble_eq_true rfl, Nat.le_of_ble_eq_true rfl⟩ ⟨Nat.le_refl 0, Nat.le_refl 0⟩ rfl hl.1 (Nat.le_of_ble_eq_true rfl) rfl dX6_areSame_32 (fun H locs hM hS => ?_)
      refine lv_if_le (tgt := 42) hx hb dX6_areSame_35 (by decide) (fun c10 => ?_) (fun c10 => ?_)
      · have h := bi_t c10 h
        exact w_X6_areSame_42 B _ _ _ _ _ _ h hM hS (lv_sub hl [0, 1, 2] rfl)
      · have h := bi_f c10 h
        refine lv_iconst (v := 1) hx hb dX6_areSame_38 (by decide) ?_
        refine lv_goto (tgt := 43) hx hb dX6_areSame_39 (by decide) ?_
        exact w_X6_areSame_43 B _ _ _ _ _ _ _ h hM hS (lv_sub hl [0, 1, 2] rfl)
theorem c_X6_areSame {l : Launch} {G : GG} {A : Nat → Prop} {ad : Nat → Nat} {st : MS} {x1 : Int32} {x2 : Int32} {r : Int32} {st' : MS} (h : f_X6_areSame st x1 x2 = some (r, st')) : Met l yX6_areSame (Cond.code yX6_areSame cX6_areSame 5 (some .boolean) :: TG) ({ frames := 1, cells := 0, slots := 0, locals := 23 } : Room) (PM G A ad st [.ref (ad 0), .int x1, .int x2]) (QM G A ad (some (.int r)) st') 0 0 A :=
  mw_of (own := RX6) (by decide +kernel) rfl rfl rfl (Nat.le_of_ble_eq_true rfl) fun p e s m below meth c ls B hM hS hl => w_X6_areSame B _ _ _ _ _ _ h hM hS hl
set_option maxHeartbeats 4000000 in
set_option maxRecDepth 100000 in
theorem w_X6_alone_32 {p : Program} {l : Launch} {e : Env} {s : State} {m : MethodId} {args : Array Value} {below : List Frame} {meth : Method} {c : Code} {G : GG} {A : Nat → Prop} {ad : Nat → Nat} (B : MB G p s m args meth c cX6_alone 4 RX6 (some .int)) {r : Int32} {st' : MS} {k4 : MS → Int32 → Int32 → Int32 → Option (Int32 × MS)} (hk4 : ∀ (st : MS) (x1 : Int32) (x2 : Int32) (x3 : Int32) (H : Heap) (locs : List Loc) (ls : Array Slot), k4 st x1 x2 x3 = some (r, st') → MW G A ad st H → va_S A s.heap H locs → lv_has ls 4 [(0, .ref (ad 0)), (1, .int x1), (2, .int x2), (3, .int x3)] → W p l e ({ frames := 1, cells := 0, slots := 0, locals := 23 } : Room) s m args below meth c H locs 0 0 (MQ below (QM G A ad (some (.int r)) st') args s 0 0 A) (F0 m 4 ls [])) : ∀ (st : MS) (x1 : Int32) (x3 : Int32) (y0 : Int32) (H : Heap) (locs : List Loc) (ls : Array Slot), f_X6_alone_32 k4 st x1 x3 y0 = some (r, st') → MW G A ad st H → va_S A s.heap H locs → lv_has ls 4 [(0, .ref (ad 0)), (1, .int x1), (3, .int x3)] → W p l e ({ frames := 1, cells := 0, slots := 0, locals := 23 } : Room) s m args below meth c H locs 0 0 (MQ below (QM G A ad (some (.int r)) st') args s 0 0 A) (F0 m 32 ls [.int y0]) := by
  have ⟨hx, hb, hr, hml, hown, hT, hlocks, hK⟩ := B
  intro st x1 x3 y0 H locs ls h hM hS hl
  rw [f_X6_alone_32] at h
  refine lv_istore_n (lv' := [(2, .int y0), (0, .ref (ad 0)), (1, .int x1), (3, .int x3)]) hx hb dX6_alone_32 rfl hl (by decide) rfl (fun ls hl => ?_)
  refine lv_iinc (v := (x3 + 1)) (lv' := [(3, .int (x3 + 1)), (2, .int y0), (0, .ref (ad 0)), (1, .int x1)]) hx hb dX6_alone_33 hl (k := 3) rfl rfl (by decide) rfl (fun ls hl => ?_)
  refine lv_goto (tgt := 4) hx hb dX6_alone_36 (by decide) ?_
  exact hk4 _ _ _ _ _ _ _ h hM hS (lv_sub hl [2, 3, 1, 0] rfl)
set_option maxHeartbeats 4000000 in
set_option maxRecDepth 100000 in
theorem w_X6_alone_31 {p : Program} {l : Launch} {e : Env} {s : State} {m : MethodId} {args : Array Value} {below : List Frame} {meth : Method} {c : Code} {G : GG} {A : Nat → Prop} {ad : Nat → Nat} (B : MB G p s m args meth c cX6_alone 4 RX6 (some .int)) {r : Int32} {st' : MS} {k4 : MS → Int32 → Int32 → Int32 → Option (Int32 × MS)} (hk4 : ∀ (st : MS) (x1 : Int32) (x2 : Int32) (x3 : Int32) (H : Heap) (locs : List Loc) (ls : Array Slot), k4 st x1 x2 x3 = some (r, st') → MW G A ad st H → va_S A s.heap H locs → lv_has ls 4 [(0, .ref (ad 0)), (1, .int x1), (2, .int x2), (3, .int x3)] → W p l e ({ frames := 1, cells := 0, slots := 0, locals := 23 } : Room) s m args below meth c H locs 0 0 (MQ below (QM G A ad (some (.int r)) st') args s 0 0 A) (F0 m 4 ls [])) : ∀ (st : MS) (x1 : Int32) (x2 : Int32) (x3 : Int32) (H : Heap) (locs : List Loc) (ls : Array Slot), f_X6_alone_31 k4 st x1 x2 x3 = some (r, st') → MW G A ad st H → va_S A s.heap H locs → lv_has ls 4 [(0, .ref (ad 0)), (1, .int x1), (2, .int x2), (3, .int x3)] → W p l e ({ frames := 1, cells := 0, slots := 0, locals := 23 } : Room) s m args below meth c H locs 0 0 (MQ below (QM G A ad (some (.int r)) st') args s 0 0 A) (F0 m 31 ls []) := by
  have ⟨hx, hb, hr, hml, hown, hT, hlocks, hK⟩ := B
  intro st x1 x2 x3 H locs ls h hM hS hl
  rw [f_X6_alone_31] at h
  refine lv_iload_n hx hb dX6_alone_31 rfl (lv_at hl 2 rfl) ?_
  exact w_X6_alone_32 B hk4 _ _ _ _ _ _ _ h hM hS (lv_sub hl [0, 1, 3] rfl)
set_option maxHeartbeats 4000000 in
set_option maxRecDepth 100000 in
theorem w_X6_alone_4 {p : Program} {l : Launch} {e : Env} {s : State} {m : MethodId} {args : Array Value} {below : List Frame} {meth : Method} {c : Code} {G : GG} {A : Nat → Prop} {ad : Nat → Nat} (B : MB G p s m args meth c cX6_alone 4 RX6 (some .int)) {r : Int32} {st' : MS} : ∀ (n : Nat) (st : MS) (x1 : Int32) (x2 : Int32) (x3 : Int32) (H : Heap) (locs : List Loc) (ls : Array Slot), f_X6_alone_4 n st x1 x2 x3 = some (r, st') → MW G A ad st H → va_S A s.heap H locs → lv_has ls 4 [(0, .ref (ad 0)), (1, .int x1), (2, .int x2), (3, .int x3)] → W p l e ({ frames := 1, cells := 0, slots := 0, locals := 23 } : Room) s m args below meth c H locs 0 0 (MQ below (QM G A ad (some (.int r)) st') args s 0 0 A) (F0 m 4 ls []) := by
  have ⟨hx, hb, hr, hml, hown, hT, hlocks, hK⟩ := B
  intro n
  induction n with
  | zero =>
    intro st x1 x2 x3 H locs ls h
    cases h
  | succ n ih =>
    intro st x1 x2 x3 H locs ls h hM hS hl
    rw [f_X6_alone_4] at h
    refine lv_iload_n hx hb dX6_alone_4 rfl (lv_at hl 3 rfl) ?_
    refine lv_iconst (v := 4) hx hb dX6_alone_5 (by decide) ?_
    refine lv_icmp_ge (tgt := 39) hx hb dX6_alone_6 (by decide) (fun c1 => ?_) (fun c1 => ?_)
    · have h := bi_t c1 h
      refine lv_iload_n hx hb dX6_alone_39 rfl (lv_at hl 2 rfl) ?_
      cases h
      exact mw_iret B hM hS dX6_alone_40
    · have h := bi_f c1 h
      refine lv_aload_n hx hb dX6_alone_9 rfl (lv_at hl 0 rfl) ?_
      refine lv_iload_n hx hb dX6_alone_10 rfl (lv_at hl 1 rfl) ?_
      refine lv_iload_n hx hb dX6_alone_11 rfl (lv_at hl 3 rfl) ?_
      obtain ⟨r2, t3, e4, h⟩ := bd_e h
      refine mw_callV B hM hS [.int x1, .int x3] (n := 2) (v := (some (.int r2))) (c_X6_isIn e4) wm_RX6_156 wi_yX6_isIn ws_yX6_isIn wc_yX6_isIn rfl rfl (by decide +kernel) ⟨Nat.le_of_ble_eq_true rfl, Nat.le_of_ble_eq_true rfl⟩ ⟨Nat.le_refl 0, Nat.le_refl 0⟩ rfl hl.1 (Nat.le_of_ble_eq_true rfl) rfl dX6_alone_12 (fun H locs hM hS => ?_)
      refine lv_if_eq (tgt := 31) hx hb dX6_alone_15 (by decide) (fun c5 => ?_) (fun c5 => ?_)
      · have h := bi_t c5 h
        exact w_X6_alone_31 B ih _ _ _ _ _ _ _ h hM hS (lv_sub hl [0, 1, 2, 3] rfl)
      · have h := bi_f c5 h
        refine lv_aload_n hx hb dX6_alone_18 rfl (lv_at hl 0 rfl) ?_
        refine lv_iload_n hx hb dX6_alone_19 rfl (lv_at hl 1 rfl) ?_
        obtain ⟨r6, t7, e8, h⟩ := bd_e h
        refine mw_callV B hM hS [.int x1] (n := 1) (v := (some (.int r6))) (c_X6_countIn e8) wm_RX6_137 wi_yX6_countIn ws_yX6_countIn wc_yX6_countIn rfl rfl (by decide +kernel) ⟨Nat.le_of_ble_eq_true rfl, Nat.le_of_ble_eq_true rfl⟩ ⟨Nat.le_refl 0, Nat.le_refl 0⟩ rfl hl.1 (Nat.le_of_ble_eq_true rfl) rfl dX6_alone_20 (fun H locs hM hS => ?_)
        refine lv_iconst (v := 1) hx hb dX6_alone_23 (by decide) ?_
        refine lv_icmp_ne (tgt := 31) hx hb dX6_alone_24 (by decide) (fun c9 => ?_) (fun c9 => ?_)
        · have h := bi_f c9 h
          exact w_X6_alone_31 B ih _ _ _ _ _ _ _ h hM hS (lv_sub hl [0, 1, 2, 3] rfl)
        · have h := bi_t c9 h
          refine lv_iload_n hx hb dX6_alone_27 rfl (lv_at hl 3 rfl) ?_
          refine lv_goto (tgt := 32) hx hb dX6_alone_28 (by decide) ?_
          exact w_X6_alone_32 B ih _ _ _ _ _ _ _ h hM hS (lv_sub hl [0, 1, 3] rfl)
set_option maxHeartbeats 4000000 in
set_option maxRecDepth 100000 in
theorem w_X6_alone {p : Program} {l : Launch} {e : Env} {s : State} {m : MethodId} {args : Array Value} {below : List Frame} {meth : Method} {c : Code} {G : GG} {A : Nat → Prop} {ad : Nat → Nat} (B : MB G p s m args meth c cX6_alone 4 RX6 (some .int)) {r : Int32} {st' : MS} : ∀ (st : MS) (x1 : Int32) (H : Heap) (locs : List Loc) (ls : Array Slot), f_X6_alone st x1 = some (r, st') → MW G A ad st H → va_S A s.heap H locs → lv_has ls 4 [(0, .ref (ad 0)), (1, .int x1)] → W p l e ({ frames := 1, cells := 0, slots := 0, locals := 23 } : Room) s m args below meth c H locs 0 0 (MQ below (QM G A ad (some (.int r)) st') args s 0 0 A) (F0 m 0 ls []) := by
  have ⟨hx, hb, hr, hml, hown, hT, hlocks, hK⟩ := B
  intro st x1 H locs ls h hM hS hl
  rw [f_X6_alone] at h
  refine lv_iconst (v := (-1)) hx hb dX6_alone_0 (by decide) ?_
  refine lv_istore_n (lv' := [(2, .int (-1)), (0, .ref (ad 0)), (1, .int x1)]) hx hb dX6_alone_1 rfl hl (by decide) rfl (fun ls hl => ?_)
  refine lv_iconst (v := 0) hx hb dX6_alone_2 (by decide) ?_
  refine lv_istore_n (lv' := [(3, .int 0), (2, .int (-1)), (0, .ref (ad 0)), (1, .int x1)]) hx hb dX6_alone_3 rfl hl (by decide) rfl (fun ls hl => ?_)
  exact w_X6_alone_4 B FU _ _ _ _ _ _ _ h hM hS (lv_sub hl [2, 3, 1, 0] rfl)
theorem c_X6_alone {l : Launch} {G : GG} {A : Nat → Prop} {ad : Nat → Nat} {st : MS} {x1 : Int32} {r : Int32} {st' : MS} (h : f_X6_alone st x1 = some (r, st')) : Met l yX6_alone (Cond.code yX6_alone cX6_alone 4 (some .int) :: TG) ({ frames := 1, cells := 0, slots := 0, locals := 23 } : Room) (PM G A ad st [.ref (ad 0), .int x1]) (QM G A ad (some (.int r)) st') 0 0 A :=
  mw_of (own := RX6) (by decide +kernel) rfl rfl rfl (Nat.le_of_ble_eq_true rfl) fun p e s m below meth c ls B hM hS hl => w_X6_alone B _ _ _ _ _ h hM hS hl
set_option maxHeartbeats 4000000 in
set_option maxRecDepth 100000 in
theorem w_X6_other_13 {p : Program} {l : Launch} {e : Env} {s : State} {m : MethodId} {args : Array Value} {below : List Frame} {meth : Method} {c : Code} {G : GG} {A : Nat → Prop} {ad : Nat → Nat} (B : MB G p s m args meth c cX6_other 1 RX6 (some .char)) {r : Int32} {st' : MS} : ∀ (st : MS) (y0 : Int32) (H : Heap) (locs : List Loc) (ls : Array Slot), f_X6_other_13 st y0 = some (r, st') → MW G A ad st H → va_S A s.heap H locs → lv_has ls 1 [] → W p l e ({ frames := 0, cells := 0, slots := 0, locals := 0 } : Room) s m args below meth c H locs 0 0 (MQ below (QM G A ad (some (.int r)) st') args s 0 0 A) (F0 m 13 ls [.int y0]) := by
  have ⟨hx, hb, hr, hml, hown, hT, hlocks, hK⟩ := B
  intro st y0 H locs ls h hM hS hl
  rw [f_X6_other_13] at h
  obtain ⟨g1, h⟩ := gd_e h
  cases h
  exact mw_zret B hM hS g1 dX6_other_13
set_option maxHeartbeats 4000000 in
set_option maxRecDepth 100000 in
theorem w_X6_other {p : Program} {l : Launch} {e : Env} {s : State} {m : MethodId} {args : Array Value} {below : List Frame} {meth : Method} {c : Code} {G : GG} {A : Nat → Prop} {ad : Nat → Nat} (B : MB G p s m args meth c cX6_other 1 RX6 (some .char)) {r : Int32} {st' : MS} : ∀ (st : MS) (x0 : Int32) (H : Heap) (locs : List Loc) (ls : Array Slot), f_X6_other st x0 = some (r, st') → MW G A ad st H → va_S A s.heap H locs → lv_has ls 1 [(0, .int x0)] → W p l e ({ frames := 0, cells := 0, slots := 0, locals := 0 } : Room) s m args below meth c H locs 0 0 (MQ below (QM G A ad (some (.int r)) st') args s 0 0 A) (F0 m 0 ls []) := by
  have ⟨hx, hb, hr, hml, hown, hT, hlocks, hK⟩ := B
  intro st x0 H locs ls h hM hS hl
  rw [f_X6_other] at h
  refine lv_iload_n hx hb dX6_other_0 rfl (lv_at hl 0 rfl) ?_
  refine lv_bipush (v := 108) hx hb dX6_other_1 (by decide) ?_
  refine lv_icmp_ne (tgt := 11) hx hb dX6_other_3 (by decide) (fun c1 => ?_) (fun c1 => ?_)
  · have h := bi_f c1 h
    refine lv_bipush (v := 108) hx hb dX6_other_11 (by decide) ?_
    exact w_X6_other_13 B _ _ _ _ _ h hM hS (lv_sub hl [] rfl)
  · have h := bi_t c1 h
    refine lv_bipush (v := 114) hx hb dX6_other_6 (by decide) ?_
    refine lv_goto (tgt := 13) hx hb dX6_other_8 (by decide) ?_
    exact w_X6_other_13 B _ _ _ _ _ h hM hS (lv_sub hl [] rfl)
theorem c_X6_other {l : Launch} {G : GG} {A : Nat → Prop} {ad : Nat → Nat} {st : MS} {x0 : Int32} {r : Int32} {st' : MS} (h : f_X6_other st x0 = some (r, st')) : Met l yX6_other (Cond.code yX6_other cX6_other 1 (some .char) :: TG) ({ frames := 0, cells := 0, slots := 0, locals := 0 } : Room) (PM G A ad st [.int x0]) (QM G A ad (some (.int r)) st') 0 0 A :=
  mw_of (own := RX6) (by decide +kernel) rfl rfl rfl (Nat.le_of_ble_eq_true rfl) fun p e s m below meth c ls B hM hS hl => w_X6_other B _ _ _ _ _ h hM hS hl
set_option maxHeartbeats 4000000 in
set_option maxRecDepth 100000 in
theorem w_X6_areBadGazes_94 {p : Program} {l : Launch} {e : Env} {s : State} {m : MethodId} {args : Array Value} {below : List Frame} {meth : Method} {c : Code} {G : GG} {A : Nat → Prop} {ad : Nat → Nat} (B : MB G p s m args meth c cX6_areBadGazes 7 RX6 (some .boolean)) {r : Int32} {st' : MS} : ∀ (st : MS) (y0 : Int32) (H : Heap) (locs : List Loc) (ls : Array Slot), f_X6_areBadGazes_94 st y0 = some (r, st') → MW G A ad st H → va_S A s.heap H locs → lv_has ls 7 [] → W p l e ({ frames := 2, cells := 0, slots := 0, locals := 46 } : Room) s m args below meth c H locs 0 0 (MQ below (QM G A ad (some (.int r)) st') args s 0 0 A) (F0 m 94 ls [.int y0]) := by
  have ⟨hx, hb, hr, hml, hown, hT, hlocks, hK⟩ := B
  intro st y0 H locs ls h hM hS hl
  rw [f_X6_areBadGazes_94] at h
  obtain ⟨g1, h⟩ := gd_e h
  cases h
  exact mw_zret B hM hS g1 dX6_areBadGazes_94
set_option maxHeartbeats 4000000 in
set_option maxRecDepth 100000 in
theorem w_X6_areBadGazes_93 {p : Program} {l : Launch} {e : Env} {s : State} {m : MethodId} {args : Array Value} {below : List Frame} {meth : Method} {c : Code} {G : GG} {A : Nat → Prop} {ad : Nat → Nat} (B : MB G p s m args meth c cX6_areBadGazes 7 RX6 (some .boolean)) {r : Int32} {st' : MS} : ∀ (st : MS) (H : Heap) (locs : List Loc) (ls : Array Slot), f_X6_areBadGazes_93 st = some (r, st') → MW G A ad st H → va_S A s.heap H locs → lv_has ls 7 [] → W p l e ({ frames := 2, cells := 0, slots := 0, locals := 46 } : Room) s m args below meth c H locs 0 0 (MQ below (QM G A ad (some (.int r)) st') args s 0 0 A) (F0 m 93 ls []) := by
  have ⟨hx, hb, hr, hml, hown, hT, hlocks, hK⟩ := B
  intro st  H locs ls h hM hS hl
  rw [f_X6_areBadGazes_93] at h
  refine lv_iconst (v := 0) hx hb dX6_areBadGazes_93 (by decide) ?_
  exact w_X6_areBadGazes_94 B _ _ _ _ _ h hM hS (lv_sub hl [] rfl)
set_option maxHeartbeats 4000000 in
set_option maxRecDepth 100000 in
theorem w_X6_areBadGazes_89 {p : Program} {l : Launch} {e : Env} {s : State} {m : MethodId} {args : Array Value} {below : List Frame} {meth : Method} {c : Code} {G : GG} {A : Nat → Prop} {ad : Nat → Nat} (B : MB G p s m args meth c cX6_areBadGazes 7 RX6 (some .boolean)) {r : Int32} {st' : MS} : ∀ (st : MS) (H : Heap) (locs : List Loc) (ls : Array Slot), f_X6_areBadGazes_89 st = some (r, st') → MW G A ad st H → va_S A s.heap H locs → lv_has ls 7 [] → W p l e ({ frames := 2, cells := 0, slots := 0, locals := 46 } : Room) s m args below meth c H locs 0 0 (MQ below (QM G A ad (some (.int r)) st') args s 0 0 A) (F0 m 89 ls []) := by
  have ⟨hx, hb, hr, hml, hown, hT, hlocks, hK⟩ := B
  intro st  H locs ls h hM hS hl
  rw [f_X6_areBadGazes_89] at h
  refine lv_iconst (v := 1) hx hb dX6_areBadGazes_89 (by decide) ?_
  refine lv_goto (tgt := 94) hx hb dX6_areBadGazes_90 (by decide) ?_
  exact w_X6_areBadGazes_94 B _ _ _ _ _ h hM hS (lv_sub hl [] rfl)
set_option maxHeartbeats 4000000 in
set_option maxRecDepth 100000 in
theorem w_X6_areBadGazes_72 {p : Program} {l : Launch} {e : Env} {s : State} {m : MethodId} {args : Array Value} {below : List Frame} {meth : Method} {c : Code} {G : GG} {A : Nat → Prop} {ad : Nat → Nat} (B : MB G p s m args meth c cX6_areBadGazes 7 RX6 (some .boolean)) {r : Int32} {st' : MS} : ∀ (st : MS) (x5 : Int32) (x6 : Int32) (H : Heap) (locs : List Loc) (ls : Array Slot), f_X6_areBadGazes_72 st x5 x6 = some (r, st') → MW G A ad st H → va_S A s.heap H locs → lv_has ls 7 [(5, .int x5), (6, .int x6)] → W p l e ({ frames := 2, cells := 0, slots := 0, locals := 46 } : Room) s m args below meth c H locs 0 0 (MQ below (QM G A ad (some (.int r)) st') args s 0 0 A) (F0 m 72 ls []) := by
  have ⟨hx, hb, hr, hml, hown, hT, hlocks, hK⟩ := B
  intro st x5 x6 H locs ls h hM hS hl
  rw [f_X6_areBadGazes_72] at h
  refine lv_iload hx hb dX6_areBadGazes_72 (lv_at hl 1 rfl) ?_
  refine lv_bipush (v := 99) hx hb dX6_areBadGazes_74 (by decide) ?_
  refine lv_icmp_eq (tgt := 93) hx hb dX6_areBadGazes_76 (by decide) (fun c1 => ?_) (fun c1 => ?_)
  · have h := bi_t c1 h
    exact w_X6_areBadGazes_93 B _ _ _ _ h hM hS (lv_sub hl [] rfl)
  · have h := bi_f c1 h
    refine lv_iload hx hb dX6_areBadGazes_79 (lv_at hl 0 rfl) ?_
    refine lv_iload hx hb dX6_areBadGazes_81 (lv_at hl 1 rfl) ?_
    obtain ⟨r2, t3, e4, h⟩ := bd_e h
    refine mw_callS B hM hS [.int x6] (n := 1) (v := (some (.int r2))) (c_X6_other e4) wm_RX6_163 wt_yX6_other wc_yX6_other rfl rfl (by decide +kernel) ⟨Nat.le_of_ble_eq_true rfl, Nat.le_of_ble_eq_true rfl⟩ ⟨Nat.le_refl 0, Nat.le_refl 0⟩ rfl hl.1 (Nat.le_of_ble_eq_true rfl) rfl dX6_areBadGazes_83 (fun H locs hM hS => ?_)
    refine lv_icmp_eq (tgt := 93) hx hb dX6_areBadGazes_86 (by decide) (fun c5 => ?_) (fun c5 => ?_)
    · have h := bi_t c5 h
      exact w_X6_areBadGazes_93 B _ _ _ _ h hM hS (lv_sub hl [] rfl)
    · have h := bi_f c5 h
      exact w_X6_areBadGazes_89 B _ _ _ _ h hM hS (lv_sub hl [] rfl)
set_option maxHeartbeats 4000000 in
set_option maxRecDepth 100000 in
theorem w_X6_areBadGazes_28 {p : Program} {l : Launch} {e : Env} {s : State} {m : MethodId} {args : Array Value} {below : List Frame} {meth : Method} {c : Code} {G : GG} {A : Nat → Prop} {ad : Nat → Nat} (B : MB G p s m args meth c cX6_areBadGazes 7 RX6 (some .boolean)) {r : Int32} {st' : MS} : ∀ (st : MS) (H : Heap) (locs : List Loc) (ls : Array Slot), f_X6_areBadGazes_28 st = some (r, st') → MW G A ad st H → va_S A s.heap H locs → lv_has ls 7 [] → W p l e ({ frames := 2, cells := 0, slots := 0, locals := 46 } : Room) s m args below meth c H locs 0 0 (MQ below (QM G A ad (some (.int r)) st') args s 0 0 A) (F0 m 28 ls []) := by
  have ⟨hx, hb, hr, hml, hown, hT, hlocks, hK⟩ := B
  intro st  H locs ls h hM hS hl
  rw [f_X6_areBadGazes_28] at h
  refine lv_iconst (v := 0) hx hb dX6_areBadGazes_28 (by decide) ?_
  cases h
  exact mw_zret B hM hS (by rfl) dX6_areBadGazes_29
set_option maxHeartbeats 4000000 in
set_option maxRecDepth 100000 in
theorem w_X6_areBadGazes {p : Program} {l : Launch} {e : Env} {s : State} {m : MethodId} {args : Array Value} {below : List Frame} {meth : Method} {c : Code} {G : GG} {A : Nat → Prop} {ad : Nat → Nat} (B : MB G p s m args meth c cX6_areBadGazes 7 RX6 (some .boolean)) {r : Int32} {st' : MS} : ∀ (st : MS) (x1 : Int32) (x2 : Int32) (H : Heap) (locs : List Loc) (ls : Array Slot), f_X6_areBadGazes st x1 x2 = some (r, st') → MW G A ad st H → va_S A s.heap H locs → lv_has ls 7 [(0, .ref (ad 0)), (1, .int x1), (2, .int x2)] → W p l e ({ frames := 2, cells := 0, slots := 0, locals := 46 } : Room) s m args below meth c H locs 0 0 (MQ below (QM G A ad (some (.int r)) st') args s 0 0 A) (F0 m 0 ls []) := by
  have ⟨hx, hb, hr, hml, hown, hT, hlocks, hK⟩ := B
  intro st x1 x2 H locs ls h hM hS hl
  rw [f_X6_areBadGazes] at h
  refine lv_aload_n hx hb dX6_areBadGazes_0 rfl (lv_at hl 0 rfl) ?_
  refine lv_iload_n hx hb dX6_areBadGazes_1 rfl (lv_at hl 1 rfl) ?_
  obtain ⟨r1, t2, e3, h⟩ := bd_e h
  refine mw_callV B hM hS [.int x1] (n := 1) (v := (some (.int r1))) (c_X6_alone e3) wm_RX6_160 wi_yX6_alone ws_yX6_alone wc_yX6_alone rfl rfl (by decide +kernel) ⟨Nat.le_of_ble_eq_true rfl, Nat.le_of_ble_eq_true rfl⟩ ⟨Nat.le_refl 0, Nat.le_refl 0⟩ rfl hl.1 (Nat.le_of_ble_eq_true rfl) rfl dX6_areBadGazes_2 (fun H locs hM hS => ?_)
  refine lv_istore_n (lv' := [(3, .int r1), (0, .ref (ad 0)), (1, .int x1), (2, .int x2)]) hx hb dX6_areBadGazes_5 rfl hl (by decide) rfl (fun ls hl => ?_)
  refine lv_aload_n hx hb dX6_areBadGazes_6 rfl (lv_at hl 1 rfl) ?_
  refine lv_iload_n hx hb dX6_areBadGazes_7 rfl (lv_at hl 3 rfl) ?_
  obtain ⟨r4, t5, e6, h⟩ := bd_e h
  refine mw_callV B hM hS [.int x2] (n := 1) (v := (some (.int r4))) (c_X6_alone e6) wm_RX6_160 wi_yX6_alone ws_yX6_alone wc_yX6_alone rfl rfl (by decide +kernel) ⟨Nat.le_of_ble_eq_true rfl, Nat.le_of_ble_eq_true rfl⟩ ⟨Nat.le_refl 0, Nat.le_refl 0⟩ rfl hl.1 (Nat.le_of_ble_eq_true rfl) rfl dX6_areBadGazes_8 (fun H locs hM hS => ?_)
  refine lv_istore (lv' := [(4, .int r4), (3, .int r1), (0, .ref (ad 0)), (1, .int x1), (2, .int x2)]) hx hb dX6_areBadGazes_11 hl (by decide) rfl (fun ls hl => ?_)
  refine lv_iload_n hx hb dX6_areBadGazes_13 rfl (lv_at hl 1 rfl) ?_
  refine lv_if_lt (tgt := 28) hx hb dX6_areBadGazes_14 (by decide) (fun c7 => ?_) (fun c7 => ?_)
  · have h := bi_t c7 h
    exact w_X6_areBadGazes_28 B _ _ _ _ h hM hS (lv_sub hl [] rfl)
  · have h := bi_f c7 h
    refine lv_iload hx hb dX6_areBadGazes_17 (lv_at hl 0 rfl) ?_
    refine lv_if_lt (tgt := 28) hx hb dX6_areBadGazes_19 (by decide) (fun c8 => ?_) (fun c8 => ?_)
    · have h := bi_t c8 h
      exact w_X6_areBadGazes_28 B _ _ _ _ h hM hS (lv_sub hl [] rfl)
    · have h := bi_f c8 h
      refine lv_iload_n hx hb dX6_areBadGazes_22 rfl (lv_at hl 1 rfl) ?_
      refine lv_iload hx hb dX6_areBadGazes_23 (lv_at hl 0 rfl) ?_
      refine lv_icmp_ne (tgt := 30) hx hb dX6_areBadGazes_25 (by decide) (fun c9 => ?_) (fun c9 => ?_)
      · have h := bi_f c9 h
        refine lv_aload_n hx hb dX6_areBadGazes_30 rfl (lv_at hl 2 rfl) ?_
        refine mw_get B hM 12 (by decide) wf_RX6_39 rfl (v := .ref (ad 12)) rfl dX6_areBadGazes_31 ?_
        refine lv_iconst (v := 4) hx hb dX6_areBadGazes_34 (by decide) ?_
        refine lv_iload_n hx hb dX6_areBadGazes_35 rfl (lv_at hl 3 rfl) ?_
        refine lv_imul hx hb dX6_areBadGazes_36 ?_
        refine lv_iload_n hx hb dX6_areBadGazes_37 rfl (lv_at hl 1 rfl) ?_
        refine lv_iadd hx hb dX6_areBadGazes_38 ?_
        obtain ⟨g10, h⟩ := gd_e h
        refine mw_cald B hM 12 (by decide) (by decide) rfl g10 dX6_areBadGazes_39 ?_
        refine lv_istore (lv' := [(5, .int (t5.2 12 ((4 * x1) + r1).toNatClampNeg)), (4, .int r4), (3, .int r1), (0, .ref (ad 0)), (1, .int x1), (2, .int x2)]) hx hb dX6_areBadGazes_40 hl (by decide) rfl (fun ls hl => ?_)
        refine lv_aload_n hx hb dX6_areBadGazes_42 rfl (lv_at hl 3 rfl) ?_
        refine mw_get B hM 12 (by decide) wf_RX6_39 rfl (v := .ref (ad 12)) rfl dX6_areBadGazes_43 ?_
        refine lv_iconst (v := 4) hx hb dX6_areBadGazes_46 (by decide) ?_
        refine lv_iload_n hx hb dX6_areBadGazes_47 rfl (lv_at hl 5 rfl) ?_
        refine lv_imul hx hb dX6_areBadGazes_48 ?_
        refine lv_iload hx hb dX6_areBadGazes_49 (lv_at hl 1 rfl) ?_
        refine lv_iadd hx hb dX6_areBadGazes_51 ?_
        obtain ⟨g11, h⟩ := gd_e h
        refine mw_cald B hM 12 (by decide) (by decide) rfl g11 dX6_areBadGazes_52 ?_
        refine lv_istore (lv' := [(6, .int (t5.2 12 ((4 * x2) + r4).toNatClampNeg)), (5, .int (t5.2 12 ((4 * x1) + r1).toNatClampNeg)), (4, .int r4), (3, .int r1), (0, .ref (ad 0)), (1, .int x1), (2, .int x2)]) hx hb dX6_areBadGazes_53 hl (by decide) rfl (fun ls hl => ?_)
        refine lv_iload hx hb dX6_areBadGazes_55 (lv_at hl 1 rfl) ?_
        refine lv_bipush (v := 99) hx hb dX6_areBadGazes_57 (by decide) ?_
        refine lv_icmp_eq (tgt := 72) hx hb dX6_areBadGazes_59 (by decide) (fun c12 => ?_) (fun c12 => ?_)
        · have h := bi_t c12 h
          exact w_X6_areBadGazes_72 B _ _ _ _ _ _ h hM hS (lv_sub hl [1, 0] rfl)
        · have h := bi_f c12 h
          refine lv_iload hx hb dX6_areBadGazes_62 (lv_at hl 0 rfl) ?_
          refine lv_iload hx hb dX6_areBadGazes_64 (lv_at hl 1 rfl) ?_
          obtain ⟨r13, t14, e15, h⟩ := bd_e h
          refine mw_callS B hM hS [.int (t5.2 12 ((4 * x1) + r1).toNatClampNeg)] (n := 1) (v := (some (.int r13))) (c_X6_other e15) wm_RX6_163 wt_yX6_other wc_yX6_other rfl rfl (by decide +kernel) ⟨Nat.le_of_ble_eq_true rfl, Nat.le_of_ble_eq_true rfl⟩ ⟨Nat.le_refl 0, Nat.le_refl 0⟩ rfl hl.1 (Nat.le_of_ble_eq_true rfl) rfl dX6_areBadGazes_66 (fun H locs hM hS => ?_)
          refine lv_icmp_ne (tgt := 89) hx hb dX6_areBadGazes_69 (by decide) (fun c16 => ?_) (fun c16 => ?_)
          · have h := bi_f c16 h
            exact w_X6_areBadGazes_89 B _ _ _ _ h hM hS (lv_sub hl [] rfl)
          · have h := bi_t c16 h
            exact w_X6_areBadGazes_72 B _ _ _ _ _ _ h hM hS (lv_sub hl [1, 0] rfl)
      · have h := bi_t c9 h
        exact w_X6_areBadGazes_28 B _ _ _ _ h hM hS (lv_sub hl [] rfl)
theorem c_X6_areBadGazes {l : Launch} {G : GG} {A : Nat → Prop} {ad : Nat → Nat} {st : MS} {x1 : Int32} {x2 : Int32} {r : Int32} {st' : MS} (h : f_X6_areBadGazes st x1 x2 = some (r, st')) : Met l yX6_areBadGazes (Cond.code yX6_areBadGazes cX6_areBadGazes 7 (some .boolean) :: TG) ({ frames := 2, cells := 0, slots := 0, locals := 46 } : Room) (PM G A ad st [.ref (ad 0), .int x1, .int x2]) (QM G A ad (some (.int r)) st') 0 0 A :=
  mw_of (own := RX6) (by decide +kernel) rfl rfl rfl (Nat.le_of_ble_eq_true rfl) fun p e s m below meth c ls B hM hS hl => w_X6_areBadGazes B _ _ _ _ _ _ h hM hS hl
set_option maxHeartbeats 4000000 in
set_option maxRecDepth 100000 in
theorem w_X6_isBadEdge_61 {p : Program} {l : Launch} {e : Env} {s : State} {m : MethodId} {args : Array Value} {below : List Frame} {meth : Method} {c : Code} {G : GG} {A : Nat → Prop} {ad : Nat → Nat} (B : MB G p s m args meth c cX6_isBadEdge 5 RX6 (some .boolean)) {r : Int32} {st' : MS} {k5 : MS → Int32 → Int32 → Int32 → Int32 → Option (Int32 × MS)} (hk5 : ∀ (st : MS) (x1 : Int32) (x2 : Int32) (x3 : Int32) (x4 : Int32) (H : Heap) (locs : List Loc) (ls : Array Slot), k5 st x1 x2 x3 x4 = some (r, st') → MW G A ad st H → va_S A s.heap H locs → lv_has ls 5 [(0, .ref (ad 0)), (1, .int x1), (2, .int x2), (3, .int x3), (4, .int x4)] → W p l e ({ frames := 0, cells := 0, slots := 0, locals := 0 } : Room) s m args below meth c H locs 0 0 (MQ below (QM G A ad (some (.int r)) st') args s 0 0 A) (F0 m 5 ls [])) : ∀ (st : MS) (x1 : Int32) (x2 : Int32) (x4 : Int32) (y0 : Int32) (H : Heap) (locs : List Loc) (ls : Array Slot), f_X6_isBadEdge_61 k5 st x1 x2 x4 y0 = some (r, st') → MW G A ad st H → va_S A s.heap H locs → lv_has ls 5 [(0, .ref (ad 0)), (1, .int x1), (2, .int x2), (4, .int x4)] → W p l e ({ frames := 0, cells := 0, slots := 0, locals := 0 } : Room) s m args below meth c H locs 0 0 (MQ below (QM G A ad (some (.int r)) st') args s 0 0 A) (F0 m 61 ls [.int y0]) := by
  have ⟨hx, hb, hr, hml, hown, hT, hlocks, hK⟩ := B
  intro st x1 x2 x4 y0 H locs ls h hM hS hl
  rw [f_X6_isBadEdge_61] at h
  refine lv_istore_n (lv' := [(3, .int y0), (0, .ref (ad 0)), (1, .int x1), (2, .int x2), (4, .int x4)]) hx hb dX6_isBadEdge_61 rfl hl (by decide) rfl (fun ls hl => ?_)
  refine lv_iinc (v := (x4 + 1)) (lv' := [(4, .int (x4 + 1)), (3, .int y0), (0, .ref (ad 0)), (1, .int x1), (2, .int x2)]) hx hb dX6_isBadEdge_62 hl (k := 4) rfl rfl (by decide) rfl (fun ls hl => ?_)
  refine lv_goto (tgt := 5) hx hb dX6_isBadEdge_65 (by decide) ?_
  exact hk5 _ _ _ _ _ _ _ _ h hM hS (lv_sub hl [2, 3, 4, 1, 0] rfl)
set_option maxHeartbeats 4000000 in
set_option maxRecDepth 100000 in
theorem w_X6_isBadEdge_60 {p : Program} {l : Launch} {e : Env} {s : State} {m : MethodId} {args : Array Value} {below : List Frame} {meth : Method} {c : Code} {G : GG} {A : Nat → Prop} {ad : Nat → Nat} (B : MB G p s m args meth c cX6_isBadEdge 5 RX6 (some .boolean)) {r : Int32} {st' : MS} {k5 : MS → Int32 → Int32 → Int32 → Int32 → Option (Int32 × MS)} (hk5 : ∀ (st : MS) (x1 : Int32) (x2 : Int32) (x3 : Int32) (x4 : Int32) (H : Heap) (locs : List Loc) (ls : Array Slot), k5 st x1 x2 x3 x4 = some (r, st') → MW G A ad st H → va_S A s.heap H locs → lv_has ls 5 [(0, .ref (ad 0)), (1, .int x1), (2, .int x2), (3, .int x3), (4, .int x4)] → W p l e ({ frames := 0, cells := 0, slots := 0, locals := 0 } : Room) s m args below meth c H locs 0 0 (MQ below (QM G A ad (some (.int r)) st') args s 0 0 A) (F0 m 5 ls [])) : ∀ (st : MS) (x1 : Int32) (x2 : Int32) (x4 : Int32) (H : Heap) (locs : List Loc) (ls : Array Slot), f_X6_isBadEdge_60 k5 st x1 x2 x4 = some (r, st') → MW G A ad st H → va_S A s.heap H locs → lv_has ls 5 [(0, .ref (ad 0)), (1, .int x1), (2, .int x2), (4, .int x4)] → W p l e ({ frames := 0, cells := 0, slots := 0, locals := 0 } : Room) s m args below meth c H locs 0 0 (MQ below (QM G A ad (some (.int r)) st') args s 0 0 A) (F0 m 60 ls []) := by
  have ⟨hx, hb, hr, hml, hown, hT, hlocks, hK⟩ := B
  intro st x1 x2 x4 H locs ls h hM hS hl
  rw [f_X6_isBadEdge_60] at h
  refine lv_iconst (v := 0) hx hb dX6_isBadEdge_60 (by decide) ?_
  exact w_X6_isBadEdge_61 B hk5 _ _ _ _ _ _ _ _ h hM hS (lv_sub hl [0, 1, 2, 3] rfl)
set_option maxHeartbeats 4000000 in
set_option maxRecDepth 100000 in
theorem w_X6_isBadEdge_56 {p : Program} {l : Launch} {e : Env} {s : State} {m : MethodId} {args : Array Value} {below : List Frame} {meth : Method} {c : Code} {G : GG} {A : Nat → Prop} {ad : Nat → Nat} (B : MB G p s m args meth c cX6_isBadEdge 5 RX6 (some .boolean)) {r : Int32} {st' : MS} {k5 : MS → Int32 → Int32 → Int32 → Int32 → Option (Int32 × MS)} (hk5 : ∀ (st : MS) (x1 : Int32) (x2 : Int32) (x3 : Int32) (x4 : Int32) (H : Heap) (locs : List Loc) (ls : Array Slot), k5 st x1 x2 x3 x4 = some (r, st') → MW G A ad st H → va_S A s.heap H locs → lv_has ls 5 [(0, .ref (ad 0)), (1, .int x1), (2, .int x2), (3, .int x3), (4, .int x4)] → W p l e ({ frames := 0, cells := 0, slots := 0, locals := 0 } : Room) s m args below meth c H locs 0 0 (MQ below (QM G A ad (some (.int r)) st') args s 0 0 A) (F0 m 5 ls [])) : ∀ (st : MS) (x1 : Int32) (x2 : Int32) (x4 : Int32) (H : Heap) (locs : List Loc) (ls : Array Slot), f_X6_isBadEdge_56 k5 st x1 x2 x4 = some (r, st') → MW G A ad st H → va_S A s.heap H locs → lv_has ls 5 [(0, .ref (ad 0)), (1, .int x1), (2, .int x2), (4, .int x4)] → W p l e ({ frames := 0, cells := 0, slots := 0, locals := 0 } : Room) s m args below meth c H locs 0 0 (MQ below (QM G A ad (some (.int r)) st') args s 0 0 A) (F0 m 56 ls []) := by
  have ⟨hx, hb, hr, hml, hown, hT, hlocks, hK⟩ := B
  intro st x1 x2 x4 H locs ls h hM hS hl
  rw [f_X6_isBadEdge_56] at h
  refine lv_iconst (v := 1) hx hb dX6_isBadEdge_56 (by decide) ?_
  refine lv_goto (tgt := 61) hx hb dX6_isBadEdge_57 (by decide) ?_
  exact w_X6_isBadEdge_61 B hk5 _ _ _ _ _ _ _ _ h hM hS (lv_sub hl [0, 1, 2, 3] rfl)
set_option maxHeartbeats 4000000 in
set_option maxRecDepth 100000 in
theorem w_X6_isBadEdge_5 {p : Program} {l : Launch} {e : Env} {s : State} {m : MethodId} {args : Array Value} {below : List Frame} {meth : Method} {c : Code} {G : GG} {A : Nat → Prop} {ad : Nat → Nat} (B : MB G p s m args meth c cX6_isBadEdge 5 RX6 (some .boolean)) {r : Int32} {st' : MS} : ∀ (n : Nat) (st : MS) (x1 : Int32) (x2 : Int32) (x3 : Int32) (x4 : Int32) (H : Heap) (locs : List Loc) (ls : Array Slot), f_X6_isBadEdge_5 n st x1 x2 x3 x4 = some (r, st') → MW G A ad st H → va_S A s.heap H locs → lv_has ls 5 [(0, .ref (ad 0)), (1, .int x1), (2, .int x2), (3, .int x3), (4, .int x4)] → W p l e ({ frames := 0, cells := 0, slots := 0, locals := 0 } : Room) s m args below meth c H locs 0 0 (MQ below (QM G A ad (some (.int r)) st') args s 0 0 A) (F0 m 5 ls []) := by
  have ⟨hx, hb, hr, hml, hown, hT, hlocks, hK⟩ := B
  intro n
  induction n with
  | zero =>
    intro st x1 x2 x3 x4 H locs ls h
    cases h
  | succ n ih =>
    intro st x1 x2 x3 x4 H locs ls h hM hS hl
    rw [f_X6_isBadEdge_5] at h
    refine lv_iload hx hb dX6_isBadEdge_5 (lv_at hl 4 rfl) ?_
    refine lv_iconst (v := 4) hx hb dX6_isBadEdge_7 (by decide) ?_
    refine lv_icmp_ge (tgt := 68) hx hb dX6_isBadEdge_8 (by decide) (fun c1 => ?_) (fun c1 => ?_)
    · have h := bi_t c1 h
      refine lv_iload_n hx hb dX6_isBadEdge_68 rfl (lv_at hl 3 rfl) ?_
      obtain ⟨g2, h⟩ := gd_e h
      cases h
      exact mw_zret B hM hS g2 dX6_isBadEdge_69
    · have h := bi_f c1 h
      refine lv_iload_n hx hb dX6_isBadEdge_11 rfl (lv_at hl 3 rfl) ?_
      refine lv_if_ne (tgt := 56) hx hb dX6_isBadEdge_12 (by decide) (fun c3 => ?_) (fun c3 => ?_)
      · have h := bi_f c3 h
        exact w_X6_isBadEdge_56 B ih _ _ _ _ _ _ _ h hM hS (lv_sub hl [0, 1, 2, 4] rfl)
      · have h := bi_t c3 h
        refine lv_aload_n hx hb dX6_isBadEdge_15 rfl (lv_at hl 0 rfl) ?_
        refine mw_get B hM 14 (by decide) wf_RX6_45 rfl (v := .ref (ad 14)) rfl dX6_isBadEdge_16 ?_
        refine lv_iconst (v := 4) hx hb dX6_isBadEdge_19 (by decide) ?_
        refine lv_iload_n hx hb dX6_isBadEdge_20 rfl (lv_at hl 1 rfl) ?_
        refine lv_imul hx hb dX6_isBadEdge_21 ?_
        refine lv_iload hx hb dX6_isBadEdge_22 (lv_at hl 4 rfl) ?_
        refine lv_iadd hx hb dX6_isBadEdge_24 ?_
        obtain ⟨g4, h⟩ := gd_e h
        refine mw_cald B hM 14 (by decide) (by decide) rfl g4 dX6_isBadEdge_25 ?_
        refine lv_bipush (v := 45) hx hb dX6_isBadEdge_26 (by decide) ?_
        refine lv_icmp_eq (tgt := 60) hx hb dX6_isBadEdge_28 (by decide) (fun c5 => ?_) (fun c5 => ?_)
        · have h := bi_t c5 h
          exact w_X6_isBadEdge_60 B ih _ _ _ _ _ _ _ h hM hS (lv_sub hl [0, 1, 2, 4] rfl)
        · have h := bi_f c5 h
          refine lv_aload_n hx hb dX6_isBadEdge_31 rfl (lv_at hl 0 rfl) ?_
          refine mw_get B hM 14 (by decide) wf_RX6_45 rfl (v := .ref (ad 14)) rfl dX6_isBadEdge_32 ?_
          refine lv_iconst (v := 4) hx hb dX6_isBadEdge_35 (by decide) ?_
          refine lv_iload_n hx hb dX6_isBadEdge_36 rfl (lv_at hl 1 rfl) ?_
          refine lv_imul hx hb dX6_isBadEdge_37 ?_
          refine lv_iload hx hb dX6_isBadEdge_38 (lv_at hl 4 rfl) ?_
          refine lv_iadd hx hb dX6_isBadEdge_40 ?_
          obtain ⟨g6, h⟩ := gd_e h
          refine mw_cald B hM 14 (by decide) (by decide) rfl g6 dX6_isBadEdge_41 ?_
          refine lv_aload_n hx hb dX6_isBadEdge_42 rfl (lv_at hl 0 rfl) ?_
          refine mw_get B hM 13 (by decide) wf_RX6_42 rfl (v := .ref (ad 13)) rfl dX6_isBadEdge_43 ?_
          refine lv_iconst (v := 4) hx hb dX6_isBadEdge_46 (by decide) ?_
          refine lv_iload_n hx hb dX6_isBadEdge_47 rfl (lv_at hl 2 rfl) ?_
          refine lv_imul hx hb dX6_isBadEdge_48 ?_
          refine lv_iload hx hb dX6_isBadEdge_49 (lv_at hl 4 rfl) ?_
          refine lv_iadd hx hb dX6_isBadEdge_51 ?_
          obtain ⟨g7, h⟩ := gd_e h
          refine mw_cald B hM 13 (by decide) (by decide) rfl g7 dX6_isBadEdge_52 ?_
          refine lv_icmp_ne (tgt := 60) hx hb dX6_isBadEdge_53 (by decide) (fun c8 => ?_) (fun c8 => ?_)
          · have h := bi_f c8 h
            exact w_X6_isBadEdge_60 B ih _ _ _ _ _ _ _ h hM hS (lv_sub hl [0, 1, 2, 4] rfl)
          · have h := bi_t c8 h
            exact w_X6_isBadEdge_56 B ih _ _ _ _ _ _ _ h hM hS (lv_sub hl [0, 1, 2, 4] rfl)
set_option maxHeartbeats 4000000 in
set_option maxRecDepth 100000 in
theorem w_X6_isBadEdge {p : Program} {l : Launch} {e : Env} {s : State} {m : MethodId} {args : Array Value} {below : List Frame} {meth : Method} {c : Code} {G : GG} {A : Nat → Prop} {ad : Nat → Nat} (B : MB G p s m args meth c cX6_isBadEdge 5 RX6 (some .boolean)) {r : Int32} {st' : MS} : ∀ (st : MS) (x1 : Int32) (x2 : Int32) (H : Heap) (locs : List Loc) (ls : Array Slot), f_X6_isBadEdge st x1 x2 = some (r, st') → MW G A ad st H → va_S A s.heap H locs → lv_has ls 5 [(0, .ref (ad 0)), (1, .int x1), (2, .int x2)] → W p l e ({ frames := 0, cells := 0, slots := 0, locals := 0 } : Room) s m args below meth c H locs 0 0 (MQ below (QM G A ad (some (.int r)) st') args s 0 0 A) (F0 m 0 ls []) := by
  have ⟨hx, hb, hr, hml, hown, hT, hlocks, hK⟩ := B
  intro st x1 x2 H locs ls h hM hS hl
  rw [f_X6_isBadEdge] at h
  refine lv_iconst (v := 0) hx hb dX6_isBadEdge_0 (by decide) ?_
  refine lv_istore_n (lv' := [(3, .int 0), (0, .ref (ad 0)), (1, .int x1), (2, .int x2)]) hx hb dX6_isBadEdge_1 rfl hl (by decide) rfl (fun ls hl => ?_)
  refine lv_iconst (v := 0) hx hb dX6_isBadEdge_2 (by decide) ?_
  refine lv_istore (lv' := [(4, .int 0), (3, .int 0), (0, .ref (ad 0)), (1, .int x1), (2, .int x2)]) hx hb dX6_isBadEdge_3 hl (by decide) rfl (fun ls hl => ?_)
  exact w_X6_isBadEdge_5 B FU _ _ _ _ _ _ _ _ h hM hS (lv_sub hl [2, 3, 4, 1, 0] rfl)
theorem c_X6_isBadEdge {l : Launch} {G : GG} {A : Nat → Prop} {ad : Nat → Nat} {st : MS} {x1 : Int32} {x2 : Int32} {r : Int32} {st' : MS} (h : f_X6_isBadEdge st x1 x2 = some (r, st')) : Met l yX6_isBadEdge (Cond.code yX6_isBadEdge cX6_isBadEdge 5 (some .boolean) :: TG) ({ frames := 0, cells := 0, slots := 0, locals := 0 } : Room) (PM G A ad st [.ref (ad 0), .int x1, .int x2]) (QM G A ad (some (.int r)) st') 0 0 A :=
  mw_of (own := RX6) (by decide +kernel) rfl rfl rfl (Nat.le_of_ble_eq_true rfl) fun p e s m below meth c ls B hM hS hl => w_X6_isBadEdge B _ _ _ _ _ _ h hM hS hl
set_option maxHeartbeats 4000000 in
set_option maxRecDepth 100000 in
theorem w_X6_isJump_120 {p : Program} {l : Launch} {e : Env} {s : State} {m : MethodId} {args : Array Value} {below : List Frame} {meth : Method} {c : Code} {G : GG} {A : Nat → Prop} {ad : Nat → Nat} (B : MB G p s m args meth c cX6_isJump 8 RX6 (some .boolean)) {r : Int32} {st' : MS} {k5 : MS → Int32 → Int32 → Int32 → Int32 → Option (Int32 × MS)} (hk5 : ∀ (st : MS) (x1 : Int32) (x2 : Int32) (x3 : Int32) (x4 : Int32) (H : Heap) (locs : List Loc) (ls : Array Slot), k5 st x1 x2 x3 x4 = some (r, st') → MW G A ad st H → va_S A s.heap H locs → lv_has ls 8 [(0, .ref (ad 0)), (1, .int x1), (2, .int x2), (3, .int x3), (4, .int x4)] → W p l e ({ frames := 0, cells := 0, slots := 0, locals := 0 } : Room) s m args below meth c H locs 0 0 (MQ below (QM G A ad (some (.int r)) st') args s 0 0 A) (F0 m 5 ls [])) : ∀ (st : MS) (x1 : Int32) (x2 : Int32) (x4 : Int32) (y0 : Int32) (H : Heap) (locs : List Loc) (ls : Array Slot), f_X6_isJump_120 k5 st x1 x2 x4 y0 = some (r, st') → MW G A ad st H → va_S A s.heap H locs → lv_has ls 8 [(0, .ref (ad 0)), (1, .int x1), (2, .int x2), (4, .int x4)] → W p l e ({ frames := 0, cells := 0, slots := 0, locals := 0 } : Room) s m args below meth c H locs 0 0 (MQ below (QM G A ad (some (.int r)) st') args s 0 0 A) (F0 m 120 ls [.int y0]) := by
  have ⟨hx, hb, hr, hml, hown, hT, hlocks, hK⟩ := B
  intro st x1 x2 x4 y0 H locs ls h hM hS hl
  rw [f_X6_isJump_120] at h
  refine lv_istore_n (lv' := [(3, .int y0), (0, .ref (ad 0)), (1, .int x1), (2, .int x2), (4, .int x4)]) hx hb dX6_isJump_120 rfl hl (by decide) rfl (fun ls hl => ?_)
  refine lv_iinc (v := (x4 + 1)) (lv' := [(4, .int (x4 + 1)), (3, .int y0), (0, .ref (ad 0)), (1, .int x1), (2, .int x2)]) hx hb dX6_isJump_121 hl (k := 4) rfl rfl (by decide) rfl (fun ls hl => ?_)
  refine lv_goto (tgt := 5) hx hb dX6_isJump_124 (by decide) ?_
  exact hk5 _ _ _ _ _ _ _ _ h hM hS (lv_sub hl [2, 3, 4, 1, 0] rfl)
set_option maxHeartbeats 4000000 in
set_option maxRecDepth 100000 in
theorem w_X6_isJump_119 {p : Program} {l : Launch} {e : Env} {s : State} {m : MethodId} {args : Array Value} {below : List Frame} {meth : Method} {c : Code} {G : GG} {A : Nat → Prop} {ad : Nat → Nat} (B : MB G p s m args meth c cX6_isJump 8 RX6 (some .boolean)) {r : Int32} {st' : MS} {k5 : MS → Int32 → Int32 → Int32 → Int32 → Option (Int32 × MS)} (hk5 : ∀ (st : MS) (x1 : Int32) (x2 : Int32) (x3 : Int32) (x4 : Int32) (H : Heap) (locs : List Loc) (ls : Array Slot), k5 st x1 x2 x3 x4 = some (r, st') → MW G A ad st H → va_S A s.heap H locs → lv_has ls 8 [(0, .ref (ad 0)), (1, .int x1), (2, .int x2), (3, .int x3), (4, .int x4)] → W p l e ({ frames := 0, cells := 0, slots := 0, locals := 0 } : Room) s m args below meth c H locs 0 0 (MQ below (QM G A ad (some (.int r)) st') args s 0 0 A) (F0 m 5 ls [])) : ∀ (st : MS) (x1 : Int32) (x2 : Int32) (x4 : Int32) (H : Heap) (locs : List Loc) (ls : Array Slot), f_X6_isJump_119 k5 st x1 x2 x4 = some (r, st') → MW G A ad st H → va_S A s.heap H locs → lv_has ls 8 [(0, .ref (ad 0)), (1, .int x1), (2, .int x2), (4, .int x4)] → W p l e ({ frames := 0, cells := 0, slots := 0, locals := 0 } : Room) s m args below meth c H locs 0 0 (MQ below (QM G A ad (some (.int r)) st') args s 0 0 A) (F0 m 119 ls []) := by
  have ⟨hx, hb, hr, hml, hown, hT, hlocks, hK⟩ := B
  intro st x1 x2 x4 H locs ls h hM hS hl
  rw [f_X6_isJump_119] at h
  refine lv_iconst (v := 0) hx hb dX6_isJump_119 (by decide) ?_
  exact w_X6_isJump_120 B hk5 _ _ _ _ _ _ _ _ h hM hS (lv_sub hl [0, 1, 2, 3] rfl)
set_option maxHeartbeats 4000000 in
set_option maxRecDepth 100000 in
theorem w_X6_isJump_115 {p : Program} {l : Launch} {e : Env} {s : State} {m : MethodId} {args : Array Value} {below : List Frame} {meth : Method} {c : Code} {G : GG} {A : Nat → Prop} {ad : Nat → Nat} (B : MB G p s m args meth c cX6_isJump 8 RX6 (some .boolean)) {r : Int32} {st' : MS} {k5 : MS → Int32 → Int32 → Int32 → Int32 → Option (Int32 × MS)} (hk5 : ∀ (st : MS) (x1 : Int32) (x2 : Int32) (x3 : Int32) (x4 : Int32) (H : Heap) (locs : List Loc) (ls : Array Slot), k5 st x1 x2 x3 x4 = some (r, st') → MW G A ad st H → va_S A s.heap H locs → lv_has ls 8 [(0, .ref (ad 0)), (1, .int x1), (2, .int x2), (3, .int x3), (4, .int x4)] → W p l e ({ frames := 0, cells := 0, slots := 0, locals := 0 } : Room) s m args below meth c H locs 0 0 (MQ below (QM G A ad (some (.int r)) st') args s 0 0 A) (F0 m 5 ls [])) : ∀ (st : MS) (x1 : Int32) (x2 : Int32) (x4 : Int32) (H : Heap) (locs : List Loc) (ls : Array Slot), f_X6_isJump_115 k5 st x1 x2 x4 = some (r, st') → MW G A ad st H → va_S A s.heap H locs → lv_has ls 8 [(0, .ref (ad 0)), (1, .int x1), (2, .int x2), (4, .int x4)] → W p l e ({ frames := 0, cells := 0, slots := 0, locals := 0 } : Room) s m args below meth c H locs 0 0 (MQ below (QM G A ad (some (.int r)) st') args s 0 0 A) (F0 m 115 ls []) := by
  have ⟨hx, hb, hr, hml, hown, hT, hlocks, hK⟩ := B
  intro st x1 x2 x4 H locs ls h hM hS hl
  rw [f_X6_isJump_115] at h
  refine lv_iconst (v := 1) hx hb dX6_isJump_115 (by decide) ?_
  refine lv_goto (tgt := 120) hx hb dX6_isJump_116 (by decide) ?_
  exact w_X6_isJump_120 B hk5 _ _ _ _ _ _ _ _ h hM hS (lv_sub hl [0, 1, 2, 3] rfl)
set_option maxHeartbeats 4000000 in
set_option maxRecDepth 100000 in
theorem w_X6_isJump_80 {p : Program} {l : Launch} {e : Env} {s : State} {m : MethodId} {args : Array Value} {below : List Frame} {meth : Method} {c : Code} {G : GG} {A : Nat → Prop} {ad : Nat → Nat} (B : MB G p s m args meth c cX6_isJump 8 RX6 (some .boolean)) {r : Int32} {st' : MS} {k5 : MS → Int32 → Int32 → Int32 → Int32 → Option (Int32 × MS)} (hk5 : ∀ (st : MS) (x1 : Int32) (x2 : Int32) (x3 : Int32) (x4 : Int32) (H : Heap) (locs : List Loc) (ls : Array Slot), k5 st x1 x2 x3 x4 = some (r, st') → MW G A ad st H → va_S A s.heap H locs → lv_has ls 8 [(0, .ref (ad 0)), (1, .int x1), (2, .int x2), (3, .int x3), (4, .int x4)] → W p l e ({ frames := 0, cells := 0, slots := 0, locals := 0 } : Room) s m args below meth c H locs 0 0 (MQ below (QM G A ad (some (.int r)) st') args s 0 0 A) (F0 m 5 ls [])) : ∀ (st : MS) (x1 : Int32) (x2 : Int32) (x3 : Int32) (x4 : Int32) (x5 : Int32) (x6 : Int32) (y0 : Int32) (H : Heap) (locs : List Loc) (ls : Array Slot), f_X6_isJump_80 k5 st x1 x2 x3 x4 x5 x6 y0 = some (r, st') → MW G A ad st H → va_S A s.heap H locs → lv_has ls 8 [(0, .ref (ad 0)), (1, .int x1), (2, .int x2), (3, .int x3), (4, .int x4), (5, .int x5), (6, .int x6)] → W p l e ({ frames := 0, cells := 0, slots := 0, locals := 0 } : Room) s m args below meth c H locs 0 0 (MQ below (QM G A ad (some (.int r)) st') args s 0 0 A) (F0 m 80 ls [.int y0]) := by
  have ⟨hx, hb, hr, hml, hown, hT, hlocks, hK⟩ := B
  intro st x1 x2 x3 x4 x5 x6 y0 H locs ls h hM hS hl
  rw [f_X6_isJump_80] at h
  refine lv_istore (lv' := [(7, .int y0), (0, .ref (ad 0)), (1, .int x1), (2, .int x2), (3, .int x3), (4, .int x4), (5, .int x5), (6, .int x6)]) hx hb dX6_isJump_80 hl (by decide) rfl (fun ls hl => ?_)
  refine lv_iload_n hx hb dX6_isJump_82 rfl (lv_at hl 4 rfl) ?_
  refine lv_if_ne (tgt := 115) hx hb dX6_isJump_83 (by decide) (fun c1 => ?_) (fun c1 => ?_)
  · have h := bi_f c1 h
    exact w_X6_isJump_115 B hk5 _ _ _ _ _ _ _ h hM hS (lv_sub hl [1, 2, 3, 5] rfl)
  · have h := bi_t c1 h
    refine lv_iload hx hb dX6_isJump_86 (lv_at hl 0 rfl) ?_
    refine lv_if_eq (tgt := 119) hx hb dX6_isJump_88 (by decide) (fun c2 => ?_) (fun c2 => ?_)
    · have h := bi_t c2 h
      exact w_X6_isJump_119 B hk5 _ _ _ _ _ _ _ h hM hS (lv_sub hl [1, 2, 3, 5] rfl)
    · have h := bi_f c2 h
      refine lv_aload_n hx hb dX6_isJump_91 rfl (lv_at hl 1 rfl) ?_
      refine mw_get B hM 14 (by decide) wf_RX6_45 rfl (v := .ref (ad 14)) rfl dX6_isJump_92 ?_
      refine lv_iload hx hb dX6_isJump_95 (lv_at hl 6 rfl) ?_
      obtain ⟨g3, h⟩ := gd_e h
      refine mw_cald B hM 14 (by decide) (by decide) rfl g3 dX6_isJump_97 ?_
      refine lv_bipush (v := 45) hx hb dX6_isJump_98 (by decide) ?_
      refine lv_icmp_ne (tgt := 119) hx hb dX6_isJump_100 (by decide) (fun c4 => ?_) (fun c4 => ?_)
      · have h := bi_f c4 h
        exact w_X6_isJump_119 B hk5 _ _ _ _ _ _ _ h hM hS (lv_sub hl [1, 2, 3, 5] rfl)
      · have h := bi_t c4 h
        refine lv_aload_n hx hb dX6_isJump_103 rfl (lv_at hl 1 rfl) ?_
        refine mw_get B hM 13 (by decide) wf_RX6_42 rfl (v := .ref (ad 13)) rfl dX6_isJump_104 ?_
        refine lv_iload hx hb dX6_isJump_107 (lv_at hl 7 rfl) ?_
        obtain ⟨g5, h⟩ := gd_e h
        refine mw_cald B hM 13 (by decide) (by decide) rfl g5 dX6_isJump_109 ?_
        refine lv_bipush (v := 45) hx hb dX6_isJump_110 (by decide) ?_
        refine lv_icmp_ne (tgt := 119) hx hb dX6_isJump_112 (by decide) (fun c6 => ?_) (fun c6 => ?_)
        · have h := bi_f c6 h
          exact w_X6_isJump_119 B hk5 _ _ _ _ _ _ _ h hM hS (lv_sub hl [1, 2, 3, 5] rfl)
        · have h := bi_t c6 h
          exact w_X6_isJump_115 B hk5 _ _ _ _ _ _ _ h hM hS (lv_sub hl [1, 2, 3, 5] rfl)
set_option maxHeartbeats 4000000 in
set_option maxRecDepth 100000 in
theorem w_X6_isJump_79 {p : Program} {l : Launch} {e : Env} {s : State} {m : MethodId} {args : Array Value} {below : List Frame} {meth : Method} {c : Code} {G : GG} {A : Nat → Prop} {ad : Nat → Nat} (B : MB G p s m args meth c cX6_isJump 8 RX6 (some .boolean)) {r : Int32} {st' : MS} {k5 : MS → Int32 → Int32 → Int32 → Int32 → Option (Int32 × MS)} (hk5 : ∀ (st : MS) (x1 : Int32) (x2 : Int32) (x3 : Int32) (x4 : Int32) (H : Heap) (locs : List Loc) (ls : Array Slot), k5 st x1 x2 x3 x4 = some (r, st') → MW G A ad st H → va_S A s.heap H locs → lv_has ls 8 [(0, .ref (ad 0)), (1, .int x1), (2, .int x2), (3, .int x3), (4, .int x4)] → W p l e ({ frames := 0, cells := 0, slots := 0, locals := 0 } : Room) s m args below meth c H locs 0 0 (MQ below (QM G A ad (some (.int r)) st') args s 0 0 A) (F0 m 5 ls [])) : ∀ (st : MS) (x1 : Int32) (x2 : Int32) (x3 : Int32) (x4 : Int32) (x5 : Int32) (x6 : Int32) (H : Heap) (locs : List Loc) (ls : Array Slot), f_X6_isJump_79 k5 st x1 x2 x3 x4 x5 x6 = some (r, st') → MW G A ad st H → va_S A s.heap H locs → lv_has ls 8 [(0, .ref (ad 0)), (1, .int x1), (2, .int x2), (3, .int x3), (4, .int x4), (5, .int x5), (6, .int x6)] → W p l e ({ frames := 0, cells := 0, slots := 0, locals := 0 } : Room) s m args below meth c H locs 0 0 (MQ below (QM G A ad (some (.int r)) st') args s 0 0 A) (F0 m 79 ls []) := by
  have ⟨hx, hb, hr, hml, hown, hT, hlocks, hK⟩ := B
  intro st x1 x2 x3 x4 x5 x6 H locs ls h hM hS hl
  rw [f_X6_isJump_79] at h
  refine lv_iconst (v := 0) hx hb dX6_isJump_79 (by decide) ?_
  exact w_X6_isJump_80 B hk5 _ _ _ _ _ _ _ _ _ _ _ h hM hS (lv_sub hl [0, 1, 2, 3, 4, 5, 6] rfl)
set_option maxHeartbeats 4000000 in
set_option maxRecDepth 100000 in
theorem w_X6_isJump_75 {p : Program} {l : Launch} {e : Env} {s : State} {m : MethodId} {args : Array Value} {below : List Frame} {meth : Method} {c : Code} {G : GG} {A : Nat → Prop} {ad : Nat → Nat} (B : MB G p s m args meth c cX6_isJump 8 RX6 (some .boolean)) {r : Int32} {st' : MS} {k5 : MS → Int32 → Int32 → Int32 → Int32 → Option (Int32 × MS)} (hk5 : ∀ (st : MS) (x1 : Int32) (x2 : Int32) (x3 : Int32) (x4 : Int32) (H : Heap) (locs : List Loc) (ls : Array Slot), k5 st x1 x2 x3 x4 = some (r, st') → MW G A ad st H → va_S A s.heap H locs → lv_has ls 8 [(0, .ref (ad 0)), (1, .int x1), (2, .int x2), (3, .int x3), (4, .int x4)] → W p l e ({ frames := 0, cells := 0, slots := 0, locals := 0 } : Room) s m args below meth c H locs 0 0 (MQ below (QM G A ad (some (.int r)) st') args s 0 0 A) (F0 m 5 ls [])) : ∀ (st : MS) (x1 : Int32) (x2 : Int32) (x3 : Int32) (x4 : Int32) (x5 : Int32) (x6 : Int32) (H : Heap) (locs : List Loc) (ls : Array Slot), f_X6_isJump_75 k5 st x1 x2 x3 x4 x5 x6 = some (r, st') → MW G A ad st H → va_S A s.heap H locs → lv_has ls 8 [(0, .ref (ad 0)), (1, .int x1), (2, .int x2), (3, .int x3), (4, .int x4), (5, .int x5), (6, .int x6)] → W p l e ({ frames := 0, cells := 0, slots := 0, locals := 0 } : Room) s m args below meth c H locs 0 0 (MQ below (QM G A ad (some (.int r)) st') args s 0 0 A) (F0 m 75 ls []) := by
  have ⟨hx, hb, hr, hml, hown, hT, hlocks, hK⟩ := B
  intro st x1 x2 x3 x4 x5 x6 H locs ls h hM hS hl
  rw [f_X6_isJump_75] at h
  refine lv_iconst (v := 1) hx hb dX6_isJump_75 (by decide) ?_
  refine lv_goto (tgt := 80) hx hb dX6_isJump_76 (by decide) ?_
  exact w_X6_isJump_80 B hk5 _ _ _ _ _ _ _ _ _ _ _ h hM hS (lv_sub hl [0, 1, 2, 3, 4, 5, 6] rfl)
set_option maxHeartbeats 4000000 in
set_option maxRecDepth 100000 in
theorem w_X6_isJump_51 {p : Program} {l : Launch} {e : Env} {s : State} {m : MethodId} {args : Array Value} {below : List Frame} {meth : Method} {c : Code} {G : GG} {A : Nat → Prop} {ad : Nat → Nat} (B : MB G p s m args meth c cX6_isJump 8 RX6 (some .boolean)) {r : Int32} {st' : MS} {k5 : MS → Int32 → Int32 → Int32 → Int32 → Option (Int32 × MS)} (hk5 : ∀ (st : MS) (x1 : Int32) (x2 : Int32) (x3 : Int32) (x4 : Int32) (H : Heap) (locs : List Loc) (ls : Array Slot), k5 st x1 x2 x3 x4 = some (r, st') → MW G A ad st H → va_S A s.heap H locs → lv_has ls 8 [(0, .ref (ad 0)), (1, .int x1), (2, .int x2), (3, .int x3), (4, .int x4)] → W p l e ({ frames := 0, cells := 0, slots := 0, locals := 0 } : Room) s m args below meth c H locs 0 0 (MQ below (QM G A ad (some (.int r)) st') args s 0 0 A) (F0 m 5 ls [])) : ∀ (st : MS) (x1 : Int32) (x2 : Int32) (x3 : Int32) (x4 : Int32) (x5 : Int32) (x6 : Int32) (H : Heap) (locs : List Loc) (ls : Array Slot), f_X6_isJump_51 k5 st x1 x2 x3 x4 x5 x6 = some (r, st') → MW G A ad st H → va_S A s.heap H locs → lv_has ls 8 [(0, .ref (ad 0)), (1, .int x1), (2, .int x2), (3, .int x3), (4, .int x4), (5, .int x5), (6, .int x6)] → W p l e ({ frames := 0, cells := 0, slots := 0, locals := 0 } : Room) s m args below meth c H locs 0 0 (MQ below (QM G A ad (some (.int r)) st') args s 0 0 A) (F0 m 51 ls []) := by
  have ⟨hx, hb, hr, hml, hown, hT, hlocks, hK⟩ := B
  intro st x1 x2 x3 x4 x5 x6 H locs ls h hM hS hl
  rw [f_X6_isJump_51] at h
  refine lv_aload_n hx hb dX6_isJump_51 rfl (lv_at hl 0 rfl) ?_
  refine mw_get B hM 11 (by decide) wf_RX6_36 rfl (v := .ref (ad 11)) rfl dX6_isJump_52 ?_
  refine lv_iload hx hb dX6_isJump_55 (lv_at hl 5 rfl) ?_
  obtain ⟨g1, h⟩ := gd_e h
  refine mw_cald B hM 11 (by decide) (by decide) rfl g1 dX6_isJump_57 ?_
  refine lv_bipush (v := 114) hx hb dX6_isJump_58 (by decide) ?_
  refine lv_icmp_ne (tgt := 79) hx hb dX6_isJump_60 (by decide) (fun c2 => ?_) (fun c2 => ?_)
  · have h := bi_f c2 h
    exact w_X6_isJump_79 B hk5 _ _ _ _ _ _ _ _ _ _ h hM hS (lv_sub hl [0, 1, 2, 3, 4, 5, 6] rfl)
  · have h := bi_t c2 h
    refine lv_aload_n hx hb dX6_isJump_63 rfl (lv_at hl 0 rfl) ?_
    refine mw_get B hM 11 (by decide) wf_RX6_36 rfl (v := .ref (ad 11)) rfl dX6_isJump_64 ?_
    refine lv_iload hx hb dX6_isJump_67 (lv_at hl 6 rfl) ?_
    obtain ⟨g3, h⟩ := gd_e h
    refine mw_cald B hM 11 (by decide) (by decide) rfl g3 dX6_isJump_69 ?_
    refine lv_bipush (v := 108) hx hb dX6_isJump_70 (by decide) ?_
    refine lv_icmp_ne (tgt := 79) hx hb dX6_isJump_72 (by decide) (fun c4 => ?_) (fun c4 => ?_)
    · have h := bi_f c4 h
      exact w_X6_isJump_79 B hk5 _ _ _ _ _ _ _ _ _ _ h hM hS (lv_sub hl [0, 1, 2, 3, 4, 5, 6] rfl)
    · have h := bi_t c4 h
      exact w_X6_isJump_75 B hk5 _ _ _ _ _ _ _ _ _ _ h hM hS (lv_sub hl [0, 1, 2, 3, 4, 5, 6] rfl)
set_option maxHeartbeats 4000000 in
set_option maxRecDepth 100000 in
theorem w_X6_isJump_5 {p : Program} {l : Launch} {e : Env} {s : State} {m : MethodId} {args : Array Value} {below : List Frame} {meth : Method} {c : Code} {G : GG} {A : Nat → Prop} {ad : Nat → Nat} (B : MB G p s m args meth c cX6_isJump 8 RX6 (some .boolean)) {r : Int32} {st' : MS} : ∀ (n : Nat) (st : MS) (x1 : Int32) (x2 : Int32) (x3 : Int32) (x4 : Int32) (H : Heap) (locs : List Loc) (ls : Array Slot), f_X6_isJump_5 n st x1 x2 x3 x4 = some (r, st') → MW G A ad st H → va_S A s.heap H locs → lv_has ls 8 [(0, .ref (ad 0)), (1, .int x1), (2, .int x2), (3, .int x3), (4, .int x4)] → W p l e ({ frames := 0, cells := 0, slots := 0, locals := 0 } : Room) s m args below meth c H locs 0 0 (MQ below (QM G A ad (some (.int r)) st') args s 0 0 A) (F0 m 5 ls []) := by
  have ⟨hx, hb, hr, hml, hown, hT, hlocks, hK⟩ := B
  intro n
  induction n with
  | zero =>
    intro st x1 x2 x3 x4 H locs ls h
    cases h
  | succ n ih =>
    intro st x1 x2 x3 x4 H locs ls h hM hS hl
    rw [f_X6_isJump_5] at h
    refine lv_iload hx hb dX6_isJump_5 (lv_at hl 4 rfl) ?_
    refine lv_iconst (v := 4) hx hb dX6_isJump_7 (by decide) ?_
    refine lv_icmp_ge (tgt := 127) hx hb dX6_isJump_8 (by decide) (fun c1 => ?_) (fun c1 => ?_)
    · have h := bi_t c1 h
      refine lv_iload_n hx hb dX6_isJump_127 rfl (lv_at hl 3 rfl) ?_
      obtain ⟨g2, h⟩ := gd_e h
      cases h
      exact mw_zret B hM hS g2 dX6_isJump_128
    · have h := bi_f c1 h
      refine lv_iconst (v := 4) hx hb dX6_isJump_11 (by decide) ?_
      refine lv_iload_n hx hb dX6_isJump_12 rfl (lv_at hl 1 rfl) ?_
      refine lv_imul hx hb dX6_isJump_13 ?_
      refine lv_iload hx hb dX6_isJump_14 (lv_at hl 4 rfl) ?_
      refine lv_iadd hx hb dX6_isJump_16 ?_
      refine lv_istore (lv' := [(5, .int ((4 * x1) + x4)), (0, .ref (ad 0)), (1, .int x1), (2, .int x2), (3, .int x3), (4, .int x4)]) hx hb dX6_isJump_17 hl (by decide) rfl (fun ls hl => ?_)
      refine lv_iconst (v := 4) hx hb dX6_isJump_19 (by decide) ?_
      refine lv_iload_n hx hb dX6_isJump_20 rfl (lv_at hl 3 rfl) ?_
      refine lv_imul hx hb dX6_isJump_21 ?_
      refine lv_iload hx hb dX6_isJump_22 (lv_at hl 5 rfl) ?_
      refine lv_iadd hx hb dX6_isJump_24 ?_
      refine lv_istore (lv' := [(6, .int ((4 * x2) + x4)), (5, .int ((4 * x1) + x4)), (0, .ref (ad 0)), (1, .int x1), (2, .int x2), (3, .int x3), (4, .int x4)]) hx hb dX6_isJump_25 hl (by decide) rfl (fun ls hl => ?_)
      refine lv_aload_n hx hb dX6_isJump_27 rfl (lv_at hl 2 rfl) ?_
      refine mw_get B hM 11 (by decide) wf_RX6_36 rfl (v := .ref (ad 11)) rfl dX6_isJump_28 ?_
      refine lv_iload hx hb dX6_isJump_31 (lv_at hl 1 rfl) ?_
      obtain ⟨g3, h⟩ := gd_e h
      refine mw_cald B hM 11 (by decide) (by decide) rfl g3 dX6_isJump_33 ?_
      refine lv_bipush (v := 108) hx hb dX6_isJump_34 (by decide) ?_
      refine lv_icmp_ne (tgt := 51) hx hb dX6_isJump_36 (by decide) (fun c4 => ?_) (fun c4 => ?_)
      · have h := bi_f c4 h
        exact w_X6_isJump_51 B ih _ _ _ _ _ _ _ _ _ _ h hM hS (lv_sub hl [2, 3, 4, 5, 6, 1, 0] rfl)
      · have h := bi_t c4 h
        refine lv_aload_n hx hb dX6_isJump_39 rfl (lv_at hl 2 rfl) ?_
        refine mw_get B hM 11 (by decide) wf_RX6_36 rfl (v := .ref (ad 11)) rfl dX6_isJump_40 ?_
        refine lv_iload hx hb dX6_isJump_43 (lv_at hl 0 rfl) ?_
        obtain ⟨g5, h⟩ := gd_e h
        refine mw_cald B hM 11 (by decide) (by decide) rfl g5 dX6_isJump_45 ?_
        refine lv_bipush (v := 114) hx hb dX6_isJump_46 (by decide) ?_
        refine lv_icmp_eq (tgt := 75) hx hb dX6_isJump_48 (by decide) (fun c6 => ?_) (fun c6 => ?_)
        · have h := bi_t c6 h
          exact w_X6_isJump_75 B ih _ _ _ _ _ _ _ _ _ _ h hM hS (lv_sub hl [2, 3, 4, 5, 6, 1, 0] rfl)
        · have h := bi_f c6 h
          exact w_X6_isJump_51 B ih _ _ _ _ _ _ _ _ _ _ h hM hS (lv_sub hl [2, 3, 4, 5, 6, 1, 0] rfl)
set_option maxHeartbeats 4000000 in
set_option maxRecDepth 100000 in
theorem w_X6_isJump {p : Program} {l : Launch} {e : Env} {s : State} {m : MethodId} {args : Array Value} {below : List Frame} {meth : Method} {c : Code} {G : GG} {A : Nat → Prop} {ad : Nat → Nat} (B : MB G p s m args meth c cX6_isJump 8 RX6 (some .boolean)) {r : Int32} {st' : MS} : ∀ (st : MS) (x1 : Int32) (x2 : Int32) (H : Heap) (locs : List Loc) (ls : Array Slot), f_X6_isJump st x1 x2 = some (r, st') → MW G A ad st H → va_S A s.heap H locs → lv_has ls 8 [(0, .ref (ad 0)), (1, .int x1), (2, .int x2)] → W p l e ({ frames := 0, cells := 0, slots := 0, locals := 0 } : Room) s m args below meth c H locs 0 0 (MQ below (QM G A ad (some (.int r)) st') args s 0 0 A) (F0 m 0 ls []) := by
  have ⟨hx, hb, hr, hml, hown, hT, hlocks, hK⟩ := B
  intro st x1 x2 H locs ls h hM hS hl
  rw [f_X6_isJump] at h
  refine lv_iconst (v := 0) hx hb dX6_isJump_0 (by decide) ?_
  refine lv_istore_n (lv' := [(3, .int 0), (0, .ref (ad 0)), (1, .int x1), (2, .int x2)]) hx hb dX6_isJump_1 rfl hl (by decide) rfl (fun ls hl => ?_)
  refine lv_iconst (v := 0) hx hb dX6_isJump_2 (by decide) ?_
  refine lv_istore (lv' := [(4, .int 0), (3, .int 0), (0, .ref (ad 0)), (1, .int x1), (2, .int x2)]) hx hb dX6_isJump_3 hl (by decide) rfl (fun ls hl => ?_)
  exact w_X6_isJump_5 B FU _ _ _ _ _ _ _ _ h hM hS (lv_sub hl [2, 3, 4, 1, 0] rfl)
theorem c_X6_isJump {l : Launch} {G : GG} {A : Nat → Prop} {ad : Nat → Nat} {st : MS} {x1 : Int32} {x2 : Int32} {r : Int32} {st' : MS} (h : f_X6_isJump st x1 x2 = some (r, st')) : Met l yX6_isJump (Cond.code yX6_isJump cX6_isJump 8 (some .boolean) :: TG) ({ frames := 0, cells := 0, slots := 0, locals := 0 } : Room) (PM G A ad st [.ref (ad 0), .int x1, .int x2]) (QM G A ad (some (.int r)) st') 0 0 A :=
  mw_of (own := RX6) (by decide +kernel) rfl rfl rfl (Nat.le_of_ble_eq_true rfl) fun p e s m below meth c ls B hM hS hl => w_X6_isJump B _ _ _ _ _ _ h hM hS hl
