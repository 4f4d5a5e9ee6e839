set_option maxHeartbeats 4000000 in
set_option maxRecDepth 100000 in
theorem w_X6_setups {p : Program} {l : Launch} {e : Env} {s : State} {m : MethodId} {args : Array Value} {below : List Frame} {meth : Method} {c : Code} {G : GG} {A : Nat → Prop} {ad : Nat → Nat} (B : MB G p s m args meth c cX6_setups 1 RX6 (some .int)) {r : Int32} {st' : MS} : ∀ (st : MS) (H : Heap) (locs : List Loc) (ls : Array Slot), f_X6_setups st = some (r, st') → MW G A ad st H → va_S A s.heap H locs → lv_has ls 1 [(0, .ref (ad 0))] → W p l e ({ frames := 1, cells := 0, slots := 0, locals := 27 } : Room) s m args below meth c H locs 0 0 (MQ below (QM G A ad (some (.int r)) st') args s 0 0 A) (F0 m 0 ls []) := by
  have ⟨hx, hb, hr, hml, hown, hT, hlocks, hK⟩ := B
  intro st  H locs ls h hM hS hl
  rw [f_X6_setups] at h
  refine lv_aload_n hx hb dX6_setups_0 rfl (lv_at hl 0 rfl) ?_
  refine lv_iconst (v := 0) hx hb dX6_setups_1 (by decide) ?_
  refine mw_put B hM hS 0 (by decide) wf_RX6_84 rfl rfl rfl rfl rfl dX6_setups_2 (fun H locs hM hS => ?_)
  refine lv_aload_n hx hb dX6_setups_5 rfl (lv_at hl 0 rfl) ?_
  refine lv_iconst (v := 0) hx hb dX6_setups_6 (by decide) ?_
  obtain ⟨r1, t2, e3, h⟩ := bd_e h
  refine mw_callV B hM hS [.int 0] (n := 1) (v := (some (.int r1))) (c_X6_countSetups e3) wm_RX6_208 wi_yX6_countSetups ws_yX6_countSetups wc_yX6_countSetups rfl rfl (by decide +kernel) ⟨Nat.le_of_ble_eq_true rfl, Nat.le_of_ble_eq_true rfl⟩ ⟨Nat.le_refl 0, Nat.le_refl 0⟩ rfl hl.1 (Nat.le_of_ble_eq_true rfl) rfl dX6_setups_7 (fun H locs hM hS => ?_)
  cases h
  exact mw_iret B hM hS dX6_setups_10
theorem c_X6_setups {l : Launch} {G : GG} {A : Nat → Prop} {ad : Nat → Nat} {st : MS} {r : Int32} {st' : MS} (h : f_X6_setups st = some (r, st')) : Met l yX6_setups (Cond.code yX6_setups cX6_setups 1 (some .int) :: TG) ({ frames := 1, cells := 0, slots := 0, locals := 27 } : Room) (PM G A ad st [.ref (ad 0)]) (QM G A ad (some (.int r)) st') 0 0 A :=
  mw_of (own := RX6) (by decide +kernel) rfl rfl rfl (Nat.le_of_ble_eq_true rfl) fun p e s m below meth c ls B hM hS hl => w_X6_setups B _ _ _ _ h hM hS hl
set_option maxHeartbeats 4000000 in
set_option maxRecDepth 100000 in
theorem w_X6_first {p : Program} {l : Launch} {e : Env} {s : State} {m : MethodId} {args : Array Value} {below : List Frame} {meth : Method} {c : Code} {G : GG} {A : Nat → Prop} {ad : Nat → Nat} (B : MB G p s m args meth c cX6_first 1 RX6 (some .int)) {r : Int32} {st' : MS} : ∀ (st : MS) (H : Heap) (locs : List Loc) (ls : Array Slot), f_X6_first st = some (r, st') → MW G A ad st H → va_S A s.heap H locs → lv_has ls 1 [(0, .ref (ad 0))] → W p l e ({ frames := 1, cells := 0, slots := 0, locals := 27 } : Room) s m args below meth c H locs 0 0 (MQ below (QM G A ad (some (.int r)) st') args s 0 0 A) (F0 m 0 ls []) := by
  have ⟨hx, hb, hr, hml, hown, hT, hlocks, hK⟩ := B
  intro st  H locs ls h hM hS hl
  rw [f_X6_first] at h
  refine lv_aload_n hx hb dX6_first_0 rfl (lv_at hl 0 rfl) ?_
  refine lv_iconst (v := 0) hx hb dX6_first_1 (by decide) ?_
  refine mw_put B hM hS 0 (by decide) wf_RX6_84 rfl rfl rfl rfl rfl dX6_first_2 (fun H locs hM hS => ?_)
  refine lv_aload_n hx hb dX6_first_5 rfl (lv_at hl 0 rfl) ?_
  refine lv_iconst (v := 1) hx hb dX6_first_6 (by decide) ?_
  obtain ⟨r1, t2, e3, h⟩ := bd_e h
  refine mw_callV B hM hS [.int 1] (n := 1) (v := (some (.int r1))) (c_X6_countSetups e3) wm_RX6_208 wi_yX6_countSetups ws_yX6_countSetups wc_yX6_countSetups rfl rfl (by decide +kernel) ⟨Nat.le_of_ble_eq_true rfl, Nat.le_of_ble_eq_true rfl⟩ ⟨Nat.le_refl 0, Nat.le_refl 0⟩ rfl hl.1 (Nat.le_of_ble_eq_true rfl) rfl dX6_first_7 (fun H locs hM hS => ?_)
  cases h
  exact mw_iret B hM hS dX6_first_10
theorem c_X6_first {l : Launch} {G : GG} {A : Nat → Prop} {ad : Nat → Nat} {st : MS} {r : Int32} {st' : MS} (h : f_X6_first st = some (r, st')) : Met l yX6_first (Cond.code yX6_first cX6_first 1 (some .int) :: TG) ({ frames := 1, cells := 0, slots := 0, locals := 27 } : Room) (PM G A ad st [.ref (ad 0)]) (QM G A ad (some (.int r)) st') 0 0 A :=
  mw_of (own := RX6) (by decide +kernel) rfl rfl rfl (Nat.le_of_ble_eq_true rfl) fun p e s m below meth c ls B hM hS hl => w_X6_first B _ _ _ _ h hM hS hl
set_option maxHeartbeats 4000000 in
set_option maxRecDepth 100000 in
theorem w_X6_days_36 {p : Program} {l : Launch} {e : Env} {s : State} {m : MethodId} {args : Array Value} {below : List Frame} {meth : Method} {c : Code} {G : GG} {A : Nat → Prop} {ad : Nat → Nat} (B : MB G p s m args meth c cX6_days 3 RX6 (some .int)) {r : Int32} {st' : MS} : ∀ (st : MS) (y0 : Int32) (H : Heap) (locs : List Loc) (ls : Array Slot), f_X6_days_36 st y0 = some (r, st') → MW G A ad st H → va_S A s.heap H locs → lv_has ls 3 [] → W p l e ({ frames := 1, cells := 0, slots := 0, locals := 27 } : Room) s m args below meth c H locs 0 0 (MQ below (QM G A ad (some (.int r)) st') args s 0 0 A) (F0 m 36 ls [.int y0]) := by
  have ⟨hx, hb, hr, hml, hown, hT, hlocks, hK⟩ := B
  intro st y0 H locs ls h hM hS hl
  rw [f_X6_days_36] at h
  cases h
  exact mw_iret B hM hS dX6_days_36
set_option maxHeartbeats 4000000 in
set_option maxRecDepth 100000 in
theorem w_X6_days {p : Program} {l : Launch} {e : Env} {s : State} {m : MethodId} {args : Array Value} {below : List Frame} {meth : Method} {c : Code} {G : GG} {A : Nat → Prop} {ad : Nat → Nat} (B : MB G p s m args meth c cX6_days 3 RX6 (some .int)) {r : Int32} {st' : MS} : ∀ (st : MS) (H : Heap) (locs : List Loc) (ls : Array Slot), f_X6_days st = some (r, st') → MW G A ad st H → va_S A s.heap H locs → lv_has ls 3 [(0, .ref (ad 0))] → W p l e ({ frames := 1, cells := 0, slots := 0, locals := 27 } : Room) s m args below meth c H locs 0 0 (MQ below (QM G A ad (some (.int r)) st') args s 0 0 A) (F0 m 0 ls []) := by
  have ⟨hx, hb, hr, hml, hown, hT, hlocks, hK⟩ := B
  intro st  H locs ls h hM hS hl
  rw [f_X6_days] at h
  refine lv_aload_n hx hb dX6_days_0 rfl (lv_at hl 0 rfl) ?_
  refine lv_iconst (v := 0) hx hb dX6_days_1 (by decide) ?_
  refine mw_put B hM hS 0 (by decide) wf_RX6_84 rfl rfl rfl rfl rfl dX6_days_2 (fun H locs hM hS => ?_)
  refine lv_aload_n hx hb dX6_days_5 rfl (lv_at hl 0 rfl) ?_
  refine mw_get B hM 2 (by decide) wf_RX6_95 rfl (v := .int ((setS st 0 0).1 2)) rfl dX6_days_6 ?_
  refine lv_bipush (v := 19) hx hb dX6_days_9 (by decide) ?_
  refine lv_iadd hx hb dX6_days_11 ?_
  refine lv_bipush (v := 20) hx hb dX6_days_12 (by decide) ?_
  refine lv_idiv hx hb dX6_days_14 (by decide) ?_
  refine lv_istore_n (lv' := [(1, .int ((((setS st 0 0).1 2) + 19) / 20)), (0, .ref (ad 0))]) hx hb dX6_days_15 rfl hl (by decide) rfl (fun ls hl => ?_)
  refine lv_aload_n hx hb dX6_days_16 rfl (lv_at hl 1 rfl) ?_
  refine lv_iconst (v := 0) hx hb dX6_days_17 (by decide) ?_
  obtain ⟨r1, t2, e3, h⟩ := bd_e h
  refine mw_callV B hM hS [.int 0] (n := 1) (v := (some (.int r1))) (c_X6_countSetups e3) wm_RX6_208 wi_yX6_countSetups ws_yX6_countSetups wc_yX6_countSetups rfl rfl (by decide +kernel) ⟨Nat.le_of_ble_eq_true rfl, Nat.le_of_ble_eq_true rfl⟩ ⟨Nat.le_refl 0, Nat.le_refl 0⟩ rfl hl.1 (Nat.le_of_ble_eq_true rfl) rfl dX6_days_18 (fun H locs hM hS => ?_)
  refine lv_iconst (v := 3) hx hb dX6_days_21 (by decide) ?_
  refine lv_iadd hx hb dX6_days_22 ?_
  refine lv_iconst (v := 4) hx hb dX6_days_23 (by decide) ?_
  refine lv_idiv hx hb dX6_days_24 (by decide) ?_
  refine lv_istore_n (lv' := [(2, .int ((r1 + 3) / 4)), (1, .int ((((setS st 0 0).1 2) + 19) / 20)), (0, .ref (ad 0))]) hx hb dX6_days_25 rfl hl (by decide) rfl (fun ls hl => ?_)
  refine lv_iload_n hx hb dX6_days_26 rfl (lv_at hl 0 rfl) ?_
  refine lv_iload_n hx hb dX6_days_27 rfl (lv_at hl 1 rfl) ?_
  refine lv_icmp_le (tgt := 35) hx hb dX6_days_28 (by decide) (fun c4 => ?_) (fun c4 => ?_)
  · have h := bi_t c4 h
    refine lv_iload_n hx hb dX6_days_35 rfl (lv_at hl 1 rfl) ?_
    exact w_X6_days_36 B _ _ _ _ _ h hM hS (lv_sub hl [] rfl)
  · have h := bi_f c4 h
    refine lv_iload_n hx hb dX6_days_31 rfl (lv_at hl 0 rfl) ?_
    refine lv_goto (tgt := 36) hx hb dX6_days_32 (by decide) ?_
    exact w_X6_days_36 B _ _ _ _ _ h hM hS (lv_sub hl [] rfl)
theorem c_X6_days {l : Launch} {G : GG} {A : Nat → Prop} {ad : Nat → Nat} {st : MS} {r : Int32} {st' : MS} (h : f_X6_days st = some (r, st')) : Met l yX6_days (Cond.code yX6_days cX6_days 3 (some .int) :: TG) ({ frames := 1, cells := 0, slots := 0, locals := 27 } : Room) (PM G A ad st [.ref (ad 0)]) (QM G A ad (some (.int r)) st') 0 0 A :=
  mw_of (own := RX6) (by decide +kernel) rfl rfl rfl (Nat.le_of_ble_eq_true rfl) fun p e s m below meth c ls B hM hS hl => w_X6_days B _ _ _ _ h hM hS hl
set_option maxHeartbeats 4000000 in
set_option maxRecDepth 100000 in
theorem w_X6_countWrong_52 {p : Program} {l : Launch} {e : Env} {s : State} {m : MethodId} {args : Array Value} {below : List Frame} {meth : Method} {c : Code} {G : GG} {A : Nat → Prop} {ad : Nat → Nat} (B : MB G p s m args meth c cX6_countWrong 3 RX6 (some .int)) {r : Int32} {st' : MS} {k4 : MS → Int32 → Int32 → Option (Int32 × MS)} (hk4 : ∀ (st : MS) (x1 : Int32) (x2 : Int32) (H : Heap) (locs : List Loc) (ls : Array Slot), k4 st x1 x2 = some (r, st') → MW G A ad st H → va_S A s.heap H locs → lv_has ls 3 [(0, .ref (ad 0)), (1, .int x1), (2, .int x2)] → W p l e ({ frames := 4, cells := 0, slots := 0, locals := 95 } : Room) s m args below meth c H locs 0 0 (MQ below (QM G A ad (some (.int r)) st') args s 0 0 A) (F0 m 4 ls [])) : ∀ (st : MS) (x2 : Int32) (y0 : Int32) (H : Heap) (locs : List Loc) (ls : Array Slot), f_X6_countWrong_52 k4 st x2 y0 = some (r, st') → MW G A ad st H → va_S A s.heap H locs → lv_has ls 3 [(0, .ref (ad 0)), (2, .int x2)] → W p l e ({ frames := 4, cells := 0, slots := 0, locals := 95 } : Room) s m args below meth c H locs 0 0 (MQ below (QM G A ad (some (.int r)) st') args s 0 0 A) (F0 m 52 ls [.int y0]) := by
  have ⟨hx, hb, hr, hml, hown, hT, hlocks, hK⟩ := B
  intro st x2 y0 H locs ls h hM hS hl
  rw [f_X6_countWrong_52] at h
  refine lv_istore_n (lv' := [(1, .int y0), (0, .ref (ad 0)), (2, .int x2)]) hx hb dX6_countWrong_52 rfl hl (by decide) rfl (fun ls hl => ?_)
  refine lv_iinc (v := (x2 + 1)) (lv' := [(2, .int (x2 + 1)), (1, .int y0), (0, .ref (ad 0))]) hx hb dX6_countWrong_53 hl (k := 2) rfl rfl (by decide) rfl (fun ls hl => ?_)
  refine lv_goto (tgt := 4) hx hb dX6_countWrong_56 (by decide) ?_
  exact hk4 _ _ _ _ _ _ h hM hS (lv_sub hl [2, 1, 0] rfl)
set_option maxHeartbeats 4000000 in
set_option maxRecDepth 100000 in
theorem w_X6_countWrong_4 {p : Program} {l : Launch} {e : Env} {s : State} {m : MethodId} {args : Array Value} {below : List Frame} {meth : Method} {c : Code} {G : GG} {A : Nat → Prop} {ad : Nat → Nat} (B : MB G p s m args meth c cX6_countWrong 3 RX6 (some .int)) {r : Int32} {st' : MS} : ∀ (n : Nat) (st : MS) (x1 : Int32) (x2 : Int32) (H : Heap) (locs : List Loc) (ls : Array Slot), f_X6_countWrong_4 n st x1 x2 = some (r, st') → MW G A ad st H → va_S A s.heap H locs → lv_has ls 3 [(0, .ref (ad 0)), (1, .int x1), (2, .int x2)] → W p l e ({ frames := 4, cells := 0, slots := 0, locals := 95 } : Room) s m args below meth c H locs 0 0 (MQ below (QM G A ad (some (.int r)) st') args s 0 0 A) (F0 m 4 ls []) := by
  have ⟨hx, hb, hr, hml, hown, hT, hlocks, hK⟩ := B
  intro n
  induction n with
  | zero =>
    intro st x1 x2 H locs ls h
    cases h
  | succ n ih =>
    intro st x1 x2 H locs ls h hM hS hl
    rw [f_X6_countWrong_4] at h
    refine lv_iload_n hx hb dX6_countWrong_4 rfl (lv_at hl 2 rfl) ?_
    refine lv_aload_n hx hb dX6_countWrong_5 rfl (lv_at hl 0 rfl) ?_
    refine mw_get B hM 2 (by decide) wf_RX6_95 rfl (v := .int (st.1 2)) rfl dX6_countWrong_6 ?_
    refine lv_icmp_ge (tgt := 59) hx hb dX6_countWrong_9 (by decide) (fun c1 => ?_) (fun c1 => ?_)
    · have h := bi_t c1 h
      refine lv_iload_n hx hb dX6_countWrong_59 rfl (lv_at hl 1 rfl) ?_
      cases h
      exact mw_iret B hM hS dX6_countWrong_60
    · have h := bi_f c1 h
      refine lv_aload_n hx hb dX6_countWrong_12 rfl (lv_at hl 0 rfl) ?_
      refine lv_aload_n hx hb dX6_countWrong_13 rfl (lv_at hl 0 rfl) ?_
      refine mw_get B hM 3 (by decide) wf_RX6_7 rfl (v := .ref (ad 3)) rfl dX6_countWrong_14 ?_
      refine lv_aload_n hx hb dX6_countWrong_17 rfl (lv_at hl 0 rfl) ?_
      refine mw_get B hM 27 (by decide) wf_RX6_75 rfl (v := .ref (ad 27)) rfl dX6_countWrong_18 ?_
      refine lv_iload_n hx hb dX6_countWrong_21 rfl (lv_at hl 2 rfl) ?_
      refine lv_iconst (v := 1) hx hb dX6_countWrong_22 (by decide) ?_
      refine lv_isub hx hb dX6_countWrong_23 ?_
      obtain ⟨g2, h⟩ := gd_e h
      refine mw_iald B hM 27 (by decide) (by decide) rfl g2 dX6_countWrong_24 ?_
      obtain ⟨g3, h⟩ := gd_e h
      refine mw_iald B hM 3 (by decide) (by decide) rfl g3 dX6_countWrong_25 ?_
      refine lv_aload_n hx hb dX6_countWrong_26 rfl (lv_at hl 0 rfl) ?_
      refine mw_get B hM 3 (by decide) wf_RX6_7 rfl (v := .ref (ad 3)) rfl dX6_countWrong_27 ?_
      refine lv_aload_n hx hb dX6_countWrong_30 rfl (lv_at hl 0 rfl) ?_
      refine mw_get B hM 27 (by decide) wf_RX6_75 rfl (v := .ref (ad 27)) rfl dX6_countWrong_31 ?_
      refine lv_iload_n hx hb dX6_countWrong_34 rfl (lv_at hl 2 rfl) ?_
      obtain ⟨g4, h⟩ := gd_e h
      refine mw_iald B hM 27 (by decide) (by decide) rfl g4 dX6_countWrong_35 ?_
      obtain ⟨g5, h⟩ := gd_e h
      refine mw_iald B hM 3 (by decide) (by decide) rfl g5 dX6_countWrong_36 ?_
      obtain ⟨r6, t7, e8, h⟩ := bd_e h
      refine mw_callV B hM hS [.int (st.2 3 (st.2 27 (x2 - 1).toNatClampNeg).toNatClampNeg), .int (st.2 3 (st.2 27 x2.toNatClampNeg).toNatClampNeg)] (n := 2) (v := (some (.int r6))) (c_X6_wrongWith e8) wm_RX6_179 wi_yX6_wrongWith ws_yX6_wrongWith wc_yX6_wrongWith rfl rfl (by decide +kernel) ⟨Nat.le_of_ble_eq_true rfl, Nat.le_of_ble_eq_true rfl⟩ ⟨Nat.le_refl 0, Nat.le_refl 0⟩ rfl hl.1 (Nat.le_of_ble_eq_true rfl) rfl dX6_countWrong_37 (fun H locs hM hS => ?_)
      refine lv_bipush (v := 45) hx hb dX6_countWrong_40 (by decide) ?_
      refine lv_icmp_eq (tgt := 51) hx hb dX6_countWrong_42 (by decide) (fun c9 => ?_) (fun c9 => ?_)
      · have h := bi_t c9 h
        refine lv_iload_n hx hb dX6_countWrong_51 rfl (lv_at hl 1 rfl) ?_
        exact w_X6_countWrong_52 B ih _ _ _ _ _ _ h hM hS (lv_sub hl [0, 2] rfl)
      · have h := bi_f c9 h
        refine lv_iload_n hx hb dX6_countWrong_45 rfl (lv_at hl 1 rfl) ?_
        refine lv_iconst (v := 1) hx hb dX6_countWrong_46 (by decide) ?_
        refine lv_iadd hx hb dX6_countWrong_47 ?_
        refine lv_goto (tgt := 52) hx hb dX6_countWrong_48 (by decide) ?_
        exact w_X6_countWrong_52 B ih _ _ _ _ _ _ h hM hS (lv_sub hl [0, 2] rfl)
set_option maxHeartbeats 4000000 in
set_option maxRecDepth 100000 in
theorem w_X6_countWrong {p : Program} {l : Launch} {e : Env} {s : State} {m : MethodId} {args : Array Value} {below : List Frame} {meth : Method} {c : Code} {G : GG} {A : Nat → Prop} {ad : Nat → Nat} (B : MB G p s m args meth c cX6_countWrong 3 RX6 (some .int)) {r : Int32} {st' : MS} : ∀ (st : MS) (H : Heap) (locs : List Loc) (ls : Array Slot), f_X6_countWrong st = some (r, st') → MW G A ad st H → va_S A s.heap H locs → lv_has ls 3 [(0, .ref (ad 0))] → W p l e ({ frames := 4, cells := 0, slots := 0, locals := 95 } : Room) s m args below meth c H locs 0 0 (MQ below (QM G A ad (some (.int r)) st') args s 0 0 A) (F0 m 0 ls []) := by
  have ⟨hx, hb, hr, hml, hown, hT, hlocks, hK⟩ := B
  intro st  H locs ls h hM hS hl
  rw [f_X6_countWrong] at h
  refine lv_iconst (v := 0) hx hb dX6_countWrong_0 (by decide) ?_
  refine lv_istore_n (lv' := [(1, .int 0), (0, .ref (ad 0))]) hx hb dX6_countWrong_1 rfl hl (by decide) rfl (fun ls hl => ?_)
  refine lv_iconst (v := 1) hx hb dX6_countWrong_2 (by decide) ?_
  refine lv_istore_n (lv' := [(2, .int 1), (1, .int 0), (0, .ref (ad 0))]) hx hb dX6_countWrong_3 rfl hl (by decide) rfl (fun ls hl => ?_)
  exact w_X6_countWrong_4 B FU _ _ _ _ _ _ h hM hS (lv_sub hl [2, 1, 0] rfl)
theorem c_X6_countWrong {l : Launch} {G : GG} {A : Nat → Prop} {ad : Nat → Nat} {st : MS} {r : Int32} {st' : MS} (h : f_X6_countWrong st = some (r, st')) : Met l yX6_countWrong (Cond.code yX6_countWrong cX6_countWrong 3 (some .int) :: TG) ({ frames := 4, cells := 0, slots := 0, locals := 95 } : Room) (PM G A ad st [.ref (ad 0)]) (QM G A ad (some (.int r)) st') 0 0 A :=
  mw_of (own := RX6) (by decide +kernel) rfl rfl rfl (Nat.le_of_ble_eq_true rfl) fun p e s m below meth c ls B hM hS hl => w_X6_countWrong B _ _ _ _ h hM hS hl
set_option maxHeartbeats 4000000 in
set_option maxRecDepth 100000 in
theorem w_X6_goThrough_176 {p : Program} {l : Launch} {e : Env} {s : State} {m : MethodId} {args : Array Value} {below : List Frame} {meth : Method} {c : Code} {G : GG} {A : Nat → Prop} {ad : Nat → Nat} (B : MB G p s m args meth c cX6_goThrough 7 RX6 (some .int)) {r : Int32} {st' : MS} : ∀ (st : MS) (y0 : Int32) (H : Heap) (locs : List Loc) (ls : Array Slot), f_X6_goThrough_176 st y0 = some (r, st') → MW G A ad st H → va_S A s.heap H locs → lv_has ls 7 [] → W p l e ({ frames := 5, cells := 0, slots := 0, locals := 117 } : Room) s m args below meth c H locs 0 0 (MQ below (QM G A ad (some (.int r)) st') args s 0 0 A) (F0 m 176 ls [.int y0]) := by
  have ⟨hx, hb, hr, hml, hown, hT, hlocks, hK⟩ := B
  intro st y0 H locs ls h hM hS hl
  rw [f_X6_goThrough_176] at h
  cases h
  exact mw_iret B hM hS dX6_goThrough_176
set_option maxHeartbeats 4000000 in
set_option maxRecDepth 100000 in
theorem w_X6_goThrough_164 {p : Program} {l : Launch} {e : Env} {s : State} {m : MethodId} {args : Array Value} {below : List Frame} {meth : Method} {c : Code} {G : GG} {A : Nat → Prop} {ad : Nat → Nat} (B : MB G p s m args meth c cX6_goThrough 7 RX6 (some .int)) {r : Int32} {st' : MS} {k17 : MS → Int32 → Int32 → Int32 → Int32 → Option (Int32 × MS)} (hk17 : ∀ (st : MS) (x1 : Int32) (x2 : Int32) (x3 : Int32) (x4 : Int32) (H : Heap) (locs : List Loc) (ls : Array Slot), k17 st x1 x2 x3 x4 = some (r, st') → MW G A ad st H → va_S A s.heap H locs → lv_has ls 7 [(0, .ref (ad 0)), (1, .int x1), (2, .int x2), (3, .int x3), (4, .int x4)] → W p l e ({ frames := 5, cells := 0, slots := 0, locals := 117 } : Room) s m args below meth c H locs 0 0 (MQ below (QM G A ad (some (.int r)) st') args s 0 0 A) (F0 m 17 ls [])) : ∀ (st : MS) (x1 : Int32) (x2 : Int32) (x3 : Int32) (x4 : Int32) (H : Heap) (locs : List Loc) (ls : Array Slot), f_X6_goThrough_164 k17 st x1 x2 x3 x4 = some (r, st') → MW G A ad st H → va_S A s.heap H locs → lv_has ls 7 [(0, .ref (ad 0)), (1, .int x1), (2, .int x2), (3, .int x3), (4, .int x4)] → W p l e ({ frames := 5, cells := 0, slots := 0, locals := 117 } : Room) s m args below meth c H locs 0 0 (MQ below (QM G A ad (some (.int r)) st') args s 0 0 A) (F0 m 164 ls []) := by
  have ⟨hx, hb, hr, hml, hown, hT, hlocks, hK⟩ := B
  intro st x1 x2 x3 x4 H locs ls h hM hS hl
  rw [f_X6_goThrough_164] at h
  refine lv_goto (tgt := 17) hx hb dX6_goThrough_164 (by decide) ?_
  exact hk17 _ _ _ _ _ _ _ _ h hM hS (lv_sub hl [0, 1, 2, 3, 4] rfl)
set_option maxHeartbeats 4000000 in
set_option maxRecDepth 100000 in
theorem w_X6_goThrough_141 {p : Program} {l : Launch} {e : Env} {s : State} {m : MethodId} {args : Array Value} {below : List Frame} {meth : Method} {c : Code} {G : GG} {A : Nat → Prop} {ad : Nat → Nat} (B : MB G p s m args meth c cX6_goThrough 7 RX6 (some .int)) {r : Int32} {st' : MS} {k17 : MS → Int32 → Int32 → Int32 → Int32 → Option (Int32 × MS)} (hk17 : ∀ (st : MS) (x1 : Int32) (x2 : Int32) (x3 : Int32) (x4 : Int32) (H : Heap) (locs : List Loc) (ls : Array Slot), k17 st x1 x2 x3 x4 = some (r, st') → MW G A ad st H → va_S A s.heap H locs → lv_has ls 7 [(0, .ref (ad 0)), (1, .int x1), (2, .int x2), (3, .int x3), (4, .int x4)] → W p l e ({ frames := 5, cells := 0, slots := 0, locals := 117 } : Room) s m args below meth c H locs 0 0 (MQ below (QM G A ad (some (.int r)) st') args s 0 0 A) (F0 m 17 ls [])) : ∀ (st : MS) (x1 : Int32) (x2 : Int32) (x4 : Int32) (y0 : Int32) (H : Heap) (locs : List Loc) (ls : Array Slot), f_X6_goThrough_141 k17 st x1 x2 x4 y0 = some (r, st') → MW G A ad st H → va_S A s.heap H locs → lv_has ls 7 [(0, .ref (ad 0)), (1, .int x1), (2, .int x2), (4, .int x4)] → W p l e ({ frames := 5, cells := 0, slots := 0, locals := 117 } : Room) s m args below meth c H locs 0 0 (MQ below (QM G A ad (some (.int r)) st') args s 0 0 A) (F0 m 141 ls [.int y0]) := by
  have ⟨hx, hb, hr, hml, hown, hT, hlocks, hK⟩ := B
  intro st x1 x2 x4 y0 H locs ls h hM hS hl
  rw [f_X6_goThrough_141] at h
  refine lv_istore_n (lv' := [(3, .int y0), (0, .ref (ad 0)), (1, .int x1), (2, .int x2), (4, .int x4)]) hx hb dX6_goThrough_141 rfl hl (by decide) rfl (fun ls hl => ?_)
  refine lv_goto (tgt := 164) hx hb dX6_goThrough_142 (by decide) ?_
  exact w_X6_goThrough_164 B hk17 _ _ _ _ _ _ _ _ h hM hS (lv_sub hl [1, 2, 3, 0, 4] rfl)
set_option maxHeartbeats 4000000 in
set_option maxRecDepth 100000 in
theorem w_X6_goThrough_128 {p : Program} {l : Launch} {e : Env} {s : State} {m : MethodId} {args : Array Value} {below : List Frame} {meth : Method} {c : Code} {G : GG} {A : Nat → Prop} {ad : Nat → Nat} (B : MB G p s m args meth c cX6_goThrough 7 RX6 (some .int)) {r : Int32} {st' : MS} {k17 : MS → Int32 → Int32 → Int32 → Int32 → Option (Int32 × MS)} (hk17 : ∀ (st : MS) (x1 : Int32) (x2 : Int32) (x3 : Int32) (x4 : Int32) (H : Heap) (locs : List Loc) (ls : Array Slot), k17 st x1 x2 x3 x4 = some (r, st') → MW G A ad st H → va_S A s.heap H locs → lv_has ls 7 [(0, .ref (ad 0)), (1, .int x1), (2, .int x2), (3, .int x3), (4, .int x4)] → W p l e ({ frames := 5, cells := 0, slots := 0, locals := 117 } : Room) s m args below meth c H locs 0 0 (MQ below (QM G A ad (some (.int r)) st') args s 0 0 A) (F0 m 17 ls [])) : ∀ (st : MS) (x1 : Int32) (x3 : Int32) (x4 : Int32) (x6 : Int32) (y0 : Int32) (H : Heap) (locs : List Loc) (ls : Array Slot), f_X6_goThrough_128 k17 st x1 x3 x4 x6 y0 = some (r, st') → MW G A ad st H → va_S A s.heap H locs → lv_has ls 7 [(0, .ref (ad 0)), (1, .int x1), (3, .int x3), (4, .int x4), (6, .int x6)] → W p l e ({ frames := 5, cells := 0, slots := 0, locals := 117 } : Room) s m args below meth c H locs 0 0 (MQ below (QM G A ad (some (.int r)) st') args s 0 0 A) (F0 m 128 ls [.int y0]) := by
  have ⟨hx, hb, hr, hml, hown, hT, hlocks, hK⟩ := B
  intro st x1 x3 x4 x6 y0 H locs ls h hM hS hl
  rw [f_X6_goThrough_128] at h
  refine lv_istore_n (lv' := [(2, .int y0), (0, .ref (ad 0)), (1, .int x1), (3, .int x3), (4, .int x4), (6, .int x6)]) hx hb dX6_goThrough_128 rfl hl (by decide) rfl (fun ls hl => ?_)
  refine lv_iload hx hb dX6_goThrough_129 (lv_at hl 5 rfl) ?_
  refine lv_iload_n hx hb dX6_goThrough_131 rfl (lv_at hl 3 rfl) ?_
  refine lv_icmp_ge (tgt := 140) hx hb dX6_goThrough_132 (by decide) (fun c1 => ?_) (fun c1 => ?_)
  · have h := bi_t c1 h
    refine lv_iload_n hx hb dX6_goThrough_140 rfl (lv_at hl 3 rfl) ?_
    exact w_X6_goThrough_141 B hk17 _ _ _ _ _ _ _ _ h hM hS (lv_sub hl [1, 2, 0, 4] rfl)
  · have h := bi_f c1 h
    refine lv_iload hx hb dX6_goThrough_135 (lv_at hl 5 rfl) ?_
    refine lv_goto (tgt := 141) hx hb dX6_goThrough_137 (by decide) ?_
    exact w_X6_goThrough_141 B hk17 _ _ _ _ _ _ _ _ h hM hS (lv_sub hl [1, 2, 0, 4] rfl)
set_option maxHeartbeats 4000000 in
set_option maxRecDepth 100000 in
theorem w_X6_goThrough_17 {p : Program} {l : Launch} {e : Env} {s : State} {m : MethodId} {args : Array Value} {below : List Frame} {meth : Method} {c : Code} {G : GG} {A : Nat → Prop} {ad : Nat → Nat} (B : MB G p s m args meth c cX6_goThrough 7 RX6 (some .int)) {r : Int32} {st' : MS} : ∀ (n : Nat) (st : MS) (x1 : Int32) (x2 : Int32) (x3 : Int32) (x4 : Int32) (H : Heap) (locs : List Loc) (ls : Array Slot), f_X6_goThrough_17 n st x1 x2 x3 x4 = some (r, st') → MW G A ad st H → va_S A s.heap H locs → lv_has ls 7 [(0, .ref (ad 0)), (1, .int x1), (2, .int x2), (3, .int x3), (4, .int x4)] → W p l e ({ frames := 5, cells := 0, slots := 0, locals := 117 } : Room) s m args below meth c H locs 0 0 (MQ below (QM G A ad (some (.int r)) st') args s 0 0 A) (F0 m 17 ls []) := by
  have ⟨hx, hb, hr, hml, hown, hT, hlocks, hK⟩ := B
  intro n
  induction n with
  | zero =>
    intro st x1 x2 x3 x4 H locs ls h
    cases h
  | succ n ih =>
    intro st x1 x2 x3 x4 H locs ls h hM hS hl
    rw [f_X6_goThrough_17] at h
    refine lv_iload hx hb dX6_goThrough_17 (lv_at hl 4 rfl) ?_
    refine lv_if_lt (tgt := 167) hx hb dX6_goThrough_19 (by decide) (fun c1 => ?_) (fun c1 => ?_)
    · have h := bi_t c1 h
      refine lv_iload_n hx hb dX6_goThrough_167 rfl (lv_at hl 1 rfl) ?_
      refine lv_if_eq (tgt := 175) hx hb dX6_goThrough_168 (by decide) (fun c2 => ?_) (fun c2 => ?_)
      · have h := bi_t c2 h
        refine lv_iload_n hx hb dX6_goThrough_175 rfl (lv_at hl 2 rfl) ?_
        exact w_X6_goThrough_176 B _ _ _ _ _ h hM hS (lv_sub hl [] rfl)
      · have h := bi_f c2 h
        refine lv_iload_n hx hb dX6_goThrough_171 rfl (lv_at hl 3 rfl) ?_
        refine lv_goto (tgt := 176) hx hb dX6_goThrough_172 (by decide) ?_
        exact w_X6_goThrough_176 B _ _ _ _ _ h hM hS (lv_sub hl [] rfl)
    · have h := bi_f c1 h
      refine lv_aload_n hx hb dX6_goThrough_22 rfl (lv_at hl 0 rfl) ?_
      refine mw_get B hM 28 (by decide) wf_RX6_78 rfl (v := .ref (ad 28)) rfl dX6_goThrough_23 ?_
      refine lv_iload hx hb dX6_goThrough_26 (lv_at hl 4 rfl) ?_
      obtain ⟨g3, h⟩ := gd_e h
      refine mw_iald B hM 28 (by decide) (by decide) rfl g3 dX6_goThrough_28 ?_
      refine lv_aload_n hx hb dX6_goThrough_29 rfl (lv_at hl 0 rfl) ?_
      refine mw_get B hM 2 (by decide) wf_RX6_95 rfl (v := .int (st.1 2)) rfl dX6_goThrough_30 ?_
      refine lv_icmp_ne (tgt := 60) hx hb dX6_goThrough_33 (by decide) (fun c4 => ?_) (fun c4 => ?_)
      · have h := bi_f c4 h
        refine lv_aload_n hx hb dX6_goThrough_60 rfl (lv_at hl 0 rfl) ?_
        refine mw_get B hM 28 (by decide) wf_RX6_78 rfl (v := .ref (ad 28)) rfl dX6_goThrough_61 ?_
        refine lv_iload hx hb dX6_goThrough_64 (lv_at hl 4 rfl) ?_
        obtain ⟨g5, h⟩ := gd_e h
        refine mw_iald B hM 28 (by decide) (by decide) rfl g5 dX6_goThrough_66 ?_
        refine lv_istore (lv' := [(5, .int (st.2 28 x4.toNatClampNeg)), (0, .ref (ad 0)), (1, .int x1), (2, .int x2), (3, .int x3), (4, .int x4)]) hx hb dX6_goThrough_67 hl (by decide) rfl (fun ls hl => ?_)
        refine lv_aload_n hx hb dX6_goThrough_69 rfl (lv_at hl 1 rfl) ?_
        refine mw_get B hM 28 (by decide) wf_RX6_78 rfl (v := .ref (ad 28)) rfl dX6_goThrough_70 ?_
        refine lv_iload hx hb dX6_goThrough_73 (lv_at hl 5 rfl) ?_
        refine lv_iload hx hb dX6_goThrough_75 (lv_at hl 0 rfl) ?_
        refine lv_iconst (v := 1) hx hb dX6_goThrough_77 (by decide) ?_
        refine lv_iadd hx hb dX6_goThrough_78 ?_
        obtain ⟨g6, h⟩ := gd_e h
        refine mw_iast B hM hS 28 (by decide) (by decide) rfl g6 dX6_goThrough_79 (fun H locs hM hS => ?_)
        refine lv_aload_n hx hb dX6_goThrough_80 rfl (lv_at hl 1 rfl) ?_
        refine mw_get B hM 29 (by decide) wf_RX6_81 rfl (v := .ref (ad 29)) rfl dX6_goThrough_81 ?_
        refine lv_iload hx hb dX6_goThrough_84 (lv_at hl 0 rfl) ?_
        obtain ⟨g7, h⟩ := gd_e h
        refine mw_zald B hM 29 (by decide) (by decide) rfl g7 dX6_goThrough_86 ?_
        refine lv_if_ne (tgt := 164) hx hb dX6_goThrough_87 (by decide) (fun c8 => ?_) (fun c8 => ?_)
        · have h := bi_f c8 h
          exact w_X6_goThrough_164 B ih _ _ _ _ _ _ _ _ h hM hS (lv_sub hl [1, 2, 3, 4, 5] rfl)
        · have h := bi_t c8 h
          refine lv_aload_n hx hb dX6_goThrough_90 rfl (lv_at hl 1 rfl) ?_
          refine mw_get B hM 27 (by decide) wf_RX6_75 rfl (v := .ref (ad 27)) rfl dX6_goThrough_91 ?_
          refine lv_iload hx hb dX6_goThrough_94 (lv_at hl 5 rfl) ?_
          refine lv_iload hx hb dX6_goThrough_96 (lv_at hl 0 rfl) ?_
          obtain ⟨g9, h⟩ := gd_e h
          refine mw_iast B hM hS 27 (by decide) (by decide) rfl g9 dX6_goThrough_98 (fun H locs hM hS => ?_)
          refine lv_iload hx hb dX6_goThrough_99 (lv_at hl 5 rfl) ?_
          refine lv_iconst (v := 1) hx hb dX6_goThrough_101 (by decide) ?_
          refine lv_iadd hx hb dX6_goThrough_102 ?_
          refine lv_aload_n hx hb dX6_goThrough_103 rfl (lv_at hl 1 rfl) ?_
          refine mw_get B hM 2 (by decide) wf_RX6_95 rfl (v := .int ((setA (setA st 28 x4.toNatClampNeg ((st.2 28 x4.toNatClampNeg) + 1)) 27 x4.toNatClampNeg (st.2 28 x4.toNatClampNeg)).1 2)) rfl dX6_goThrough_104 ?_
          refine lv_icmp_ne (tgt := 145) hx hb dX6_goThrough_107 (by decide) (fun c10 => ?_) (fun c10 => ?_)
          · have h := bi_f c10 h
            refine lv_aload_n hx hb dX6_goThrough_145 rfl (lv_at hl 1 rfl) ?_
            refine mw_get B hM 29 (by decide) wf_RX6_81 rfl (v := .ref (ad 29)) rfl dX6_goThrough_146 ?_
            refine lv_iload hx hb dX6_goThrough_149 (lv_at hl 0 rfl) ?_
            refine lv_iconst (v := 1) hx hb dX6_goThrough_151 (by decide) ?_
            obtain ⟨g11, h⟩ := gd_e h
            refine mw_zast B hM hS 29 (by decide) (by decide) rfl g11 dX6_goThrough_152 (fun H locs hM hS => ?_)
            refine lv_iinc (v := (x4 + 1)) (lv' := [(4, .int (x4 + 1)), (5, .int (st.2 28 x4.toNatClampNeg)), (0, .ref (ad 0)), (1, .int x1), (2, .int x2), (3, .int x3)]) hx hb dX6_goThrough_153 hl (k := 5) rfl rfl (by decide) rfl (fun ls hl => ?_)
            refine lv_aload_n hx hb dX6_goThrough_156 rfl (lv_at hl 2 rfl) ?_
            refine mw_get B hM 28 (by decide) wf_RX6_78 rfl (v := .ref (ad 28)) rfl dX6_goThrough_157 ?_
            refine lv_iload hx hb dX6_goThrough_160 (lv_at hl 0 rfl) ?_
            refine lv_iconst (v := 0) hx hb dX6_goThrough_162 (by decide) ?_
            obtain ⟨g12, h⟩ := gd_e h
            refine mw_iast B hM hS 28 (by decide) (by decide) rfl g12 dX6_goThrough_163 (fun H locs hM hS => ?_)
            exact w_X6_goThrough_164 B ih _ _ _ _ _ _ _ _ h hM hS (lv_sub hl [2, 3, 4, 5, 0] rfl)
          · have h := bi_t c10 h
            refine lv_aload_n hx hb dX6_goThrough_110 rfl (lv_at hl 1 rfl) ?_
            obtain ⟨r13, t14, e15, h⟩ := bd_e h
            refine mw_callV B hM hS [] (n := 0) (v := (some (.int r13))) (c_X6_countWrong e15) wm_RX6_212 wi_yX6_countWrong ws_yX6_countWrong wc_yX6_countWrong rfl rfl (by decide +kernel) ⟨Nat.le_of_ble_eq_true rfl, Nat.le_of_ble_eq_true rfl⟩ ⟨Nat.le_refl 0, Nat.le_refl 0⟩ rfl hl.1 (Nat.le_of_ble_eq_true rfl) rfl dX6_goThrough_111 (fun H locs hM hS => ?_)
            refine lv_istore (lv' := [(6, .int r13), (5, .int (st.2 28 x4.toNatClampNeg)), (0, .ref (ad 0)), (1, .int x1), (2, .int x2), (3, .int x3), (4, .int x4)]) hx hb dX6_goThrough_114 hl (by decide) rfl (fun ls hl => ?_)
            refine lv_iload hx hb dX6_goThrough_116 (lv_at hl 0 rfl) ?_
            refine lv_if_ne (tgt := 127) hx hb dX6_goThrough_118 (by decide) (fun c16 => ?_) (fun c16 => ?_)
            · have h := bi_f c16 h
              refine lv_iload_n hx hb dX6_goThrough_127 rfl (lv_at hl 4 rfl) ?_
              exact w_X6_goThrough_128 B ih _ _ _ _ _ _ _ _ _ h hM hS (lv_sub hl [2, 3, 5, 6, 0] rfl)
            · have h := bi_t c16 h
              refine lv_iload_n hx hb dX6_goThrough_121 rfl (lv_at hl 4 rfl) ?_
              refine lv_iconst (v := 1) hx hb dX6_goThrough_122 (by decide) ?_
              refine lv_iadd hx hb dX6_goThrough_123 ?_
              refine lv_goto (tgt := 128) hx hb dX6_goThrough_124 (by decide) ?_
              exact w_X6_goThrough_128 B ih _ _ _ _ _ _ _ _ _ h hM hS (lv_sub hl [2, 3, 5, 6, 0] rfl)
      · have h := bi_t c4 h
        refine lv_iinc (v := (x4 + (-1))) (lv' := [(4, .int (x4 + (-1))), (0, .ref (ad 0)), (1, .int x1), (2, .int x2), (3, .int x3)]) hx hb dX6_goThrough_36 hl (k := 4) rfl rfl (by decide) rfl (fun ls hl => ?_)
        refine lv_iload hx hb dX6_goThrough_39 (lv_at hl 0 rfl) ?_
        refine lv_if_lt (tgt := 17) hx hb dX6_goThrough_41 (by decide) (fun c17 => ?_) (fun c17 => ?_)
        · have h := bi_t c17 h
          exact ih _ _ _ _ _ _ _ _ h hM hS (lv_sub hl [1, 2, 3, 4, 0] rfl)
        · have h := bi_f c17 h
          refine lv_aload_n hx hb dX6_goThrough_44 rfl (lv_at hl 1 rfl) ?_
          refine mw_get B hM 29 (by decide) wf_RX6_81 rfl (v := .ref (ad 29)) rfl dX6_goThrough_45 ?_
          refine lv_aload_n hx hb dX6_goThrough_48 rfl (lv_at hl 1 rfl) ?_
          refine mw_get B hM 27 (by decide) wf_RX6_75 rfl (v := .ref (ad 27)) rfl dX6_goThrough_49 ?_
          refine lv_iload hx hb dX6_goThrough_52 (lv_at hl 0 rfl) ?_
          obtain ⟨g18, h⟩ := gd_e h
          refine mw_iald B hM 27 (by decide) (by decide) rfl g18 dX6_goThrough_54 ?_
          refine lv_iconst (v := 0) hx hb dX6_goThrough_55 (by decide) ?_
          obtain ⟨g19, h⟩ := gd_e h
          refine mw_zast B hM hS 29 (by decide) (by decide) rfl g19 dX6_goThrough_56 (fun H locs hM hS => ?_)
          refine lv_goto (tgt := 17) hx hb dX6_goThrough_57 (by decide) ?_
          exact ih _ _ _ _ _ _ _ _ h hM hS (lv_sub hl [1, 2, 3, 4, 0] rfl)
set_option maxHeartbeats 4000000 in
set_option maxRecDepth 100000 in
theorem w_X6_goThrough {p : Program} {l : Launch} {e : Env} {s : State} {m : MethodId} {args : Array Value} {below : List Frame} {meth : Method} {c : Code} {G : GG} {A : Nat → Prop} {ad : Nat → Nat} (B : MB G p s m args meth c cX6_goThrough 7 RX6 (some .int)) {r : Int32} {st' : MS} : ∀ (st : MS) (x1 : Int32) (H : Heap) (locs : List Loc) (ls : Array Slot), f_X6_goThrough st x1 = some (r, st') → MW G A ad st H → va_S A s.heap H locs → lv_has ls 7 [(0, .ref (ad 0)), (1, .int x1)] → W p l e ({ frames := 5, cells := 0, slots := 0, locals := 117 } : Room) s m args below meth c H locs 0 0 (MQ below (QM G A ad (some (.int r)) st') args s 0 0 A) (F0 m 0 ls []) := by
  have ⟨hx, hb, hr, hml, hown, hT, hlocks, hK⟩ := B
  intro st x1 H locs ls h hM hS hl
  rw [f_X6_goThrough] at h
  refine lv_iconst (v := 0) hx hb dX6_goThrough_0 (by decide) ?_
  refine lv_istore_n (lv' := [(2, .int 0), (0, .ref (ad 0)), (1, .int x1)]) hx hb dX6_goThrough_1 rfl hl (by decide) rfl (fun ls hl => ?_)
  refine lv_aload_n hx hb dX6_goThrough_2 rfl (lv_at hl 1 rfl) ?_
  refine mw_get B hM 2 (by decide) wf_RX6_95 rfl (v := .int (st.1 2)) rfl dX6_goThrough_3 ?_
  refine lv_istore_n (lv' := [(3, .int (st.1 2)), (2, .int 0), (0, .ref (ad 0)), (1, .int x1)]) hx hb dX6_goThrough_6 rfl hl (by decide) rfl (fun ls hl => ?_)
  refine lv_iconst (v := 0) hx hb dX6_goThrough_7 (by decide) ?_
  refine lv_istore (lv' := [(4, .int 0), (3, .int (st.1 2)), (2, .int 0), (0, .ref (ad 0)), (1, .int x1)]) hx hb dX6_goThrough_8 hl (by decide) rfl (fun ls hl => ?_)
  refine lv_aload_n hx hb dX6_goThrough_10 rfl (lv_at hl 3 rfl) ?_
  refine mw_get B hM 28 (by decide) wf_RX6_78 rfl (v := .ref (ad 28)) rfl dX6_goThrough_11 ?_
  refine lv_iconst (v := 0) hx hb dX6_goThrough_14 (by decide) ?_
  refine lv_iconst (v := 0) hx hb dX6_goThrough_15 (by decide) ?_
  obtain ⟨g1, h⟩ := gd_e h
  refine mw_iast B hM hS 28 (by decide) (by decide) rfl g1 dX6_goThrough_16 (fun H locs hM hS => ?_)
  exact w_X6_goThrough_17 B FU _ _ _ _ _ _ _ _ h hM hS (lv_sub hl [3, 4, 2, 1, 0] rfl)
theorem c_X6_goThrough {l : Launch} {G : GG} {A : Nat → Prop} {ad : Nat → Nat} {st : MS} {x1 : Int32} {r : Int32} {st' : MS} (h : f_X6_goThrough st x1 = some (r, st')) : Met l yX6_goThrough (Cond.code yX6_goThrough cX6_goThrough 7 (some .int) :: TG) ({ frames := 5, cells := 0, slots := 0, locals := 117 } : Room) (PM G A ad st [.ref (ad 0), .int x1]) (QM G A ad (some (.int r)) st') 0 0 A :=
  mw_of (own := RX6) (by decide +kernel) rfl rfl rfl (Nat.le_of_ble_eq_true rfl) fun p e s m below meth c ls B hM hS hl => w_X6_goThrough B _ _ _ _ _ h hM hS hl
set_option maxHeartbeats 4000000 in
set_option maxRecDepth 100000 in
theorem w_X6_orders_37 {p : Program} {l : Launch} {e : Env} {s : State} {m : MethodId} {args : Array Value} {below : List Frame} {meth : Method} {c : Code} {G : GG} {A : Nat → Prop} {ad : Nat → Nat} (B : MB G p s m args meth c cX6_orders 1 RX6 (some .int)) {r : Int32} {st' : MS} : ∀ (st : MS) (y0 : Int32) (H : Heap) (locs : List Loc) (ls : Array Slot), f_X6_orders_37 st y0 = some (r, st') → MW G A ad st H → va_S A s.heap H locs → lv_has ls 1 [] → W p l e ({ frames := 6, cells := 0, slots := 0, locals := 143 } : Room) s m args below meth c H locs 0 0 (MQ below (QM G A ad (some (.int r)) st') args s 0 0 A) (F0 m 37 ls [.int y0]) := by
  have ⟨hx, hb, hr, hml, hown, hT, hlocks, hK⟩ := B
  intro st y0 H locs ls h hM hS hl
  rw [f_X6_orders_37] at h
  cases h
  exact mw_iret B hM hS dX6_orders_37
set_option maxHeartbeats 4000000 in
set_option maxRecDepth 100000 in
theorem w_X6_orders_22 {p : Program} {l : Launch} {e : Env} {s : State} {m : MethodId} {args : Array Value} {below : List Frame} {meth : Method} {c : Code} {G : GG} {A : Nat → Prop} {ad : Nat → Nat} (B : MB G p s m args meth c cX6_orders 1 RX6 (some .int)) {r : Int32} {st' : MS} : ∀ (st : MS) (y1 : Int32) (H : Heap) (locs : List Loc) (ls : Array Slot), f_X6_orders_22 st y1 = some (r, st') → MW G A ad st H → va_S A s.heap H locs → lv_has ls 1 [(0, .ref (ad 0))] → W p l e ({ frames := 6, cells := 0, slots := 0, locals := 143 } : Room) s m args below meth c H locs 0 0 (MQ below (QM G A ad (some (.int r)) st') args s 0 0 A) (F0 m 22 ls [.int y1, .ref (ad 0)]) := by
  have ⟨hx, hb, hr, hml, hown, hT, hlocks, hK⟩ := B
  intro st y1 H locs ls h hM hS hl
  rw [f_X6_orders_22] at h
  obtain ⟨r1, t2, e3, h⟩ := bd_e h
  refine mw_callV B hM hS [.int y1] (n := 1) (v := (some (.int r1))) (c_X6_fails e3) wm_RX6_102 wi_yX6_fails ws_yX6_fails wc_yX6_fails rfl rfl (by decide +kernel) ⟨Nat.le_of_ble_eq_true rfl, Nat.le_of_ble_eq_true rfl⟩ ⟨Nat.le_refl 0, Nat.le_refl 0⟩ rfl hl.1 (Nat.le_of_ble_eq_true rfl) rfl dX6_orders_22 (fun H locs hM hS => ?_)
  refine lv_if_eq (tgt := 32) hx hb dX6_orders_25 (by decide) (fun c4 => ?_) (fun c4 => ?_)
  · have h := bi_t c4 h
    refine lv_aload_n hx hb dX6_orders_32 rfl (lv_at hl 0 rfl) ?_
    refine lv_iconst (v := 0) hx hb dX6_orders_33 (by decide) ?_
    obtain ⟨r5, t6, e7, h⟩ := bd_e h
    refine mw_callV B hM hS [.int 0] (n := 1) (v := (some (.int r5))) (c_X6_goThrough e7) wm_RX6_215 wi_yX6_goThrough ws_yX6_goThrough wc_yX6_goThrough rfl rfl (by decide +kernel) ⟨Nat.le_of_ble_eq_true rfl, Nat.le_of_ble_eq_true rfl⟩ ⟨Nat.le_refl 0, Nat.le_refl 0⟩ rfl hl.1 (Nat.le_of_ble_eq_true rfl) rfl dX6_orders_34 (fun H locs hM hS => ?_)
    exact w_X6_orders_37 B _ _ _ _ _ h hM hS (lv_sub hl [] rfl)
  · have h := bi_f c4 h
    refine lv_iconst (v := 0) hx hb dX6_orders_28 (by decide) ?_
    refine lv_goto (tgt := 37) hx hb dX6_orders_29 (by decide) ?_
    exact w_X6_orders_37 B _ _ _ _ _ h hM hS (lv_sub hl [] rfl)
set_option maxHeartbeats 4000000 in
set_option maxRecDepth 100000 in
theorem w_X6_orders_17 {p : Program} {l : Launch} {e : Env} {s : State} {m : MethodId} {args : Array Value} {below : List Frame} {meth : Method} {c : Code} {G : GG} {A : Nat → Prop} {ad : Nat → Nat} (B : MB G p s m args meth c cX6_orders 1 RX6 (some .int)) {r : Int32} {st' : MS} : ∀ (st : MS) (H : Heap) (locs : List Loc) (ls : Array Slot), f_X6_orders_17 st = some (r, st') → MW G A ad st H → va_S A s.heap H locs → lv_has ls 1 [(0, .ref (ad 0))] → W p l e ({ frames := 6, cells := 0, slots := 0, locals := 143 } : Room) s m args below meth c H locs 0 0 (MQ below (QM G A ad (some (.int r)) st') args s 0 0 A) (F0 m 17 ls [.ref (ad 0)]) := by
  have ⟨hx, hb, hr, hml, hown, hT, hlocks, hK⟩ := B
  intro st  H locs ls h hM hS hl
  rw [f_X6_orders_17] at h
  refine lv_iconst (v := 1) hx hb dX6_orders_17 (by decide) ?_
  refine lv_goto (tgt := 22) hx hb dX6_orders_18 (by decide) ?_
  exact w_X6_orders_22 B _ _ _ _ _ h hM hS (lv_sub hl [0] rfl)
set_option maxHeartbeats 4000000 in
set_option maxRecDepth 100000 in
theorem w_X6_orders {p : Program} {l : Launch} {e : Env} {s : State} {m : MethodId} {args : Array Value} {below : List Frame} {meth : Method} {c : Code} {G : GG} {A : Nat → Prop} {ad : Nat → Nat} (B : MB G p s m args meth c cX6_orders 1 RX6 (some .int)) {r : Int32} {st' : MS} : ∀ (st : MS) (H : Heap) (locs : List Loc) (ls : Array Slot), f_X6_orders st = some (r, st') → MW G A ad st H → va_S A s.heap H locs → lv_has ls 1 [(0, .ref (ad 0))] → W p l e ({ frames := 6, cells := 0, slots := 0, locals := 143 } : Room) s m args below meth c H locs 0 0 (MQ below (QM G A ad (some (.int r)) st') args s 0 0 A) (F0 m 0 ls []) := by
  have ⟨hx, hb, hr, hml, hown, hT, hlocks, hK⟩ := B
  intro st  H locs ls h hM hS hl
  rw [f_X6_orders] at h
  refine lv_aload_n hx hb dX6_orders_0 rfl (lv_at hl 0 rfl) ?_
  refine lv_aload_n hx hb dX6_orders_1 rfl (lv_at hl 0 rfl) ?_
  refine mw_get B hM 2 (by decide) wf_RX6_95 rfl (v := .int (st.1 2)) rfl dX6_orders_2 ?_
  refine lv_if_eq (tgt := 17) hx hb dX6_orders_5 (by decide) (fun c1 => ?_) (fun c1 => ?_)
  · have h := bi_t c1 h
    exact w_X6_orders_17 B _ _ _ _ h hM hS (lv_sub hl [0] rfl)
  · have h := bi_f c1 h
    refine lv_aload_n hx hb dX6_orders_8 rfl (lv_at hl 0 rfl) ?_
    refine mw_get B hM 2 (by decide) wf_RX6_95 rfl (v := .int (st.1 2)) rfl dX6_orders_9 ?_
    refine lv_bipush (v := 6) hx hb dX6_orders_12 (by decide) ?_
    refine lv_icmp_le (tgt := 21) hx hb dX6_orders_14 (by decide) (fun c2 => ?_) (fun c2 => ?_)
    · have h := bi_t c2 h
      refine lv_iconst (v := 0) hx hb dX6_orders_21 (by decide) ?_
      exact w_X6_orders_22 B _ _ _ _ _ h hM hS (lv_sub hl [0] rfl)
    · have h := bi_f c2 h
      exact w_X6_orders_17 B _ _ _ _ h hM hS (lv_sub hl [0] rfl)
theorem c_X6_orders {l : Launch} {G : GG} {A : Nat → Prop} {ad : Nat → Nat} {st : MS} {r : Int32} {st' : MS} (h : f_X6_orders st = some (r, st')) : Met l yX6_orders (Cond.code yX6_orders cX6_orders 1 (some .int) :: TG) ({ frames := 6, cells := 0, slots := 0, locals := 143 } : Room) (PM G A ad st [.ref (ad 0)]) (QM G A ad (some (.int r)) st') 0 0 A :=
  mw_of (own := RX6) (by decide +kernel) rfl rfl rfl (Nat.le_of_ble_eq_true rfl) fun p e s m below meth c ls B hM hS hl => w_X6_orders B _ _ _ _ h hM hS hl
set_option maxHeartbeats 4000000 in
set_option maxRecDepth 100000 in
theorem w_X6_best_37 {p : Program} {l : Launch} {e : Env} {s : State} {m : MethodId} {args : Array Value} {below : List Frame} {meth : Method} {c : Code} {G : GG} {A : Nat → Prop} {ad : Nat → Nat} (B : MB G p s m args meth c cX6_best 1 RX6 (some .int)) {r : Int32} {st' : MS} : ∀ (st : MS) (y0 : Int32) (H : Heap) (locs : List Loc) (ls : Array Slot), f_X6_best_37 st y0 = some (r, st') → MW G A ad st H → va_S A s.heap H locs → lv_has ls 1 [] → W p l e ({ frames := 6, cells := 0, slots := 0, locals := 143 } : Room) s m args below meth c H locs 0 0 (MQ below (QM G A ad (some (.int r)) st') args s 0 0 A) (F0 m 37 ls [.int y0]) := by
  have ⟨hx, hb, hr, hml, hown, hT, hlocks, hK⟩ := B
  intro st y0 H locs ls h hM hS hl
  rw [f_X6_best_37] at h
  cases h
  exact mw_iret B hM hS dX6_best_37
set_option maxHeartbeats 4000000 in
set_option maxRecDepth 100000 in
theorem w_X6_best_22 {p : Program} {l : Launch} {e : Env} {s : State} {m : MethodId} {args : Array Value} {below : List Frame} {meth : Method} {c : Code} {G : GG} {A : Nat → Prop} {ad : Nat → Nat} (B : MB G p s m args meth c cX6_best 1 RX6 (some .int)) {r : Int32} {st' : MS} : ∀ (st : MS) (y1 : Int32) (H : Heap) (locs : List Loc) (ls : Array Slot), f_X6_best_22 st y1 = some (r, st') → MW G A ad st H → va_S A s.heap H locs → lv_has ls 1 [(0, .ref (ad 0))] → W p l e ({ frames := 6, cells := 0, slots := 0, locals := 143 } : Room) s m args below meth c H locs 0 0 (MQ below (QM G A ad (some (.int r)) st') args s 0 0 A) (F0 m 22 ls [.int y1, .ref (ad 0)]) := by
  have ⟨hx, hb, hr, hml, hown, hT, hlocks, hK⟩ := B
  intro st y1 H locs ls h hM hS hl
  rw [f_X6_best_22] at h
  obtain ⟨r1, t2, e3, h⟩ := bd_e h
  refine mw_callV B hM hS [.int y1] (n := 1) (v := (some (.int r1))) (c_X6_fails e3) wm_RX6_102 wi_yX6_fails ws_yX6_fails wc_yX6_fails rfl rfl (by decide +kernel) ⟨Nat.le_of_ble_eq_true rfl, Nat.le_of_ble_eq_true rfl⟩ ⟨Nat.le_refl 0, Nat.le_refl 0⟩ rfl hl.1 (Nat.le_of_ble_eq_true rfl) rfl dX6_best_22 (fun H locs hM hS => ?_)
  refine lv_if_eq (tgt := 32) hx hb dX6_best_25 (by decide) (fun c4 => ?_) (fun c4 => ?_)
  · have h := bi_t c4 h
    refine lv_aload_n hx hb dX6_best_32 rfl (lv_at hl 0 rfl) ?_
    refine lv_iconst (v := 1) hx hb dX6_best_33 (by decide) ?_
    obtain ⟨r5, t6, e7, h⟩ := bd_e h
    refine mw_callV B hM hS [.int 1] (n := 1) (v := (some (.int r5))) (c_X6_goThrough e7) wm_RX6_215 wi_yX6_goThrough ws_yX6_goThrough wc_yX6_goThrough rfl rfl (by decide +kernel) ⟨Nat.le_of_ble_eq_true rfl, Nat.le_of_ble_eq_true rfl⟩ ⟨Nat.le_refl 0, Nat.le_refl 0⟩ rfl hl.1 (Nat.le_of_ble_eq_true rfl) rfl dX6_best_34 (fun H locs hM hS => ?_)
    exact w_X6_best_37 B _ _ _ _ _ h hM hS (lv_sub hl [] rfl)
  · have h := bi_f c4 h
    refine lv_iconst (v := 0) hx hb dX6_best_28 (by decide) ?_
    refine lv_goto (tgt := 37) hx hb dX6_best_29 (by decide) ?_
    exact w_X6_best_37 B _ _ _ _ _ h hM hS (lv_sub hl [] rfl)
set_option maxHeartbeats 4000000 in
set_option maxRecDepth 100000 in
theorem w_X6_best_17 {p : Program} {l : Launch} {e : Env} {s : State} {m : MethodId} {args : Array Value} {below : List Frame} {meth : Method} {c : Code} {G : GG} {A : Nat → Prop} {ad : Nat → Nat} (B : MB G p s m args meth c cX6_best 1 RX6 (some .int)) {r : Int32} {st' : MS} : ∀ (st : MS) (H : Heap) (locs : List Loc) (ls : Array Slot), f_X6_best_17 st = some (r, st') → MW G A ad st H → va_S A s.heap H locs → lv_has ls 1 [(0, .ref (ad 0))] → W p l e ({ frames := 6, cells := 0, slots := 0, locals := 143 } : Room) s m args below meth c H locs 0 0 (MQ below (QM G A ad (some (.int r)) st') args s 0 0 A) (F0 m 17 ls [.ref (ad 0)]) := by
  have ⟨hx, hb, hr, hml, hown, hT, hlocks, hK⟩ := B
  intro st  H locs ls h hM hS hl
  rw [f_X6_best_17] at h
  refine lv_iconst (v := 1) hx hb dX6_best_17 (by decide) ?_
  refine lv_goto (tgt := 22) hx hb dX6_best_18 (by decide) ?_
  exact w_X6_best_22 B _ _ _ _ _ h hM hS (lv_sub hl [0] rfl)
set_option maxHeartbeats 4000000 in
set_option maxRecDepth 100000 in
theorem w_X6_best {p : Program} {l : Launch} {e : Env} {s : State} {m : MethodId} {args : Array Value} {below : List Frame} {meth : Method} {c : Code} {G : GG} {A : Nat → Prop} {ad : Nat → Nat} (B : MB G p s m args meth c cX6_best 1 RX6 (some .int)) {r : Int32} {st' : MS} : ∀ (st : MS) (H : Heap) (locs : List Loc) (ls : Array Slot), f_X6_best st = some (r, st') → MW G A ad st H → va_S A s.heap H locs → lv_has ls 1 [(0, .ref (ad 0))] → W p l e ({ frames := 6, cells := 0, slots := 0, locals := 143 } : Room) s m args below meth c H locs 0 0 (MQ below (QM G A ad (some (.int r)) st') args s 0 0 A) (F0 m 0 ls []) := by
  have ⟨hx, hb, hr, hml, hown, hT, hlocks, hK⟩ := B
  intro st  H locs ls h hM hS hl
  rw [f_X6_best] at h
  refine lv_aload_n hx hb dX6_best_0 rfl (lv_at hl 0 rfl) ?_
  refine lv_aload_n hx hb dX6_best_1 rfl (lv_at hl 0 rfl) ?_
  refine mw_get B hM 2 (by decide) wf_RX6_95 rfl (v := .int (st.1 2)) rfl dX6_best_2 ?_
  refine lv_if_eq (tgt := 17) hx hb dX6_best_5 (by decide) (fun c1 => ?_) (fun c1 => ?_)
  · have h := bi_t c1 h
    exact w_X6_best_17 B _ _ _ _ h hM hS (lv_sub hl [0] rfl)
  · have h := bi_f c1 h
    refine lv_aload_n hx hb dX6_best_8 rfl (lv_at hl 0 rfl) ?_
    refine mw_get B hM 2 (by decide) wf_RX6_95 rfl (v := .int (st.1 2)) rfl dX6_best_9 ?_
    refine lv_bipush (v := 6) hx hb dX6_best_12 (by decide) ?_
    refine lv_icmp_le (tgt := 21) hx hb dX6_best_14 (by decide) (fun c2 => ?_) (fun c2 => ?_)
    · have h := bi_t c2 h
      refine lv_iconst (v := 0) hx hb dX6_best_21 (by decide) ?_
      exact w_X6_best_22 B _ _ _ _ _ h hM hS (lv_sub hl [0] rfl)
    · have h := bi_f c2 h
      exact w_X6_best_17 B _ _ _ _ h hM hS (lv_sub hl [0] rfl)
theorem c_X6_best {l : Launch} {G : GG} {A : Nat → Prop} {ad : Nat → Nat} {st : MS} {r : Int32} {st' : MS} (h : f_X6_best st = some (r, st')) : Met l yX6_best (Cond.code yX6_best cX6_best 1 (some .int) :: TG) ({ frames := 6, cells := 0, slots := 0, locals := 143 } : Room) (PM G A ad st [.ref (ad 0)]) (QM G A ad (some (.int r)) st') 0 0 A :=
  mw_of (own := RX6) (by decide +kernel) rfl rfl rfl (Nat.le_of_ble_eq_true rfl) fun p e s m below meth c ls B hM hS hl => w_X6_best B _ _ _ _ h hM hS hl
set_option maxHeartbeats 4000000 in
set_option maxRecDepth 100000 in
theorem w_X6_checksum_75 {p : Program} {l : Launch} {e : Env} {s : State} {m : MethodId} {args : Array Value} {below : List Frame} {meth : Method} {c : Code} {G : GG} {A : Nat → Prop} {ad : Nat → Nat} (B : MB G p s m args meth c cX6_checksum 4 RX6 (some .long)) {r : Int64} {st' : MS} : ∀ (n : Nat) (st : MS) (x1 : Int64) (x3 : Int32) (H : Heap) (locs : List Loc) (ls : Array Slot), f_X6_checksum_75 n st x1 x3 = some (r, st') → MW G A ad st H → va_S A s.heap H locs → lv_has ls 4 [(0, .ref (ad 0)), (1, .long x1), (3, .int x3)] → W p l e ({ frames := 1, cells := 0, slots := 0, locals := 21 } : Room) s m args below meth c H locs 0 0 (MQ below (QM G A ad (some (.long r)) st') args s 0 0 A) (F0 m 75 ls []) := by
  have ⟨hx, hb, hr, hml, hown, hT, hlocks, hK⟩ := B
  intro n
  induction n with
  | zero =>
    intro st x1 x3 H locs ls h
    cases h
  | succ n ih =>
    intro st x1 x3 H locs ls h hM hS hl
    rw [f_X6_checksum_75] at h
    refine lv_iload_n hx hb dX6_checksum_75 rfl (lv_at hl 2 rfl) ?_
    refine lv_aload_n hx hb dX6_checksum_76 rfl (lv_at hl 0 rfl) ?_
    refine mw_get B hM 23 (by decide) wf_RX6_199 rfl (v := .int (st.1 23)) rfl dX6_checksum_77 ?_
    refine lv_icmp_ge (tgt := 102) hx hb dX6_checksum_80 (by decide) (fun c1 => ?_) (fun c1 => ?_)
    · have h := bi_t c1 h
      refine lv_lload_n hx hb dX6_checksum_102 rfl (lv_at hl 1 rfl) ?_
      cases h
      exact mw_lret B hM hS dX6_checksum_103
    · have h := bi_f c1 h
      refine lv_ldc2 (v := 31) hx hb hown (hT _ wq_RX6_220) dX6_checksum_83 ?_
      refine lv_lload_n hx hb dX6_checksum_86 rfl (lv_at hl 1 rfl) ?_
      refine lv_lmul hx hb dX6_checksum_87 ?_
      refine lv_aload_n hx hb dX6_checksum_88 rfl (lv_at hl 0 rfl) ?_
      refine lv_iload_n hx hb dX6_checksum_89 rfl (lv_at hl 2 rfl) ?_
      obtain ⟨r2, t3, e4, h⟩ := bd_e h
      refine mw_callV B hM hS [.int x3] (n := 1) (v := (some (.int r2))) (c_X6_isNow e4) wm_RX6_205 wi_yX6_isNow ws_yX6_isNow wc_yX6_isNow rfl rfl (by decide +kernel) ⟨Nat.le_of_ble_eq_true rfl, Nat.le_of_ble_eq_true rfl⟩ ⟨Nat.le_refl 0, Nat.le_refl 0⟩ rfl hl.1 (Nat.le_of_ble_eq_true rfl) rfl dX6_checksum_90 (fun H locs hM hS => ?_)
      refine lv_i2l hx hb dX6_checksum_93 rfl ?_
      refine lv_ladd hx hb dX6_checksum_94 ?_
      refine lv_lstore_n (lv' := [(1, .long ((31 * x1) + (Int32.toInt64 r2))), (0, .ref (ad 0)), (3, .int x3)]) hx hb dX6_checksum_95 rfl hl (by decide) rfl (fun ls hl => ?_)
      refine lv_iinc (v := (x3 + 1)) (lv' := [(3, .int (x3 + 1)), (1, .long ((31 * x1) + (Int32.toInt64 r2))), (0, .ref (ad 0))]) hx hb dX6_checksum_96 hl (k := 2) rfl rfl (by decide) rfl (fun ls hl => ?_)
      refine lv_goto (tgt := 75) hx hb dX6_checksum_99 (by decide) ?_
      exact ih _ _ _ _ _ _ h hM hS (lv_sub hl [2, 1, 0] rfl)
set_option maxHeartbeats 4000000 in
set_option maxRecDepth 100000 in
theorem w_X6_checksum_11 {p : Program} {l : Launch} {e : Env} {s : State} {m : MethodId} {args : Array Value} {below : List Frame} {meth : Method} {c : Code} {G : GG} {A : Nat → Prop} {ad : Nat → Nat} (B : MB G p s m args meth c cX6_checksum 4 RX6 (some .long)) {r : Int64} {st' : MS} : ∀ (n : Nat) (st : MS) (x1 : Int64) (x3 : Int32) (H : Heap) (locs : List Loc) (ls : Array Slot), f_X6_checksum_11 n st x1 x3 = some (r, st') → MW G A ad st H → va_S A s.heap H locs → lv_has ls 4 [(0, .ref (ad 0)), (1, .long x1), (3, .int x3)] → W p l e ({ frames := 1, cells := 0, slots := 0, locals := 21 } : Room) s m args below meth c H locs 0 0 (MQ below (QM G A ad (some (.long r)) st') args s 0 0 A) (F0 m 11 ls []) := by
  have ⟨hx, hb, hr, hml, hown, hT, hlocks, hK⟩ := B
  intro n
  induction n with
  | zero =>
    intro st x1 x3 H locs ls h
    cases h
  | succ n ih =>
    intro st x1 x3 H locs ls h hM hS hl
    rw [f_X6_checksum_11] at h
    refine lv_iload_n hx hb dX6_checksum_11 rfl (lv_at hl 2 rfl) ?_
    refine lv_aload_n hx hb dX6_checksum_12 rfl (lv_at hl 0 rfl) ?_
    refine mw_get B hM 2 (by decide) wf_RX6_95 rfl (v := .int (st.1 2)) rfl dX6_checksum_13 ?_
    refine lv_icmp_ge (tgt := 73) hx hb dX6_checksum_16 (by decide) (fun c1 => ?_) (fun c1 => ?_)
    · have h := bi_t c1 h
      refine lv_iconst (v := 0) hx hb dX6_checksum_73 (by decide) ?_
      refine lv_istore_n (lv' := [(3, .int 0), (0, .ref (ad 0)), (1, .long x1)]) hx hb dX6_checksum_74 rfl hl (by decide) rfl (fun ls hl => ?_)
      exact w_X6_checksum_75 B FU _ _ _ _ _ _ h hM hS (lv_sub hl [1, 2, 0] rfl)
    · have h := bi_f c1 h
      refine lv_ldc2 (v := 31) hx hb hown (hT _ wq_RX6_220) dX6_checksum_19 ?_
      refine lv_ldc2 (v := 31) hx hb hown (hT _ wq_RX6_220) dX6_checksum_22 ?_
      refine lv_ldc2 (v := 31) hx hb hown (hT _ wq_RX6_220) dX6_checksum_25 ?_
      refine lv_lload_n hx hb dX6_checksum_28 rfl (lv_at hl 1 rfl) ?_
      refine lv_lmul hx hb dX6_checksum_29 ?_
      refine lv_aload_n hx hb dX6_checksum_30 rfl (lv_at hl 0 rfl) ?_
      refine mw_get B hM 3 (by decide) wf_RX6_7 rfl (v := .ref (ad 3)) rfl dX6_checksum_31 ?_
      refine lv_iload_n hx hb dX6_checksum_34 rfl (lv_at hl 2 rfl) ?_
      obtain ⟨g2, h⟩ := gd_e h
      refine mw_iald B hM 3 (by decide) (by decide) rfl g2 dX6_checksum_35 ?_
      refine lv_i2l hx hb dX6_checksum_36 rfl ?_
      refine lv_ladd hx hb dX6_checksum_37 ?_
      refine lv_lmul hx hb dX6_checksum_38 ?_
      refine lv_aload_n hx hb dX6_checksum_39 rfl (lv_at hl 0 rfl) ?_
      refine mw_get B hM 6 (by decide) wf_RX6_20 rfl (v := .ref (ad 6)) rfl dX6_checksum_40 ?_
      refine lv_aload_n hx hb dX6_checksum_43 rfl (lv_at hl 0 rfl) ?_
      refine mw_get B hM 3 (by decide) wf_RX6_7 rfl (v := .ref (ad 3)) rfl dX6_checksum_44 ?_
      refine lv_iload_n hx hb dX6_checksum_47 rfl (lv_at hl 2 rfl) ?_
      obtain ⟨g3, h⟩ := gd_e h
      refine mw_iald B hM 3 (by decide) (by decide) rfl g3 dX6_checksum_48 ?_
      obtain ⟨g4, h⟩ := gd_e h
      refine mw_iald B hM 6 (by decide) (by decide) rfl g4 dX6_checksum_49 ?_
      refine lv_i2l hx hb dX6_checksum_50 rfl ?_
      refine lv_ladd hx hb dX6_checksum_51 ?_
      refine lv_lmul hx hb dX6_checksum_52 ?_
      refine lv_aload_n hx hb dX6_checksum_53 rfl (lv_at hl 0 rfl) ?_
      refine mw_get B hM 7 (by decide) wf_RX6_23 rfl (v := .ref (ad 7)) rfl dX6_checksum_54 ?_
      refine lv_aload_n hx hb dX6_checksum_57 rfl (lv_at hl 0 rfl) ?_
      refine mw_get B hM 3 (by decide) wf_RX6_7 rfl (v := .ref (ad 3)) rfl dX6_checksum_58 ?_
      refine lv_iload_n hx hb dX6_checksum_61 rfl (lv_at hl 2 rfl) ?_
      obtain ⟨g5, h⟩ := gd_e h
      refine mw_iald B hM 3 (by decide) (by decide) rfl g5 dX6_checksum_62 ?_
      obtain ⟨g6, h⟩ := gd_e h
      refine mw_iald B hM 7 (by decide) (by decide) rfl g6 dX6_checksum_63 ?_
      refine lv_i2l hx hb dX6_checksum_64 rfl ?_
      refine lv_ladd hx hb dX6_checksum_65 ?_
      refine lv_lstore_n (lv' := [(1, .long ((31 * ((31 * ((31 * x1) + (Int32.toInt64 (st.2 3 x3.toNatClampNeg)))) + (Int32.toInt64 (st.2 6 (st.2 3 x3.toNatClampNeg).toNatClampNeg)))) + (Int32.toInt64 (st.2 7 (st.2 3 x3.toNatClampNeg).toNatClampNeg)))), (0, .ref (ad 0)), (3, .int x3)]) hx hb dX6_checksum_66 rfl hl (by decide) rfl (fun ls hl => ?_)
      refine lv_iinc (v := (x3 + 1)) (lv' := [(3, .int (x3 + 1)), (1, .long ((31 * ((31 * ((31 * x1) + (Int32.toInt64 (st.2 3 x3.toNatClampNeg)))) + (Int32.toInt64 (st.2 6 (st.2 3 x3.toNatClampNeg).toNatClampNeg)))) + (Int32.toInt64 (st.2 7 (st.2 3 x3.toNatClampNeg).toNatClampNeg)))), (0, .ref (ad 0))]) hx hb dX6_checksum_67 hl (k := 2) rfl rfl (by decide) rfl (fun ls hl => ?_)
      refine lv_goto (tgt := 11) hx hb dX6_checksum_70 (by decide) ?_
      exact ih _ _ _ _ _ _ h hM hS (lv_sub hl [2, 1, 0] rfl)
set_option maxHeartbeats 4000000 in
set_option maxRecDepth 100000 in
theorem w_X6_checksum {p : Program} {l : Launch} {e : Env} {s : State} {m : MethodId} {args : Array Value} {below : List Frame} {meth : Method} {c : Code} {G : GG} {A : Nat → Prop} {ad : Nat → Nat} (B : MB G p s m args meth c cX6_checksum 4 RX6 (some .long)) {r : Int64} {st' : MS} : ∀ (st : MS) (H : Heap) (locs : List Loc) (ls : Array Slot), f_X6_checksum st = some (r, st') → MW G A ad st H → va_S A s.heap H locs → lv_has ls 4 [(0, .ref (ad 0))] → W p l e ({ frames := 1, cells := 0, slots := 0, locals := 21 } : Room) s m args below meth c H locs 0 0 (MQ below (QM G A ad (some (.long r)) st') args s 0 0 A) (F0 m 0 ls []) := by
  have ⟨hx, hb, hr, hml, hown, hT, hlocks, hK⟩ := B
  intro st  H locs ls h hM hS hl
  rw [f_X6_checksum] at h
  refine lv_aload_n hx hb dX6_checksum_0 rfl (lv_at hl 0 rfl) ?_
  refine lv_iconst (v := 0) hx hb dX6_checksum_1 (by decide) ?_
  refine mw_put B hM hS 0 (by decide) wf_RX6_84 rfl rfl rfl rfl rfl dX6_checksum_2 (fun H locs hM hS => ?_)
  refine lv_ldc2 (v := 7) hx hb hown (hT _ wq_RX6_218) dX6_checksum_5 ?_
  refine lv_lstore_n (lv' := [(1, .long 7), (0, .ref (ad 0))]) hx hb dX6_checksum_8 rfl hl (by decide) rfl (fun ls hl => ?_)
  refine lv_iconst (v := 0) hx hb dX6_checksum_9 (by decide) ?_
  refine lv_istore_n (lv' := [(3, .int 0), (1, .long 7), (0, .ref (ad 0))]) hx hb dX6_checksum_10 rfl hl (by decide) rfl (fun ls hl => ?_)
  exact w_X6_checksum_11 B FU _ _ _ _ _ _ h hM hS (lv_sub hl [2, 1, 0] rfl)
theorem c_X6_checksum {l : Launch} {G : GG} {A : Nat → Prop} {ad : Nat → Nat} {st : MS} {r : Int64} {st' : MS} (h : f_X6_checksum st = some (r, st')) : Met l yX6_checksum (Cond.code yX6_checksum cX6_checksum 4 (some .long) :: TG) ({ frames := 1, cells := 0, slots := 0, locals := 21 } : Room) (PM G A ad st [.ref (ad 0)]) (QM G A ad (some (.long r)) st') 0 0 A :=
  mw_of (own := RX6) (by decide +kernel) rfl rfl rfl (Nat.le_of_ble_eq_true rfl) fun p e s m below meth c ls B hM hS hl => w_X6_checksum B _ _ _ _ h hM hS hl
set_option maxHeartbeats 4000000 in
set_option maxRecDepth 100000 in
theorem w_X6_brokenShare_37 {p : Program} {l : Launch} {e : Env} {s : State} {m : MethodId} {args : Array Value} {below : List Frame} {meth : Method} {c : Code} {G : GG} {A : Nat → Prop} {ad : Nat → Nat} (B : MB G p s m args meth c cX6_brokenShare 1 RX6 (some .float)) {r : UInt32} {st' : MS} : ∀ (st : MS) (y0 : UInt32) (H : Heap) (locs : List Loc) (ls : Array Slot), f_X6_brokenShare_37 st y0 = some (r, st') → MW G A ad st H → va_S A s.heap H locs → lv_has ls 1 [] → W p l e ({ frames := 6, cells := 0, slots := 0, locals := 139 } : Room) s m args below meth c H locs 0 0 (MQ below (QM G A ad (some (.float r)) st') args s 0 0 A) (F0 m 37 ls [.float y0]) := by
  have ⟨hx, hb, hr, hml, hown, hT, hlocks, hK⟩ := B
  intro st y0 H locs ls h hM hS hl
  rw [f_X6_brokenShare_37] at h
  cases h
  exact mw_fret B hM hS dX6_brokenShare_37
set_option maxHeartbeats 4000000 in
set_option maxRecDepth 100000 in
theorem w_X6_brokenShare_14 {p : Program} {l : Launch} {e : Env} {s : State} {m : MethodId} {args : Array Value} {below : List Frame} {meth : Method} {c : Code} {G : GG} {A : Nat → Prop} {ad : Nat → Nat} (B : MB G p s m args meth c cX6_brokenShare 1 RX6 (some .float)) {r : UInt32} {st' : MS} : ∀ (st : MS) (y1 : Int32) (H : Heap) (locs : List Loc) (ls : Array Slot), f_X6_brokenShare_14 st y1 = some (r, st') → MW G A ad st H → va_S A s.heap H locs → lv_has ls 1 [(0, .ref (ad 0))] → W p l e ({ frames := 6, cells := 0, slots := 0, locals := 139 } : Room) s m args below meth c H locs 0 0 (MQ below (QM G A ad (some (.float r)) st') args s 0 0 A) (F0 m 14 ls [.int y1, .ref (ad 0)]) := by
  have ⟨hx, hb, hr, hml, hown, hT, hlocks, hK⟩ := B
  intro st y1 H locs ls h hM hS hl
  rw [f_X6_brokenShare_14] at h
  obtain ⟨r1, t2, e3, h⟩ := bd_e h
  refine mw_callV B hM hS [.int y1] (n := 1) (v := (some (.int r1))) (c_X6_fails e3) wm_RX6_102 wi_yX6_fails ws_yX6_fails wc_yX6_fails rfl rfl (by decide +kernel) ⟨Nat.le_of_ble_eq_true rfl, Nat.le_of_ble_eq_true rfl⟩ ⟨Nat.le_refl 0, Nat.le_refl 0⟩ rfl hl.1 (Nat.le_of_ble_eq_true rfl) rfl dX6_brokenShare_14 (fun H locs hM hS => ?_)
  refine lv_if_eq (tgt := 24) hx hb dX6_brokenShare_17 (by decide) (fun c4 => ?_) (fun c4 => ?_)
  · have h := bi_t c4 h
    refine lv_aload_n hx hb dX6_brokenShare_24 rfl (lv_at hl 0 rfl) ?_
    obtain ⟨r5, t6, e7, h⟩ := bd_e h
    refine mw_callV B hM hS [] (n := 0) (v := (some (.int r5))) (c_X6_countBroken e7) wm_RX6_192 wi_yX6_countBroken ws_yX6_countBroken wc_yX6_countBroken rfl rfl (by decide +kernel) ⟨Nat.le_of_ble_eq_true rfl, Nat.le_of_ble_eq_true rfl⟩ ⟨Nat.le_refl 0, Nat.le_refl 0⟩ rfl hl.1 (Nat.le_of_ble_eq_true rfl) rfl dX6_brokenShare_25 (fun H locs hM hS => ?_)
    refine lv_i2f hx hb dX6_brokenShare_28 ?_
    refine lv_aload_n hx hb dX6_brokenShare_29 rfl (lv_at hl 0 rfl) ?_
    refine mw_get B hM 2 (by decide) wf_RX6_95 rfl (v := .int (t6.1 2)) rfl dX6_brokenShare_30 ?_
    refine lv_iconst (v := 1) hx hb dX6_brokenShare_33 (by decide) ?_
    refine lv_isub hx hb dX6_brokenShare_34 ?_
    refine lv_i2f hx hb dX6_brokenShare_35 ?_
    obtain ⟨g8, h⟩ := gd_e h
    refine lv_fdiv hx hb dX6_brokenShare_36 g8 ?_
    exact w_X6_brokenShare_37 B _ _ _ _ _ h hM hS (lv_sub hl [] rfl)
  · have h := bi_f c4 h
    refine lv_fconst0 hx hb dX6_brokenShare_20 ?_
    refine lv_goto (tgt := 37) hx hb dX6_brokenShare_21 (by decide) ?_
    exact w_X6_brokenShare_37 B _ _ _ _ _ h hM hS (lv_sub hl [] rfl)
set_option maxHeartbeats 4000000 in
set_option maxRecDepth 100000 in
theorem w_X6_brokenShare {p : Program} {l : Launch} {e : Env} {s : State} {m : MethodId} {args : Array Value} {below : List Frame} {meth : Method} {c : Code} {G : GG} {A : Nat → Prop} {ad : Nat → Nat} (B : MB G p s m args meth c cX6_brokenShare 1 RX6 (some .float)) {r : UInt32} {st' : MS} : ∀ (st : MS) (H : Heap) (locs : List Loc) (ls : Array Slot), f_X6_brokenShare st = some (r, st') → MW G A ad st H → va_S A s.heap H locs → lv_has ls 1 [(0, .ref (ad 0))] → W p l e ({ frames := 6, cells := 0, slots := 0, locals := 139 } : Room) s m args below meth c H locs 0 0 (MQ below (QM G A ad (some (.float r)) st') args s 0 0 A) (F0 m 0 ls []) := by
  have ⟨hx, hb, hr, hml, hown, hT, hlocks, hK⟩ := B
  intro st  H locs ls h hM hS hl
  rw [f_X6_brokenShare] at h
  refine lv_aload_n hx hb dX6_brokenShare_0 rfl (lv_at hl 0 rfl) ?_
  refine lv_aload_n hx hb dX6_brokenShare_1 rfl (lv_at hl 0 rfl) ?_
  refine mw_get B hM 2 (by decide) wf_RX6_95 rfl (v := .int (st.1 2)) rfl dX6_brokenShare_2 ?_
  refine lv_iconst (v := 2) hx hb dX6_brokenShare_5 (by decide) ?_
  refine lv_icmp_ge (tgt := 13) hx hb dX6_brokenShare_6 (by decide) (fun c1 => ?_) (fun c1 => ?_)
  · have h := bi_t c1 h
    refine lv_iconst (v := 0) hx hb dX6_brokenShare_13 (by decide) ?_
    exact w_X6_brokenShare_14 B _ _ _ _ _ h hM hS (lv_sub hl [0] rfl)
  · have h := bi_f c1 h
    refine lv_iconst (v := 1) hx hb dX6_brokenShare_9 (by decide) ?_
    refine lv_goto (tgt := 14) hx hb dX6_brokenShare_10 (by decide) ?_
    exact w_X6_brokenShare_14 B _ _ _ _ _ h hM hS (lv_sub hl [0] rfl)
theorem c_X6_brokenShare {l : Launch} {G : GG} {A : Nat → Prop} {ad : Nat → Nat} {st : MS} {r : UInt32} {st' : MS} (h : f_X6_brokenShare st = some (r, st')) : Met l yX6_brokenShare (Cond.code yX6_brokenShare cX6_brokenShare 1 (some .float) :: TG) ({ frames := 6, cells := 0, slots := 0, locals := 139 } : Room) (PM G A ad st [.ref (ad 0)]) (QM G A ad (some (.float r)) st') 0 0 A :=
  mw_of (own := RX6) (by decide +kernel) rfl rfl rfl (Nat.le_of_ble_eq_true rfl) fun p e s m below meth c ls B hM hS hl => w_X6_brokenShare B _ _ _ _ h hM hS hl
set_option maxHeartbeats 4000000 in
set_option maxRecDepth 100000 in
theorem w_X6_meanLength_38 {p : Program} {l : Launch} {e : Env} {s : State} {m : MethodId} {args : Array Value} {below : List Frame} {meth : Method} {c : Code} {G : GG} {A : Nat → Prop} {ad : Nat → Nat} (B : MB G p s m args meth c cX6_meanLength 1 RX6 (some .double)) {r : UInt64} {st' : MS} : ∀ (st : MS) (y0 : UInt64) (H : Heap) (locs : List Loc) (ls : Array Slot), f_X6_meanLength_38 st y0 = some (r, st') → MW G A ad st H → va_S A s.heap H locs → lv_has ls 1 [] → W p l e ({ frames := 1, cells := 0, slots := 0, locals := 23 } : Room) s m args below meth c H locs 0 0 (MQ below (QM G A ad (some (.double r)) st') args s 0 0 A) (F0 m 38 ls [.double y0]) := by
  have ⟨hx, hb, hr, hml, hown, hT, hlocks, hK⟩ := B
  intro st y0 H locs ls h hM hS hl
  rw [f_X6_meanLength_38] at h
  cases h
  exact mw_dret B hM hS dX6_meanLength_38
set_option maxHeartbeats 4000000 in
set_option maxRecDepth 100000 in
theorem w_X6_meanLength_13 {p : Program} {l : Launch} {e : Env} {s : State} {m : MethodId} {args : Array Value} {below : List Frame} {meth : Method} {c : Code} {G : GG} {A : Nat → Prop} {ad : Nat → Nat} (B : MB G p s m args meth c cX6_meanLength 1 RX6 (some .double)) {r : UInt64} {st' : MS} : ∀ (st : MS) (y1 : Int32) (H : Heap) (locs : List Loc) (ls : Array Slot), f_X6_meanLength_13 st y1 = some (r, st') → MW G A ad st H → va_S A s.heap H locs → lv_has ls 1 [(0, .ref (ad 0))] → W p l e ({ frames := 1, cells := 0, slots := 0, locals := 23 } : Room) s m args below meth c H locs 0 0 (MQ below (QM G A ad (some (.double r)) st') args s 0 0 A) (F0 m 13 ls [.int y1, .ref (ad 0)]) := by
  have ⟨hx, hb, hr, hml, hown, hT, hlocks, hK⟩ := B
  intro st y1 H locs ls h hM hS hl
  rw [f_X6_meanLength_13] at h
  obtain ⟨r1, t2, e3, h⟩ := bd_e h
  refine mw_callV B hM hS [.int y1] (n := 1) (v := (some (.int r1))) (c_X6_fails e3) wm_RX6_102 wi_yX6_fails ws_yX6_fails wc_yX6_fails rfl rfl (by decide +kernel) ⟨Nat.le_of_ble_eq_true rfl, Nat.le_of_ble_eq_true rfl⟩ ⟨Nat.le_refl 0, Nat.le_refl 0⟩ rfl hl.1 (Nat.le_of_ble_eq_true rfl) rfl dX6_meanLength_13 (fun H locs hM hS => ?_)
  refine lv_if_eq (tgt := 23) hx hb dX6_meanLength_16 (by decide) (fun c4 => ?_) (fun c4 => ?_)
  · have h := bi_t c4 h
    refine lv_aload_n hx hb dX6_meanLength_23 rfl (lv_at hl 0 rfl) ?_
    refine lv_aload_n hx hb dX6_meanLength_24 rfl (lv_at hl 0 rfl) ?_
    refine mw_get B hM 2 (by decide) wf_RX6_95 rfl (v := .int (t2.1 2)) rfl dX6_meanLength_25 ?_
    obtain ⟨r5, t6, e7, h⟩ := bd_e h
    refine mw_callV B hM hS [.int (t2.1 2)] (n := 1) (v := (some (.int r5))) (c_X6_begins e7) wm_RX6_147 wi_yX6_begins ws_yX6_begins wc_yX6_begins rfl rfl (by decide +kernel) ⟨Nat.le_of_ble_eq_true rfl, Nat.le_of_ble_eq_true rfl⟩ ⟨Nat.le_refl 0, Nat.le_refl 0⟩ rfl hl.1 (Nat.le_of_ble_eq_true rfl) rfl dX6_meanLength_28 (fun H locs hM hS => ?_)
    refine lv_i2d hx hb dX6_meanLength_31 ?_
    refine lv_aload_n hx hb dX6_meanLength_32 rfl (lv_at hl 0 rfl) ?_
    refine mw_get B hM 2 (by decide) wf_RX6_95 rfl (v := .int (t6.1 2)) rfl dX6_meanLength_33 ?_
    refine lv_i2d hx hb dX6_meanLength_36 ?_
    obtain ⟨g8, h⟩ := gd_e h
    refine lv_ddiv hx hb dX6_meanLength_37 g8 ?_
    exact w_X6_meanLength_38 B _ _ _ _ _ h hM hS (lv_sub hl [] rfl)
  · have h := bi_f c4 h
    refine lv_dconst0 hx hb dX6_meanLength_19 ?_
    refine lv_goto (tgt := 38) hx hb dX6_meanLength_20 (by decide) ?_
    exact w_X6_meanLength_38 B _ _ _ _ _ h hM hS (lv_sub hl [] rfl)
set_option maxHeartbeats 4000000 in
set_option maxRecDepth 100000 in
theorem w_X6_meanLength {p : Program} {l : Launch} {e : Env} {s : State} {m : MethodId} {args : Array Value} {below : List Frame} {meth : Method} {c : Code} {G : GG} {A : Nat → Prop} {ad : Nat → Nat} (B : MB G p s m args meth c cX6_meanLength 1 RX6 (some .double)) {r : UInt64} {st' : MS} : ∀ (st : MS) (H : Heap) (locs : List Loc) (ls : Array Slot), f_X6_meanLength st = some (r, st') → MW G A ad st H → va_S A s.heap H locs → lv_has ls 1 [(0, .ref (ad 0))] → W p l e ({ frames := 1, cells := 0, slots := 0, locals := 23 } : Room) s m args below meth c H locs 0 0 (MQ below (QM G A ad (some (.double r)) st') args s 0 0 A) (F0 m 0 ls []) := by
  have ⟨hx, hb, hr, hml, hown, hT, hlocks, hK⟩ := B
  intro st  H locs ls h hM hS hl
  rw [f_X6_meanLength] at h
  refine lv_aload_n hx hb dX6_meanLength_0 rfl (lv_at hl 0 rfl) ?_
  refine lv_aload_n hx hb dX6_meanLength_1 rfl (lv_at hl 0 rfl) ?_
  refine mw_get B hM 2 (by decide) wf_RX6_95 rfl (v := .int (st.1 2)) rfl dX6_meanLength_2 ?_
  refine lv_if_ne (tgt := 12) hx hb dX6_meanLength_5 (by decide) (fun c1 => ?_) (fun c1 => ?_)
  · have h := bi_f c1 h
    refine lv_iconst (v := 0) hx hb dX6_meanLength_12 (by decide) ?_
    exact w_X6_meanLength_13 B _ _ _ _ _ h hM hS (lv_sub hl [0] rfl)
  · have h := bi_t c1 h
    refine lv_iconst (v := 1) hx hb dX6_meanLength_8 (by decide) ?_
    refine lv_goto (tgt := 13) hx hb dX6_meanLength_9 (by decide) ?_
    exact w_X6_meanLength_13 B _ _ _ _ _ h hM hS (lv_sub hl [0] rfl)
theorem c_X6_meanLength {l : Launch} {G : GG} {A : Nat → Prop} {ad : Nat → Nat} {st : MS} {r : UInt64} {st' : MS} (h : f_X6_meanLength st = some (r, st')) : Met l yX6_meanLength (Cond.code yX6_meanLength cX6_meanLength 1 (some .double) :: TG) ({ frames := 1, cells := 0, slots := 0, locals := 23 } : Room) (PM G A ad st [.ref (ad 0)]) (QM G A ad (some (.double r)) st') 0 0 A :=
  mw_of (own := RX6) (by decide +kernel) rfl rfl rfl (Nat.le_of_ble_eq_true rfl) fun p e s m below meth c ls B hM hS hl => w_X6_meanLength B _ _ _ _ h hM hS hl
set_option maxHeartbeats 4000000 in
set_option maxRecDepth 100000 in
theorem w_X6_isSound {p : Program} {l : Launch} {e : Env} {s : State} {m : MethodId} {args : Array Value} {below : List Frame} {meth : Method} {c : Code} {G : GG} {A : Nat → Prop} {ad : Nat → Nat} (B : MB G p s m args meth c cX6_isSound 1 RX6 (some .boolean)) {r : Int32} {st' : MS} : ∀ (st : MS) (H : Heap) (locs : List Loc) (ls : Array Slot), f_X6_isSound st = some (r, st') → MW G A ad st H → va_S A s.heap H locs → lv_has ls 1 [(0, .ref (ad 0))] → W p l e ({ frames := 0, cells := 0, slots := 0, locals := 0 } : Room) s m args below meth c H locs 0 0 (MQ below (QM G A ad (some (.int r)) st') args s 0 0 A) (F0 m 0 ls []) := by
  have ⟨hx, hb, hr, hml, hown, hT, hlocks, hK⟩ := B
  intro st  H locs ls h hM hS hl
  rw [f_X6_isSound] at h
  refine lv_aload_n hx hb dX6_isSound_0 rfl (lv_at hl 0 rfl) ?_
  refine lv_iconst (v := 0) hx hb dX6_isSound_1 (by decide) ?_
  refine mw_put B hM hS 0 (by decide) wf_RX6_84 rfl rfl rfl rfl rfl dX6_isSound_2 (fun H locs hM hS => ?_)
  refine lv_iconst (v := 1) hx hb dX6_isSound_5 (by decide) ?_
  cases h
  exact mw_zret B hM hS (by rfl) dX6_isSound_6
theorem c_X6_isSound {l : Launch} {G : GG} {A : Nat → Prop} {ad : Nat → Nat} {st : MS} {r : Int32} {st' : MS} (h : f_X6_isSound st = some (r, st')) : Met l yX6_isSound (Cond.code yX6_isSound cX6_isSound 1 (some .boolean) :: TG) ({ frames := 0, cells := 0, slots := 0, locals := 0 } : Room) (PM G A ad st [.ref (ad 0)]) (QM G A ad (some (.int r)) st') 0 0 A :=
  mw_of (own := RX6) (by decide +kernel) rfl rfl rfl (Nat.le_of_ble_eq_true rfl) fun p e s m below meth c ls B hM hS hl => w_X6_isSound B _ _ _ _ h hM hS hl
