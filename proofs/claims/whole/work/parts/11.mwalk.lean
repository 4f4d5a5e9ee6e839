set_option maxHeartbeats 4000000 in
set_option maxRecDepth 100000 in
theorem w_X6_thrown {p : Program} {l : Launch} {e : Env} {s : State} {m : MethodId} {args : Array Value} {below : List Frame} {meth : Method} {c : Code} {G : GG} {A : Nat → Prop} {ad : Nat → Nat} (B : MB G p s m args meth c cX6_thrown 1 RX6 (some .int)) {r : Int32} {st' : MS} : ∀ (st : MS) (H : Heap) (locs : List Loc) (ls : Array Slot), f_X6_thrown st = some (r, st') → MW G A ad st H → va_S A s.heap H locs → lv_has ls 1 [(0, .ref (ad 0))] → W p l e ({ frames := 0, cells := 0, slots := 0, locals := 0 } : Room) s m args below meth c H locs 0 0 (MQ below (QM G A ad (some (.int r)) st') args s 0 0 A) (F0 m 0 ls []) := by
  have ⟨hx, hb, hr, hml, hown, hT, hlocks, hK⟩ := B
  intro st  H locs ls h hM hS hl
  rw [f_X6_thrown] at h
  refine lv_aload_n hx hb dX6_thrown_0 rfl (lv_at hl 0 rfl) ?_
  refine mw_get B hM 0 (by decide) wf_RX6_84 rfl (v := .int (st.1 0)) rfl dX6_thrown_1 ?_
  cases h
  exact mw_iret B hM hS dX6_thrown_4
theorem c_X6_thrown {l : Launch} {G : GG} {A : Nat → Prop} {ad : Nat → Nat} {st : MS} {r : Int32} {st' : MS} (h : f_X6_thrown st = some (r, st')) : Met l yX6_thrown (Cond.code yX6_thrown cX6_thrown 1 (some .int) :: TG) ({ frames := 0, cells := 0, slots := 0, locals := 0 } : Room) (PM G A ad st [.ref (ad 0)]) (QM G A ad (some (.int r)) st') 0 0 A :=
  mw_of (own := RX6) (by decide +kernel) rfl rfl rfl (Nat.le_of_ble_eq_true rfl) fun p e s m below meth c ls B hM hS hl => w_X6_thrown B _ _ _ _ h hM hS hl
set_option maxHeartbeats 4000000 in
set_option maxRecDepth 100000 in
theorem w_X6_fails_14 {p : Program} {l : Launch} {e : Env} {s : State} {m : MethodId} {args : Array Value} {below : List Frame} {meth : Method} {c : Code} {G : GG} {A : Nat → Prop} {ad : Nat → Nat} (B : MB G p s m args meth c cX6_fails 2 RX6 (some .boolean)) {r : Int32} {st' : MS} : ∀ (st : MS) (y0 : Int32) (H : Heap) (locs : List Loc) (ls : Array Slot), f_X6_fails_14 st y0 = some (r, st') → MW G A ad st H → va_S A s.heap H locs → lv_has ls 2 [] → W p l e ({ frames := 0, cells := 0, slots := 0, locals := 0 } : Room) s m args below meth c H locs 0 0 (MQ below (QM G A ad (some (.int r)) st') args s 0 0 A) (F0 m 14 ls [.int y0]) := by
  have ⟨hx, hb, hr, hml, hown, hT, hlocks, hK⟩ := B
  intro st y0 H locs ls h hM hS hl
  rw [f_X6_fails_14] at h
  obtain ⟨g1, h⟩ := gd_e h
  cases h
  exact mw_zret B hM hS g1 dX6_fails_14
set_option maxHeartbeats 4000000 in
set_option maxRecDepth 100000 in
theorem w_X6_fails {p : Program} {l : Launch} {e : Env} {s : State} {m : MethodId} {args : Array Value} {below : List Frame} {meth : Method} {c : Code} {G : GG} {A : Nat → Prop} {ad : Nat → Nat} (B : MB G p s m args meth c cX6_fails 2 RX6 (some .boolean)) {r : Int32} {st' : MS} : ∀ (st : MS) (x1 : Int32) (H : Heap) (locs : List Loc) (ls : Array Slot), f_X6_fails st x1 = some (r, st') → MW G A ad st H → va_S A s.heap H locs → lv_has ls 2 [(0, .ref (ad 0)), (1, .int x1)] → W p l e ({ frames := 0, cells := 0, slots := 0, locals := 0 } : Room) s m args below meth c H locs 0 0 (MQ below (QM G A ad (some (.int r)) st') args s 0 0 A) (F0 m 0 ls []) := by
  have ⟨hx, hb, hr, hml, hown, hT, hlocks, hK⟩ := B
  intro st x1 H locs ls h hM hS hl
  rw [f_X6_fails] at h
  refine lv_aload_n hx hb dX6_fails_0 rfl (lv_at hl 0 rfl) ?_
  refine lv_iload_n hx hb dX6_fails_1 rfl (lv_at hl 1 rfl) ?_
  refine mw_put B hM hS 0 (by decide) wf_RX6_84 rfl rfl rfl rfl rfl dX6_fails_2 (fun H locs hM hS => ?_)
  refine lv_iload_n hx hb dX6_fails_5 rfl (lv_at hl 1 rfl) ?_
  refine lv_if_le (tgt := 13) hx hb dX6_fails_6 (by decide) (fun c1 => ?_) (fun c1 => ?_)
  · have h := bi_t c1 h
    refine lv_iconst (v := 0) hx hb dX6_fails_13 (by decide) ?_
    exact w_X6_fails_14 B _ _ _ _ _ h hM hS (lv_sub hl [] rfl)
  · have h := bi_f c1 h
    refine lv_iconst (v := 1) hx hb dX6_fails_9 (by decide) ?_
    refine lv_goto (tgt := 14) hx hb dX6_fails_10 (by decide) ?_
    exact w_X6_fails_14 B _ _ _ _ _ h hM hS (lv_sub hl [] rfl)
theorem c_X6_fails {l : Launch} {G : GG} {A : Nat → Prop} {ad : Nat → Nat} {st : MS} {x1 : Int32} {r : Int32} {st' : MS} (h : f_X6_fails st x1 = some (r, st')) : Met l yX6_fails (Cond.code yX6_fails cX6_fails 2 (some .boolean) :: TG) ({ frames := 0, cells := 0, slots := 0, locals := 0 } : Room) (PM G A ad st [.ref (ad 0), .int x1]) (QM G A ad (some (.int r)) st') 0 0 A :=
  mw_of (own := RX6) (by decide +kernel) rfl rfl rfl (Nat.le_of_ble_eq_true rfl) fun p e s m below meth c ls B hM hS hl => w_X6_fails B _ _ _ _ _ h hM hS hl
set_option maxHeartbeats 4000000 in
set_option maxRecDepth 100000 in
theorem w_X6_in_15 {p : Program} {l : Launch} {e : Env} {s : State} {m : MethodId} {args : Array Value} {below : List Frame} {meth : Method} {c : Code} {G : GG} {A : Nat → Prop} {ad : Nat → Nat} (B : MB G p s m args meth c cX6_in 3 RX6 (some .boolean)) {r : Int32} {st' : MS} : ∀ (st : MS) (y0 : Int32) (H : Heap) (locs : List Loc) (ls : Array Slot), f_X6_in_15 st y0 = some (r, st') → MW G A ad st H → va_S A s.heap H locs → lv_has ls 3 [] → W p l e ({ frames := 0, cells := 0, slots := 0, locals := 0 } : Room) s m args below meth c H locs 0 0 (MQ below (QM G A ad (some (.int r)) st') args s 0 0 A) (F0 m 15 ls [.int y0]) := by
  have ⟨hx, hb, hr, hml, hown, hT, hlocks, hK⟩ := B
  intro st y0 H locs ls h hM hS hl
  rw [f_X6_in_15] at h
  obtain ⟨g1, h⟩ := gd_e h
  cases h
  exact mw_zret B hM hS g1 dX6_in_15
set_option maxHeartbeats 4000000 in
set_option maxRecDepth 100000 in
theorem w_X6_in_14 {p : Program} {l : Launch} {e : Env} {s : State} {m : MethodId} {args : Array Value} {below : List Frame} {meth : Method} {c : Code} {G : GG} {A : Nat → Prop} {ad : Nat → Nat} (B : MB G p s m args meth c cX6_in 3 RX6 (some .boolean)) {r : Int32} {st' : MS} : ∀ (st : MS) (H : Heap) (locs : List Loc) (ls : Array Slot), f_X6_in_14 st = some (r, st') → MW G A ad st H → va_S A s.heap H locs → lv_has ls 3 [] → W p l e ({ frames := 0, cells := 0, slots := 0, locals := 0 } : Room) s m args below meth c H locs 0 0 (MQ below (QM G A ad (some (.int r)) st') args s 0 0 A) (F0 m 14 ls []) := by
  have ⟨hx, hb, hr, hml, hown, hT, hlocks, hK⟩ := B
  intro st  H locs ls h hM hS hl
  rw [f_X6_in_14] at h
  refine lv_iconst (v := 0) hx hb dX6_in_14 (by decide) ?_
  exact w_X6_in_15 B _ _ _ _ _ h hM hS (lv_sub hl [] rfl)
set_option maxHeartbeats 4000000 in
set_option maxRecDepth 100000 in
theorem w_X6_in {p : Program} {l : Launch} {e : Env} {s : State} {m : MethodId} {args : Array Value} {below : List Frame} {meth : Method} {c : Code} {G : GG} {A : Nat → Prop} {ad : Nat → Nat} (B : MB G p s m args meth c cX6_in 3 RX6 (some .boolean)) {r : Int32} {st' : MS} : ∀ (st : MS) (x0 : Int32) (x1 : Int32) (x2 : Int32) (H : Heap) (locs : List Loc) (ls : Array Slot), f_X6_in st x0 x1 x2 = some (r, st') → MW G A ad st H → va_S A s.heap H locs → lv_has ls 3 [(0, .int x0), (1, .int x1), (2, .int x2)] → W p l e ({ frames := 0, cells := 0, slots := 0, locals := 0 } : Room) s m args below meth c H locs 0 0 (MQ below (QM G A ad (some (.int r)) st') args s 0 0 A) (F0 m 0 ls []) := by
  have ⟨hx, hb, hr, hml, hown, hT, hlocks, hK⟩ := B
  intro st x0 x1 x2 H locs ls h hM hS hl
  rw [f_X6_in] at h
  refine lv_iload_n hx hb dX6_in_0 rfl (lv_at hl 0 rfl) ?_
  refine lv_iload_n hx hb dX6_in_1 rfl (lv_at hl 1 rfl) ?_
  refine lv_icmp_lt (tgt := 14) hx hb dX6_in_2 (by decide) (fun c1 => ?_) (fun c1 => ?_)
  · have h := bi_t c1 h
    exact w_X6_in_14 B _ _ _ _ h hM hS (lv_sub hl [] rfl)
  · have h := bi_f c1 h
    refine lv_iload_n hx hb dX6_in_5 rfl (lv_at hl 0 rfl) ?_
    refine lv_iload_n hx hb dX6_in_6 rfl (lv_at hl 2 rfl) ?_
    refine lv_icmp_gt (tgt := 14) hx hb dX6_in_7 (by decide) (fun c2 => ?_) (fun c2 => ?_)
    · have h := bi_t c2 h
      exact w_X6_in_14 B _ _ _ _ h hM hS (lv_sub hl [] rfl)
    · have h := bi_f c2 h
      refine lv_iconst (v := 1) hx hb dX6_in_10 (by decide) ?_
      refine lv_goto (tgt := 15) hx hb dX6_in_11 (by decide) ?_
      exact w_X6_in_15 B _ _ _ _ _ h hM hS (lv_sub hl [] rfl)
theorem c_X6_in {l : Launch} {G : GG} {A : Nat → Prop} {ad : Nat → Nat} {st : MS} {x0 : Int32} {x1 : Int32} {x2 : Int32} {r : Int32} {st' : MS} (h : f_X6_in st x0 x1 x2 = some (r, st')) : Met l yX6_in (Cond.code yX6_in cX6_in 3 (some .boolean) :: TG) ({ frames := 0, cells := 0, slots := 0, locals := 0 } : Room) (PM G A ad st [.int x0, .int x1, .int x2]) (QM G A ad (some (.int r)) st') 0 0 A :=
  mw_of (own := RX6) (by decide +kernel) rfl rfl rfl (Nat.le_of_ble_eq_true rfl) fun p e s m below meth c ls B hM hS hl => w_X6_in B _ _ _ _ _ _ _ h hM hS hl
set_option maxHeartbeats 4000000 in
set_option maxRecDepth 100000 in
theorem w_X6_isShot {p : Program} {l : Launch} {e : Env} {s : State} {m : MethodId} {args : Array Value} {below : List Frame} {meth : Method} {c : Code} {G : GG} {A : Nat → Prop} {ad : Nat → Nat} (B : MB G p s m args meth c cX6_isShot 2 RX6 (some .boolean)) {r : Int32} {st' : MS} : ∀ (st : MS) (x1 : Int32) (H : Heap) (locs : List Loc) (ls : Array Slot), f_X6_isShot st x1 = some (r, st') → MW G A ad st H → va_S A s.heap H locs → lv_has ls 2 [(0, .ref (ad 0)), (1, .int x1)] → W p l e ({ frames := 1, cells := 0, slots := 0, locals := 22 } : Room) s m args below meth c H locs 0 0 (MQ below (QM G A ad (some (.int r)) st') args s 0 0 A) (F0 m 0 ls []) := by
  have ⟨hx, hb, hr, hml, hown, hT, hlocks, hK⟩ := B
  intro st x1 H locs ls h hM hS hl
  rw [f_X6_isShot] at h
  refine lv_iload_n hx hb dX6_isShot_0 rfl (lv_at hl 1 rfl) ?_
  refine lv_iconst (v := 0) hx hb dX6_isShot_1 (by decide) ?_
  refine lv_aload_n hx hb dX6_isShot_2 rfl (lv_at hl 0 rfl) ?_
  refine mw_get B hM 1 (by decide) wf_RX6_88 rfl (v := .int (st.1 1)) rfl dX6_isShot_3 ?_
  refine lv_iconst (v := 1) hx hb dX6_isShot_6 (by decide) ?_
  refine lv_isub hx hb dX6_isShot_7 ?_
  obtain ⟨r1, t2, e3, h⟩ := bd_e h
  refine mw_callS B hM hS [.int x1, .int 0, .int ((st.1 1) - 1)] (n := 3) (v := (some (.int r1))) (c_X6_in e3) wm_RX6_91 wt_yX6_in wc_yX6_in rfl rfl (by decide +kernel) ⟨Nat.le_of_ble_eq_true rfl, Nat.le_of_ble_eq_true rfl⟩ ⟨Nat.le_refl 0, Nat.le_refl 0⟩ rfl hl.1 (Nat.le_of_ble_eq_true rfl) rfl dX6_isShot_8 (fun H locs hM hS => ?_)
  obtain ⟨g4, h⟩ := gd_e h
  cases h
  exact mw_zret B hM hS g4 dX6_isShot_11
theorem c_X6_isShot {l : Launch} {G : GG} {A : Nat → Prop} {ad : Nat → Nat} {st : MS} {x1 : Int32} {r : Int32} {st' : MS} (h : f_X6_isShot st x1 = some (r, st')) : Met l yX6_isShot (Cond.code yX6_isShot cX6_isShot 2 (some .boolean) :: TG) ({ frames := 1, cells := 0, slots := 0, locals := 22 } : Room) (PM G A ad st [.ref (ad 0), .int x1]) (QM G A ad (some (.int r)) st') 0 0 A :=
  mw_of (own := RX6) (by decide +kernel) rfl rfl rfl (Nat.le_of_ble_eq_true rfl) fun p e s m below meth c ls B hM hS hl => w_X6_isShot B _ _ _ _ _ h hM hS hl
set_option maxHeartbeats 4000000 in
set_option maxRecDepth 100000 in
theorem w_X6_placeOf_27 {p : Program} {l : Launch} {e : Env} {s : State} {m : MethodId} {args : Array Value} {below : List Frame} {meth : Method} {c : Code} {G : GG} {A : Nat → Prop} {ad : Nat → Nat} (B : MB G p s m args meth c cX6_placeOf 4 RX6 (some .int)) {r : Int32} {st' : MS} {k4 : MS → Int32 → Int32 → Int32 → Option (Int32 × MS)} (hk4 : ∀ (st : MS) (x1 : Int32) (x2 : Int32) (x3 : Int32) (H : Heap) (locs : List Loc) (ls : Array Slot), k4 st x1 x2 x3 = some (r, st') → MW G A ad st H → va_S A s.heap H locs → lv_has ls 4 [(0, .ref (ad 0)), (1, .int x1), (2, .int x2), (3, .int x3)] → W p l e ({ frames := 0, cells := 0, slots := 0, locals := 0 } : Room) s m args below meth c H locs 0 0 (MQ below (QM G A ad (some (.int r)) st') args s 0 0 A) (F0 m 4 ls [])) : ∀ (st : MS) (x1 : Int32) (x3 : Int32) (y0 : Int32) (H : Heap) (locs : List Loc) (ls : Array Slot), f_X6_placeOf_27 k4 st x1 x3 y0 = some (r, st') → MW G A ad st H → va_S A s.heap H locs → lv_has ls 4 [(0, .ref (ad 0)), (1, .int x1), (3, .int x3)] → W p l e ({ frames := 0, cells := 0, slots := 0, locals := 0 } : Room) s m args below meth c H locs 0 0 (MQ below (QM G A ad (some (.int r)) st') args s 0 0 A) (F0 m 27 ls [.int y0]) := by
  have ⟨hx, hb, hr, hml, hown, hT, hlocks, hK⟩ := B
  intro st x1 x3 y0 H locs ls h hM hS hl
  rw [f_X6_placeOf_27] at h
  refine lv_istore_n (lv' := [(2, .int y0), (0, .ref (ad 0)), (1, .int x1), (3, .int x3)]) hx hb dX6_placeOf_27 rfl hl (by decide) rfl (fun ls hl => ?_)
  refine lv_iinc (v := (x3 + 1)) (lv' := [(3, .int (x3 + 1)), (2, .int y0), (0, .ref (ad 0)), (1, .int x1)]) hx hb dX6_placeOf_28 hl (k := 3) rfl rfl (by decide) rfl (fun ls hl => ?_)
  refine lv_goto (tgt := 4) hx hb dX6_placeOf_31 (by decide) ?_
  exact hk4 _ _ _ _ _ _ _ h hM hS (lv_sub hl [2, 3, 1, 0] rfl)
set_option maxHeartbeats 4000000 in
set_option maxRecDepth 100000 in
theorem w_X6_placeOf_4 {p : Program} {l : Launch} {e : Env} {s : State} {m : MethodId} {args : Array Value} {below : List Frame} {meth : Method} {c : Code} {G : GG} {A : Nat → Prop} {ad : Nat → Nat} (B : MB G p s m args meth c cX6_placeOf 4 RX6 (some .int)) {r : Int32} {st' : MS} : ∀ (n : Nat) (st : MS) (x1 : Int32) (x2 : Int32) (x3 : Int32) (H : Heap) (locs : List Loc) (ls : Array Slot), f_X6_placeOf_4 n st x1 x2 x3 = some (r, st') → MW G A ad st H → va_S A s.heap H locs → lv_has ls 4 [(0, .ref (ad 0)), (1, .int x1), (2, .int x2), (3, .int x3)] → W p l e ({ frames := 0, cells := 0, slots := 0, locals := 0 } : Room) s m args below meth c H locs 0 0 (MQ below (QM G A ad (some (.int r)) st') args s 0 0 A) (F0 m 4 ls []) := by
  have ⟨hx, hb, hr, hml, hown, hT, hlocks, hK⟩ := B
  intro n
  induction n with
  | zero =>
    intro st x1 x2 x3 H locs ls h
    cases h
  | succ n ih =>
    intro st x1 x2 x3 H locs ls h hM hS hl
    rw [f_X6_placeOf_4] at h
    refine lv_iload_n hx hb dX6_placeOf_4 rfl (lv_at hl 3 rfl) ?_
    refine lv_aload_n hx hb dX6_placeOf_5 rfl (lv_at hl 0 rfl) ?_
    refine mw_get B hM 2 (by decide) wf_RX6_95 rfl (v := .int (st.1 2)) rfl dX6_placeOf_6 ?_
    refine lv_icmp_ge (tgt := 34) hx hb dX6_placeOf_9 (by decide) (fun c1 => ?_) (fun c1 => ?_)
    · have h := bi_t c1 h
      refine lv_iload_n hx hb dX6_placeOf_34 rfl (lv_at hl 2 rfl) ?_
      cases h
      exact mw_iret B hM hS dX6_placeOf_35
    · have h := bi_f c1 h
      refine lv_aload_n hx hb dX6_placeOf_12 rfl (lv_at hl 0 rfl) ?_
      refine mw_get B hM 3 (by decide) wf_RX6_7 rfl (v := .ref (ad 3)) rfl dX6_placeOf_13 ?_
      refine lv_iload_n hx hb dX6_placeOf_16 rfl (lv_at hl 3 rfl) ?_
      obtain ⟨g2, h⟩ := gd_e h
      refine mw_iald B hM 3 (by decide) (by decide) rfl g2 dX6_placeOf_17 ?_
      refine lv_iload_n hx hb dX6_placeOf_18 rfl (lv_at hl 1 rfl) ?_
      refine lv_icmp_ne (tgt := 26) hx hb dX6_placeOf_19 (by decide) (fun c3 => ?_) (fun c3 => ?_)
      · have h := bi_f c3 h
        refine lv_iload_n hx hb dX6_placeOf_26 rfl (lv_at hl 2 rfl) ?_
        exact w_X6_placeOf_27 B ih _ _ _ _ _ _ _ h hM hS (lv_sub hl [0, 1, 3] rfl)
      · have h := bi_t c3 h
        refine lv_iload_n hx hb dX6_placeOf_22 rfl (lv_at hl 3 rfl) ?_
        refine lv_goto (tgt := 27) hx hb dX6_placeOf_23 (by decide) ?_
        exact w_X6_placeOf_27 B ih _ _ _ _ _ _ _ h hM hS (lv_sub hl [0, 1, 3] rfl)
set_option maxHeartbeats 4000000 in
set_option maxRecDepth 100000 in
theorem w_X6_placeOf {p : Program} {l : Launch} {e : Env} {s : State} {m : MethodId} {args : Array Value} {below : List Frame} {meth : Method} {c : Code} {G : GG} {A : Nat → Prop} {ad : Nat → Nat} (B : MB G p s m args meth c cX6_placeOf 4 RX6 (some .int)) {r : Int32} {st' : MS} : ∀ (st : MS) (x1 : Int32) (H : Heap) (locs : List Loc) (ls : Array Slot), f_X6_placeOf st x1 = some (r, st') → MW G A ad st H → va_S A s.heap H locs → lv_has ls 4 [(0, .ref (ad 0)), (1, .int x1)] → W p l e ({ frames := 0, cells := 0, slots := 0, locals := 0 } : Room) s m args below meth c H locs 0 0 (MQ below (QM G A ad (some (.int r)) st') args s 0 0 A) (F0 m 0 ls []) := by
  have ⟨hx, hb, hr, hml, hown, hT, hlocks, hK⟩ := B
  intro st x1 H locs ls h hM hS hl
  rw [f_X6_placeOf] at h
  refine lv_iconst (v := (-1)) hx hb dX6_placeOf_0 (by decide) ?_
  refine lv_istore_n (lv' := [(2, .int (-1)), (0, .ref (ad 0)), (1, .int x1)]) hx hb dX6_placeOf_1 rfl hl (by decide) rfl (fun ls hl => ?_)
  refine lv_iconst (v := 0) hx hb dX6_placeOf_2 (by decide) ?_
  refine lv_istore_n (lv' := [(3, .int 0), (2, .int (-1)), (0, .ref (ad 0)), (1, .int x1)]) hx hb dX6_placeOf_3 rfl hl (by decide) rfl (fun ls hl => ?_)
  exact w_X6_placeOf_4 B FU _ _ _ _ _ _ _ h hM hS (lv_sub hl [2, 3, 1, 0] rfl)
theorem c_X6_placeOf {l : Launch} {G : GG} {A : Nat → Prop} {ad : Nat → Nat} {st : MS} {x1 : Int32} {r : Int32} {st' : MS} (h : f_X6_placeOf st x1 = some (r, st')) : Met l yX6_placeOf (Cond.code yX6_placeOf cX6_placeOf 4 (some .int) :: TG) ({ frames := 0, cells := 0, slots := 0, locals := 0 } : Room) (PM G A ad st [.ref (ad 0), .int x1]) (QM G A ad (some (.int r)) st') 0 0 A :=
  mw_of (own := RX6) (by decide +kernel) rfl rfl rfl (Nat.le_of_ble_eq_true rfl) fun p e s m below meth c ls B hM hS hl => w_X6_placeOf B _ _ _ _ _ h hM hS hl
set_option maxHeartbeats 4000000 in
set_option maxRecDepth 100000 in
theorem w_X6_isCamera_32 {p : Program} {l : Launch} {e : Env} {s : State} {m : MethodId} {args : Array Value} {below : List Frame} {meth : Method} {c : Code} {G : GG} {A : Nat → Prop} {ad : Nat → Nat} (B : MB G p s m args meth c cX6_isCamera 2 RX6 (some .boolean)) {r : Int32} {st' : MS} : ∀ (st : MS) (y0 : Int32) (H : Heap) (locs : List Loc) (ls : Array Slot), f_X6_isCamera_32 st y0 = some (r, st') → MW G A ad st H → va_S A s.heap H locs → lv_has ls 2 [] → W p l e ({ frames := 1, cells := 0, slots := 0, locals := 22 } : Room) s m args below meth c H locs 0 0 (MQ below (QM G A ad (some (.int r)) st') args s 0 0 A) (F0 m 32 ls [.int y0]) := by
  have ⟨hx, hb, hr, hml, hown, hT, hlocks, hK⟩ := B
  intro st y0 H locs ls h hM hS hl
  rw [f_X6_isCamera_32] at h
  obtain ⟨g1, h⟩ := gd_e h
  cases h
  exact mw_zret B hM hS g1 dX6_isCamera_32
set_option maxHeartbeats 4000000 in
set_option maxRecDepth 100000 in
theorem w_X6_isCamera_31 {p : Program} {l : Launch} {e : Env} {s : State} {m : MethodId} {args : Array Value} {below : List Frame} {meth : Method} {c : Code} {G : GG} {A : Nat → Prop} {ad : Nat → Nat} (B : MB G p s m args meth c cX6_isCamera 2 RX6 (some .boolean)) {r : Int32} {st' : MS} : ∀ (st : MS) (H : Heap) (locs : List Loc) (ls : Array Slot), f_X6_isCamera_31 st = some (r, st') → MW G A ad st H → va_S A s.heap H locs → lv_has ls 2 [] → W p l e ({ frames := 1, cells := 0, slots := 0, locals := 22 } : Room) s m args below meth c H locs 0 0 (MQ below (QM G A ad (some (.int r)) st') args s 0 0 A) (F0 m 31 ls []) := by
  have ⟨hx, hb, hr, hml, hown, hT, hlocks, hK⟩ := B
  intro st  H locs ls h hM hS hl
  rw [f_X6_isCamera_31] at h
  refine lv_iconst (v := 0) hx hb dX6_isCamera_31 (by decide) ?_
  exact w_X6_isCamera_32 B _ _ _ _ _ h hM hS (lv_sub hl [] rfl)
set_option maxHeartbeats 4000000 in
set_option maxRecDepth 100000 in
theorem w_X6_isCamera_18 {p : Program} {l : Launch} {e : Env} {s : State} {m : MethodId} {args : Array Value} {below : List Frame} {meth : Method} {c : Code} {G : GG} {A : Nat → Prop} {ad : Nat → Nat} (B : MB G p s m args meth c cX6_isCamera 2 RX6 (some .boolean)) {r : Int32} {st' : MS} : ∀ (st : MS) (x1 : Int32) (H : Heap) (locs : List Loc) (ls : Array Slot), f_X6_isCamera_18 st x1 = some (r, st') → MW G A ad st H → va_S A s.heap H locs → lv_has ls 2 [(1, .int x1)] → W p l e ({ frames := 1, cells := 0, slots := 0, locals := 22 } : Room) s m args below meth c H locs 0 0 (MQ below (QM G A ad (some (.int r)) st') args s 0 0 A) (F0 m 18 ls []) := by
  have ⟨hx, hb, hr, hml, hown, hT, hlocks, hK⟩ := B
  intro st x1 H locs ls h hM hS hl
  rw [f_X6_isCamera_18] at h
  refine lv_iload_n hx hb dX6_isCamera_18 rfl (lv_at hl 0 rfl) ?_
  refine lv_iconst (v := 0) hx hb dX6_isCamera_19 (by decide) ?_
  refine lv_iconst (v := 4) hx hb dX6_isCamera_20 (by decide) ?_
  obtain ⟨r1, t2, e3, h⟩ := bd_e h
  refine mw_callS B hM hS [.int x1, .int 0, .int 4] (n := 3) (v := (some (.int r1))) (c_X6_in e3) wm_RX6_91 wt_yX6_in wc_yX6_in rfl rfl (by decide +kernel) ⟨Nat.le_of_ble_eq_true rfl, Nat.le_of_ble_eq_true rfl⟩ ⟨Nat.le_refl 0, Nat.le_refl 0⟩ rfl hl.1 (Nat.le_of_ble_eq_true rfl) rfl dX6_isCamera_21 (fun H locs hM hS => ?_)
  refine lv_if_eq (tgt := 31) hx hb dX6_isCamera_24 (by decide) (fun c4 => ?_) (fun c4 => ?_)
  · have h := bi_t c4 h
    exact w_X6_isCamera_31 B _ _ _ _ h hM hS (lv_sub hl [] rfl)
  · have h := bi_f c4 h
    refine lv_iconst (v := 1) hx hb dX6_isCamera_27 (by decide) ?_
    refine lv_goto (tgt := 32) hx hb dX6_isCamera_28 (by decide) ?_
    exact w_X6_isCamera_32 B _ _ _ _ _ h hM hS (lv_sub hl [] rfl)
set_option maxHeartbeats 4000000 in
set_option maxRecDepth 100000 in
theorem w_X6_isCamera {p : Program} {l : Launch} {e : Env} {s : State} {m : MethodId} {args : Array Value} {below : List Frame} {meth : Method} {c : Code} {G : GG} {A : Nat → Prop} {ad : Nat → Nat} (B : MB G p s m args meth c cX6_isCamera 2 RX6 (some .boolean)) {r : Int32} {st' : MS} : ∀ (st : MS) (x0 : Int32) (x1 : Int32) (H : Heap) (locs : List Loc) (ls : Array Slot), f_X6_isCamera st x0 x1 = some (r, st') → MW G A ad st H → va_S A s.heap H locs → lv_has ls 2 [(0, .int x0), (1, .int x1)] → W p l e ({ frames := 1, cells := 0, slots := 0, locals := 22 } : Room) s m args below meth c H locs 0 0 (MQ below (QM G A ad (some (.int r)) st') args s 0 0 A) (F0 m 0 ls []) := by
  have ⟨hx, hb, hr, hml, hown, hT, hlocks, hK⟩ := B
  intro st x0 x1 H locs ls h hM hS hl
  rw [f_X6_isCamera] at h
  refine lv_iload_n hx hb dX6_isCamera_0 rfl (lv_at hl 0 rfl) ?_
  refine lv_bipush (v := 115) hx hb dX6_isCamera_1 (by decide) ?_
  refine lv_icmp_eq (tgt := 18) hx hb dX6_isCamera_3 (by decide) (fun c1 => ?_) (fun c1 => ?_)
  · have h := bi_t c1 h
    exact w_X6_isCamera_18 B _ _ _ _ _ h hM hS (lv_sub hl [1] rfl)
  · have h := bi_f c1 h
    refine lv_iload_n hx hb dX6_isCamera_6 rfl (lv_at hl 0 rfl) ?_
    refine lv_bipush (v := 110) hx hb dX6_isCamera_7 (by decide) ?_
    refine lv_icmp_eq (tgt := 18) hx hb dX6_isCamera_9 (by decide) (fun c2 => ?_) (fun c2 => ?_)
    · have h := bi_t c2 h
      exact w_X6_isCamera_18 B _ _ _ _ _ h hM hS (lv_sub hl [1] rfl)
    · have h := bi_f c2 h
      refine lv_iload_n hx hb dX6_isCamera_12 rfl (lv_at hl 0 rfl) ?_
      refine lv_bipush (v := 48) hx hb dX6_isCamera_13 (by decide) ?_
      refine lv_icmp_ne (tgt := 31) hx hb dX6_isCamera_15 (by decide) (fun c3 => ?_) (fun c3 => ?_)
      · have h := bi_f c3 h
        exact w_X6_isCamera_31 B _ _ _ _ h hM hS (lv_sub hl [] rfl)
      · have h := bi_t c3 h
        exact w_X6_isCamera_18 B _ _ _ _ _ h hM hS (lv_sub hl [1] rfl)
theorem c_X6_isCamera {l : Launch} {G : GG} {A : Nat → Prop} {ad : Nat → Nat} {st : MS} {x0 : Int32} {x1 : Int32} {r : Int32} {st' : MS} (h : f_X6_isCamera st x0 x1 = some (r, st')) : Met l yX6_isCamera (Cond.code yX6_isCamera cX6_isCamera 2 (some .boolean) :: TG) ({ frames := 1, cells := 0, slots := 0, locals := 22 } : Room) (PM G A ad st [.int x0, .int x1]) (QM G A ad (some (.int r)) st') 0 0 A :=
  mw_of (own := RX6) (by decide +kernel) rfl rfl rfl (Nat.le_of_ble_eq_true rfl) fun p e s m below meth c ls B hM hS hl => w_X6_isCamera B _ _ _ _ _ _ h hM hS hl
set_option maxHeartbeats 4000000 in
set_option maxRecDepth 100000 in
theorem w_X6_isEdge_23 {p : Program} {l : Launch} {e : Env} {s : State} {m : MethodId} {args : Array Value} {below : List Frame} {meth : Method} {c : Code} {G : GG} {A : Nat → Prop} {ad : Nat → Nat} (B : MB G p s m args meth c cX6_isEdge 1 RX6 (some .boolean)) {r : Int32} {st' : MS} : ∀ (st : MS) (y0 : Int32) (H : Heap) (locs : List Loc) (ls : Array Slot), f_X6_isEdge_23 st y0 = some (r, st') → MW G A ad st H → va_S A s.heap H locs → lv_has ls 1 [] → W p l e ({ frames := 0, cells := 0, slots := 0, locals := 0 } : Room) s m args below meth c H locs 0 0 (MQ below (QM G A ad (some (.int r)) st') args s 0 0 A) (F0 m 23 ls [.int y0]) := by
  have ⟨hx, hb, hr, hml, hown, hT, hlocks, hK⟩ := B
  intro st y0 H locs ls h hM hS hl
  rw [f_X6_isEdge_23] at h
  obtain ⟨g1, h⟩ := gd_e h
  cases h
  exact mw_zret B hM hS g1 dX6_isEdge_23
set_option maxHeartbeats 4000000 in
set_option maxRecDepth 100000 in
theorem w_X6_isEdge_18 {p : Program} {l : Launch} {e : Env} {s : State} {m : MethodId} {args : Array Value} {below : List Frame} {meth : Method} {c : Code} {G : GG} {A : Nat → Prop} {ad : Nat → Nat} (B : MB G p s m args meth c cX6_isEdge 1 RX6 (some .boolean)) {r : Int32} {st' : MS} : ∀ (st : MS) (H : Heap) (locs : List Loc) (ls : Array Slot), f_X6_isEdge_18 st = some (r, st') → MW G A ad st H → va_S A s.heap H locs → lv_has ls 1 [] → W p l e ({ frames := 0, cells := 0, slots := 0, locals := 0 } : Room) s m args below meth c H locs 0 0 (MQ below (QM G A ad (some (.int r)) st') args s 0 0 A) (F0 m 18 ls []) := by
  have ⟨hx, hb, hr, hml, hown, hT, hlocks, hK⟩ := B
  intro st  H locs ls h hM hS hl
  rw [f_X6_isEdge_18] at h
  refine lv_iconst (v := 1) hx hb dX6_isEdge_18 (by decide) ?_
  refine lv_goto (tgt := 23) hx hb dX6_isEdge_19 (by decide) ?_
  exact w_X6_isEdge_23 B _ _ _ _ _ h hM hS (lv_sub hl [] rfl)
set_option maxHeartbeats 4000000 in
set_option maxRecDepth 100000 in
theorem w_X6_isEdge {p : Program} {l : Launch} {e : Env} {s : State} {m : MethodId} {args : Array Value} {below : List Frame} {meth : Method} {c : Code} {G : GG} {A : Nat → Prop} {ad : Nat → Nat} (B : MB G p s m args meth c cX6_isEdge 1 RX6 (some .boolean)) {r : Int32} {st' : MS} : ∀ (st : MS) (x0 : Int32) (H : Heap) (locs : List Loc) (ls : Array Slot), f_X6_isEdge st x0 = some (r, st') → MW G A ad st H → va_S A s.heap H locs → lv_has ls 1 [(0, .int x0)] → W p l e ({ frames := 0, cells := 0, slots := 0, locals := 0 } : Room) s m args below meth c H locs 0 0 (MQ below (QM G A ad (some (.int r)) st') args s 0 0 A) (F0 m 0 ls []) := by
  have ⟨hx, hb, hr, hml, hown, hT, hlocks, hK⟩ := B
  intro st x0 H locs ls h hM hS hl
  rw [f_X6_isEdge] at h
  refine lv_iload_n hx hb dX6_isEdge_0 rfl (lv_at hl 0 rfl) ?_
  refine lv_bipush (v := 108) hx hb dX6_isEdge_1 (by decide) ?_
  refine lv_icmp_eq (tgt := 18) hx hb dX6_isEdge_3 (by decide) (fun c1 => ?_) (fun c1 => ?_)
  · have h := bi_t c1 h
    exact w_X6_isEdge_18 B _ _ _ _ h hM hS (lv_sub hl [] rfl)
  · have h := bi_f c1 h
    refine lv_iload_n hx hb dX6_isEdge_6 rfl (lv_at hl 0 rfl) ?_
    refine lv_bipush (v := 114) hx hb dX6_isEdge_7 (by decide) ?_
    refine lv_icmp_eq (tgt := 18) hx hb dX6_isEdge_9 (by decide) (fun c2 => ?_) (fun c2 => ?_)
    · have h := bi_t c2 h
      exact w_X6_isEdge_18 B _ _ _ _ h hM hS (lv_sub hl [] rfl)
    · have h := bi_f c2 h
      refine lv_iload_n hx hb dX6_isEdge_12 rfl (lv_at hl 0 rfl) ?_
      refine lv_bipush (v := 45) hx hb dX6_isEdge_13 (by decide) ?_
      refine lv_icmp_ne (tgt := 22) hx hb dX6_isEdge_15 (by decide) (fun c3 => ?_) (fun c3 => ?_)
      · have h := bi_f c3 h
        refine lv_iconst (v := 0) hx hb dX6_isEdge_22 (by decide) ?_
        exact w_X6_isEdge_23 B _ _ _ _ _ h hM hS (lv_sub hl [] rfl)
      · have h := bi_t c3 h
        exact w_X6_isEdge_18 B _ _ _ _ h hM hS (lv_sub hl [] rfl)
theorem c_X6_isEdge {l : Launch} {G : GG} {A : Nat → Prop} {ad : Nat → Nat} {st : MS} {x0 : Int32} {r : Int32} {st' : MS} (h : f_X6_isEdge st x0 = some (r, st')) : Met l yX6_isEdge (Cond.code yX6_isEdge cX6_isEdge 1 (some .boolean) :: TG) ({ frames := 0, cells := 0, slots := 0, locals := 0 } : Room) (PM G A ad st [.int x0]) (QM G A ad (some (.int r)) st') 0 0 A :=
  mw_of (own := RX6) (by decide +kernel) rfl rfl rfl (Nat.le_of_ble_eq_true rfl) fun p e s m below meth c ls B hM hS hl => w_X6_isEdge B _ _ _ _ _ h hM hS hl
set_option maxHeartbeats 4000000 in
set_option maxRecDepth 100000 in
theorem w_X6_isThird_23 {p : Program} {l : Launch} {e : Env} {s : State} {m : MethodId} {args : Array Value} {below : List Frame} {meth : Method} {c : Code} {G : GG} {A : Nat → Prop} {ad : Nat → Nat} (B : MB G p s m args meth c cX6_isThird 1 RX6 (some .boolean)) {r : Int32} {st' : MS} : ∀ (st : MS) (y0 : Int32) (H : Heap) (locs : List Loc) (ls : Array Slot), f_X6_isThird_23 st y0 = some (r, st') → MW G A ad st H → va_S A s.heap H locs → lv_has ls 1 [] → W p l e ({ frames := 0, cells := 0, slots := 0, locals := 0 } : Room) s m args below meth c H locs 0 0 (MQ below (QM G A ad (some (.int r)) st') args s 0 0 A) (F0 m 23 ls [.int y0]) := by
  have ⟨hx, hb, hr, hml, hown, hT, hlocks, hK⟩ := B
  intro st y0 H locs ls h hM hS hl
  rw [f_X6_isThird_23] at h
  obtain ⟨g1, h⟩ := gd_e h
  cases h
  exact mw_zret B hM hS g1 dX6_isThird_23
set_option maxHeartbeats 4000000 in
set_option maxRecDepth 100000 in
theorem w_X6_isThird_18 {p : Program} {l : Launch} {e : Env} {s : State} {m : MethodId} {args : Array Value} {below : List Frame} {meth : Method} {c : Code} {G : GG} {A : Nat → Prop} {ad : Nat → Nat} (B : MB G p s m args meth c cX6_isThird 1 RX6 (some .boolean)) {r : Int32} {st' : MS} : ∀ (st : MS) (H : Heap) (locs : List Loc) (ls : Array Slot), f_X6_isThird_18 st = some (r, st') → MW G A ad st H → va_S A s.heap H locs → lv_has ls 1 [] → W p l e ({ frames := 0, cells := 0, slots := 0, locals := 0 } : Room) s m args below meth c H locs 0 0 (MQ below (QM G A ad (some (.int r)) st') args s 0 0 A) (F0 m 18 ls []) := by
  have ⟨hx, hb, hr, hml, hown, hT, hlocks, hK⟩ := B
  intro st  H locs ls h hM hS hl
  rw [f_X6_isThird_18] at h
  refine lv_iconst (v := 1) hx hb dX6_isThird_18 (by decide) ?_
  refine lv_goto (tgt := 23) hx hb dX6_isThird_19 (by decide) ?_
  exact w_X6_isThird_23 B _ _ _ _ _ h hM hS (lv_sub hl [] rfl)
set_option maxHeartbeats 4000000 in
set_option maxRecDepth 100000 in
theorem w_X6_isThird {p : Program} {l : Launch} {e : Env} {s : State} {m : MethodId} {args : Array Value} {below : List Frame} {meth : Method} {c : Code} {G : GG} {A : Nat → Prop} {ad : Nat → Nat} (B : MB G p s m args meth c cX6_isThird 1 RX6 (some .boolean)) {r : Int32} {st' : MS} : ∀ (st : MS) (x0 : Int32) (H : Heap) (locs : List Loc) (ls : Array Slot), f_X6_isThird st x0 = some (r, st') → MW G A ad st H → va_S A s.heap H locs → lv_has ls 1 [(0, .int x0)] → W p l e ({ frames := 0, cells := 0, slots := 0, locals := 0 } : Room) s m args below meth c H locs 0 0 (MQ below (QM G A ad (some (.int r)) st') args s 0 0 A) (F0 m 0 ls []) := by
  have ⟨hx, hb, hr, hml, hown, hT, hlocks, hK⟩ := B
  intro st x0 H locs ls h hM hS hl
  rw [f_X6_isThird] at h
  refine lv_iload_n hx hb dX6_isThird_0 rfl (lv_at hl 0 rfl) ?_
  refine lv_bipush (v := 108) hx hb dX6_isThird_1 (by decide) ?_
  refine lv_icmp_eq (tgt := 18) hx hb dX6_isThird_3 (by decide) (fun c1 => ?_) (fun c1 => ?_)
  · have h := bi_t c1 h
    exact w_X6_isThird_18 B _ _ _ _ h hM hS (lv_sub hl [] rfl)
  · have h := bi_f c1 h
    refine lv_iload_n hx hb dX6_isThird_6 rfl (lv_at hl 0 rfl) ?_
    refine lv_bipush (v := 99) hx hb dX6_isThird_7 (by decide) ?_
    refine lv_icmp_eq (tgt := 18) hx hb dX6_isThird_9 (by decide) (fun c2 => ?_) (fun c2 => ?_)
    · have h := bi_t c2 h
      exact w_X6_isThird_18 B _ _ _ _ h hM hS (lv_sub hl [] rfl)
    · have h := bi_f c2 h
      refine lv_iload_n hx hb dX6_isThird_12 rfl (lv_at hl 0 rfl) ?_
      refine lv_bipush (v := 114) hx hb dX6_isThird_13 (by decide) ?_
      refine lv_icmp_ne (tgt := 22) hx hb dX6_isThird_15 (by decide) (fun c3 => ?_) (fun c3 => ?_)
      · have h := bi_f c3 h
        refine lv_iconst (v := 0) hx hb dX6_isThird_22 (by decide) ?_
        exact w_X6_isThird_23 B _ _ _ _ _ h hM hS (lv_sub hl [] rfl)
      · have h := bi_t c3 h
        exact w_X6_isThird_18 B _ _ _ _ h hM hS (lv_sub hl [] rfl)
theorem c_X6_isThird {l : Launch} {G : GG} {A : Nat → Prop} {ad : Nat → Nat} {st : MS} {x0 : Int32} {r : Int32} {st' : MS} (h : f_X6_isThird st x0 = some (r, st')) : Met l yX6_isThird (Cond.code yX6_isThird cX6_isThird 1 (some .boolean) :: TG) ({ frames := 0, cells := 0, slots := 0, locals := 0 } : Room) (PM G A ad st [.int x0]) (QM G A ad (some (.int r)) st') 0 0 A :=
  mw_of (own := RX6) (by decide +kernel) rfl rfl rfl (Nat.le_of_ble_eq_true rfl) fun p e s m below meth c ls B hM hS hl => w_X6_isThird B _ _ _ _ _ h hM hS hl
set_option maxHeartbeats 4000000 in
set_option maxRecDepth 100000 in
theorem w_X6_freeLetter_77 {p : Program} {l : Launch} {e : Env} {s : State} {m : MethodId} {args : Array Value} {below : List Frame} {meth : Method} {c : Code} {G : GG} {A : Nat → Prop} {ad : Nat → Nat} (B : MB G p s m args meth c cX6_freeLetter 6 RX6 (some .char)) {r : Int32} {st' : MS} {k6 : MS → Int32 → Int32 → Int32 → Option (Int32 × MS)} (hk6 : ∀ (st : MS) (x1 : Int32) (x2 : Int32) (x3 : Int32) (H : Heap) (locs : List Loc) (ls : Array Slot), k6 st x1 x2 x3 = some (r, st') → MW G A ad st H → va_S A s.heap H locs → lv_has ls 6 [(0, .ref (ad 0)), (1, .int x1), (2, .int x2), (3, .int x3)] → W p l e ({ frames := 0, cells := 0, slots := 0, locals := 0 } : Room) s m args below meth c H locs 0 0 (MQ below (QM G A ad (some (.int r)) st') args s 0 0 A) (F0 m 6 ls [])) : ∀ (st : MS) (x1 : Int32) (x3 : Int32) (y0 : Int32) (H : Heap) (locs : List Loc) (ls : Array Slot), f_X6_freeLetter_77 k6 st x1 x3 y0 = some (r, st') → MW G A ad st H → va_S A s.heap H locs → lv_has ls 6 [(0, .ref (ad 0)), (1, .int x1), (3, .int x3)] → W p l e ({ frames := 0, cells := 0, slots := 0, locals := 0 } : Room) s m args below meth c H locs 0 0 (MQ below (QM G A ad (some (.int r)) st') args s 0 0 A) (F0 m 77 ls [.int y0]) := by
  have ⟨hx, hb, hr, hml, hown, hT, hlocks, hK⟩ := B
  intro st x1 x3 y0 H locs ls h hM hS hl
  rw [f_X6_freeLetter_77] at h
  refine lv_istore_n (lv' := [(2, .int y0), (0, .ref (ad 0)), (1, .int x1), (3, .int x3)]) hx hb dX6_freeLetter_77 rfl hl (by decide) rfl (fun ls hl => ?_)
  refine lv_iload_n hx hb dX6_freeLetter_78 rfl (lv_at hl 3 rfl) ?_
  refine lv_iconst (v := 1) hx hb dX6_freeLetter_79 (by decide) ?_
  refine lv_isub hx hb dX6_freeLetter_80 ?_
  refine lv_i2c hx hb dX6_freeLetter_81 rfl ?_
  refine lv_istore_n (lv' := [(3, .int ((Int32.toUInt32 (x3 - 1) % 65536).toInt32)), (2, .int y0), (0, .ref (ad 0)), (1, .int x1)]) hx hb dX6_freeLetter_82 rfl hl (by decide) rfl (fun ls hl => ?_)
  refine lv_goto (tgt := 6) hx hb dX6_freeLetter_83 (by decide) ?_
  exact hk6 _ _ _ _ _ _ _ h hM hS (lv_sub hl [2, 3, 1, 0] rfl)
set_option maxHeartbeats 4000000 in
set_option maxRecDepth 100000 in
theorem w_X6_freeLetter_59 {p : Program} {l : Launch} {e : Env} {s : State} {m : MethodId} {args : Array Value} {below : List Frame} {meth : Method} {c : Code} {G : GG} {A : Nat → Prop} {ad : Nat → Nat} (B : MB G p s m args meth c cX6_freeLetter 6 RX6 (some .char)) {r : Int32} {st' : MS} {k6 : MS → Int32 → Int32 → Int32 → Option (Int32 × MS)} {k18 : MS → Int32 → Int32 → Int32 → Int32 → Int32 → Option (Int32 × MS)} (hk6 : ∀ (st : MS) (x1 : Int32) (x2 : Int32) (x3 : Int32) (H : Heap) (locs : List Loc) (ls : Array Slot), k6 st x1 x2 x3 = some (r, st') → MW G A ad st H → va_S A s.heap H locs → lv_has ls 6 [(0, .ref (ad 0)), (1, .int x1), (2, .int x2), (3, .int x3)] → W p l e ({ frames := 0, cells := 0, slots := 0, locals := 0 } : Room) s m args below meth c H locs 0 0 (MQ below (QM G A ad (some (.int r)) st') args s 0 0 A) (F0 m 6 ls [])) (hk18 : ∀ (st : MS) (x1 : Int32) (x2 : Int32) (x3 : Int32) (x4 : Int32) (x5 : Int32) (H : Heap) (locs : List Loc) (ls : Array Slot), k18 st x1 x2 x3 x4 x5 = some (r, st') → MW G A ad st H → va_S A s.heap H locs → lv_has ls 6 [(0, .ref (ad 0)), (1, .int x1), (2, .int x2), (3, .int x3), (4, .int x4), (5, .int x5)] → W p l e ({ frames := 0, cells := 0, slots := 0, locals := 0 } : Room) s m args below meth c H locs 0 0 (MQ below (QM G A ad (some (.int r)) st') args s 0 0 A) (F0 m 18 ls [])) : ∀ (st : MS) (x1 : Int32) (x2 : Int32) (x3 : Int32) (x5 : Int32) (y0 : Int32) (H : Heap) (locs : List Loc) (ls : Array Slot), f_X6_freeLetter_59 k6 k18 st x1 x2 x3 x5 y0 = some (r, st') → MW G A ad st H → va_S A s.heap H locs → lv_has ls 6 [(0, .ref (ad 0)), (1, .int x1), (2, .int x2), (3, .int x3), (5, .int x5)] → W p l e ({ frames := 0, cells := 0, slots := 0, locals := 0 } : Room) s m args below meth c H locs 0 0 (MQ below (QM G A ad (some (.int r)) st') args s 0 0 A) (F0 m 59 ls [.int y0]) := by
  have ⟨hx, hb, hr, hml, hown, hT, hlocks, hK⟩ := B
  intro st x1 x2 x3 x5 y0 H locs ls h hM hS hl
  rw [f_X6_freeLetter_59] at h
  refine lv_istore (lv' := [(4, .int y0), (0, .ref (ad 0)), (1, .int x1), (2, .int x2), (3, .int x3), (5, .int x5)]) hx hb dX6_freeLetter_59 hl (by decide) rfl (fun ls hl => ?_)
  refine lv_iinc (v := (x5 + 1)) (lv' := [(5, .int (x5 + 1)), (4, .int y0), (0, .ref (ad 0)), (1, .int x1), (2, .int x2), (3, .int x3)]) hx hb dX6_freeLetter_61 hl (k := 5) rfl rfl (by decide) rfl (fun ls hl => ?_)
  refine lv_goto (tgt := 18) hx hb dX6_freeLetter_64 (by decide) ?_
  exact hk18 _ _ _ _ _ _ _ _ _ h hM hS (lv_sub hl [2, 3, 4, 5, 1, 0] rfl)
set_option maxHeartbeats 4000000 in
set_option maxRecDepth 100000 in
theorem w_X6_freeLetter_58 {p : Program} {l : Launch} {e : Env} {s : State} {m : MethodId} {args : Array Value} {below : List Frame} {meth : Method} {c : Code} {G : GG} {A : Nat → Prop} {ad : Nat → Nat} (B : MB G p s m args meth c cX6_freeLetter 6 RX6 (some .char)) {r : Int32} {st' : MS} {k6 : MS → Int32 → Int32 → Int32 → Option (Int32 × MS)} {k18 : MS → Int32 → Int32 → Int32 → Int32 → Int32 → Option (Int32 × MS)} (hk6 : ∀ (st : MS) (x1 : Int32) (x2 : Int32) (x3 : Int32) (H : Heap) (locs : List Loc) (ls : Array Slot), k6 st x1 x2 x3 = some (r, st') → MW G A ad st H → va_S A s.heap H locs → lv_has ls 6 [(0, .ref (ad 0)), (1, .int x1), (2, .int x2), (3, .int x3)] → W p l e ({ frames := 0, cells := 0, slots := 0, locals := 0 } : Room) s m args below meth c H locs 0 0 (MQ below (QM G A ad (some (.int r)) st') args s 0 0 A) (F0 m 6 ls [])) (hk18 : ∀ (st : MS) (x1 : Int32) (x2 : Int32) (x3 : Int32) (x4 : Int32) (x5 : Int32) (H : Heap) (locs : List Loc) (ls : Array Slot), k18 st x1 x2 x3 x4 x5 = some (r, st') → MW G A ad st H → va_S A s.heap H locs → lv_has ls 6 [(0, .ref (ad 0)), (1, .int x1), (2, .int x2), (3, .int x3), (4, .int x4), (5, .int x5)] → W p l e ({ frames := 0, cells := 0, slots := 0, locals := 0 } : Room) s m args below meth c H locs 0 0 (MQ below (QM G A ad (some (.int r)) st') args s 0 0 A) (F0 m 18 ls [])) : ∀ (st : MS) (x1 : Int32) (x2 : Int32) (x3 : Int32) (x5 : Int32) (H : Heap) (locs : List Loc) (ls : Array Slot), f_X6_freeLetter_58 k6 k18 st x1 x2 x3 x5 = some (r, st') → MW G A ad st H → va_S A s.heap H locs → lv_has ls 6 [(0, .ref (ad 0)), (1, .int x1), (2, .int x2), (3, .int x3), (5, .int x5)] → W p l e ({ frames := 0, cells := 0, slots := 0, locals := 0 } : Room) s m args below meth c H locs 0 0 (MQ below (QM G A ad (some (.int r)) st') args s 0 0 A) (F0 m 58 ls []) := by
  have ⟨hx, hb, hr, hml, hown, hT, hlocks, hK⟩ := B
  intro st x1 x2 x3 x5 H locs ls h hM hS hl
  rw [f_X6_freeLetter_58] at h
  refine lv_iconst (v := 0) hx hb dX6_freeLetter_58 (by decide) ?_
  exact w_X6_freeLetter_59 B hk6 hk18 _ _ _ _ _ _ _ _ _ h hM hS (lv_sub hl [0, 1, 2, 3, 4] rfl)
set_option maxHeartbeats 4000000 in
set_option maxRecDepth 100000 in
theorem w_X6_freeLetter_54 {p : Program} {l : Launch} {e : Env} {s : State} {m : MethodId} {args : Array Value} {below : List Frame} {meth : Method} {c : Code} {G : GG} {A : Nat → Prop} {ad : Nat → Nat} (B : MB G p s m args meth c cX6_freeLetter 6 RX6 (some .char)) {r : Int32} {st' : MS} {k6 : MS → Int32 → Int32 → Int32 → Option (Int32 × MS)} {k18 : MS → Int32 → Int32 → Int32 → Int32 → Int32 → Option (Int32 × MS)} (hk6 : ∀ (st : MS) (x1 : Int32) (x2 : Int32) (x3 : Int32) (H : Heap) (locs : List Loc) (ls : Array Slot), k6 st x1 x2 x3 = some (r, st') → MW G A ad st H → va_S A s.heap H locs → lv_has ls 6 [(0, .ref (ad 0)), (1, .int x1), (2, .int x2), (3, .int x3)] → W p l e ({ frames := 0, cells := 0, slots := 0, locals := 0 } : Room) s m args below meth c H locs 0 0 (MQ below (QM G A ad (some (.int r)) st') args s 0 0 A) (F0 m 6 ls [])) (hk18 : ∀ (st : MS) (x1 : Int32) (x2 : Int32) (x3 : Int32) (x4 : Int32) (x5 : Int32) (H : Heap) (locs : List Loc) (ls : Array Slot), k18 st x1 x2 x3 x4 x5 = some (r, st') → MW G A ad st H → va_S A s.heap H locs → lv_has ls 6 [(0, .ref (ad 0)), (1, .int x1), (2, .int x2), (3, .int x3), (4, .int x4), (5, .int x5)] → W p l e ({ frames := 0, cells := 0, slots := 0, locals := 0 } : Room) s m args below meth c H locs 0 0 (MQ below (QM G A ad (some (.int r)) st') args s 0 0 A) (F0 m 18 ls [])) : ∀ (st : MS) (x1 : Int32) (x2 : Int32) (x3 : Int32) (x5 : Int32) (H : Heap) (locs : List Loc) (ls : Array Slot), f_X6_freeLetter_54 k6 k18 st x1 x2 x3 x5 = some (r, st') → MW G A ad st H → va_S A s.heap H locs → lv_has ls 6 [(0, .ref (ad 0)), (1, .int x1), (2, .int x2), (3, .int x3), (5, .int x5)] → W p l e ({ frames := 0, cells := 0, slots := 0, locals := 0 } : Room) s m args below meth c H locs 0 0 (MQ below (QM G A ad (some (.int r)) st') args s 0 0 A) (F0 m 54 ls []) := by
  have ⟨hx, hb, hr, hml, hown, hT, hlocks, hK⟩ := B
  intro st x1 x2 x3 x5 H locs ls h hM hS hl
  rw [f_X6_freeLetter_54] at h
  refine lv_iconst (v := 1) hx hb dX6_freeLetter_54 (by decide) ?_
  refine lv_goto (tgt := 59) hx hb dX6_freeLetter_55 (by decide) ?_
  exact w_X6_freeLetter_59 B hk6 hk18 _ _ _ _ _ _ _ _ _ h hM hS (lv_sub hl [0, 1, 2, 3, 4] rfl)
set_option maxHeartbeats 4000000 in
set_option maxRecDepth 100000 in
theorem w_X6_freeLetter_18 {p : Program} {l : Launch} {e : Env} {s : State} {m : MethodId} {args : Array Value} {below : List Frame} {meth : Method} {c : Code} {G : GG} {A : Nat → Prop} {ad : Nat → Nat} (B : MB G p s m args meth c cX6_freeLetter 6 RX6 (some .char)) {r : Int32} {st' : MS} {k6 : MS → Int32 → Int32 → Int32 → Option (Int32 × MS)} (hk6 : ∀ (st : MS) (x1 : Int32) (x2 : Int32) (x3 : Int32) (H : Heap) (locs : List Loc) (ls : Array Slot), k6 st x1 x2 x3 = some (r, st') → MW G A ad st H → va_S A s.heap H locs → lv_has ls 6 [(0, .ref (ad 0)), (1, .int x1), (2, .int x2), (3, .int x3)] → W p l e ({ frames := 0, cells := 0, slots := 0, locals := 0 } : Room) s m args below meth c H locs 0 0 (MQ below (QM G A ad (some (.int r)) st') args s 0 0 A) (F0 m 6 ls [])) : ∀ (n : Nat) (st : MS) (x1 : Int32) (x2 : Int32) (x3 : Int32) (x4 : Int32) (x5 : Int32) (H : Heap) (locs : List Loc) (ls : Array Slot), f_X6_freeLetter_18 k6 n st x1 x2 x3 x4 x5 = some (r, st') → MW G A ad st H → va_S A s.heap H locs → lv_has ls 6 [(0, .ref (ad 0)), (1, .int x1), (2, .int x2), (3, .int x3), (4, .int x4), (5, .int x5)] → W p l e ({ frames := 0, cells := 0, slots := 0, locals := 0 } : Room) s m args below meth c H locs 0 0 (MQ below (QM G A ad (some (.int r)) st') args s 0 0 A) (F0 m 18 ls []) := by
  have ⟨hx, hb, hr, hml, hown, hT, hlocks, hK⟩ := B
  intro n
  induction n with
  | zero =>
    intro st x1 x2 x3 x4 x5 H locs ls h
    cases h
  | succ n ih =>
    intro st x1 x2 x3 x4 x5 H locs ls h hM hS hl
    rw [f_X6_freeLetter_18] at h
    refine lv_iload hx hb dX6_freeLetter_18 (lv_at hl 5 rfl) ?_
    refine lv_aload_n hx hb dX6_freeLetter_20 rfl (lv_at hl 0 rfl) ?_
    refine mw_get B hM 1 (by decide) wf_RX6_88 rfl (v := .int (st.1 1)) rfl dX6_freeLetter_21 ?_
    refine lv_icmp_ge (tgt := 67) hx hb dX6_freeLetter_24 (by decide) (fun c1 => ?_) (fun c1 => ?_)
    · have h := bi_t c1 h
      refine lv_iload hx hb dX6_freeLetter_67 (lv_at hl 4 rfl) ?_
      refine lv_if_eq (tgt := 76) hx hb dX6_freeLetter_69 (by decide) (fun c2 => ?_) (fun c2 => ?_)
      · have h := bi_t c2 h
        refine lv_iload_n hx hb dX6_freeLetter_76 rfl (lv_at hl 2 rfl) ?_
        exact w_X6_freeLetter_77 B hk6 _ _ _ _ _ _ _ h hM hS (lv_sub hl [0, 1, 3] rfl)
      · have h := bi_f c2 h
        refine lv_iload_n hx hb dX6_freeLetter_72 rfl (lv_at hl 3 rfl) ?_
        refine lv_goto (tgt := 77) hx hb dX6_freeLetter_73 (by decide) ?_
        exact w_X6_freeLetter_77 B hk6 _ _ _ _ _ _ _ h hM hS (lv_sub hl [0, 1, 3] rfl)
    · have h := bi_f c1 h
      refine lv_iload hx hb dX6_freeLetter_27 (lv_at hl 4 rfl) ?_
      refine lv_if_eq (tgt := 58) hx hb dX6_freeLetter_29 (by decide) (fun c3 => ?_) (fun c3 => ?_)
      · have h := bi_t c3 h
        exact w_X6_freeLetter_58 B hk6 ih _ _ _ _ _ _ _ _ h hM hS (lv_sub hl [0, 1, 2, 3, 5] rfl)
      · have h := bi_f c3 h
        refine lv_aload_n hx hb dX6_freeLetter_32 rfl (lv_at hl 0 rfl) ?_
        refine mw_get B hM 9 (by decide) wf_RX6_30 rfl (v := .ref (ad 9)) rfl dX6_freeLetter_33 ?_
        refine lv_iload hx hb dX6_freeLetter_36 (lv_at hl 5 rfl) ?_
        obtain ⟨g4, h⟩ := gd_e h
        refine mw_iald B hM 9 (by decide) (by decide) rfl g4 dX6_freeLetter_38 ?_
        refine lv_iload_n hx hb dX6_freeLetter_39 rfl (lv_at hl 1 rfl) ?_
        refine lv_icmp_ne (tgt := 54) hx hb dX6_freeLetter_40 (by decide) (fun c5 => ?_) (fun c5 => ?_)
        · have h := bi_f c5 h
          exact w_X6_freeLetter_54 B hk6 ih _ _ _ _ _ _ _ _ h hM hS (lv_sub hl [0, 1, 2, 3, 5] rfl)
        · have h := bi_t c5 h
          refine lv_aload_n hx hb dX6_freeLetter_43 rfl (lv_at hl 0 rfl) ?_
          refine mw_get B hM 10 (by decide) wf_RX6_33 rfl (v := .ref (ad 10)) rfl dX6_freeLetter_44 ?_
          refine lv_iload hx hb dX6_freeLetter_47 (lv_at hl 5 rfl) ?_
          obtain ⟨g6, h⟩ := gd_e h
          refine mw_cald B hM 10 (by decide) (by decide) rfl g6 dX6_freeLetter_49 ?_
          refine lv_iload_n hx hb dX6_freeLetter_50 rfl (lv_at hl 3 rfl) ?_
          refine lv_icmp_eq (tgt := 58) hx hb dX6_freeLetter_51 (by decide) (fun c7 => ?_) (fun c7 => ?_)
          · have h := bi_t c7 h
            exact w_X6_freeLetter_58 B hk6 ih _ _ _ _ _ _ _ _ h hM hS (lv_sub hl [0, 1, 2, 3, 5] rfl)
          · have h := bi_f c7 h
            exact w_X6_freeLetter_54 B hk6 ih _ _ _ _ _ _ _ _ h hM hS (lv_sub hl [0, 1, 2, 3, 5] rfl)
set_option maxHeartbeats 4000000 in
set_option maxRecDepth 100000 in
theorem w_X6_freeLetter_6 {p : Program} {l : Launch} {e : Env} {s : State} {m : MethodId} {args : Array Value} {below : List Frame} {meth : Method} {c : Code} {G : GG} {A : Nat → Prop} {ad : Nat → Nat} (B : MB G p s m args meth c cX6_freeLetter 6 RX6 (some .char)) {r : Int32} {st' : MS} : ∀ (n : Nat) (st : MS) (x1 : Int32) (x2 : Int32) (x3 : Int32) (H : Heap) (locs : List Loc) (ls : Array Slot), f_X6_freeLetter_6 n st x1 x2 x3 = some (r, st') → MW G A ad st H → va_S A s.heap H locs → lv_has ls 6 [(0, .ref (ad 0)), (1, .int x1), (2, .int x2), (3, .int x3)] → W p l e ({ frames := 0, cells := 0, slots := 0, locals := 0 } : Room) s m args below meth c H locs 0 0 (MQ below (QM G A ad (some (.int r)) st') args s 0 0 A) (F0 m 6 ls []) := by
  have ⟨hx, hb, hr, hml, hown, hT, hlocks, hK⟩ := B
  intro n
  induction n with
  | zero =>
    intro st x1 x2 x3 H locs ls h
    cases h
  | succ n ih =>
    intro st x1 x2 x3 H locs ls h hM hS hl
    rw [f_X6_freeLetter_6] at h
    refine lv_iload_n hx hb dX6_freeLetter_6 rfl (lv_at hl 3 rfl) ?_
    refine lv_bipush (v := 65) hx hb dX6_freeLetter_7 (by decide) ?_
    refine lv_icmp_lt (tgt := 86) hx hb dX6_freeLetter_9 (by decide) (fun c1 => ?_) (fun c1 => ?_)
    · have h := bi_t c1 h
      refine lv_iload_n hx hb dX6_freeLetter_86 rfl (lv_at hl 2 rfl) ?_
      obtain ⟨g2, h⟩ := gd_e h
      cases h
      exact mw_zret B hM hS g2 dX6_freeLetter_87
    · have h := bi_f c1 h
      refine lv_iconst (v := 1) hx hb dX6_freeLetter_12 (by decide) ?_
      refine lv_istore (lv' := [(4, .int 1), (0, .ref (ad 0)), (1, .int x1), (2, .int x2), (3, .int x3)]) hx hb dX6_freeLetter_13 hl (by decide) rfl (fun ls hl => ?_)
      refine lv_iconst (v := 0) hx hb dX6_freeLetter_15 (by decide) ?_
      refine lv_istore (lv' := [(5, .int 0), (4, .int 1), (0, .ref (ad 0)), (1, .int x1), (2, .int x2), (3, .int x3)]) hx hb dX6_freeLetter_16 hl (by decide) rfl (fun ls hl => ?_)
      exact w_X6_freeLetter_18 B ih FU _ _ _ _ _ _ _ _ _ h hM hS (lv_sub hl [2, 3, 4, 5, 1, 0] rfl)
set_option maxHeartbeats 4000000 in
set_option maxRecDepth 100000 in
theorem w_X6_freeLetter {p : Program} {l : Launch} {e : Env} {s : State} {m : MethodId} {args : Array Value} {below : List Frame} {meth : Method} {c : Code} {G : GG} {A : Nat → Prop} {ad : Nat → Nat} (B : MB G p s m args meth c cX6_freeLetter 6 RX6 (some .char)) {r : Int32} {st' : MS} : ∀ (st : MS) (x1 : Int32) (H : Heap) (locs : List Loc) (ls : Array Slot), f_X6_freeLetter st x1 = some (r, st') → MW G A ad st H → va_S A s.heap H locs → lv_has ls 6 [(0, .ref (ad 0)), (1, .int x1)] → W p l e ({ frames := 0, cells := 0, slots := 0, locals := 0 } : Room) s m args below meth c H locs 0 0 (MQ below (QM G A ad (some (.int r)) st') args s 0 0 A) (F0 m 0 ls []) := by
  have ⟨hx, hb, hr, hml, hown, hT, hlocks, hK⟩ := B
  intro st x1 H locs ls h hM hS hl
  rw [f_X6_freeLetter] at h
  refine lv_bipush (v := 32) hx hb dX6_freeLetter_0 (by decide) ?_
  refine lv_istore_n (lv' := [(2, .int 32), (0, .ref (ad 0)), (1, .int x1)]) hx hb dX6_freeLetter_2 rfl hl (by decide) rfl (fun ls hl => ?_)
  refine lv_bipush (v := 70) hx hb dX6_freeLetter_3 (by decide) ?_
  refine lv_istore_n (lv' := [(3, .int 70), (2, .int 32), (0, .ref (ad 0)), (1, .int x1)]) hx hb dX6_freeLetter_5 rfl hl (by decide) rfl (fun ls hl => ?_)
  exact w_X6_freeLetter_6 B FU _ _ _ _ _ _ _ h hM hS (lv_sub hl [2, 3, 1, 0] rfl)
theorem c_X6_freeLetter {l : Launch} {G : GG} {A : Nat → Prop} {ad : Nat → Nat} {st : MS} {x1 : Int32} {r : Int32} {st' : MS} (h : f_X6_freeLetter st x1 = some (r, st')) : Met l yX6_freeLetter (Cond.code yX6_freeLetter cX6_freeLetter 6 (some .char) :: TG) ({ frames := 0, cells := 0, slots := 0, locals := 0 } : Room) (PM G A ad st [.ref (ad 0), .int x1]) (QM G A ad (some (.int r)) st') 0 0 A :=
  mw_of (own := RX6) (by decide +kernel) rfl rfl rfl (Nat.le_of_ble_eq_true rfl) fun p e s m below meth c ls B hM hS hl => w_X6_freeLetter B _ _ _ _ _ h hM hS hl
set_option maxHeartbeats 4000000 in
set_option maxRecDepth 100000 in
theorem w_X6_putIn_5 {p : Program} {l : Launch} {e : Env} {s : State} {m : MethodId} {args : Array Value} {below : List Frame} {meth : Method} {c : Code} {G : GG} {A : Nat → Prop} {ad : Nat → Nat} (B : MB G p s m args meth c cX6_putIn 4 RX6 none) {r : Unit} {st' : MS} : ∀ (n : Nat) (st : MS) (x1 : Int32) (x2 : Int32) (x3 : Int32) (H : Heap) (locs : List Loc) (ls : Array Slot), f_X6_putIn_5 n st x1 x2 x3 = some (r, st') → MW G A ad st H → va_S A s.heap H locs → lv_has ls 4 [(0, .ref (ad 0)), (1, .int x1), (2, .int x2), (3, .int x3)] → W p l e ({ frames := 0, cells := 0, slots := 0, locals := 0 } : Room) s m args below meth c H locs 0 0 (MQ below (QM G A ad none st') args s 0 0 A) (F0 m 5 ls []) := by
  have ⟨hx, hb, hr, hml, hown, hT, hlocks, hK⟩ := B
  intro n
  induction n with
  | zero =>
    intro st x1 x2 x3 H locs ls h
    cases h
  | succ n ih =>
    intro st x1 x2 x3 H locs ls h hM hS hl
    rw [f_X6_putIn_5] at h
    refine lv_iload_n hx hb dX6_putIn_5 rfl (lv_at hl 3 rfl) ?_
    refine lv_iload_n hx hb dX6_putIn_6 rfl (lv_at hl 2 rfl) ?_
    refine lv_icmp_le (tgt := 30) hx hb dX6_putIn_7 (by decide) (fun c1 => ?_) (fun c1 => ?_)
    · have h := bi_t c1 h
      refine lv_aload_n hx hb dX6_putIn_30 rfl (lv_at hl 0 rfl) ?_
      refine mw_get B hM 3 (by decide) wf_RX6_7 rfl (v := .ref (ad 3)) rfl dX6_putIn_31 ?_
      refine lv_iload_n hx hb dX6_putIn_34 rfl (lv_at hl 2 rfl) ?_
      refine lv_iload_n hx hb dX6_putIn_35 rfl (lv_at hl 1 rfl) ?_
      obtain ⟨g2, h⟩ := gd_e h
      refine mw_iast B hM hS 3 (by decide) (by decide) rfl g2 dX6_putIn_36 (fun H locs hM hS => ?_)
      refine lv_aload_n hx hb dX6_putIn_37 rfl (lv_at hl 0 rfl) ?_
      refine lv_dup hx hb dX6_putIn_38 rfl ?_
      refine mw_get B hM 2 (by decide) wf_RX6_95 rfl (v := .int ((setA st 3 x2.toNatClampNeg x1).1 2)) rfl dX6_putIn_39 ?_
      refine lv_iconst (v := 1) hx hb dX6_putIn_42 (by decide) ?_
      refine lv_iadd hx hb dX6_putIn_43 ?_
      refine mw_put B hM hS 2 (by decide) wf_RX6_95 rfl rfl rfl rfl rfl dX6_putIn_44 (fun H locs hM hS => ?_)
      cases h
      exact mw_vret B hM hS dX6_putIn_47
    · have h := bi_f c1 h
      refine lv_aload_n hx hb dX6_putIn_10 rfl (lv_at hl 0 rfl) ?_
      refine mw_get B hM 3 (by decide) wf_RX6_7 rfl (v := .ref (ad 3)) rfl dX6_putIn_11 ?_
      refine lv_iload_n hx hb dX6_putIn_14 rfl (lv_at hl 3 rfl) ?_
      refine lv_aload_n hx hb dX6_putIn_15 rfl (lv_at hl 0 rfl) ?_
      refine mw_get B hM 3 (by decide) wf_RX6_7 rfl (v := .ref (ad 3)) rfl dX6_putIn_16 ?_
      refine lv_iload_n hx hb dX6_putIn_19 rfl (lv_at hl 3 rfl) ?_
      refine lv_iconst (v := 1) hx hb dX6_putIn_20 (by decide) ?_
      refine lv_isub hx hb dX6_putIn_21 ?_
      obtain ⟨g3, h⟩ := gd_e h
      refine mw_iald B hM 3 (by decide) (by decide) rfl g3 dX6_putIn_22 ?_
      obtain ⟨g4, h⟩ := gd_e h
      refine mw_iast B hM hS 3 (by decide) (by decide) rfl g4 dX6_putIn_23 (fun H locs hM hS => ?_)
      refine lv_iinc (v := (x3 + (-1))) (lv' := [(3, .int (x3 + (-1))), (0, .ref (ad 0)), (1, .int x1), (2, .int x2)]) hx hb dX6_putIn_24 hl (k := 3) rfl rfl (by decide) rfl (fun ls hl => ?_)
      refine lv_goto (tgt := 5) hx hb dX6_putIn_27 (by decide) ?_
      exact ih _ _ _ _ _ _ _ h hM hS (lv_sub hl [1, 2, 3, 0] rfl)
set_option maxHeartbeats 4000000 in
set_option maxRecDepth 100000 in
theorem w_X6_putIn {p : Program} {l : Launch} {e : Env} {s : State} {m : MethodId} {args : Array Value} {below : List Frame} {meth : Method} {c : Code} {G : GG} {A : Nat → Prop} {ad : Nat → Nat} (B : MB G p s m args meth c cX6_putIn 4 RX6 none) {r : Unit} {st' : MS} : ∀ (st : MS) (x1 : Int32) (x2 : Int32) (H : Heap) (locs : List Loc) (ls : Array Slot), f_X6_putIn st x1 x2 = some (r, st') → MW G A ad st H → va_S A s.heap H locs → lv_has ls 4 [(0, .ref (ad 0)), (1, .int x1), (2, .int x2)] → W p l e ({ frames := 0, cells := 0, slots := 0, locals := 0 } : Room) s m args below meth c H locs 0 0 (MQ below (QM G A ad none st') args s 0 0 A) (F0 m 0 ls []) := by
  have ⟨hx, hb, hr, hml, hown, hT, hlocks, hK⟩ := B
  intro st x1 x2 H locs ls h hM hS hl
  rw [f_X6_putIn] at h
  refine lv_aload_n hx hb dX6_putIn_0 rfl (lv_at hl 0 rfl) ?_
  refine mw_get B hM 2 (by decide) wf_RX6_95 rfl (v := .int (st.1 2)) rfl dX6_putIn_1 ?_
  refine lv_istore_n (lv' := [(3, .int (st.1 2)), (0, .ref (ad 0)), (1, .int x1), (2, .int x2)]) hx hb dX6_putIn_4 rfl hl (by decide) rfl (fun ls hl => ?_)
  exact w_X6_putIn_5 B FU _ _ _ _ _ _ _ h hM hS (lv_sub hl [1, 2, 3, 0] rfl)
theorem c_X6_putIn {l : Launch} {G : GG} {A : Nat → Prop} {ad : Nat → Nat} {st : MS} {x1 : Int32} {x2 : Int32} {r : Unit} {st' : MS} (h : f_X6_putIn st x1 x2 = some (r, st')) : Met l yX6_putIn (Cond.code yX6_putIn cX6_putIn 4 none :: TG) ({ frames := 0, cells := 0, slots := 0, locals := 0 } : Room) (PM G A ad st [.ref (ad 0), .int x1, .int x2]) (QM G A ad none st') 0 0 A :=
  mw_of (own := RX6) (by decide +kernel) rfl rfl rfl (Nat.le_of_ble_eq_true rfl) fun p e s m below meth c ls B hM hS hl => w_X6_putIn B _ _ _ _ _ _ h hM hS hl
set_option maxHeartbeats 4000000 in
set_option maxRecDepth 100000 in
theorem w_X6_takeOut_12 {p : Program} {l : Launch} {e : Env} {s : State} {m : MethodId} {args : Array Value} {below : List Frame} {meth : Method} {c : Code} {G : GG} {A : Nat → Prop} {ad : Nat → Nat} (B : MB G p s m args meth c cX6_takeOut 3 RX6 none) {r : Unit} {st' : MS} : ∀ (n : Nat) (st : MS) (x2 : Int32) (H : Heap) (locs : List Loc) (ls : Array Slot), f_X6_takeOut_12 n st x2 = some (r, st') → MW G A ad st H → va_S A s.heap H locs → lv_has ls 3 [(0, .ref (ad 0)), (2, .int x2)] → W p l e ({ frames := 0, cells := 0, slots := 0, locals := 0 } : Room) s m args below meth c H locs 0 0 (MQ below (QM G A ad none st') args s 0 0 A) (F0 m 12 ls []) := by
  have ⟨hx, hb, hr, hml, hown, hT, hlocks, hK⟩ := B
  intro n
  induction n with
  | zero =>
    intro st x2 H locs ls h
    cases h
  | succ n ih =>
    intro st x2 H locs ls h hM hS hl
    rw [f_X6_takeOut_12] at h
    refine lv_iload_n hx hb dX6_takeOut_12 rfl (lv_at hl 1 rfl) ?_
    refine lv_aload_n hx hb dX6_takeOut_13 rfl (lv_at hl 0 rfl) ?_
    refine mw_get B hM 2 (by decide) wf_RX6_95 rfl (v := .int (st.1 2)) rfl dX6_takeOut_14 ?_
    refine lv_icmp_ge (tgt := 40) hx hb dX6_takeOut_17 (by decide) (fun c1 => ?_) (fun c1 => ?_)
    · have h := bi_t c1 h
      cases h
      exact mw_vret B hM hS dX6_takeOut_40
    · have h := bi_f c1 h
      refine lv_aload_n hx hb dX6_takeOut_20 rfl (lv_at hl 0 rfl) ?_
      refine mw_get B hM 3 (by decide) wf_RX6_7 rfl (v := .ref (ad 3)) rfl dX6_takeOut_21 ?_
      refine lv_iload_n hx hb dX6_takeOut_24 rfl (lv_at hl 1 rfl) ?_
      refine lv_aload_n hx hb dX6_takeOut_25 rfl (lv_at hl 0 rfl) ?_
      refine mw_get B hM 3 (by decide) wf_RX6_7 rfl (v := .ref (ad 3)) rfl dX6_takeOut_26 ?_
      refine lv_iload_n hx hb dX6_takeOut_29 rfl (lv_at hl 1 rfl) ?_
      refine lv_iconst (v := 1) hx hb dX6_takeOut_30 (by decide) ?_
      refine lv_iadd hx hb dX6_takeOut_31 ?_
      obtain ⟨g2, h⟩ := gd_e h
      refine mw_iald B hM 3 (by decide) (by decide) rfl g2 dX6_takeOut_32 ?_
      obtain ⟨g3, h⟩ := gd_e h
      refine mw_iast B hM hS 3 (by decide) (by decide) rfl g3 dX6_takeOut_33 (fun H locs hM hS => ?_)
      refine lv_iinc (v := (x2 + 1)) (lv' := [(2, .int (x2 + 1)), (0, .ref (ad 0))]) hx hb dX6_takeOut_34 hl (k := 1) rfl rfl (by decide) rfl (fun ls hl => ?_)
      refine lv_goto (tgt := 12) hx hb dX6_takeOut_37 (by decide) ?_
      exact ih _ _ _ _ _ h hM hS (lv_sub hl [1, 0] rfl)
set_option maxHeartbeats 4000000 in
set_option maxRecDepth 100000 in
theorem w_X6_takeOut {p : Program} {l : Launch} {e : Env} {s : State} {m : MethodId} {args : Array Value} {below : List Frame} {meth : Method} {c : Code} {G : GG} {A : Nat → Prop} {ad : Nat → Nat} (B : MB G p s m args meth c cX6_takeOut 3 RX6 none) {r : Unit} {st' : MS} : ∀ (st : MS) (x1 : Int32) (H : Heap) (locs : List Loc) (ls : Array Slot), f_X6_takeOut st x1 = some (r, st') → MW G A ad st H → va_S A s.heap H locs → lv_has ls 3 [(0, .ref (ad 0)), (1, .int x1)] → W p l e ({ frames := 0, cells := 0, slots := 0, locals := 0 } : Room) s m args below meth c H locs 0 0 (MQ below (QM G A ad none st') args s 0 0 A) (F0 m 0 ls []) := by
  have ⟨hx, hb, hr, hml, hown, hT, hlocks, hK⟩ := B
  intro st x1 H locs ls h hM hS hl
  rw [f_X6_takeOut] at h
  refine lv_aload_n hx hb dX6_takeOut_0 rfl (lv_at hl 0 rfl) ?_
  refine lv_dup hx hb dX6_takeOut_1 rfl ?_
  refine mw_get B hM 2 (by decide) wf_RX6_95 rfl (v := .int (st.1 2)) rfl dX6_takeOut_2 ?_
  refine lv_iconst (v := 1) hx hb dX6_takeOut_5 (by decide) ?_
  refine lv_isub hx hb dX6_takeOut_6 ?_
  refine mw_put B hM hS 2 (by decide) wf_RX6_95 rfl rfl rfl rfl rfl dX6_takeOut_7 (fun H locs hM hS => ?_)
  refine lv_iload_n hx hb dX6_takeOut_10 rfl (lv_at hl 1 rfl) ?_
  refine lv_istore_n (lv' := [(2, .int x1), (0, .ref (ad 0)), (1, .int x1)]) hx hb dX6_takeOut_11 rfl hl (by decide) rfl (fun ls hl => ?_)
  exact w_X6_takeOut_12 B FU _ _ _ _ _ h hM hS (lv_sub hl [1, 0] rfl)
theorem c_X6_takeOut {l : Launch} {G : GG} {A : Nat → Prop} {ad : Nat → Nat} {st : MS} {x1 : Int32} {r : Unit} {st' : MS} (h : f_X6_takeOut st x1 = some (r, st')) : Met l yX6_takeOut (Cond.code yX6_takeOut cX6_takeOut 3 none :: TG) ({ frames := 0, cells := 0, slots := 0, locals := 0 } : Room) (PM G A ad st [.ref (ad 0), .int x1]) (QM G A ad none st') 0 0 A :=
  mw_of (own := RX6) (by decide +kernel) rfl rfl rfl (Nat.le_of_ble_eq_true rfl) fun p e s m below meth c ls B hM hS hl => w_X6_takeOut B _ _ _ _ _ h hM hS hl
set_option maxHeartbeats 4000000 in
set_option maxRecDepth 100000 in
theorem w_X6_shot_224 {p : Program} {l : Launch} {e : Env} {s : State} {m : MethodId} {args : Array Value} {below : List Frame} {meth : Method} {c : Code} {G : GG} {A : Nat → Prop} {ad : Nat → Nat} (B : MB G p s m args meth c cX6_shot 8 RX6 (some .int)) {r : Int32} {st' : MS} : ∀ (n : Nat) (st : MS) (x4 : Int32) (x7 : Int32) (H : Heap) (locs : List Loc) (ls : Array Slot), f_X6_shot_224 n st x4 x7 = some (r, st') → MW G A ad st H → va_S A s.heap H locs → lv_has ls 8 [(0, .ref (ad 0)), (4, .int x4), (7, .int x7)] → W p l e ({ frames := 2, cells := 0, slots := 0, locals := 43 } : Room) s m args below meth c H locs 0 0 (MQ below (QM G A ad (some (.int r)) st') args s 0 0 A) (F0 m 224 ls []) := by
  have ⟨hx, hb, hr, hml, hown, hT, hlocks, hK⟩ := B
  intro n
  induction n with
  | zero =>
    intro st x4 x7 H locs ls h
    cases h
  | succ n ih =>
    intro st x4 x7 H locs ls h hM hS hl
    rw [f_X6_shot_224] at h
    refine lv_iload hx hb dX6_shot_224 (lv_at hl 2 rfl) ?_
    refine lv_iconst (v := 4) hx hb dX6_shot_226 (by decide) ?_
    refine lv_aload_n hx hb dX6_shot_227 rfl (lv_at hl 0 rfl) ?_
    refine mw_get B hM 1 (by decide) wf_RX6_88 rfl (v := .int (st.1 1)) rfl dX6_shot_228 ?_
    refine lv_imul hx hb dX6_shot_231 ?_
    refine lv_iconst (v := 4) hx hb dX6_shot_232 (by decide) ?_
    refine lv_iadd hx hb dX6_shot_233 ?_
    refine lv_icmp_ge (tgt := 279) hx hb dX6_shot_234 (by decide) (fun c1 => ?_) (fun c1 => ?_)
    · have h := bi_t c1 h
      refine lv_aload_n hx hb dX6_shot_279 rfl (lv_at hl 0 rfl) ?_
      refine lv_aload_n hx hb dX6_shot_280 rfl (lv_at hl 0 rfl) ?_
      refine mw_get B hM 1 (by decide) wf_RX6_88 rfl (v := .int (st.1 1)) rfl dX6_shot_281 ?_
      refine lv_iload hx hb dX6_shot_284 (lv_at hl 1 rfl) ?_
      obtain ⟨r2, t3, e4, h⟩ := bd_e h
      refine mw_callV B hM hS [.int (st.1 1), .int x4] (n := 2) (v := none) (c_X6_putIn e4) wm_RX6_114 wi_yX6_putIn ws_yX6_putIn wc_yX6_putIn rfl rfl (by decide +kernel) ⟨Nat.le_of_ble_eq_true rfl, Nat.le_of_ble_eq_true rfl⟩ ⟨Nat.le_refl 0, Nat.le_refl 0⟩ rfl hl.1 (Nat.le_of_ble_eq_true rfl) rfl dX6_shot_286 (fun H locs hM hS => ?_)
      refine lv_aload_n hx hb dX6_shot_289 rfl (lv_at hl 0 rfl) ?_
      refine lv_dup hx hb dX6_shot_290 rfl ?_
      refine mw_get B hM 1 (by decide) wf_RX6_88 rfl (v := .int (t3.1 1)) rfl dX6_shot_291 ?_
      refine lv_iconst (v := 1) hx hb dX6_shot_294 (by decide) ?_
      refine lv_iadd hx hb dX6_shot_295 ?_
      refine mw_put B hM hS 1 (by decide) wf_RX6_88 rfl rfl rfl rfl rfl dX6_shot_296 (fun H locs hM hS => ?_)
      refine lv_aload_n hx hb dX6_shot_299 rfl (lv_at hl 0 rfl) ?_
      refine mw_get B hM 1 (by decide) wf_RX6_88 rfl (v := .int ((setS t3 1 ((t3.1 1) + 1)).1 1)) rfl dX6_shot_300 ?_
      refine lv_iconst (v := 1) hx hb dX6_shot_303 (by decide) ?_
      refine lv_isub hx hb dX6_shot_304 ?_
      cases h
      exact mw_iret B hM hS dX6_shot_305
    · have h := bi_f c1 h
      refine lv_aload_n hx hb dX6_shot_237 rfl (lv_at hl 0 rfl) ?_
      refine mw_get B hM 11 (by decide) wf_RX6_36 rfl (v := .ref (ad 11)) rfl dX6_shot_238 ?_
      refine lv_iload hx hb dX6_shot_241 (lv_at hl 2 rfl) ?_
      refine lv_bipush (v := 45) hx hb dX6_shot_243 (by decide) ?_
      obtain ⟨g5, h⟩ := gd_e h
      refine mw_cast B hM hS 11 (by decide) (by decide) rfl g5 dX6_shot_245 (fun H locs hM hS => ?_)
      refine lv_aload_n hx hb dX6_shot_246 rfl (lv_at hl 0 rfl) ?_
      refine mw_get B hM 12 (by decide) wf_RX6_39 rfl (v := .ref (ad 12)) rfl dX6_shot_247 ?_
      refine lv_iload hx hb dX6_shot_250 (lv_at hl 2 rfl) ?_
      refine lv_bipush (v := 45) hx hb dX6_shot_252 (by decide) ?_
      obtain ⟨g6, h⟩ := gd_e h
      refine mw_cast B hM hS 12 (by decide) (by decide) rfl g6 dX6_shot_254 (fun H locs hM hS => ?_)
      refine lv_aload_n hx hb dX6_shot_255 rfl (lv_at hl 0 rfl) ?_
      refine mw_get B hM 13 (by decide) wf_RX6_42 rfl (v := .ref (ad 13)) rfl dX6_shot_256 ?_
      refine lv_iload hx hb dX6_shot_259 (lv_at hl 2 rfl) ?_
      refine lv_bipush (v := 45) hx hb dX6_shot_261 (by decide) ?_
      obtain ⟨g7, h⟩ := gd_e h
      refine mw_cast B hM hS 13 (by decide) (by decide) rfl g7 dX6_shot_263 (fun H locs hM hS => ?_)
      refine lv_aload_n hx hb dX6_shot_264 rfl (lv_at hl 0 rfl) ?_
      refine mw_get B hM 14 (by decide) wf_RX6_45 rfl (v := .ref (ad 14)) rfl dX6_shot_265 ?_
      refine lv_iload hx hb dX6_shot_268 (lv_at hl 2 rfl) ?_
      refine lv_bipush (v := 45) hx hb dX6_shot_270 (by decide) ?_
      obtain ⟨g8, h⟩ := gd_e h
      refine mw_cast B hM hS 14 (by decide) (by decide) rfl g8 dX6_shot_272 (fun H locs hM hS => ?_)
      refine lv_iinc (v := (x7 + 1)) (lv' := [(7, .int (x7 + 1)), (0, .ref (ad 0)), (4, .int x4)]) hx hb dX6_shot_273 hl (k := 2) rfl rfl (by decide) rfl (fun ls hl => ?_)
      refine lv_goto (tgt := 224) hx hb dX6_shot_276 (by decide) ?_
      exact ih _ _ _ _ _ _ h hM hS (lv_sub hl [1, 2, 0] rfl)
set_option maxHeartbeats 4000000 in
set_option maxRecDepth 100000 in
theorem w_X6_shot_183 {p : Program} {l : Launch} {e : Env} {s : State} {m : MethodId} {args : Array Value} {below : List Frame} {meth : Method} {c : Code} {G : GG} {A : Nat → Prop} {ad : Nat → Nat} (B : MB G p s m args meth c cX6_shot 8 RX6 (some .int)) {r : Int32} {st' : MS} : ∀ (st : MS) (x4 : Int32) (x6 : Int32) (y1 : Int32) (y2 : Int32) (H : Heap) (locs : List Loc) (ls : Array Slot), f_X6_shot_183 st x4 x6 y1 y2 = some (r, st') → MW G A ad st H → va_S A s.heap H locs → lv_has ls 8 [(0, .ref (ad 0)), (4, .int x4), (6, .int x6)] → W p l e ({ frames := 2, cells := 0, slots := 0, locals := 43 } : Room) s m args below meth c H locs 0 0 (MQ below (QM G A ad (some (.int r)) st') args s 0 0 A) (F0 m 183 ls [.int y2, .int y1, .ref (ad 9)]) := by
  have ⟨hx, hb, hr, hml, hown, hT, hlocks, hK⟩ := B
  intro st x4 x6 y1 y2 H locs ls h hM hS hl
  rw [f_X6_shot_183] at h
  obtain ⟨g1, h⟩ := gd_e h
  refine mw_iast B hM hS 9 (by decide) (by decide) rfl g1 dX6_shot_183 (fun H locs hM hS => ?_)
  refine lv_aload_n hx hb dX6_shot_184 rfl (lv_at hl 0 rfl) ?_
  refine mw_get B hM 10 (by decide) wf_RX6_33 rfl (v := .ref (ad 10)) rfl dX6_shot_185 ?_
  refine lv_aload_n hx hb dX6_shot_188 rfl (lv_at hl 0 rfl) ?_
  refine mw_get B hM 1 (by decide) wf_RX6_88 rfl (v := .int ((setA st 9 y1.toNatClampNeg y2).1 1)) rfl dX6_shot_189 ?_
  refine lv_iload hx hb dX6_shot_192 (lv_at hl 2 rfl) ?_
  obtain ⟨g2, h⟩ := gd_e h
  refine mw_cast B hM hS 10 (by decide) (by decide) rfl g2 dX6_shot_194 (fun H locs hM hS => ?_)
  refine lv_aload_n hx hb dX6_shot_195 rfl (lv_at hl 0 rfl) ?_
  refine mw_get B hM 16 (by decide) wf_RX6_48 rfl (v := .ref (ad 16)) rfl dX6_shot_196 ?_
  refine lv_aload_n hx hb dX6_shot_199 rfl (lv_at hl 0 rfl) ?_
  refine mw_get B hM 1 (by decide) wf_RX6_88 rfl (v := .int ((setA (setA st 9 y1.toNatClampNeg y2) 10 ((setA st 9 y1.toNatClampNeg y2).1 1).toNatClampNeg (vp_nar .char x6)).1 1)) rfl dX6_shot_200 ?_
  refine lv_bipush (v := 45) hx hb dX6_shot_203 (by decide) ?_
  obtain ⟨g3, h⟩ := gd_e h
  refine mw_cast B hM hS 16 (by decide) (by decide) rfl g3 dX6_shot_205 (fun H locs hM hS => ?_)
  refine lv_aload_n hx hb dX6_shot_206 rfl (lv_at hl 0 rfl) ?_
  refine mw_get B hM 20 (by decide) wf_RX6_60 rfl (v := .ref (ad 20)) rfl dX6_shot_207 ?_
  refine lv_aload_n hx hb dX6_shot_210 rfl (lv_at hl 0 rfl) ?_
  refine mw_get B hM 1 (by decide) wf_RX6_88 rfl (v := .int ((setA (setA (setA st 9 y1.toNatClampNeg y2) 10 ((setA st 9 y1.toNatClampNeg y2).1 1).toNatClampNeg (vp_nar .char x6)) 16 ((setA (setA st 9 y1.toNatClampNeg y2) 10 ((setA st 9 y1.toNatClampNeg y2).1 1).toNatClampNeg (vp_nar .char x6)).1 1).toNatClampNeg (vp_nar .char 45)).1 1)) rfl dX6_shot_211 ?_
  refine lv_iconst (v := (-1)) hx hb dX6_shot_214 (by decide) ?_
  obtain ⟨g4, h⟩ := gd_e h
  refine mw_iast B hM hS 20 (by decide) (by decide) rfl g4 dX6_shot_215 (fun H locs hM hS => ?_)
  refine lv_iconst (v := 4) hx hb dX6_shot_216 (by decide) ?_
  refine lv_aload_n hx hb dX6_shot_217 rfl (lv_at hl 0 rfl) ?_
  refine mw_get B hM 1 (by decide) wf_RX6_88 rfl (v := .int ((setA (setA (setA (setA st 9 y1.toNatClampNeg y2) 10 ((setA st 9 y1.toNatClampNeg y2).1 1).toNatClampNeg (vp_nar .char x6)) 16 ((setA (setA st 9 y1.toNatClampNeg y2) 10 ((setA st 9 y1.toNatClampNeg y2).1 1).toNatClampNeg (vp_nar .char x6)).1 1).toNatClampNeg (vp_nar .char 45)) 20 ((setA (setA (setA st 9 y1.toNatClampNeg y2) 10 ((setA st 9 y1.toNatClampNeg y2).1 1).toNatClampNeg (vp_nar .char x6)) 16 ((setA (setA st 9 y1.toNatClampNeg y2) 10 ((setA st 9 y1.toNatClampNeg y2).1 1).toNatClampNeg (vp_nar .char x6)).1 1).toNatClampNeg (vp_nar .char 45)).1 1).toNatClampNeg (-1)).1 1)) rfl dX6_shot_218 ?_
  refine lv_imul hx hb dX6_shot_221 ?_
  refine lv_istore (lv' := [(7, .int (4 * ((setA (setA (setA (setA st 9 y1.toNatClampNeg y2) 10 ((setA st 9 y1.toNatClampNeg y2).1 1).toNatClampNeg (vp_nar .char x6)) 16 ((setA (setA st 9 y1.toNatClampNeg y2) 10 ((setA st 9 y1.toNatClampNeg y2).1 1).toNatClampNeg (vp_nar .char x6)).1 1).toNatClampNeg (vp_nar .char 45)) 20 ((setA (setA (setA st 9 y1.toNatClampNeg y2) 10 ((setA st 9 y1.toNatClampNeg y2).1 1).toNatClampNeg (vp_nar .char x6)) 16 ((setA (setA st 9 y1.toNatClampNeg y2) 10 ((setA st 9 y1.toNatClampNeg y2).1 1).toNatClampNeg (vp_nar .char x6)).1 1).toNatClampNeg (vp_nar .char 45)).1 1).toNatClampNeg (-1)).1 1))), (0, .ref (ad 0)), (4, .int x4), (6, .int x6)]) hx hb dX6_shot_222 hl (by decide) rfl (fun ls hl => ?_)
  exact w_X6_shot_224 B FU _ _ _ _ _ _ h hM hS (lv_sub hl [1, 2, 0] rfl)
set_option maxHeartbeats 4000000 in
set_option maxRecDepth 100000 in
theorem w_X6_shot_124 {p : Program} {l : Launch} {e : Env} {s : State} {m : MethodId} {args : Array Value} {below : List Frame} {meth : Method} {c : Code} {G : GG} {A : Nat → Prop} {ad : Nat → Nat} (B : MB G p s m args meth c cX6_shot 8 RX6 (some .int)) {r : Int32} {st' : MS} : ∀ (st : MS) (x1 : Int32) (x2 : Int32) (x3 : Int32) (x4 : Int32) (x5 : Int32) (x6 : Int32) (y1 : Int32) (H : Heap) (locs : List Loc) (ls : Array Slot), f_X6_shot_124 st x1 x2 x3 x4 x5 x6 y1 = some (r, st') → MW G A ad st H → va_S A s.heap H locs → lv_has ls 8 [(0, .ref (ad 0)), (1, .int x1), (2, .int x2), (3, .int x3), (4, .int x4), (5, .int x5), (6, .int x6)] → W p l e ({ frames := 2, cells := 0, slots := 0, locals := 43 } : Room) s m args below meth c H locs 0 0 (MQ below (QM G A ad (some (.int r)) st') args s 0 0 A) (F0 m 124 ls [.int y1, .ref (ad 0)]) := by
  have ⟨hx, hb, hr, hml, hown, hT, hlocks, hK⟩ := B
  intro st x1 x2 x3 x4 x5 x6 y1 H locs ls h hM hS hl
  rw [f_X6_shot_124] at h
  obtain ⟨r1, t2, e3, h⟩ := bd_e h
  refine mw_callV B hM hS [.int y1] (n := 1) (v := (some (.int r1))) (c_X6_fails e3) wm_RX6_102 wi_yX6_fails ws_yX6_fails wc_yX6_fails rfl rfl (by decide +kernel) ⟨Nat.le_of_ble_eq_true rfl, Nat.le_of_ble_eq_true rfl⟩ ⟨Nat.le_refl 0, Nat.le_refl 0⟩ rfl hl.1 (Nat.le_of_ble_eq_true rfl) rfl dX6_shot_124 (fun H locs hM hS => ?_)
  refine lv_if_eq (tgt := 132) hx hb dX6_shot_127 (by decide) (fun c4 => ?_) (fun c4 => ?_)
  · have h := bi_t c4 h
    refine lv_aload_n hx hb dX6_shot_132 rfl (lv_at hl 0 rfl) ?_
    refine mw_get B hM 4 (by decide) wf_RX6_13 rfl (v := .ref (ad 4)) rfl dX6_shot_133 ?_
    refine lv_aload_n hx hb dX6_shot_136 rfl (lv_at hl 0 rfl) ?_
    refine mw_get B hM 1 (by decide) wf_RX6_88 rfl (v := .int (t2.1 1)) rfl dX6_shot_137 ?_
    refine lv_iload_n hx hb dX6_shot_140 rfl (lv_at hl 1 rfl) ?_
    obtain ⟨g5, h⟩ := gd_e h
    refine mw_cast B hM hS 4 (by decide) (by decide) rfl g5 dX6_shot_141 (fun H locs hM hS => ?_)
    refine lv_aload_n hx hb dX6_shot_142 rfl (lv_at hl 0 rfl) ?_
    refine mw_get B hM 5 (by decide) wf_RX6_17 rfl (v := .ref (ad 5)) rfl dX6_shot_143 ?_
    refine lv_aload_n hx hb dX6_shot_146 rfl (lv_at hl 0 rfl) ?_
    refine mw_get B hM 1 (by decide) wf_RX6_88 rfl (v := .int ((setA t2 4 (t2.1 1).toNatClampNeg (vp_nar .char x1)).1 1)) rfl dX6_shot_147 ?_
    refine lv_iload_n hx hb dX6_shot_150 rfl (lv_at hl 2 rfl) ?_
    obtain ⟨g6, h⟩ := gd_e h
    refine mw_iast B hM hS 5 (by decide) (by decide) rfl g6 dX6_shot_151 (fun H locs hM hS => ?_)
    refine lv_aload_n hx hb dX6_shot_152 rfl (lv_at hl 0 rfl) ?_
    refine mw_get B hM 6 (by decide) wf_RX6_20 rfl (v := .ref (ad 6)) rfl dX6_shot_153 ?_
    refine lv_aload_n hx hb dX6_shot_156 rfl (lv_at hl 0 rfl) ?_
    refine mw_get B hM 1 (by decide) wf_RX6_88 rfl (v := .int ((setA (setA t2 4 (t2.1 1).toNatClampNeg (vp_nar .char x1)) 5 ((setA t2 4 (t2.1 1).toNatClampNeg (vp_nar .char x1)).1 1).toNatClampNeg x2).1 1)) rfl dX6_shot_157 ?_
    refine lv_iload_n hx hb dX6_shot_160 rfl (lv_at hl 3 rfl) ?_
    obtain ⟨g7, h⟩ := gd_e h
    refine mw_iast B hM hS 6 (by decide) (by decide) rfl g7 dX6_shot_161 (fun H locs hM hS => ?_)
    refine lv_aload_n hx hb dX6_shot_162 rfl (lv_at hl 0 rfl) ?_
    refine mw_get B hM 9 (by decide) wf_RX6_30 rfl (v := .ref (ad 9)) rfl dX6_shot_163 ?_
    refine lv_aload_n hx hb dX6_shot_166 rfl (lv_at hl 0 rfl) ?_
    refine mw_get B hM 1 (by decide) wf_RX6_88 rfl (v := .int ((setA (setA (setA t2 4 (t2.1 1).toNatClampNeg (vp_nar .char x1)) 5 ((setA t2 4 (t2.1 1).toNatClampNeg (vp_nar .char x1)).1 1).toNatClampNeg x2) 6 ((setA (setA t2 4 (t2.1 1).toNatClampNeg (vp_nar .char x1)) 5 ((setA t2 4 (t2.1 1).toNatClampNeg (vp_nar .char x1)).1 1).toNatClampNeg x2).1 1).toNatClampNeg x3).1 1)) rfl dX6_shot_167 ?_
    refine lv_aload_n hx hb dX6_shot_170 rfl (lv_at hl 0 rfl) ?_
    refine mw_get B hM 15 (by decide) wf_RX6_106 rfl (v := .int ((setA (setA (setA t2 4 (t2.1 1).toNatClampNeg (vp_nar .char x1)) 5 ((setA t2 4 (t2.1 1).toNatClampNeg (vp_nar .char x1)).1 1).toNatClampNeg x2) 6 ((setA (setA t2 4 (t2.1 1).toNatClampNeg (vp_nar .char x1)) 5 ((setA t2 4 (t2.1 1).toNatClampNeg (vp_nar .char x1)).1 1).toNatClampNeg x2).1 1).toNatClampNeg x3).1 15)) rfl dX6_shot_171 ?_
    refine lv_if_eq (tgt := 182) hx hb dX6_shot_174 (by decide) (fun c8 => ?_) (fun c8 => ?_)
    · have h := bi_t c8 h
      refine lv_iconst (v := (-1)) hx hb dX6_shot_182 (by decide) ?_
      exact w_X6_shot_183 B _ _ _ _ _ _ _ _ h hM hS (lv_sub hl [0, 4, 6] rfl)
    · have h := bi_f c8 h
      refine lv_iload hx hb dX6_shot_177 (lv_at hl 5 rfl) ?_
      refine lv_goto (tgt := 183) hx hb dX6_shot_179 (by decide) ?_
      exact w_X6_shot_183 B _ _ _ _ _ _ _ _ h hM hS (lv_sub hl [0, 4, 6] rfl)
  · have h := bi_f c4 h
    refine lv_iconst (v := 0) hx hb dX6_shot_130 (by decide) ?_
    cases h
    exact mw_iret B hM hS dX6_shot_131
set_option maxHeartbeats 4000000 in
set_option maxRecDepth 100000 in
theorem w_X6_shot_96 {p : Program} {l : Launch} {e : Env} {s : State} {m : MethodId} {args : Array Value} {below : List Frame} {meth : Method} {c : Code} {G : GG} {A : Nat → Prop} {ad : Nat → Nat} (B : MB G p s m args meth c cX6_shot 8 RX6 (some .int)) {r : Int32} {st' : MS} : ∀ (st : MS) (x1 : Int32) (x2 : Int32) (x3 : Int32) (x4 : Int32) (x5 : Int32) (y0 : Int32) (H : Heap) (locs : List Loc) (ls : Array Slot), f_X6_shot_96 st x1 x2 x3 x4 x5 y0 = some (r, st') → MW G A ad st H → va_S A s.heap H locs → lv_has ls 8 [(0, .ref (ad 0)), (1, .int x1), (2, .int x2), (3, .int x3), (4, .int x4), (5, .int x5)] → W p l e ({ frames := 2, cells := 0, slots := 0, locals := 43 } : Room) s m args below meth c H locs 0 0 (MQ below (QM G A ad (some (.int r)) st') args s 0 0 A) (F0 m 96 ls [.int y0]) := by
  have ⟨hx, hb, hr, hml, hown, hT, hlocks, hK⟩ := B
  intro st x1 x2 x3 x4 x5 y0 H locs ls h hM hS hl
  rw [f_X6_shot_96] at h
  refine lv_istore (lv' := [(6, .int y0), (0, .ref (ad 0)), (1, .int x1), (2, .int x2), (3, .int x3), (4, .int x4), (5, .int x5)]) hx hb dX6_shot_96 hl (by decide) rfl (fun ls hl => ?_)
  refine lv_aload_n hx hb dX6_shot_98 rfl (lv_at hl 1 rfl) ?_
  refine lv_iload hx hb dX6_shot_99 (lv_at hl 0 rfl) ?_
  refine lv_bipush (v := 32) hx hb dX6_shot_101 (by decide) ?_
  refine lv_icmp_ne (tgt := 110) hx hb dX6_shot_103 (by decide) (fun c1 => ?_) (fun c1 => ?_)
  · have h := bi_f c1 h
    refine lv_aload_n hx hb dX6_shot_110 rfl (lv_at hl 1 rfl) ?_
    refine mw_get B hM 1 (by decide) wf_RX6_88 rfl (v := .int (st.1 1)) rfl dX6_shot_111 ?_
    refine lv_bipush (v := 24) hx hb dX6_shot_114 (by decide) ?_
    refine lv_icmp_ne (tgt := 123) hx hb dX6_shot_116 (by decide) (fun c2 => ?_) (fun c2 => ?_)
    · have h := bi_f c2 h
      refine lv_iconst (v := 0) hx hb dX6_shot_123 (by decide) ?_
      exact w_X6_shot_124 B _ _ _ _ _ _ _ _ _ _ _ h hM hS (lv_sub hl [1, 2, 3, 4, 5, 6, 0] rfl)
    · have h := bi_t c2 h
      refine lv_iconst (v := 3) hx hb dX6_shot_119 (by decide) ?_
      refine lv_goto (tgt := 124) hx hb dX6_shot_120 (by decide) ?_
      exact w_X6_shot_124 B _ _ _ _ _ _ _ _ _ _ _ h hM hS (lv_sub hl [1, 2, 3, 4, 5, 6, 0] rfl)
  · have h := bi_t c1 h
    refine lv_iconst (v := 2) hx hb dX6_shot_106 (by decide) ?_
    refine lv_goto (tgt := 124) hx hb dX6_shot_107 (by decide) ?_
    exact w_X6_shot_124 B _ _ _ _ _ _ _ _ _ _ _ h hM hS (lv_sub hl [1, 2, 3, 4, 5, 6, 0] rfl)
set_option maxHeartbeats 4000000 in
set_option maxRecDepth 100000 in
theorem w_X6_shot_76 {p : Program} {l : Launch} {e : Env} {s : State} {m : MethodId} {args : Array Value} {below : List Frame} {meth : Method} {c : Code} {G : GG} {A : Nat → Prop} {ad : Nat → Nat} (B : MB G p s m args meth c cX6_shot 8 RX6 (some .int)) {r : Int32} {st' : MS} : ∀ (st : MS) (x1 : Int32) (x2 : Int32) (x3 : Int32) (x4 : Int32) (y0 : Int32) (H : Heap) (locs : List Loc) (ls : Array Slot), f_X6_shot_76 st x1 x2 x3 x4 y0 = some (r, st') → MW G A ad st H → va_S A s.heap H locs → lv_has ls 8 [(0, .ref (ad 0)), (1, .int x1), (2, .int x2), (3, .int x3), (4, .int x4)] → W p l e ({ frames := 2, cells := 0, slots := 0, locals := 43 } : Room) s m args below meth c H locs 0 0 (MQ below (QM G A ad (some (.int r)) st') args s 0 0 A) (F0 m 76 ls [.int y0]) := by
  have ⟨hx, hb, hr, hml, hown, hT, hlocks, hK⟩ := B
  intro st x1 x2 x3 x4 y0 H locs ls h hM hS hl
  rw [f_X6_shot_76] at h
  refine lv_istore (lv' := [(5, .int y0), (0, .ref (ad 0)), (1, .int x1), (2, .int x2), (3, .int x3), (4, .int x4)]) hx hb dX6_shot_76 hl (by decide) rfl (fun ls hl => ?_)
  refine lv_aload_n hx hb dX6_shot_78 rfl (lv_at hl 1 rfl) ?_
  refine mw_get B hM 15 (by decide) wf_RX6_106 rfl (v := .int (st.1 15)) rfl dX6_shot_79 ?_
  refine lv_if_eq (tgt := 94) hx hb dX6_shot_82 (by decide) (fun c1 => ?_) (fun c1 => ?_)
  · have h := bi_t c1 h
    refine lv_bipush (v := 45) hx hb dX6_shot_94 (by decide) ?_
    exact w_X6_shot_96 B _ _ _ _ _ _ _ _ _ _ h hM hS (lv_sub hl [1, 2, 3, 4, 5, 0] rfl)
  · have h := bi_f c1 h
    refine lv_aload_n hx hb dX6_shot_85 rfl (lv_at hl 1 rfl) ?_
    refine lv_iload hx hb dX6_shot_86 (lv_at hl 0 rfl) ?_
    obtain ⟨r2, t3, e4, h⟩ := bd_e h
    refine mw_callV B hM hS [.int y0] (n := 1) (v := (some (.int r2))) (c_X6_freeLetter e4) wm_RX6_110 wi_yX6_freeLetter ws_yX6_freeLetter wc_yX6_freeLetter rfl rfl (by decide +kernel) ⟨Nat.le_of_ble_eq_true rfl, Nat.le_of_ble_eq_true rfl⟩ ⟨Nat.le_refl 0, Nat.le_refl 0⟩ rfl hl.1 (Nat.le_of_ble_eq_true rfl) rfl dX6_shot_88 (fun H locs hM hS => ?_)
    refine lv_goto (tgt := 96) hx hb dX6_shot_91 (by decide) ?_
    exact w_X6_shot_96 B _ _ _ _ _ _ _ _ _ _ h hM hS (lv_sub hl [1, 2, 3, 4, 5, 0] rfl)
set_option maxHeartbeats 4000000 in
set_option maxRecDepth 100000 in
theorem w_X6_shot_75 {p : Program} {l : Launch} {e : Env} {s : State} {m : MethodId} {args : Array Value} {below : List Frame} {meth : Method} {c : Code} {G : GG} {A : Nat → Prop} {ad : Nat → Nat} (B : MB G p s m args meth c cX6_shot 8 RX6 (some .int)) {r : Int32} {st' : MS} : ∀ (st : MS) (x1 : Int32) (x2 : Int32) (x3 : Int32) (x4 : Int32) (H : Heap) (locs : List Loc) (ls : Array Slot), f_X6_shot_75 st x1 x2 x3 x4 = some (r, st') → MW G A ad st H → va_S A s.heap H locs → lv_has ls 8 [(0, .ref (ad 0)), (1, .int x1), (2, .int x2), (3, .int x3), (4, .int x4)] → W p l e ({ frames := 2, cells := 0, slots := 0, locals := 43 } : Room) s m args below meth c H locs 0 0 (MQ below (QM G A ad (some (.int r)) st') args s 0 0 A) (F0 m 75 ls []) := by
  have ⟨hx, hb, hr, hml, hown, hT, hlocks, hK⟩ := B
  intro st x1 x2 x3 x4 H locs ls h hM hS hl
  rw [f_X6_shot_75] at h
  refine lv_iconst (v := 0) hx hb dX6_shot_75 (by decide) ?_
  exact w_X6_shot_76 B _ _ _ _ _ _ _ _ _ h hM hS (lv_sub hl [0, 1, 2, 3, 4] rfl)
set_option maxHeartbeats 4000000 in
set_option maxRecDepth 100000 in
theorem w_X6_shot_38 {p : Program} {l : Launch} {e : Env} {s : State} {m : MethodId} {args : Array Value} {below : List Frame} {meth : Method} {c : Code} {G : GG} {A : Nat → Prop} {ad : Nat → Nat} (B : MB G p s m args meth c cX6_shot 8 RX6 (some .int)) {r : Int32} {st' : MS} : ∀ (st : MS) (x1 : Int32) (x2 : Int32) (x3 : Int32) (x4 : Int32) (y1 : Int32) (H : Heap) (locs : List Loc) (ls : Array Slot), f_X6_shot_38 st x1 x2 x3 x4 y1 = some (r, st') → MW G A ad st H → va_S A s.heap H locs → lv_has ls 8 [(0, .ref (ad 0)), (1, .int x1), (2, .int x2), (3, .int x3), (4, .int x4)] → W p l e ({ frames := 2, cells := 0, slots := 0, locals := 43 } : Room) s m args below meth c H locs 0 0 (MQ below (QM G A ad (some (.int r)) st') args s 0 0 A) (F0 m 38 ls [.int y1, .ref (ad 0)]) := by
  have ⟨hx, hb, hr, hml, hown, hT, hlocks, hK⟩ := B
  intro st x1 x2 x3 x4 y1 H locs ls h hM hS hl
  rw [f_X6_shot_38] at h
  obtain ⟨r1, t2, e3, h⟩ := bd_e h
  refine mw_callV B hM hS [.int y1] (n := 1) (v := (some (.int r1))) (c_X6_fails e3) wm_RX6_102 wi_yX6_fails ws_yX6_fails wc_yX6_fails rfl rfl (by decide +kernel) ⟨Nat.le_of_ble_eq_true rfl, Nat.le_of_ble_eq_true rfl⟩ ⟨Nat.le_refl 0, Nat.le_refl 0⟩ rfl hl.1 (Nat.le_of_ble_eq_true rfl) rfl dX6_shot_38 (fun H locs hM hS => ?_)
  refine lv_if_eq (tgt := 46) hx hb dX6_shot_41 (by decide) (fun c4 => ?_) (fun c4 => ?_)
  · have h := bi_t c4 h
    refine lv_aload_n hx hb dX6_shot_46 rfl (lv_at hl 0 rfl) ?_
    refine mw_get B hM 15 (by decide) wf_RX6_106 rfl (v := .int (t2.1 15)) rfl dX6_shot_47 ?_
    refine lv_if_eq (tgt := 75) hx hb dX6_shot_50 (by decide) (fun c5 => ?_) (fun c5 => ?_)
    · have h := bi_t c5 h
      exact w_X6_shot_75 B _ _ _ _ _ _ _ _ h hM hS (lv_sub hl [0, 1, 2, 3, 4] rfl)
    · have h := bi_f c5 h
      refine lv_iload hx hb dX6_shot_53 (lv_at hl 4 rfl) ?_
      refine lv_if_le (tgt := 75) hx hb dX6_shot_55 (by decide) (fun c6 => ?_) (fun c6 => ?_)
      · have h := bi_t c6 h
        exact w_X6_shot_75 B _ _ _ _ _ _ _ _ h hM hS (lv_sub hl [0, 1, 2, 3, 4] rfl)
      · have h := bi_f c6 h
        refine lv_aload_n hx hb dX6_shot_58 rfl (lv_at hl 0 rfl) ?_
        refine mw_get B hM 9 (by decide) wf_RX6_30 rfl (v := .ref (ad 9)) rfl dX6_shot_59 ?_
        refine lv_aload_n hx hb dX6_shot_62 rfl (lv_at hl 0 rfl) ?_
        refine mw_get B hM 3 (by decide) wf_RX6_7 rfl (v := .ref (ad 3)) rfl dX6_shot_63 ?_
        refine lv_iload hx hb dX6_shot_66 (lv_at hl 4 rfl) ?_
        refine lv_iconst (v := 1) hx hb dX6_shot_68 (by decide) ?_
        refine lv_isub hx hb dX6_shot_69 ?_
        obtain ⟨g7, h⟩ := gd_e h
        refine mw_iald B hM 3 (by decide) (by decide) rfl g7 dX6_shot_70 ?_
        obtain ⟨g8, h⟩ := gd_e h
        refine mw_iald B hM 9 (by decide) (by decide) rfl g8 dX6_shot_71 ?_
        refine lv_goto (tgt := 76) hx hb dX6_shot_72 (by decide) ?_
        exact w_X6_shot_76 B _ _ _ _ _ _ _ _ _ h hM hS (lv_sub hl [0, 1, 2, 3, 4] rfl)
  · have h := bi_f c4 h
    refine lv_iconst (v := 0) hx hb dX6_shot_44 (by decide) ?_
    cases h
    exact mw_iret B hM hS dX6_shot_45
set_option maxHeartbeats 4000000 in
set_option maxRecDepth 100000 in
theorem w_X6_shot_37 {p : Program} {l : Launch} {e : Env} {s : State} {m : MethodId} {args : Array Value} {below : List Frame} {meth : Method} {c : Code} {G : GG} {A : Nat → Prop} {ad : Nat → Nat} (B : MB G p s m args meth c cX6_shot 8 RX6 (some .int)) {r : Int32} {st' : MS} : ∀ (st : MS) (x1 : Int32) (x2 : Int32) (x3 : Int32) (x4 : Int32) (H : Heap) (locs : List Loc) (ls : Array Slot), f_X6_shot_37 st x1 x2 x3 x4 = some (r, st') → MW G A ad st H → va_S A s.heap H locs → lv_has ls 8 [(0, .ref (ad 0)), (1, .int x1), (2, .int x2), (3, .int x3), (4, .int x4)] → W p l e ({ frames := 2, cells := 0, slots := 0, locals := 43 } : Room) s m args below meth c H locs 0 0 (MQ below (QM G A ad (some (.int r)) st') args s 0 0 A) (F0 m 37 ls [.ref (ad 0)]) := by
  have ⟨hx, hb, hr, hml, hown, hT, hlocks, hK⟩ := B
  intro st x1 x2 x3 x4 H locs ls h hM hS hl
  rw [f_X6_shot_37] at h
  refine lv_iconst (v := 1) hx hb dX6_shot_37 (by decide) ?_
  exact w_X6_shot_38 B _ _ _ _ _ _ _ _ _ h hM hS (lv_sub hl [0, 1, 2, 3, 4] rfl)
set_option maxHeartbeats 4000000 in
set_option maxRecDepth 100000 in
theorem w_X6_shot {p : Program} {l : Launch} {e : Env} {s : State} {m : MethodId} {args : Array Value} {below : List Frame} {meth : Method} {c : Code} {G : GG} {A : Nat → Prop} {ad : Nat → Nat} (B : MB G p s m args meth c cX6_shot 8 RX6 (some .int)) {r : Int32} {st' : MS} : ∀ (st : MS) (x1 : Int32) (x2 : Int32) (x3 : Int32) (x4 : Int32) (H : Heap) (locs : List Loc) (ls : Array Slot), f_X6_shot st x1 x2 x3 x4 = some (r, st') → MW G A ad st H → va_S A s.heap H locs → lv_has ls 8 [(0, .ref (ad 0)), (1, .int x1), (2, .int x2), (3, .int x3), (4, .int x4)] → W p l e ({ frames := 2, cells := 0, slots := 0, locals := 43 } : Room) s m args below meth c H locs 0 0 (MQ below (QM G A ad (some (.int r)) st') args s 0 0 A) (F0 m 0 ls []) := by
  have ⟨hx, hb, hr, hml, hown, hT, hlocks, hK⟩ := B
  intro st x1 x2 x3 x4 H locs ls h hM hS hl
  rw [f_X6_shot] at h
  refine lv_aload_n hx hb dX6_shot_0 rfl (lv_at hl 0 rfl) ?_
  refine lv_iload_n hx hb dX6_shot_1 rfl (lv_at hl 1 rfl) ?_
  refine lv_iload_n hx hb dX6_shot_2 rfl (lv_at hl 2 rfl) ?_
  obtain ⟨r1, t2, e3, h⟩ := bd_e h
  refine mw_callS B hM hS [.int x1, .int x2] (n := 2) (v := (some (.int r1))) (c_X6_isCamera e3) wm_RX6_98 wt_yX6_isCamera wc_yX6_isCamera rfl rfl (by decide +kernel) ⟨Nat.le_of_ble_eq_true rfl, Nat.le_of_ble_eq_true rfl⟩ ⟨Nat.le_refl 0, Nat.le_refl 0⟩ rfl hl.1 (Nat.le_of_ble_eq_true rfl) rfl dX6_shot_3 (fun H locs hM hS => ?_)
  refine lv_if_eq (tgt := 37) hx hb dX6_shot_6 (by decide) (fun c4 => ?_) (fun c4 => ?_)
  · have h := bi_t c4 h
    exact w_X6_shot_37 B _ _ _ _ _ _ _ _ h hM hS (lv_sub hl [0, 1, 2, 3, 4] rfl)
  · have h := bi_f c4 h
    refine lv_iload_n hx hb dX6_shot_9 rfl (lv_at hl 3 rfl) ?_
    refine lv_iconst (v := 1) hx hb dX6_shot_10 (by decide) ?_
    refine lv_sipush (v := 240) hx hb dX6_shot_11 (by decide) ?_
    obtain ⟨r5, t6, e7, h⟩ := bd_e h
    refine mw_callS B hM hS [.int x3, .int 1, .int 240] (n := 3) (v := (some (.int r5))) (c_X6_in e7) wm_RX6_91 wt_yX6_in wc_yX6_in rfl rfl (by decide +kernel) ⟨Nat.le_of_ble_eq_true rfl, Nat.le_of_ble_eq_true rfl⟩ ⟨Nat.le_refl 0, Nat.le_refl 0⟩ rfl hl.1 (Nat.le_of_ble_eq_true rfl) rfl dX6_shot_14 (fun H locs hM hS => ?_)
    refine lv_if_eq (tgt := 37) hx hb dX6_shot_17 (by decide) (fun c8 => ?_) (fun c8 => ?_)
    · have h := bi_t c8 h
      exact w_X6_shot_37 B _ _ _ _ _ _ _ _ h hM hS (lv_sub hl [0, 1, 2, 3, 4] rfl)
    · have h := bi_f c8 h
      refine lv_iload hx hb dX6_shot_20 (lv_at hl 4 rfl) ?_
      refine lv_iconst (v := 0) hx hb dX6_shot_22 (by decide) ?_
      refine lv_aload_n hx hb dX6_shot_23 rfl (lv_at hl 0 rfl) ?_
      refine mw_get B hM 2 (by decide) wf_RX6_95 rfl (v := .int (t6.1 2)) rfl dX6_shot_24 ?_
      obtain ⟨r9, t10, e11, h⟩ := bd_e h
      refine mw_callS B hM hS [.int x4, .int 0, .int (t6.1 2)] (n := 3) (v := (some (.int r9))) (c_X6_in e11) wm_RX6_91 wt_yX6_in wc_yX6_in rfl rfl (by decide +kernel) ⟨Nat.le_of_ble_eq_true rfl, Nat.le_of_ble_eq_true rfl⟩ ⟨Nat.le_refl 0, Nat.le_refl 0⟩ rfl hl.1 (Nat.le_of_ble_eq_true rfl) rfl dX6_shot_27 (fun H locs hM hS => ?_)
      refine lv_if_eq (tgt := 37) hx hb dX6_shot_30 (by decide) (fun c12 => ?_) (fun c12 => ?_)
      · have h := bi_t c12 h
        exact w_X6_shot_37 B _ _ _ _ _ _ _ _ h hM hS (lv_sub hl [0, 1, 2, 3, 4] rfl)
      · have h := bi_f c12 h
        refine lv_iconst (v := 0) hx hb dX6_shot_33 (by decide) ?_
        refine lv_goto (tgt := 38) hx hb dX6_shot_34 (by decide) ?_
        exact w_X6_shot_38 B _ _ _ _ _ _ _ _ _ h hM hS (lv_sub hl [0, 1, 2, 3, 4] rfl)
theorem c_X6_shot {l : Launch} {G : GG} {A : Nat → Prop} {ad : Nat → Nat} {st : MS} {x1 : Int32} {x2 : Int32} {x3 : Int32} {x4 : Int32} {r : Int32} {st' : MS} (h : f_X6_shot st x1 x2 x3 x4 = some (r, st')) : Met l yX6_shot (Cond.code yX6_shot cX6_shot 8 (some .int) :: TG) ({ frames := 2, cells := 0, slots := 0, locals := 43 } : Room) (PM G A ad st [.ref (ad 0), .int x1, .int x2, .int x3, .int x4]) (QM G A ad (some (.int r)) st') 0 0 A :=
  mw_of (own := RX6) (by decide +kernel) rfl rfl rfl (Nat.le_of_ble_eq_true rfl) fun p e s m below meth c ls B hM hS hl => w_X6_shot B _ _ _ _ _ _ _ _ h hM hS hl
set_option maxHeartbeats 4000000 in
set_option maxRecDepth 100000 in
theorem w_X6_drop_26 {p : Program} {l : Launch} {e : Env} {s : State} {m : MethodId} {args : Array Value} {below : List Frame} {meth : Method} {c : Code} {G : GG} {A : Nat → Prop} {ad : Nat → Nat} (B : MB G p s m args meth c cX6_drop 3 RX6 (some .int)) {r : Int32} {st' : MS} : ∀ (st : MS) (x1 : Int32) (y1 : Int32) (H : Heap) (locs : List Loc) (ls : Array Slot), f_X6_drop_26 st x1 y1 = some (r, st') → MW G A ad st H → va_S A s.heap H locs → lv_has ls 3 [(0, .ref (ad 0)), (1, .int x1)] → W p l e ({ frames := 2, cells := 0, slots := 0, locals := 43 } : Room) s m args below meth c H locs 0 0 (MQ below (QM G A ad (some (.int r)) st') args s 0 0 A) (F0 m 26 ls [.int y1, .ref (ad 0)]) := by
  have ⟨hx, hb, hr, hml, hown, hT, hlocks, hK⟩ := B
  intro st x1 y1 H locs ls h hM hS hl
  rw [f_X6_drop_26] at h
  obtain ⟨r1, t2, e3, h⟩ := bd_e h
  refine mw_callV B hM hS [.int y1] (n := 1) (v := (some (.int r1))) (c_X6_fails e3) wm_RX6_102 wi_yX6_fails ws_yX6_fails wc_yX6_fails rfl rfl (by decide +kernel) ⟨Nat.le_of_ble_eq_true rfl, Nat.le_of_ble_eq_true rfl⟩ ⟨Nat.le_refl 0, Nat.le_refl 0⟩ rfl hl.1 (Nat.le_of_ble_eq_true rfl) rfl dX6_drop_26 (fun H locs hM hS => ?_)
  refine lv_if_eq (tgt := 34) hx hb dX6_drop_29 (by decide) (fun c4 => ?_) (fun c4 => ?_)
  · have h := bi_t c4 h
    refine lv_aload_n hx hb dX6_drop_34 rfl (lv_at hl 0 rfl) ?_
    refine lv_iload_n hx hb dX6_drop_35 rfl (lv_at hl 1 rfl) ?_
    obtain ⟨r5, t6, e7, h⟩ := bd_e h
    refine mw_callV B hM hS [.int x1] (n := 1) (v := (some (.int r5))) (c_X6_placeOf e7) wm_RX6_121 wi_yX6_placeOf ws_yX6_placeOf wc_yX6_placeOf rfl rfl (by decide +kernel) ⟨Nat.le_of_ble_eq_true rfl, Nat.le_of_ble_eq_true rfl⟩ ⟨Nat.le_refl 0, Nat.le_refl 0⟩ rfl hl.1 (Nat.le_of_ble_eq_true rfl) rfl dX6_drop_36 (fun H locs hM hS => ?_)
    refine lv_istore_n (lv' := [(2, .int r5), (0, .ref (ad 0)), (1, .int x1)]) hx hb dX6_drop_39 rfl hl (by decide) rfl (fun ls hl => ?_)
    refine lv_aload_n hx hb dX6_drop_40 rfl (lv_at hl 1 rfl) ?_
    refine lv_iload_n hx hb dX6_drop_41 rfl (lv_at hl 0 rfl) ?_
    obtain ⟨r8, t9, e10, h⟩ := bd_e h
    refine mw_callV B hM hS [.int r5] (n := 1) (v := none) (c_X6_takeOut e10) wm_RX6_125 wi_yX6_takeOut ws_yX6_takeOut wc_yX6_takeOut rfl rfl (by decide +kernel) ⟨Nat.le_of_ble_eq_true rfl, Nat.le_of_ble_eq_true rfl⟩ ⟨Nat.le_refl 0, Nat.le_refl 0⟩ rfl hl.1 (Nat.le_of_ble_eq_true rfl) rfl dX6_drop_42 (fun H locs hM hS => ?_)
    refine lv_aload_n hx hb dX6_drop_45 rfl (lv_at hl 1 rfl) ?_
    refine mw_get B hM 7 (by decide) wf_RX6_23 rfl (v := .ref (ad 7)) rfl dX6_drop_46 ?_
    refine lv_iload_n hx hb dX6_drop_49 rfl (lv_at hl 2 rfl) ?_
    refine lv_aload_n hx hb dX6_drop_50 rfl (lv_at hl 1 rfl) ?_
    refine mw_get B hM 7 (by decide) wf_RX6_23 rfl (v := .ref (ad 7)) rfl dX6_drop_51 ?_
    refine lv_iload_n hx hb dX6_drop_54 rfl (lv_at hl 2 rfl) ?_
    obtain ⟨g11, h⟩ := gd_e h
    refine mw_iald B hM 7 (by decide) (by decide) rfl g11 dX6_drop_55 ?_
    refine lv_iconst (v := 1) hx hb dX6_drop_56 (by decide) ?_
    refine lv_iadd hx hb dX6_drop_57 ?_
    obtain ⟨g12, h⟩ := gd_e h
    refine mw_iast B hM hS 7 (by decide) (by decide) rfl g12 dX6_drop_58 (fun H locs hM hS => ?_)
    refine lv_aload_n hx hb dX6_drop_59 rfl (lv_at hl 1 rfl) ?_
    refine mw_get B hM 20 (by decide) wf_RX6_60 rfl (v := .ref (ad 20)) rfl dX6_drop_60 ?_
    refine lv_iload_n hx hb dX6_drop_63 rfl (lv_at hl 2 rfl) ?_
    refine lv_iconst (v := (-1)) hx hb dX6_drop_64 (by decide) ?_
    obtain ⟨g13, h⟩ := gd_e h
    refine mw_iast B hM hS 20 (by decide) (by decide) rfl g13 dX6_drop_65 (fun H locs hM hS => ?_)
    refine lv_iload_n hx hb dX6_drop_66 rfl (lv_at hl 0 rfl) ?_
    cases h
    exact mw_iret B hM hS dX6_drop_67
  · have h := bi_f c4 h
    refine lv_iconst (v := 0) hx hb dX6_drop_32 (by decide) ?_
    cases h
    exact mw_iret B hM hS dX6_drop_33
set_option maxHeartbeats 4000000 in
set_option maxRecDepth 100000 in
theorem w_X6_drop {p : Program} {l : Launch} {e : Env} {s : State} {m : MethodId} {args : Array Value} {below : List Frame} {meth : Method} {c : Code} {G : GG} {A : Nat → Prop} {ad : Nat → Nat} (B : MB G p s m args meth c cX6_drop 3 RX6 (some .int)) {r : Int32} {st' : MS} : ∀ (st : MS) (x1 : Int32) (H : Heap) (locs : List Loc) (ls : Array Slot), f_X6_drop st x1 = some (r, st') → MW G A ad st H → va_S A s.heap H locs → lv_has ls 3 [(0, .ref (ad 0)), (1, .int x1)] → W p l e ({ frames := 2, cells := 0, slots := 0, locals := 43 } : Room) s m args below meth c H locs 0 0 (MQ below (QM G A ad (some (.int r)) st') args s 0 0 A) (F0 m 0 ls []) := by
  have ⟨hx, hb, hr, hml, hown, hT, hlocks, hK⟩ := B
  intro st x1 H locs ls h hM hS hl
  rw [f_X6_drop] at h
  refine lv_aload_n hx hb dX6_drop_0 rfl (lv_at hl 0 rfl) ?_
  refine lv_aload_n hx hb dX6_drop_1 rfl (lv_at hl 0 rfl) ?_
  refine lv_iload_n hx hb dX6_drop_2 rfl (lv_at hl 1 rfl) ?_
  obtain ⟨r1, t2, e3, h⟩ := bd_e h
  refine mw_callV B hM hS [.int x1] (n := 1) (v := (some (.int r1))) (c_X6_isShot e3) wm_RX6_118 wi_yX6_isShot ws_yX6_isShot wc_yX6_isShot rfl rfl (by decide +kernel) ⟨Nat.le_of_ble_eq_true rfl, Nat.le_of_ble_eq_true rfl⟩ ⟨Nat.le_refl 0, Nat.le_refl 0⟩ rfl hl.1 (Nat.le_of_ble_eq_true rfl) rfl dX6_drop_3 (fun H locs hM hS => ?_)
  refine lv_if_ne (tgt := 13) hx hb dX6_drop_6 (by decide) (fun c4 => ?_) (fun c4 => ?_)
  · have h := bi_f c4 h
    refine lv_aload_n hx hb dX6_drop_13 rfl (lv_at hl 0 rfl) ?_
    refine lv_iload_n hx hb dX6_drop_14 rfl (lv_at hl 1 rfl) ?_
    obtain ⟨r5, t6, e7, h⟩ := bd_e h
    refine mw_callV B hM hS [.int x1] (n := 1) (v := (some (.int r5))) (c_X6_placeOf e7) wm_RX6_121 wi_yX6_placeOf ws_yX6_placeOf wc_yX6_placeOf rfl rfl (by decide +kernel) ⟨Nat.le_of_ble_eq_true rfl, Nat.le_of_ble_eq_true rfl⟩ ⟨Nat.le_refl 0, Nat.le_refl 0⟩ rfl hl.1 (Nat.le_of_ble_eq_true rfl) rfl dX6_drop_15 (fun H locs hM hS => ?_)
    refine lv_if_ge (tgt := 25) hx hb dX6_drop_18 (by decide) (fun c8 => ?_) (fun c8 => ?_)
    · have h := bi_t c8 h
      refine lv_iconst (v := 0) hx hb dX6_drop_25 (by decide) ?_
      exact w_X6_drop_26 B _ _ _ _ _ _ h hM hS (lv_sub hl [0, 1] rfl)
    · have h := bi_f c8 h
      refine lv_iconst (v := 2) hx hb dX6_drop_21 (by decide) ?_
      refine lv_goto (tgt := 26) hx hb dX6_drop_22 (by decide) ?_
      exact w_X6_drop_26 B _ _ _ _ _ _ h hM hS (lv_sub hl [0, 1] rfl)
  · have h := bi_t c4 h
    refine lv_iconst (v := 1) hx hb dX6_drop_9 (by decide) ?_
    refine lv_goto (tgt := 26) hx hb dX6_drop_10 (by decide) ?_
    exact w_X6_drop_26 B _ _ _ _ _ _ h hM hS (lv_sub hl [0, 1] rfl)
theorem c_X6_drop {l : Launch} {G : GG} {A : Nat → Prop} {ad : Nat → Nat} {st : MS} {x1 : Int32} {r : Int32} {st' : MS} (h : f_X6_drop st x1 = some (r, st')) : Met l yX6_drop (Cond.code yX6_drop cX6_drop 3 (some .int) :: TG) ({ frames := 2, cells := 0, slots := 0, locals := 43 } : Room) (PM G A ad st [.ref (ad 0), .int x1]) (QM G A ad (some (.int r)) st') 0 0 A :=
  mw_of (own := RX6) (by decide +kernel) rfl rfl rfl (Nat.le_of_ble_eq_true rfl) fun p e s m below meth c ls B hM hS hl => w_X6_drop B _ _ _ _ _ h hM hS hl
set_option maxHeartbeats 4000000 in
set_option maxRecDepth 100000 in
theorem w_X6_move_44 {p : Program} {l : Launch} {e : Env} {s : State} {m : MethodId} {args : Array Value} {below : List Frame} {meth : Method} {c : Code} {G : GG} {A : Nat → Prop} {ad : Nat → Nat} (B : MB G p s m args meth c cX6_move 4 RX6 (some .int)) {r : Int32} {st' : MS} : ∀ (st : MS) (x1 : Int32) (x2 : Int32) (y1 : Int32) (H : Heap) (locs : List Loc) (ls : Array Slot), f_X6_move_44 st x1 x2 y1 = some (r, st') → MW G A ad st H → va_S A s.heap H locs → lv_has ls 4 [(0, .ref (ad 0)), (1, .int x1), (2, .int x2)] → W p l e ({ frames := 2, cells := 0, slots := 0, locals := 43 } : Room) s m args below meth c H locs 0 0 (MQ below (QM G A ad (some (.int r)) st') args s 0 0 A) (F0 m 44 ls [.int y1, .ref (ad 0)]) := by
  have ⟨hx, hb, hr, hml, hown, hT, hlocks, hK⟩ := B
  intro st x1 x2 y1 H locs ls h hM hS hl
  rw [f_X6_move_44] at h
  obtain ⟨r1, t2, e3, h⟩ := bd_e h
  refine mw_callV B hM hS [.int y1] (n := 1) (v := (some (.int r1))) (c_X6_fails e3) wm_RX6_102 wi_yX6_fails ws_yX6_fails wc_yX6_fails rfl rfl (by decide +kernel) ⟨Nat.le_of_ble_eq_true rfl, Nat.le_of_ble_eq_true rfl⟩ ⟨Nat.le_refl 0, Nat.le_refl 0⟩ rfl hl.1 (Nat.le_of_ble_eq_true rfl) rfl dX6_move_44 (fun H locs hM hS => ?_)
  refine lv_if_eq (tgt := 52) hx hb dX6_move_47 (by decide) (fun c4 => ?_) (fun c4 => ?_)
  · have h := bi_t c4 h
    refine lv_aload_n hx hb dX6_move_52 rfl (lv_at hl 0 rfl) ?_
    refine lv_iload_n hx hb dX6_move_53 rfl (lv_at hl 1 rfl) ?_
    obtain ⟨r5, t6, e7, h⟩ := bd_e h
    refine mw_callV B hM hS [.int x1] (n := 1) (v := (some (.int r5))) (c_X6_placeOf e7) wm_RX6_121 wi_yX6_placeOf ws_yX6_placeOf wc_yX6_placeOf rfl rfl (by decide +kernel) ⟨Nat.le_of_ble_eq_true rfl, Nat.le_of_ble_eq_true rfl⟩ ⟨Nat.le_refl 0, Nat.le_refl 0⟩ rfl hl.1 (Nat.le_of_ble_eq_true rfl) rfl dX6_move_54 (fun H locs hM hS => ?_)
    refine lv_istore_n (lv' := [(3, .int r5), (0, .ref (ad 0)), (1, .int x1), (2, .int x2)]) hx hb dX6_move_57 rfl hl (by decide) rfl (fun ls hl => ?_)
    refine lv_aload_n hx hb dX6_move_58 rfl (lv_at hl 1 rfl) ?_
    refine lv_iload_n hx hb dX6_move_59 rfl (lv_at hl 0 rfl) ?_
    obtain ⟨r8, t9, e10, h⟩ := bd_e h
    refine mw_callV B hM hS [.int r5] (n := 1) (v := none) (c_X6_takeOut e10) wm_RX6_125 wi_yX6_takeOut ws_yX6_takeOut wc_yX6_takeOut rfl rfl (by decide +kernel) ⟨Nat.le_of_ble_eq_true rfl, Nat.le_of_ble_eq_true rfl⟩ ⟨Nat.le_refl 0, Nat.le_refl 0⟩ rfl hl.1 (Nat.le_of_ble_eq_true rfl) rfl dX6_move_60 (fun H locs hM hS => ?_)
    refine lv_aload_n hx hb dX6_move_63 rfl (lv_at hl 1 rfl) ?_
    refine lv_iload_n hx hb dX6_move_64 rfl (lv_at hl 2 rfl) ?_
    refine lv_iload_n hx hb dX6_move_65 rfl (lv_at hl 3 rfl) ?_
    obtain ⟨r11, t12, e13, h⟩ := bd_e h
    refine mw_callV B hM hS [.int x1, .int x2] (n := 2) (v := none) (c_X6_putIn e13) wm_RX6_114 wi_yX6_putIn ws_yX6_putIn wc_yX6_putIn rfl rfl (by decide +kernel) ⟨Nat.le_of_ble_eq_true rfl, Nat.le_of_ble_eq_true rfl⟩ ⟨Nat.le_refl 0, Nat.le_refl 0⟩ rfl hl.1 (Nat.le_of_ble_eq_true rfl) rfl dX6_move_66 (fun H locs hM hS => ?_)
    refine lv_iload_n hx hb dX6_move_69 rfl (lv_at hl 0 rfl) ?_
    cases h
    exact mw_iret B hM hS dX6_move_70
  · have h := bi_f c4 h
    refine lv_iconst (v := 0) hx hb dX6_move_50 (by decide) ?_
    cases h
    exact mw_iret B hM hS dX6_move_51
set_option maxHeartbeats 4000000 in
set_option maxRecDepth 100000 in
theorem w_X6_move {p : Program} {l : Launch} {e : Env} {s : State} {m : MethodId} {args : Array Value} {below : List Frame} {meth : Method} {c : Code} {G : GG} {A : Nat → Prop} {ad : Nat → Nat} (B : MB G p s m args meth c cX6_move 4 RX6 (some .int)) {r : Int32} {st' : MS} : ∀ (st : MS) (x1 : Int32) (x2 : Int32) (H : Heap) (locs : List Loc) (ls : Array Slot), f_X6_move st x1 x2 = some (r, st') → MW G A ad st H → va_S A s.heap H locs → lv_has ls 4 [(0, .ref (ad 0)), (1, .int x1), (2, .int x2)] → W p l e ({ frames := 2, cells := 0, slots := 0, locals := 43 } : Room) s m args below meth c H locs 0 0 (MQ below (QM G A ad (some (.int r)) st') args s 0 0 A) (F0 m 0 ls []) := by
  have ⟨hx, hb, hr, hml, hown, hT, hlocks, hK⟩ := B
  intro st x1 x2 H locs ls h hM hS hl
  rw [f_X6_move] at h
  refine lv_aload_n hx hb dX6_move_0 rfl (lv_at hl 0 rfl) ?_
  refine lv_aload_n hx hb dX6_move_1 rfl (lv_at hl 0 rfl) ?_
  refine lv_iload_n hx hb dX6_move_2 rfl (lv_at hl 1 rfl) ?_
  obtain ⟨r1, t2, e3, h⟩ := bd_e h
  refine mw_callV B hM hS [.int x1] (n := 1) (v := (some (.int r1))) (c_X6_isShot e3) wm_RX6_118 wi_yX6_isShot ws_yX6_isShot wc_yX6_isShot rfl rfl (by decide +kernel) ⟨Nat.le_of_ble_eq_true rfl, Nat.le_of_ble_eq_true rfl⟩ ⟨Nat.le_refl 0, Nat.le_refl 0⟩ rfl hl.1 (Nat.le_of_ble_eq_true rfl) rfl dX6_move_3 (fun H locs hM hS => ?_)
  refine lv_if_ne (tgt := 13) hx hb dX6_move_6 (by decide) (fun c4 => ?_) (fun c4 => ?_)
  · have h := bi_f c4 h
    refine lv_iload_n hx hb dX6_move_13 rfl (lv_at hl 2 rfl) ?_
    refine lv_iconst (v := 0) hx hb dX6_move_14 (by decide) ?_
    refine lv_aload_n hx hb dX6_move_15 rfl (lv_at hl 0 rfl) ?_
    refine mw_get B hM 2 (by decide) wf_RX6_95 rfl (v := .int (t2.1 2)) rfl dX6_move_16 ?_
    refine lv_iconst (v := 1) hx hb dX6_move_19 (by decide) ?_
    refine lv_isub hx hb dX6_move_20 ?_
    obtain ⟨r5, t6, e7, h⟩ := bd_e h
    refine mw_callS B hM hS [.int x2, .int 0, .int ((t2.1 2) - 1)] (n := 3) (v := (some (.int r5))) (c_X6_in e7) wm_RX6_91 wt_yX6_in wc_yX6_in rfl rfl (by decide +kernel) ⟨Nat.le_of_ble_eq_true rfl, Nat.le_of_ble_eq_true rfl⟩ ⟨Nat.le_refl 0, Nat.le_refl 0⟩ rfl hl.1 (Nat.le_of_ble_eq_true rfl) rfl dX6_move_21 (fun H locs hM hS => ?_)
    refine lv_if_ne (tgt := 31) hx hb dX6_move_24 (by decide) (fun c8 => ?_) (fun c8 => ?_)
    · have h := bi_f c8 h
      refine lv_aload_n hx hb dX6_move_31 rfl (lv_at hl 0 rfl) ?_
      refine lv_iload_n hx hb dX6_move_32 rfl (lv_at hl 1 rfl) ?_
      obtain ⟨r9, t10, e11, h⟩ := bd_e h
      refine mw_callV B hM hS [.int x1] (n := 1) (v := (some (.int r9))) (c_X6_placeOf e11) wm_RX6_121 wi_yX6_placeOf ws_yX6_placeOf wc_yX6_placeOf rfl rfl (by decide +kernel) ⟨Nat.le_of_ble_eq_true rfl, Nat.le_of_ble_eq_true rfl⟩ ⟨Nat.le_refl 0, Nat.le_refl 0⟩ rfl hl.1 (Nat.le_of_ble_eq_true rfl) rfl dX6_move_33 (fun H locs hM hS => ?_)
      refine lv_if_ge (tgt := 43) hx hb dX6_move_36 (by decide) (fun c12 => ?_) (fun c12 => ?_)
      · have h := bi_t c12 h
        refine lv_iconst (v := 0) hx hb dX6_move_43 (by decide) ?_
        exact w_X6_move_44 B _ _ _ _ _ _ _ h hM hS (lv_sub hl [0, 1, 2] rfl)
      · have h := bi_f c12 h
        refine lv_iconst (v := 3) hx hb dX6_move_39 (by decide) ?_
        refine lv_goto (tgt := 44) hx hb dX6_move_40 (by decide) ?_
        exact w_X6_move_44 B _ _ _ _ _ _ _ h hM hS (lv_sub hl [0, 1, 2] rfl)
    · have h := bi_t c8 h
      refine lv_iconst (v := 2) hx hb dX6_move_27 (by decide) ?_
      refine lv_goto (tgt := 44) hx hb dX6_move_28 (by decide) ?_
      exact w_X6_move_44 B _ _ _ _ _ _ _ h hM hS (lv_sub hl [0, 1, 2] rfl)
  · have h := bi_t c4 h
    refine lv_iconst (v := 1) hx hb dX6_move_9 (by decide) ?_
    refine lv_goto (tgt := 44) hx hb dX6_move_10 (by decide) ?_
    exact w_X6_move_44 B _ _ _ _ _ _ _ h hM hS (lv_sub hl [0, 1, 2] rfl)
theorem c_X6_move {l : Launch} {G : GG} {A : Nat → Prop} {ad : Nat → Nat} {st : MS} {x1 : Int32} {x2 : Int32} {r : Int32} {st' : MS} (h : f_X6_move st x1 x2 = some (r, st')) : Met l yX6_move (Cond.code yX6_move cX6_move 4 (some .int) :: TG) ({ frames := 2, cells := 0, slots := 0, locals := 43 } : Room) (PM G A ad st [.ref (ad 0), .int x1, .int x2]) (QM G A ad (some (.int r)) st') 0 0 A :=
  mw_of (own := RX6) (by decide +kernel) rfl rfl rfl (Nat.le_of_ble_eq_true rfl) fun p e s m below meth c ls B hM hS hl => w_X6_move B _ _ _ _ _ _ h hM hS hl
set_option maxHeartbeats 4000000 in
set_option maxRecDepth 100000 in
theorem w_X6_shots {p : Program} {l : Launch} {e : Env} {s : State} {m : MethodId} {args : Array Value} {below : List Frame} {meth : Method} {c : Code} {G : GG} {A : Nat → Prop} {ad : Nat → Nat} (B : MB G p s m args meth c cX6_shots 1 RX6 (some .int)) {r : Int32} {st' : MS} : ∀ (st : MS) (H : Heap) (locs : List Loc) (ls : Array Slot), f_X6_shots st = some (r, st') → MW G A ad st H → va_S A s.heap H locs → lv_has ls 1 [(0, .ref (ad 0))] → W p l e ({ frames := 0, cells := 0, slots := 0, locals := 0 } : Room) s m args below meth c H locs 0 0 (MQ below (QM G A ad (some (.int r)) st') args s 0 0 A) (F0 m 0 ls []) := by
  have ⟨hx, hb, hr, hml, hown, hT, hlocks, hK⟩ := B
  intro st  H locs ls h hM hS hl
  rw [f_X6_shots] at h
  refine lv_aload_n hx hb dX6_shots_0 rfl (lv_at hl 0 rfl) ?_
  refine lv_iconst (v := 0) hx hb dX6_shots_1 (by decide) ?_
  refine mw_put B hM hS 0 (by decide) wf_RX6_84 rfl rfl rfl rfl rfl dX6_shots_2 (fun H locs hM hS => ?_)
  refine lv_aload_n hx hb dX6_shots_5 rfl (lv_at hl 0 rfl) ?_
  refine mw_get B hM 2 (by decide) wf_RX6_95 rfl (v := .int ((setS st 0 0).1 2)) rfl dX6_shots_6 ?_
  cases h
  exact mw_iret B hM hS dX6_shots_9
theorem c_X6_shots {l : Launch} {G : GG} {A : Nat → Prop} {ad : Nat → Nat} {st : MS} {r : Int32} {st' : MS} (h : f_X6_shots st = some (r, st')) : Met l yX6_shots (Cond.code yX6_shots cX6_shots 1 (some .int) :: TG) ({ frames := 0, cells := 0, slots := 0, locals := 0 } : Room) (PM G A ad st [.ref (ad 0)]) (QM G A ad (some (.int r)) st') 0 0 A :=
  mw_of (own := RX6) (by decide +kernel) rfl rfl rfl (Nat.le_of_ble_eq_true rfl) fun p e s m below meth c ls B hM hS hl => w_X6_shots B _ _ _ _ h hM hS hl
set_option maxHeartbeats 4000000 in
set_option maxRecDepth 100000 in
theorem w_X6_at_36 {p : Program} {l : Launch} {e : Env} {s : State} {m : MethodId} {args : Array Value} {below : List Frame} {meth : Method} {c : Code} {G : GG} {A : Nat → Prop} {ad : Nat → Nat} (B : MB G p s m args meth c cX6_at 2 RX6 (some .int)) {r : Int32} {st' : MS} : ∀ (st : MS) (y0 : Int32) (H : Heap) (locs : List Loc) (ls : Array Slot), f_X6_at_36 st y0 = some (r, st') → MW G A ad st H → va_S A s.heap H locs → lv_has ls 2 [] → W p l e ({ frames := 1, cells := 0, slots := 0, locals := 22 } : Room) s m args below meth c H locs 0 0 (MQ below (QM G A ad (some (.int r)) st') args s 0 0 A) (F0 m 36 ls [.int y0]) := by
  have ⟨hx, hb, hr, hml, hown, hT, hlocks, hK⟩ := B
  intro st y0 H locs ls h hM hS hl
  rw [f_X6_at_36] at h
  cases h
  exact mw_iret B hM hS dX6_at_36
set_option maxHeartbeats 4000000 in
set_option maxRecDepth 100000 in
theorem w_X6_at_20 {p : Program} {l : Launch} {e : Env} {s : State} {m : MethodId} {args : Array Value} {below : List Frame} {meth : Method} {c : Code} {G : GG} {A : Nat → Prop} {ad : Nat → Nat} (B : MB G p s m args meth c cX6_at 2 RX6 (some .int)) {r : Int32} {st' : MS} : ∀ (st : MS) (x1 : Int32) (y1 : Int32) (H : Heap) (locs : List Loc) (ls : Array Slot), f_X6_at_20 st x1 y1 = some (r, st') → MW G A ad st H → va_S A s.heap H locs → lv_has ls 2 [(0, .ref (ad 0)), (1, .int x1)] → W p l e ({ frames := 1, cells := 0, slots := 0, locals := 22 } : Room) s m args below meth c H locs 0 0 (MQ below (QM G A ad (some (.int r)) st') args s 0 0 A) (F0 m 20 ls [.int y1, .ref (ad 0)]) := by
  have ⟨hx, hb, hr, hml, hown, hT, hlocks, hK⟩ := B
  intro st x1 y1 H locs ls h hM hS hl
  rw [f_X6_at_20] at h
  obtain ⟨r1, t2, e3, h⟩ := bd_e h
  refine mw_callV B hM hS [.int y1] (n := 1) (v := (some (.int r1))) (c_X6_fails e3) wm_RX6_102 wi_yX6_fails ws_yX6_fails wc_yX6_fails rfl rfl (by decide +kernel) ⟨Nat.le_of_ble_eq_true rfl, Nat.le_of_ble_eq_true rfl⟩ ⟨Nat.le_refl 0, Nat.le_refl 0⟩ rfl hl.1 (Nat.le_of_ble_eq_true rfl) rfl dX6_at_20 (fun H locs hM hS => ?_)
  refine lv_if_eq (tgt := 30) hx hb dX6_at_23 (by decide) (fun c4 => ?_) (fun c4 => ?_)
  · have h := bi_t c4 h
    refine lv_aload_n hx hb dX6_at_30 rfl (lv_at hl 0 rfl) ?_
    refine mw_get B hM 3 (by decide) wf_RX6_7 rfl (v := .ref (ad 3)) rfl dX6_at_31 ?_
    refine lv_iload_n hx hb dX6_at_34 rfl (lv_at hl 1 rfl) ?_
    obtain ⟨g5, h⟩ := gd_e h
    refine mw_iald B hM 3 (by decide) (by decide) rfl g5 dX6_at_35 ?_
    exact w_X6_at_36 B _ _ _ _ _ h hM hS (lv_sub hl [] rfl)
  · have h := bi_f c4 h
    refine lv_iconst (v := 0) hx hb dX6_at_26 (by decide) ?_
    refine lv_goto (tgt := 36) hx hb dX6_at_27 (by decide) ?_
    exact w_X6_at_36 B _ _ _ _ _ h hM hS (lv_sub hl [] rfl)
set_option maxHeartbeats 4000000 in
set_option maxRecDepth 100000 in
theorem w_X6_at {p : Program} {l : Launch} {e : Env} {s : State} {m : MethodId} {args : Array Value} {below : List Frame} {meth : Method} {c : Code} {G : GG} {A : Nat → Prop} {ad : Nat → Nat} (B : MB G p s m args meth c cX6_at 2 RX6 (some .int)) {r : Int32} {st' : MS} : ∀ (st : MS) (x1 : Int32) (H : Heap) (locs : List Loc) (ls : Array Slot), f_X6_at st x1 = some (r, st') → MW G A ad st H → va_S A s.heap H locs → lv_has ls 2 [(0, .ref (ad 0)), (1, .int x1)] → W p l e ({ frames := 1, cells := 0, slots := 0, locals := 22 } : Room) s m args below meth c H locs 0 0 (MQ below (QM G A ad (some (.int r)) st') args s 0 0 A) (F0 m 0 ls []) := by
  have ⟨hx, hb, hr, hml, hown, hT, hlocks, hK⟩ := B
  intro st x1 H locs ls h hM hS hl
  rw [f_X6_at] at h
  refine lv_aload_n hx hb dX6_at_0 rfl (lv_at hl 0 rfl) ?_
  refine lv_iload_n hx hb dX6_at_1 rfl (lv_at hl 1 rfl) ?_
  refine lv_iconst (v := 0) hx hb dX6_at_2 (by decide) ?_
  refine lv_aload_n hx hb dX6_at_3 rfl (lv_at hl 0 rfl) ?_
  refine mw_get B hM 2 (by decide) wf_RX6_95 rfl (v := .int (st.1 2)) rfl dX6_at_4 ?_
  refine lv_iconst (v := 1) hx hb dX6_at_7 (by decide) ?_
  refine lv_isub hx hb dX6_at_8 ?_
  obtain ⟨r1, t2, e3, h⟩ := bd_e h
  refine mw_callS B hM hS [.int x1, .int 0, .int ((st.1 2) - 1)] (n := 3) (v := (some (.int r1))) (c_X6_in e3) wm_RX6_91 wt_yX6_in wc_yX6_in rfl rfl (by decide +kernel) ⟨Nat.le_of_ble_eq_true rfl, Nat.le_of_ble_eq_true rfl⟩ ⟨Nat.le_refl 0, Nat.le_refl 0⟩ rfl hl.1 (Nat.le_of_ble_eq_true rfl) rfl dX6_at_9 (fun H locs hM hS => ?_)
  refine lv_if_eq (tgt := 19) hx hb dX6_at_12 (by decide) (fun c4 => ?_) (fun c4 => ?_)
  · have h := bi_t c4 h
    refine lv_iconst (v := 1) hx hb dX6_at_19 (by decide) ?_
    exact w_X6_at_20 B _ _ _ _ _ _ h hM hS (lv_sub hl [0, 1] rfl)
  · have h := bi_f c4 h
    refine lv_iconst (v := 0) hx hb dX6_at_15 (by decide) ?_
    refine lv_goto (tgt := 20) hx hb dX6_at_16 (by decide) ?_
    exact w_X6_at_20 B _ _ _ _ _ _ h hM hS (lv_sub hl [0, 1] rfl)
theorem c_X6_at {l : Launch} {G : GG} {A : Nat → Prop} {ad : Nat → Nat} {st : MS} {x1 : Int32} {r : Int32} {st' : MS} (h : f_X6_at st x1 = some (r, st')) : Met l yX6_at (Cond.code yX6_at cX6_at 2 (some .int) :: TG) ({ frames := 1, cells := 0, slots := 0, locals := 22 } : Room) (PM G A ad st [.ref (ad 0), .int x1]) (QM G A ad (some (.int r)) st') 0 0 A :=
  mw_of (own := RX6) (by decide +kernel) rfl rfl rfl (Nat.le_of_ble_eq_true rfl) fun p e s m below meth c ls B hM hS hl => w_X6_at B _ _ _ _ _ h hM hS hl
set_option maxHeartbeats 4000000 in
set_option maxRecDepth 100000 in
theorem w_X6_place_41 {p : Program} {l : Launch} {e : Env} {s : State} {m : MethodId} {args : Array Value} {below : List Frame} {meth : Method} {c : Code} {G : GG} {A : Nat → Prop} {ad : Nat → Nat} (B : MB G p s m args meth c cX6_place 2 RX6 (some .int)) {r : Int32} {st' : MS} : ∀ (st : MS) (y0 : Int32) (H : Heap) (locs : List Loc) (ls : Array Slot), f_X6_place_41 st y0 = some (r, st') → MW G A ad st H → va_S A s.heap H locs → lv_has ls 2 [] → W p l e ({ frames := 2, cells := 0, slots := 0, locals := 43 } : Room) s m args below meth c H locs 0 0 (MQ below (QM G A ad (some (.int r)) st') args s 0 0 A) (F0 m 41 ls [.int y0]) := by
  have ⟨hx, hb, hr, hml, hown, hT, hlocks, hK⟩ := B
  intro st y0 H locs ls h hM hS hl
  rw [f_X6_place_41] at h
  cases h
  exact mw_iret B hM hS dX6_place_41
set_option maxHeartbeats 4000000 in
set_option maxRecDepth 100000 in
theorem w_X6_place_26 {p : Program} {l : Launch} {e : Env} {s : State} {m : MethodId} {args : Array Value} {below : List Frame} {meth : Method} {c : Code} {G : GG} {A : Nat → Prop} {ad : Nat → Nat} (B : MB G p s m args meth c cX6_place 2 RX6 (some .int)) {r : Int32} {st' : MS} : ∀ (st : MS) (x1 : Int32) (y1 : Int32) (H : Heap) (locs : List Loc) (ls : Array Slot), f_X6_place_26 st x1 y1 = some (r, st') → MW G A ad st H → va_S A s.heap H locs → lv_has ls 2 [(0, .ref (ad 0)), (1, .int x1)] → W p l e ({ frames := 2, cells := 0, slots := 0, locals := 43 } : Room) s m args below meth c H locs 0 0 (MQ below (QM G A ad (some (.int r)) st') args s 0 0 A) (F0 m 26 ls [.int y1, .ref (ad 0)]) := by
  have ⟨hx, hb, hr, hml, hown, hT, hlocks, hK⟩ := B
  intro st x1 y1 H locs ls h hM hS hl
  rw [f_X6_place_26] at h
  obtain ⟨r1, t2, e3, h⟩ := bd_e h
  refine mw_callV B hM hS [.int y1] (n := 1) (v := (some (.int r1))) (c_X6_fails e3) wm_RX6_102 wi_yX6_fails ws_yX6_fails wc_yX6_fails rfl rfl (by decide +kernel) ⟨Nat.le_of_ble_eq_true rfl, Nat.le_of_ble_eq_true rfl⟩ ⟨Nat.le_refl 0, Nat.le_refl 0⟩ rfl hl.1 (Nat.le_of_ble_eq_true rfl) rfl dX6_place_26 (fun H locs hM hS => ?_)
  refine lv_if_eq (tgt := 36) hx hb dX6_place_29 (by decide) (fun c4 => ?_) (fun c4 => ?_)
  · have h := bi_t c4 h
    refine lv_aload_n hx hb dX6_place_36 rfl (lv_at hl 0 rfl) ?_
    refine lv_iload_n hx hb dX6_place_37 rfl (lv_at hl 1 rfl) ?_
    obtain ⟨r5, t6, e7, h⟩ := bd_e h
    refine mw_callV B hM hS [.int x1] (n := 1) (v := (some (.int r5))) (c_X6_placeOf e7) wm_RX6_121 wi_yX6_placeOf ws_yX6_placeOf wc_yX6_placeOf rfl rfl (by decide +kernel) ⟨Nat.le_of_ble_eq_true rfl, Nat.le_of_ble_eq_true rfl⟩ ⟨Nat.le_refl 0, Nat.le_refl 0⟩ rfl hl.1 (Nat.le_of_ble_eq_true rfl) rfl dX6_place_38 (fun H locs hM hS => ?_)
    exact w_X6_place_41 B _ _ _ _ _ h hM hS (lv_sub hl [] rfl)
  · have h := bi_f c4 h
    refine lv_iconst (v := 0) hx hb dX6_place_32 (by decide) ?_
    refine lv_goto (tgt := 41) hx hb dX6_place_33 (by decide) ?_
    exact w_X6_place_41 B _ _ _ _ _ h hM hS (lv_sub hl [] rfl)
set_option maxHeartbeats 4000000 in
set_option maxRecDepth 100000 in
theorem w_X6_place {p : Program} {l : Launch} {e : Env} {s : State} {m : MethodId} {args : Array Value} {below : List Frame} {meth : Method} {c : Code} {G : GG} {A : Nat → Prop} {ad : Nat → Nat} (B : MB G p s m args meth c cX6_place 2 RX6 (some .int)) {r : Int32} {st' : MS} : ∀ (st : MS) (x1 : Int32) (H : Heap) (locs : List Loc) (ls : Array Slot), f_X6_place st x1 = some (r, st') → MW G A ad st H → va_S A s.heap H locs → lv_has ls 2 [(0, .ref (ad 0)), (1, .int x1)] → W p l e ({ frames := 2, cells := 0, slots := 0, locals := 43 } : Room) s m args below meth c H locs 0 0 (MQ below (QM G A ad (some (.int r)) st') args s 0 0 A) (F0 m 0 ls []) := by
  have ⟨hx, hb, hr, hml, hown, hT, hlocks, hK⟩ := B
  intro st x1 H locs ls h hM hS hl
  rw [f_X6_place] at h
  refine lv_aload_n hx hb dX6_place_0 rfl (lv_at hl 0 rfl) ?_
  refine lv_aload_n hx hb dX6_place_1 rfl (lv_at hl 0 rfl) ?_
  refine lv_iload_n hx hb dX6_place_2 rfl (lv_at hl 1 rfl) ?_
  obtain ⟨r1, t2, e3, h⟩ := bd_e h
  refine mw_callV B hM hS [.int x1] (n := 1) (v := (some (.int r1))) (c_X6_isShot e3) wm_RX6_118 wi_yX6_isShot ws_yX6_isShot wc_yX6_isShot rfl rfl (by decide +kernel) ⟨Nat.le_of_ble_eq_true rfl, Nat.le_of_ble_eq_true rfl⟩ ⟨Nat.le_refl 0, Nat.le_refl 0⟩ rfl hl.1 (Nat.le_of_ble_eq_true rfl) rfl dX6_place_3 (fun H locs hM hS => ?_)
  refine lv_if_ne (tgt := 13) hx hb dX6_place_6 (by decide) (fun c4 => ?_) (fun c4 => ?_)
  · have h := bi_f c4 h
    refine lv_aload_n hx hb dX6_place_13 rfl (lv_at hl 0 rfl) ?_
    refine lv_iload_n hx hb dX6_place_14 rfl (lv_at hl 1 rfl) ?_
    obtain ⟨r5, t6, e7, h⟩ := bd_e h
    refine mw_callV B hM hS [.int x1] (n := 1) (v := (some (.int r5))) (c_X6_placeOf e7) wm_RX6_121 wi_yX6_placeOf ws_yX6_placeOf wc_yX6_placeOf rfl rfl (by decide +kernel) ⟨Nat.le_of_ble_eq_true rfl, Nat.le_of_ble_eq_true rfl⟩ ⟨Nat.le_refl 0, Nat.le_refl 0⟩ rfl hl.1 (Nat.le_of_ble_eq_true rfl) rfl dX6_place_15 (fun H locs hM hS => ?_)
    refine lv_if_ge (tgt := 25) hx hb dX6_place_18 (by decide) (fun c8 => ?_) (fun c8 => ?_)
    · have h := bi_t c8 h
      refine lv_iconst (v := 0) hx hb dX6_place_25 (by decide) ?_
      exact w_X6_place_26 B _ _ _ _ _ _ h hM hS (lv_sub hl [0, 1] rfl)
    · have h := bi_f c8 h
      refine lv_iconst (v := 2) hx hb dX6_place_21 (by decide) ?_
      refine lv_goto (tgt := 26) hx hb dX6_place_22 (by decide) ?_
      exact w_X6_place_26 B _ _ _ _ _ _ h hM hS (lv_sub hl [0, 1] rfl)
  · have h := bi_t c4 h
    refine lv_iconst (v := 1) hx hb dX6_place_9 (by decide) ?_
    refine lv_goto (tgt := 26) hx hb dX6_place_10 (by decide) ?_
    exact w_X6_place_26 B _ _ _ _ _ _ h hM hS (lv_sub hl [0, 1] rfl)
theorem c_X6_place {l : Launch} {G : GG} {A : Nat → Prop} {ad : Nat → Nat} {st : MS} {x1 : Int32} {r : Int32} {st' : MS} (h : f_X6_place st x1 = some (r, st')) : Met l yX6_place (Cond.code yX6_place cX6_place 2 (some .int) :: TG) ({ frames := 2, cells := 0, slots := 0, locals := 43 } : Room) (PM G A ad st [.ref (ad 0), .int x1]) (QM G A ad (some (.int r)) st') 0 0 A :=
  mw_of (own := RX6) (by decide +kernel) rfl rfl rfl (Nat.le_of_ble_eq_true rfl) fun p e s m below meth c ls B hM hS hl => w_X6_place B _ _ _ _ _ h hM hS hl
set_option maxHeartbeats 4000000 in
set_option maxRecDepth 100000 in
theorem w_X6_change_26 {p : Program} {l : Launch} {e : Env} {s : State} {m : MethodId} {args : Array Value} {below : List Frame} {meth : Method} {c : Code} {G : GG} {A : Nat → Prop} {ad : Nat → Nat} (B : MB G p s m args meth c cX6_change 3 RX6 none) {r : Unit} {st' : MS} : ∀ (st : MS) (y1 : Int32) (y2 : Int32) (H : Heap) (locs : List Loc) (ls : Array Slot), f_X6_change_26 st y1 y2 = some (r, st') → MW G A ad st H → va_S A s.heap H locs → lv_has ls 3 [] → W p l e ({ frames := 0, cells := 0, slots := 0, locals := 0 } : Room) s m args below meth c H locs 0 0 (MQ below (QM G A ad none st') args s 0 0 A) (F0 m 26 ls [.int y2, .int y1, .ref (ad 7)]) := by
  have ⟨hx, hb, hr, hml, hown, hT, hlocks, hK⟩ := B
  intro st y1 y2 H locs ls h hM hS hl
  rw [f_X6_change_26] at h
  obtain ⟨g1, h⟩ := gd_e h
  refine mw_iast B hM hS 7 (by decide) (by decide) rfl g1 dX6_change_26 (fun H locs hM hS => ?_)
  cases h
  exact mw_vret B hM hS dX6_change_27
set_option maxHeartbeats 4000000 in
set_option maxRecDepth 100000 in
theorem w_X6_change {p : Program} {l : Launch} {e : Env} {s : State} {m : MethodId} {args : Array Value} {below : List Frame} {meth : Method} {c : Code} {G : GG} {A : Nat → Prop} {ad : Nat → Nat} (B : MB G p s m args meth c cX6_change 3 RX6 none) {r : Unit} {st' : MS} : ∀ (st : MS) (x1 : Int32) (x2 : Int32) (H : Heap) (locs : List Loc) (ls : Array Slot), f_X6_change st x1 x2 = some (r, st') → MW G A ad st H → va_S A s.heap H locs → lv_has ls 3 [(0, .ref (ad 0)), (1, .int x1), (2, .int x2)] → W p l e ({ frames := 0, cells := 0, slots := 0, locals := 0 } : Room) s m args below meth c H locs 0 0 (MQ below (QM G A ad none st') args s 0 0 A) (F0 m 0 ls []) := by
  have ⟨hx, hb, hr, hml, hown, hT, hlocks, hK⟩ := B
  intro st x1 x2 H locs ls h hM hS hl
  rw [f_X6_change] at h
  refine lv_aload_n hx hb dX6_change_0 rfl (lv_at hl 0 rfl) ?_
  refine mw_get B hM 7 (by decide) wf_RX6_23 rfl (v := .ref (ad 7)) rfl dX6_change_1 ?_
  refine lv_iload_n hx hb dX6_change_4 rfl (lv_at hl 1 rfl) ?_
  refine lv_iload_n hx hb dX6_change_5 rfl (lv_at hl 2 rfl) ?_
  refine lv_if_eq (tgt := 20) hx hb dX6_change_6 (by decide) (fun c1 => ?_) (fun c1 => ?_)
  · have h := bi_t c1 h
    refine lv_aload_n hx hb dX6_change_20 rfl (lv_at hl 0 rfl) ?_
    refine mw_get B hM 7 (by decide) wf_RX6_23 rfl (v := .ref (ad 7)) rfl dX6_change_21 ?_
    refine lv_iload_n hx hb dX6_change_24 rfl (lv_at hl 1 rfl) ?_
    obtain ⟨g2, h⟩ := gd_e h
    refine mw_iald B hM 7 (by decide) (by decide) rfl g2 dX6_change_25 ?_
    exact w_X6_change_26 B _ _ _ _ _ _ h hM hS (lv_sub hl [] rfl)
  · have h := bi_f c1 h
    refine lv_aload_n hx hb dX6_change_9 rfl (lv_at hl 0 rfl) ?_
    refine mw_get B hM 7 (by decide) wf_RX6_23 rfl (v := .ref (ad 7)) rfl dX6_change_10 ?_
    refine lv_iload_n hx hb dX6_change_13 rfl (lv_at hl 1 rfl) ?_
    obtain ⟨g3, h⟩ := gd_e h
    refine mw_iald B hM 7 (by decide) (by decide) rfl g3 dX6_change_14 ?_
    refine lv_iconst (v := 1) hx hb dX6_change_15 (by decide) ?_
    refine lv_iadd hx hb dX6_change_16 ?_
    refine lv_goto (tgt := 26) hx hb dX6_change_17 (by decide) ?_
    exact w_X6_change_26 B _ _ _ _ _ _ h hM hS (lv_sub hl [] rfl)
theorem c_X6_change {l : Launch} {G : GG} {A : Nat → Prop} {ad : Nat → Nat} {st : MS} {x1 : Int32} {x2 : Int32} {r : Unit} {st' : MS} (h : f_X6_change st x1 x2 = some (r, st')) : Met l yX6_change (Cond.code yX6_change cX6_change 3 none :: TG) ({ frames := 0, cells := 0, slots := 0, locals := 0 } : Room) (PM G A ad st [.ref (ad 0), .int x1, .int x2]) (QM G A ad none st') 0 0 A :=
  mw_of (own := RX6) (by decide +kernel) rfl rfl rfl (Nat.le_of_ble_eq_true rfl) fun p e s m below meth c ls B hM hS hl => w_X6_change B _ _ _ _ _ _ h hM hS hl
set_option maxHeartbeats 4000000 in
set_option maxRecDepth 100000 in
theorem w_X6_camera_73 {p : Program} {l : Launch} {e : Env} {s : State} {m : MethodId} {args : Array Value} {below : List Frame} {meth : Method} {c : Code} {G : GG} {A : Nat → Prop} {ad : Nat → Nat} (B : MB G p s m args meth c cX6_camera 4 RX6 (some .int)) {r : Int32} {st' : MS} : ∀ (st : MS) (x1 : Int32) (x2 : Int32) (x3 : Int32) (y1 : Int32) (y2 : Int32) (H : Heap) (locs : List Loc) (ls : Array Slot), f_X6_camera_73 st x1 x2 x3 y1 y2 = some (r, st') → MW G A ad st H → va_S A s.heap H locs → lv_has ls 4 [(0, .ref (ad 0)), (1, .int x1), (2, .int x2), (3, .int x3)] → W p l e ({ frames := 2, cells := 0, slots := 0, locals := 43 } : Room) s m args below meth c H locs 0 0 (MQ below (QM G A ad (some (.int r)) st') args s 0 0 A) (F0 m 73 ls [.int y2, .int y1, .ref (ad 0)]) := by
  have ⟨hx, hb, hr, hml, hown, hT, hlocks, hK⟩ := B
  intro st x1 x2 x3 y1 y2 H locs ls h hM hS hl
  rw [f_X6_camera_73] at h
  obtain ⟨r1, t2, e3, h⟩ := bd_e h
  refine mw_callV B hM hS [.int y1, .int y2] (n := 2) (v := none) (c_X6_change e3) wm_RX6_129 wi_yX6_change ws_yX6_change wc_yX6_change rfl rfl (by decide +kernel) ⟨Nat.le_of_ble_eq_true rfl, Nat.le_of_ble_eq_true rfl⟩ ⟨Nat.le_refl 0, Nat.le_refl 0⟩ rfl hl.1 (Nat.le_of_ble_eq_true rfl) rfl dX6_camera_73 (fun H locs hM hS => ?_)
  refine lv_aload_n hx hb dX6_camera_76 rfl (lv_at hl 0 rfl) ?_
  refine mw_get B hM 4 (by decide) wf_RX6_13 rfl (v := .ref (ad 4)) rfl dX6_camera_77 ?_
  refine lv_iload_n hx hb dX6_camera_80 rfl (lv_at hl 1 rfl) ?_
  refine lv_iload_n hx hb dX6_camera_81 rfl (lv_at hl 2 rfl) ?_
  obtain ⟨g4, h⟩ := gd_e h
  refine mw_cast B hM hS 4 (by decide) (by decide) rfl g4 dX6_camera_82 (fun H locs hM hS => ?_)
  refine lv_aload_n hx hb dX6_camera_83 rfl (lv_at hl 0 rfl) ?_
  refine mw_get B hM 5 (by decide) wf_RX6_17 rfl (v := .ref (ad 5)) rfl dX6_camera_84 ?_
  refine lv_iload_n hx hb dX6_camera_87 rfl (lv_at hl 1 rfl) ?_
  refine lv_iload_n hx hb dX6_camera_88 rfl (lv_at hl 3 rfl) ?_
  obtain ⟨g5, h⟩ := gd_e h
  refine mw_iast B hM hS 5 (by decide) (by decide) rfl g5 dX6_camera_89 (fun H locs hM hS => ?_)
  refine lv_aload_n hx hb dX6_camera_90 rfl (lv_at hl 0 rfl) ?_
  refine mw_get B hM 7 (by decide) wf_RX6_23 rfl (v := .ref (ad 7)) rfl dX6_camera_91 ?_
  refine lv_iload_n hx hb dX6_camera_94 rfl (lv_at hl 1 rfl) ?_
  obtain ⟨g6, h⟩ := gd_e h
  refine mw_iald B hM 7 (by decide) (by decide) rfl g6 dX6_camera_95 ?_
  cases h
  exact mw_iret B hM hS dX6_camera_96
set_option maxHeartbeats 4000000 in
set_option maxRecDepth 100000 in
theorem w_X6_camera_68 {p : Program} {l : Launch} {e : Env} {s : State} {m : MethodId} {args : Array Value} {below : List Frame} {meth : Method} {c : Code} {G : GG} {A : Nat → Prop} {ad : Nat → Nat} (B : MB G p s m args meth c cX6_camera 4 RX6 (some .int)) {r : Int32} {st' : MS} : ∀ (st : MS) (x1 : Int32) (x2 : Int32) (x3 : Int32) (y1 : Int32) (H : Heap) (locs : List Loc) (ls : Array Slot), f_X6_camera_68 st x1 x2 x3 y1 = some (r, st') → MW G A ad st H → va_S A s.heap H locs → lv_has ls 4 [(0, .ref (ad 0)), (1, .int x1), (2, .int x2), (3, .int x3)] → W p l e ({ frames := 2, cells := 0, slots := 0, locals := 43 } : Room) s m args below meth c H locs 0 0 (MQ below (QM G A ad (some (.int r)) st') args s 0 0 A) (F0 m 68 ls [.int y1, .ref (ad 0)]) := by
  have ⟨hx, hb, hr, hml, hown, hT, hlocks, hK⟩ := B
  intro st x1 x2 x3 y1 H locs ls h hM hS hl
  rw [f_X6_camera_68] at h
  refine lv_iconst (v := 1) hx hb dX6_camera_68 (by decide) ?_
  refine lv_goto (tgt := 73) hx hb dX6_camera_69 (by decide) ?_
  exact w_X6_camera_73 B _ _ _ _ _ _ _ _ _ h hM hS (lv_sub hl [0, 1, 2, 3] rfl)
set_option maxHeartbeats 4000000 in
set_option maxRecDepth 100000 in
theorem w_X6_camera_38 {p : Program} {l : Launch} {e : Env} {s : State} {m : MethodId} {args : Array Value} {below : List Frame} {meth : Method} {c : Code} {G : GG} {A : Nat → Prop} {ad : Nat → Nat} (B : MB G p s m args meth c cX6_camera 4 RX6 (some .int)) {r : Int32} {st' : MS} : ∀ (st : MS) (x1 : Int32) (x2 : Int32) (x3 : Int32) (y1 : Int32) (H : Heap) (locs : List Loc) (ls : Array Slot), f_X6_camera_38 st x1 x2 x3 y1 = some (r, st') → MW G A ad st H → va_S A s.heap H locs → lv_has ls 4 [(0, .ref (ad 0)), (1, .int x1), (2, .int x2), (3, .int x3)] → W p l e ({ frames := 2, cells := 0, slots := 0, locals := 43 } : Room) s m args below meth c H locs 0 0 (MQ below (QM G A ad (some (.int r)) st') args s 0 0 A) (F0 m 38 ls [.int y1, .ref (ad 0)]) := by
  have ⟨hx, hb, hr, hml, hown, hT, hlocks, hK⟩ := B
  intro st x1 x2 x3 y1 H locs ls h hM hS hl
  rw [f_X6_camera_38] at h
  obtain ⟨r1, t2, e3, h⟩ := bd_e h
  refine mw_callV B hM hS [.int y1] (n := 1) (v := (some (.int r1))) (c_X6_fails e3) wm_RX6_102 wi_yX6_fails ws_yX6_fails wc_yX6_fails rfl rfl (by decide +kernel) ⟨Nat.le_of_ble_eq_true rfl, Nat.le_of_ble_eq_true rfl⟩ ⟨Nat.le_refl 0, Nat.le_refl 0⟩ rfl hl.1 (Nat.le_of_ble_eq_true rfl) rfl dX6_camera_38 (fun H locs hM hS => ?_)
  refine lv_if_eq (tgt := 46) hx hb dX6_camera_41 (by decide) (fun c4 => ?_) (fun c4 => ?_)
  · have h := bi_t c4 h
    refine lv_aload_n hx hb dX6_camera_46 rfl (lv_at hl 0 rfl) ?_
    refine lv_iload_n hx hb dX6_camera_47 rfl (lv_at hl 1 rfl) ?_
    refine lv_aload_n hx hb dX6_camera_48 rfl (lv_at hl 0 rfl) ?_
    refine mw_get B hM 4 (by decide) wf_RX6_13 rfl (v := .ref (ad 4)) rfl dX6_camera_49 ?_
    refine lv_iload_n hx hb dX6_camera_52 rfl (lv_at hl 1 rfl) ?_
    obtain ⟨g5, h⟩ := gd_e h
    refine mw_cald B hM 4 (by decide) (by decide) rfl g5 dX6_camera_53 ?_
    refine lv_iload_n hx hb dX6_camera_54 rfl (lv_at hl 2 rfl) ?_
    refine lv_icmp_ne (tgt := 68) hx hb dX6_camera_55 (by decide) (fun c6 => ?_) (fun c6 => ?_)
    · have h := bi_f c6 h
      exact w_X6_camera_68 B _ _ _ _ _ _ _ _ h hM hS (lv_sub hl [0, 1, 2, 3] rfl)
    · have h := bi_t c6 h
      refine lv_aload_n hx hb dX6_camera_58 rfl (lv_at hl 0 rfl) ?_
      refine mw_get B hM 5 (by decide) wf_RX6_17 rfl (v := .ref (ad 5)) rfl dX6_camera_59 ?_
      refine lv_iload_n hx hb dX6_camera_62 rfl (lv_at hl 1 rfl) ?_
      obtain ⟨g7, h⟩ := gd_e h
      refine mw_iald B hM 5 (by decide) (by decide) rfl g7 dX6_camera_63 ?_
      refine lv_iload_n hx hb dX6_camera_64 rfl (lv_at hl 3 rfl) ?_
      refine lv_icmp_eq (tgt := 72) hx hb dX6_camera_65 (by decide) (fun c8 => ?_) (fun c8 => ?_)
      · have h := bi_t c8 h
        refine lv_iconst (v := 0) hx hb dX6_camera_72 (by decide) ?_
        exact w_X6_camera_73 B _ _ _ _ _ _ _ _ _ h hM hS (lv_sub hl [0, 1, 2, 3] rfl)
      · have h := bi_f c8 h
        exact w_X6_camera_68 B _ _ _ _ _ _ _ _ h hM hS (lv_sub hl [0, 1, 2, 3] rfl)
  · have h := bi_f c4 h
    refine lv_iconst (v := 0) hx hb dX6_camera_44 (by decide) ?_
    cases h
    exact mw_iret B hM hS dX6_camera_45
set_option maxHeartbeats 4000000 in
set_option maxRecDepth 100000 in
theorem w_X6_camera {p : Program} {l : Launch} {e : Env} {s : State} {m : MethodId} {args : Array Value} {below : List Frame} {meth : Method} {c : Code} {G : GG} {A : Nat → Prop} {ad : Nat → Nat} (B : MB G p s m args meth c cX6_camera 4 RX6 (some .int)) {r : Int32} {st' : MS} : ∀ (st : MS) (x1 : Int32) (x2 : Int32) (x3 : Int32) (H : Heap) (locs : List Loc) (ls : Array Slot), f_X6_camera st x1 x2 x3 = some (r, st') → MW G A ad st H → va_S A s.heap H locs → lv_has ls 4 [(0, .ref (ad 0)), (1, .int x1), (2, .int x2), (3, .int x3)] → W p l e ({ frames := 2, cells := 0, slots := 0, locals := 43 } : Room) s m args below meth c H locs 0 0 (MQ below (QM G A ad (some (.int r)) st') args s 0 0 A) (F0 m 0 ls []) := by
  have ⟨hx, hb, hr, hml, hown, hT, hlocks, hK⟩ := B
  intro st x1 x2 x3 H locs ls h hM hS hl
  rw [f_X6_camera] at h
  refine lv_aload_n hx hb dX6_camera_0 rfl (lv_at hl 0 rfl) ?_
  refine lv_aload_n hx hb dX6_camera_1 rfl (lv_at hl 0 rfl) ?_
  refine lv_iload_n hx hb dX6_camera_2 rfl (lv_at hl 1 rfl) ?_
  obtain ⟨r1, t2, e3, h⟩ := bd_e h
  refine mw_callV B hM hS [.int x1] (n := 1) (v := (some (.int r1))) (c_X6_isShot e3) wm_RX6_118 wi_yX6_isShot ws_yX6_isShot wc_yX6_isShot rfl rfl (by decide +kernel) ⟨Nat.le_of_ble_eq_true rfl, Nat.le_of_ble_eq_true rfl⟩ ⟨Nat.le_refl 0, Nat.le_refl 0⟩ rfl hl.1 (Nat.le_of_ble_eq_true rfl) rfl dX6_camera_3 (fun H locs hM hS => ?_)
  refine lv_if_ne (tgt := 13) hx hb dX6_camera_6 (by decide) (fun c4 => ?_) (fun c4 => ?_)
  · have h := bi_f c4 h
    refine lv_iload_n hx hb dX6_camera_13 rfl (lv_at hl 2 rfl) ?_
    refine lv_iload_n hx hb dX6_camera_14 rfl (lv_at hl 3 rfl) ?_
    obtain ⟨r5, t6, e7, h⟩ := bd_e h
    refine mw_callS B hM hS [.int x2, .int x3] (n := 2) (v := (some (.int r5))) (c_X6_isCamera e7) wm_RX6_98 wt_yX6_isCamera wc_yX6_isCamera rfl rfl (by decide +kernel) ⟨Nat.le_of_ble_eq_true rfl, Nat.le_of_ble_eq_true rfl⟩ ⟨Nat.le_refl 0, Nat.le_refl 0⟩ rfl hl.1 (Nat.le_of_ble_eq_true rfl) rfl dX6_camera_15 (fun H locs hM hS => ?_)
    refine lv_if_ne (tgt := 25) hx hb dX6_camera_18 (by decide) (fun c8 => ?_) (fun c8 => ?_)
    · have h := bi_f c8 h
      refine lv_aload_n hx hb dX6_camera_25 rfl (lv_at hl 0 rfl) ?_
      refine lv_iload_n hx hb dX6_camera_26 rfl (lv_at hl 1 rfl) ?_
      obtain ⟨r9, t10, e11, h⟩ := bd_e h
      refine mw_callV B hM hS [.int x1] (n := 1) (v := (some (.int r9))) (c_X6_placeOf e11) wm_RX6_121 wi_yX6_placeOf ws_yX6_placeOf wc_yX6_placeOf rfl rfl (by decide +kernel) ⟨Nat.le_of_ble_eq_true rfl, Nat.le_of_ble_eq_true rfl⟩ ⟨Nat.le_refl 0, Nat.le_refl 0⟩ rfl hl.1 (Nat.le_of_ble_eq_true rfl) rfl dX6_camera_27 (fun H locs hM hS => ?_)
      refine lv_if_ge (tgt := 37) hx hb dX6_camera_30 (by decide) (fun c12 => ?_) (fun c12 => ?_)
      · have h := bi_t c12 h
        refine lv_iconst (v := 0) hx hb dX6_camera_37 (by decide) ?_
        exact w_X6_camera_38 B _ _ _ _ _ _ _ _ h hM hS (lv_sub hl [0, 1, 2, 3] rfl)
      · have h := bi_f c12 h
        refine lv_iconst (v := 3) hx hb dX6_camera_33 (by decide) ?_
        refine lv_goto (tgt := 38) hx hb dX6_camera_34 (by decide) ?_
        exact w_X6_camera_38 B _ _ _ _ _ _ _ _ h hM hS (lv_sub hl [0, 1, 2, 3] rfl)
    · have h := bi_t c8 h
      refine lv_iconst (v := 2) hx hb dX6_camera_21 (by decide) ?_
      refine lv_goto (tgt := 38) hx hb dX6_camera_22 (by decide) ?_
      exact w_X6_camera_38 B _ _ _ _ _ _ _ _ h hM hS (lv_sub hl [0, 1, 2, 3] rfl)
  · have h := bi_t c4 h
    refine lv_iconst (v := 1) hx hb dX6_camera_9 (by decide) ?_
    refine lv_goto (tgt := 38) hx hb dX6_camera_10 (by decide) ?_
    exact w_X6_camera_38 B _ _ _ _ _ _ _ _ h hM hS (lv_sub hl [0, 1, 2, 3] rfl)
theorem c_X6_camera {l : Launch} {G : GG} {A : Nat → Prop} {ad : Nat → Nat} {st : MS} {x1 : Int32} {x2 : Int32} {x3 : Int32} {r : Int32} {st' : MS} (h : f_X6_camera st x1 x2 x3 = some (r, st')) : Met l yX6_camera (Cond.code yX6_camera cX6_camera 4 (some .int) :: TG) ({ frames := 2, cells := 0, slots := 0, locals := 43 } : Room) (PM G A ad st [.ref (ad 0), .int x1, .int x2, .int x3]) (QM G A ad (some (.int r)) st') 0 0 A :=
  mw_of (own := RX6) (by decide +kernel) rfl rfl rfl (Nat.le_of_ble_eq_true rfl) fun p e s m below meth c ls B hM hS hl => w_X6_camera B _ _ _ _ _ _ _ h hM hS hl
set_option maxHeartbeats 4000000 in
set_option maxRecDepth 100000 in
theorem w_X6_length_68 {p : Program} {l : Launch} {e : Env} {s : State} {m : MethodId} {args : Array Value} {below : List Frame} {meth : Method} {c : Code} {G : GG} {A : Nat → Prop} {ad : Nat → Nat} (B : MB G p s m args meth c cX6_length 4 RX6 (some .int)) {r : Int32} {st' : MS} : ∀ (st : MS) (x1 : Int32) (x2 : Int32) (x3 : Int32) (y1 : Int32) (y2 : Int32) (H : Heap) (locs : List Loc) (ls : Array Slot), f_X6_length_68 st x1 x2 x3 y1 y2 = some (r, st') → MW G A ad st H → va_S A s.heap H locs → lv_has ls 4 [(0, .ref (ad 0)), (1, .int x1), (2, .int x2), (3, .int x3)] → W p l e ({ frames := 2, cells := 0, slots := 0, locals := 43 } : Room) s m args below meth c H locs 0 0 (MQ below (QM G A ad (some (.int r)) st') args s 0 0 A) (F0 m 68 ls [.int y2, .int y1, .ref (ad 0)]) := by
  have ⟨hx, hb, hr, hml, hown, hT, hlocks, hK⟩ := B
  intro st x1 x2 x3 y1 y2 H locs ls h hM hS hl
  rw [f_X6_length_68] at h
  obtain ⟨r1, t2, e3, h⟩ := bd_e h
  refine mw_callV B hM hS [.int y1, .int y2] (n := 2) (v := none) (c_X6_change e3) wm_RX6_129 wi_yX6_change ws_yX6_change wc_yX6_change rfl rfl (by decide +kernel) ⟨Nat.le_of_ble_eq_true rfl, Nat.le_of_ble_eq_true rfl⟩ ⟨Nat.le_refl 0, Nat.le_refl 0⟩ rfl hl.1 (Nat.le_of_ble_eq_true rfl) rfl dX6_length_68 (fun H locs hM hS => ?_)
  refine lv_aload_n hx hb dX6_length_71 rfl (lv_at hl 0 rfl) ?_
  refine mw_get B hM 6 (by decide) wf_RX6_20 rfl (v := .ref (ad 6)) rfl dX6_length_72 ?_
  refine lv_iload_n hx hb dX6_length_75 rfl (lv_at hl 1 rfl) ?_
  refine lv_iload_n hx hb dX6_length_76 rfl (lv_at hl 2 rfl) ?_
  obtain ⟨g4, h⟩ := gd_e h
  refine mw_iast B hM hS 6 (by decide) (by decide) rfl g4 dX6_length_77 (fun H locs hM hS => ?_)
  refine lv_iload_n hx hb dX6_length_78 rfl (lv_at hl 3 rfl) ?_
  cases h
  exact mw_iret B hM hS dX6_length_79
set_option maxHeartbeats 4000000 in
set_option maxRecDepth 100000 in
theorem w_X6_length_41 {p : Program} {l : Launch} {e : Env} {s : State} {m : MethodId} {args : Array Value} {below : List Frame} {meth : Method} {c : Code} {G : GG} {A : Nat → Prop} {ad : Nat → Nat} (B : MB G p s m args meth c cX6_length 4 RX6 (some .int)) {r : Int32} {st' : MS} : ∀ (st : MS) (x1 : Int32) (x2 : Int32) (y1 : Int32) (H : Heap) (locs : List Loc) (ls : Array Slot), f_X6_length_41 st x1 x2 y1 = some (r, st') → MW G A ad st H → va_S A s.heap H locs → lv_has ls 4 [(0, .ref (ad 0)), (1, .int x1), (2, .int x2)] → W p l e ({ frames := 2, cells := 0, slots := 0, locals := 43 } : Room) s m args below meth c H locs 0 0 (MQ below (QM G A ad (some (.int r)) st') args s 0 0 A) (F0 m 41 ls [.int y1, .ref (ad 0)]) := by
  have ⟨hx, hb, hr, hml, hown, hT, hlocks, hK⟩ := B
  intro st x1 x2 y1 H locs ls h hM hS hl
  rw [f_X6_length_41] at h
  obtain ⟨r1, t2, e3, h⟩ := bd_e h
  refine mw_callV B hM hS [.int y1] (n := 1) (v := (some (.int r1))) (c_X6_fails e3) wm_RX6_102 wi_yX6_fails ws_yX6_fails wc_yX6_fails rfl rfl (by decide +kernel) ⟨Nat.le_of_ble_eq_true rfl, Nat.le_of_ble_eq_true rfl⟩ ⟨Nat.le_refl 0, Nat.le_refl 0⟩ rfl hl.1 (Nat.le_of_ble_eq_true rfl) rfl dX6_length_41 (fun H locs hM hS => ?_)
  refine lv_if_eq (tgt := 49) hx hb dX6_length_44 (by decide) (fun c4 => ?_) (fun c4 => ?_)
  · have h := bi_t c4 h
    refine lv_aload_n hx hb dX6_length_49 rfl (lv_at hl 0 rfl) ?_
    refine mw_get B hM 6 (by decide) wf_RX6_20 rfl (v := .ref (ad 6)) rfl dX6_length_50 ?_
    refine lv_iload_n hx hb dX6_length_53 rfl (lv_at hl 1 rfl) ?_
    obtain ⟨g5, h⟩ := gd_e h
    refine mw_iald B hM 6 (by decide) (by decide) rfl g5 dX6_length_54 ?_
    refine lv_istore_n (lv' := [(3, .int (t2.2 6 x1.toNatClampNeg)), (0, .ref (ad 0)), (1, .int x1), (2, .int x2)]) hx hb dX6_length_55 rfl hl (by decide) rfl (fun ls hl => ?_)
    refine lv_aload_n hx hb dX6_length_56 rfl (lv_at hl 1 rfl) ?_
    refine lv_iload_n hx hb dX6_length_57 rfl (lv_at hl 2 rfl) ?_
    refine lv_iload_n hx hb dX6_length_58 rfl (lv_at hl 0 rfl) ?_
    refine lv_iload_n hx hb dX6_length_59 rfl (lv_at hl 3 rfl) ?_
    refine lv_icmp_eq (tgt := 67) hx hb dX6_length_60 (by decide) (fun c6 => ?_) (fun c6 => ?_)
    · have h := bi_t c6 h
      refine lv_iconst (v := 0) hx hb dX6_length_67 (by decide) ?_
      exact w_X6_length_68 B _ _ _ _ _ _ _ _ _ h hM hS (lv_sub hl [1, 2, 3, 0] rfl)
    · have h := bi_f c6 h
      refine lv_iconst (v := 1) hx hb dX6_length_63 (by decide) ?_
      refine lv_goto (tgt := 68) hx hb dX6_length_64 (by decide) ?_
      exact w_X6_length_68 B _ _ _ _ _ _ _ _ _ h hM hS (lv_sub hl [1, 2, 3, 0] rfl)
  · have h := bi_f c4 h
    refine lv_iconst (v := 0) hx hb dX6_length_47 (by decide) ?_
    cases h
    exact mw_iret B hM hS dX6_length_48
set_option maxHeartbeats 4000000 in
set_option maxRecDepth 100000 in
theorem w_X6_length {p : Program} {l : Launch} {e : Env} {s : State} {m : MethodId} {args : Array Value} {below : List Frame} {meth : Method} {c : Code} {G : GG} {A : Nat → Prop} {ad : Nat → Nat} (B : MB G p s m args meth c cX6_length 4 RX6 (some .int)) {r : Int32} {st' : MS} : ∀ (st : MS) (x1 : Int32) (x2 : Int32) (H : Heap) (locs : List Loc) (ls : Array Slot), f_X6_length st x1 x2 = some (r, st') → MW G A ad st H → va_S A s.heap H locs → lv_has ls 4 [(0, .ref (ad 0)), (1, .int x1), (2, .int x2)] → W p l e ({ frames := 2, cells := 0, slots := 0, locals := 43 } : Room) s m args below meth c H locs 0 0 (MQ below (QM G A ad (some (.int r)) st') args s 0 0 A) (F0 m 0 ls []) := by
  have ⟨hx, hb, hr, hml, hown, hT, hlocks, hK⟩ := B
  intro st x1 x2 H locs ls h hM hS hl
  rw [f_X6_length] at h
  refine lv_aload_n hx hb dX6_length_0 rfl (lv_at hl 0 rfl) ?_
  refine lv_aload_n hx hb dX6_length_1 rfl (lv_at hl 0 rfl) ?_
  refine lv_iload_n hx hb dX6_length_2 rfl (lv_at hl 1 rfl) ?_
  obtain ⟨r1, t2, e3, h⟩ := bd_e h
  refine mw_callV B hM hS [.int x1] (n := 1) (v := (some (.int r1))) (c_X6_isShot e3) wm_RX6_118 wi_yX6_isShot ws_yX6_isShot wc_yX6_isShot rfl rfl (by decide +kernel) ⟨Nat.le_of_ble_eq_true rfl, Nat.le_of_ble_eq_true rfl⟩ ⟨Nat.le_refl 0, Nat.le_refl 0⟩ rfl hl.1 (Nat.le_of_ble_eq_true rfl) rfl dX6_length_3 (fun H locs hM hS => ?_)
  refine lv_if_ne (tgt := 13) hx hb dX6_length_6 (by decide) (fun c4 => ?_) (fun c4 => ?_)
  · have h := bi_f c4 h
    refine lv_iload_n hx hb dX6_length_13 rfl (lv_at hl 2 rfl) ?_
    refine lv_iconst (v := 1) hx hb dX6_length_14 (by decide) ?_
    refine lv_sipush (v := 240) hx hb dX6_length_15 (by decide) ?_
    obtain ⟨r5, t6, e7, h⟩ := bd_e h
    refine mw_callS B hM hS [.int x2, .int 1, .int 240] (n := 3) (v := (some (.int r5))) (c_X6_in e7) wm_RX6_91 wt_yX6_in wc_yX6_in rfl rfl (by decide +kernel) ⟨Nat.le_of_ble_eq_true rfl, Nat.le_of_ble_eq_true rfl⟩ ⟨Nat.le_refl 0, Nat.le_refl 0⟩ rfl hl.1 (Nat.le_of_ble_eq_true rfl) rfl dX6_length_18 (fun H locs hM hS => ?_)
    refine lv_if_ne (tgt := 28) hx hb dX6_length_21 (by decide) (fun c8 => ?_) (fun c8 => ?_)
    · have h := bi_f c8 h
      refine lv_aload_n hx hb dX6_length_28 rfl (lv_at hl 0 rfl) ?_
      refine lv_iload_n hx hb dX6_length_29 rfl (lv_at hl 1 rfl) ?_
      obtain ⟨r9, t10, e11, h⟩ := bd_e h
      refine mw_callV B hM hS [.int x1] (n := 1) (v := (some (.int r9))) (c_X6_placeOf e11) wm_RX6_121 wi_yX6_placeOf ws_yX6_placeOf wc_yX6_placeOf rfl rfl (by decide +kernel) ⟨Nat.le_of_ble_eq_true rfl, Nat.le_of_ble_eq_true rfl⟩ ⟨Nat.le_refl 0, Nat.le_refl 0⟩ rfl hl.1 (Nat.le_of_ble_eq_true rfl) rfl dX6_length_30 (fun H locs hM hS => ?_)
      refine lv_if_ge (tgt := 40) hx hb dX6_length_33 (by decide) (fun c12 => ?_) (fun c12 => ?_)
      · have h := bi_t c12 h
        refine lv_iconst (v := 0) hx hb dX6_length_40 (by decide) ?_
        exact w_X6_length_41 B _ _ _ _ _ _ _ h hM hS (lv_sub hl [0, 1, 2] rfl)
      · have h := bi_f c12 h
        refine lv_iconst (v := 3) hx hb dX6_length_36 (by decide) ?_
        refine lv_goto (tgt := 41) hx hb dX6_length_37 (by decide) ?_
        exact w_X6_length_41 B _ _ _ _ _ _ _ h hM hS (lv_sub hl [0, 1, 2] rfl)
    · have h := bi_t c8 h
      refine lv_iconst (v := 2) hx hb dX6_length_24 (by decide) ?_
      refine lv_goto (tgt := 41) hx hb dX6_length_25 (by decide) ?_
      exact w_X6_length_41 B _ _ _ _ _ _ _ h hM hS (lv_sub hl [0, 1, 2] rfl)
  · have h := bi_t c4 h
    refine lv_iconst (v := 1) hx hb dX6_length_9 (by decide) ?_
    refine lv_goto (tgt := 41) hx hb dX6_length_10 (by decide) ?_
    exact w_X6_length_41 B _ _ _ _ _ _ _ h hM hS (lv_sub hl [0, 1, 2] rfl)
theorem c_X6_length {l : Launch} {G : GG} {A : Nat → Prop} {ad : Nat → Nat} {st : MS} {x1 : Int32} {x2 : Int32} {r : Int32} {st' : MS} (h : f_X6_length st x1 x2 = some (r, st')) : Met l yX6_length (Cond.code yX6_length cX6_length 4 (some .int) :: TG) ({ frames := 2, cells := 0, slots := 0, locals := 43 } : Room) (PM G A ad st [.ref (ad 0), .int x1, .int x2]) (QM G A ad (some (.int r)) st') 0 0 A :=
  mw_of (own := RX6) (by decide +kernel) rfl rfl rfl (Nat.le_of_ble_eq_true rfl) fun p e s m below meth c ls B hM hS hl => w_X6_length B _ _ _ _ _ _ h hM hS hl
set_option maxHeartbeats 4000000 in
set_option maxRecDepth 100000 in
theorem w_X6_countIn_33 {p : Program} {l : Launch} {e : Env} {s : State} {m : MethodId} {args : Array Value} {below : List Frame} {meth : Method} {c : Code} {G : GG} {A : Nat → Prop} {ad : Nat → Nat} (B : MB G p s m args meth c cX6_countIn 4 RX6 (some .int)) {r : Int32} {st' : MS} {k6 : MS → Int32 → Int32 → Int32 → Option (Int32 × MS)} (hk6 : ∀ (st : MS) (x1 : Int32) (x2 : Int32) (x3 : Int32) (H : Heap) (locs : List Loc) (ls : Array Slot), k6 st x1 x2 x3 = some (r, st') → MW G A ad st H → va_S A s.heap H locs → lv_has ls 4 [(0, .ref (ad 0)), (1, .int x1), (2, .int x2), (3, .int x3)] → W p l e ({ frames := 0, cells := 0, slots := 0, locals := 0 } : Room) s m args below meth c H locs 0 0 (MQ below (QM G A ad (some (.int r)) st') args s 0 0 A) (F0 m 6 ls [])) : ∀ (st : MS) (x1 : Int32) (x3 : Int32) (y0 : Int32) (H : Heap) (locs : List Loc) (ls : Array Slot), f_X6_countIn_33 k6 st x1 x3 y0 = some (r, st') → MW G A ad st H → va_S A s.heap H locs → lv_has ls 4 [(0, .ref (ad 0)), (1, .int x1), (3, .int x3)] → W p l e ({ frames := 0, cells := 0, slots := 0, locals := 0 } : Room) s m args below meth c H locs 0 0 (MQ below (QM G A ad (some (.int r)) st') args s 0 0 A) (F0 m 33 ls [.int y0]) := by
  have ⟨hx, hb, hr, hml, hown, hT, hlocks, hK⟩ := B
  intro st x1 x3 y0 H locs ls h hM hS hl
  rw [f_X6_countIn_33] at h
  refine lv_istore_n (lv' := [(2, .int y0), (0, .ref (ad 0)), (1, .int x1), (3, .int x3)]) hx hb dX6_countIn_33 rfl hl (by decide) rfl (fun ls hl => ?_)
  refine lv_iinc (v := (x3 + 1)) (lv' := [(3, .int (x3 + 1)), (2, .int y0), (0, .ref (ad 0)), (1, .int x1)]) hx hb dX6_countIn_34 hl (k := 3) rfl rfl (by decide) rfl (fun ls hl => ?_)
  refine lv_goto (tgt := 6) hx hb dX6_countIn_37 (by decide) ?_
  exact hk6 _ _ _ _ _ _ _ h hM hS (lv_sub hl [2, 3, 1, 0] rfl)
set_option maxHeartbeats 4000000 in
set_option maxRecDepth 100000 in
theorem w_X6_countIn_6 {p : Program} {l : Launch} {e : Env} {s : State} {m : MethodId} {args : Array Value} {below : List Frame} {meth : Method} {c : Code} {G : GG} {A : Nat → Prop} {ad : Nat → Nat} (B : MB G p s m args meth c cX6_countIn 4 RX6 (some .int)) {r : Int32} {st' : MS} : ∀ (n : Nat) (st : MS) (x1 : Int32) (x2 : Int32) (x3 : Int32) (H : Heap) (locs : List Loc) (ls : Array Slot), f_X6_countIn_6 n st x1 x2 x3 = some (r, st') → MW G A ad st H → va_S A s.heap H locs → lv_has ls 4 [(0, .ref (ad 0)), (1, .int x1), (2, .int x2), (3, .int x3)] → W p l e ({ frames := 0, cells := 0, slots := 0, locals := 0 } : Room) s m args below meth c H locs 0 0 (MQ below (QM G A ad (some (.int r)) st') args s 0 0 A) (F0 m 6 ls []) := by
  have ⟨hx, hb, hr, hml, hown, hT, hlocks, hK⟩ := B
  intro n
  induction n with
  | zero =>
    intro st x1 x2 x3 H locs ls h
    cases h
  | succ n ih =>
    intro st x1 x2 x3 H locs ls h hM hS hl
    rw [f_X6_countIn_6] at h
    refine lv_iload_n hx hb dX6_countIn_6 rfl (lv_at hl 3 rfl) ?_
    refine lv_iconst (v := 4) hx hb dX6_countIn_7 (by decide) ?_
    refine lv_iload_n hx hb dX6_countIn_8 rfl (lv_at hl 1 rfl) ?_
    refine lv_imul hx hb dX6_countIn_9 ?_
    refine lv_iconst (v := 4) hx hb dX6_countIn_10 (by decide) ?_
    refine lv_iadd hx hb dX6_countIn_11 ?_
    refine lv_icmp_ge (tgt := 40) hx hb dX6_countIn_12 (by decide) (fun c1 => ?_) (fun c1 => ?_)
    · have h := bi_t c1 h
      refine lv_iload_n hx hb dX6_countIn_40 rfl (lv_at hl 2 rfl) ?_
      cases h
      exact mw_iret B hM hS dX6_countIn_41
    · have h := bi_f c1 h
      refine lv_aload_n hx hb dX6_countIn_15 rfl (lv_at hl 0 rfl) ?_
      refine mw_get B hM 11 (by decide) wf_RX6_36 rfl (v := .ref (ad 11)) rfl dX6_countIn_16 ?_
      refine lv_iload_n hx hb dX6_countIn_19 rfl (lv_at hl 3 rfl) ?_
      obtain ⟨g2, h⟩ := gd_e h
      refine mw_cald B hM 11 (by decide) (by decide) rfl g2 dX6_countIn_20 ?_
      refine lv_bipush (v := 45) hx hb dX6_countIn_21 (by decide) ?_
      refine lv_icmp_eq (tgt := 32) hx hb dX6_countIn_23 (by decide) (fun c3 => ?_) (fun c3 => ?_)
      · have h := bi_t c3 h
        refine lv_iload_n hx hb dX6_countIn_32 rfl (lv_at hl 2 rfl) ?_
        exact w_X6_countIn_33 B ih _ _ _ _ _ _ _ h hM hS (lv_sub hl [0, 1, 3] rfl)
      · have h := bi_f c3 h
        refine lv_iload_n hx hb dX6_countIn_26 rfl (lv_at hl 2 rfl) ?_
        refine lv_iconst (v := 1) hx hb dX6_countIn_27 (by decide) ?_
        refine lv_iadd hx hb dX6_countIn_28 ?_
        refine lv_goto (tgt := 33) hx hb dX6_countIn_29 (by decide) ?_
        exact w_X6_countIn_33 B ih _ _ _ _ _ _ _ h hM hS (lv_sub hl [0, 1, 3] rfl)
set_option maxHeartbeats 4000000 in
set_option maxRecDepth 100000 in
theorem w_X6_countIn {p : Program} {l : Launch} {e : Env} {s : State} {m : MethodId} {args : Array Value} {below : List Frame} {meth : Method} {c : Code} {G : GG} {A : Nat → Prop} {ad : Nat → Nat} (B : MB G p s m args meth c cX6_countIn 4 RX6 (some .int)) {r : Int32} {st' : MS} : ∀ (st : MS) (x1 : Int32) (H : Heap) (locs : List Loc) (ls : Array Slot), f_X6_countIn st x1 = some (r, st') → MW G A ad st H → va_S A s.heap H locs → lv_has ls 4 [(0, .ref (ad 0)), (1, .int x1)] → W p l e ({ frames := 0, cells := 0, slots := 0, locals := 0 } : Room) s m args below meth c H locs 0 0 (MQ below (QM G A ad (some (.int r)) st') args s 0 0 A) (F0 m 0 ls []) := by
  have ⟨hx, hb, hr, hml, hown, hT, hlocks, hK⟩ := B
  intro st x1 H locs ls h hM hS hl
  rw [f_X6_countIn] at h
  refine lv_iconst (v := 0) hx hb dX6_countIn_0 (by decide) ?_
  refine lv_istore_n (lv' := [(2, .int 0), (0, .ref (ad 0)), (1, .int x1)]) hx hb dX6_countIn_1 rfl hl (by decide) rfl (fun ls hl => ?_)
  refine lv_iconst (v := 4) hx hb dX6_countIn_2 (by decide) ?_
  refine lv_iload_n hx hb dX6_countIn_3 rfl (lv_at hl 2 rfl) ?_
  refine lv_imul hx hb dX6_countIn_4 ?_
  refine lv_istore_n (lv' := [(3, .int (4 * x1)), (2, .int 0), (0, .ref (ad 0)), (1, .int x1)]) hx hb dX6_countIn_5 rfl hl (by decide) rfl (fun ls hl => ?_)
  exact w_X6_countIn_6 B FU _ _ _ _ _ _ _ h hM hS (lv_sub hl [2, 3, 1, 0] rfl)
theorem c_X6_countIn {l : Launch} {G : GG} {A : Nat → Prop} {ad : Nat → Nat} {st : MS} {x1 : Int32} {r : Int32} {st' : MS} (h : f_X6_countIn st x1 = some (r, st')) : Met l yX6_countIn (Cond.code yX6_countIn cX6_countIn 4 (some .int) :: TG) ({ frames := 0, cells := 0, slots := 0, locals := 0 } : Room) (PM G A ad st [.ref (ad 0), .int x1]) (QM G A ad (some (.int r)) st') 0 0 A :=
  mw_of (own := RX6) (by decide +kernel) rfl rfl rfl (Nat.le_of_ble_eq_true rfl) fun p e s m below meth c ls B hM hS hl => w_X6_countIn B _ _ _ _ _ h hM hS hl
set_option maxHeartbeats 4000000 in
set_option maxRecDepth 100000 in
theorem w_X6_stand_176 {p : Program} {l : Launch} {e : Env} {s : State} {m : MethodId} {args : Array Value} {below : List Frame} {meth : Method} {c : Code} {G : GG} {A : Nat → Prop} {ad : Nat → Nat} (B : MB G p s m args meth c cX6_stand 8 RX6 (some .int)) {r : Int32} {st' : MS} : ∀ (st : MS) (x1 : Int32) (H : Heap) (locs : List Loc) (ls : Array Slot), f_X6_stand_176 st x1 = some (r, st') → MW G A ad st H → va_S A s.heap H locs → lv_has ls 8 [(0, .ref (ad 0)), (1, .int x1)] → W p l e ({ frames := 2, cells := 0, slots := 0, locals := 43 } : Room) s m args below meth c H locs 0 0 (MQ below (QM G A ad (some (.int r)) st') args s 0 0 A) (F0 m 176 ls []) := by
  have ⟨hx, hb, hr, hml, hown, hT, hlocks, hK⟩ := B
  intro st x1 H locs ls h hM hS hl
  rw [f_X6_stand_176] at h
  refine lv_aload_n hx hb dX6_stand_176 rfl (lv_at hl 0 rfl) ?_
  refine lv_iload_n hx hb dX6_stand_177 rfl (lv_at hl 1 rfl) ?_
  obtain ⟨r1, t2, e3, h⟩ := bd_e h
  refine mw_callV B hM hS [.int x1] (n := 1) (v := (some (.int r1))) (c_X6_countIn e3) wm_RX6_137 wi_yX6_countIn ws_yX6_countIn wc_yX6_countIn rfl rfl (by decide +kernel) ⟨Nat.le_of_ble_eq_true rfl, Nat.le_of_ble_eq_true rfl⟩ ⟨Nat.le_refl 0, Nat.le_refl 0⟩ rfl hl.1 (Nat.le_of_ble_eq_true rfl) rfl dX6_stand_178 (fun H locs hM hS => ?_)
  cases h
  exact mw_iret B hM hS dX6_stand_181
set_option maxHeartbeats 4000000 in
set_option maxRecDepth 100000 in
theorem w_X6_stand_132 {p : Program} {l : Launch} {e : Env} {s : State} {m : MethodId} {args : Array Value} {below : List Frame} {meth : Method} {c : Code} {G : GG} {A : Nat → Prop} {ad : Nat → Nat} (B : MB G p s m args meth c cX6_stand 8 RX6 (some .int)) {r : Int32} {st' : MS} : ∀ (st : MS) (x1 : Int32) (x3 : Int32) (x6 : Int32) (x7 : Int32) (y1 : Int32) (y2 : Int32) (H : Heap) (locs : List Loc) (ls : Array Slot), f_X6_stand_132 st x1 x3 x6 x7 y1 y2 = some (r, st') → MW G A ad st H → va_S A s.heap H locs → lv_has ls 8 [(0, .ref (ad 0)), (1, .int x1), (3, .int x3), (6, .int x6), (7, .int x7)] → W p l e ({ frames := 2, cells := 0, slots := 0, locals := 43 } : Room) s m args below meth c H locs 0 0 (MQ below (QM G A ad (some (.int r)) st') args s 0 0 A) (F0 m 132 ls [.int y2, .int y1, .ref (ad 0)]) := by
  have ⟨hx, hb, hr, hml, hown, hT, hlocks, hK⟩ := B
  intro st x1 x3 x6 x7 y1 y2 H locs ls h hM hS hl
  rw [f_X6_stand_132] at h
  obtain ⟨r1, t2, e3, h⟩ := bd_e h
  refine mw_callV B hM hS [.int y1, .int y2] (n := 2) (v := none) (c_X6_change e3) wm_RX6_129 wi_yX6_change ws_yX6_change wc_yX6_change rfl rfl (by decide +kernel) ⟨Nat.le_of_ble_eq_true rfl, Nat.le_of_ble_eq_true rfl⟩ ⟨Nat.le_refl 0, Nat.le_refl 0⟩ rfl hl.1 (Nat.le_of_ble_eq_true rfl) rfl dX6_stand_132 (fun H locs hM hS => ?_)
  refine lv_aload_n hx hb dX6_stand_135 rfl (lv_at hl 0 rfl) ?_
  refine mw_get B hM 11 (by decide) wf_RX6_36 rfl (v := .ref (ad 11)) rfl dX6_stand_136 ?_
  refine lv_iload hx hb dX6_stand_139 (lv_at hl 3 rfl) ?_
  refine lv_iload_n hx hb dX6_stand_141 rfl (lv_at hl 2 rfl) ?_
  obtain ⟨g4, h⟩ := gd_e h
  refine mw_cast B hM hS 11 (by decide) (by decide) rfl g4 dX6_stand_142 (fun H locs hM hS => ?_)
  refine lv_aload_n hx hb dX6_stand_143 rfl (lv_at hl 0 rfl) ?_
  refine mw_get B hM 12 (by decide) wf_RX6_39 rfl (v := .ref (ad 12)) rfl dX6_stand_144 ?_
  refine lv_iload hx hb dX6_stand_147 (lv_at hl 3 rfl) ?_
  refine lv_iload hx hb dX6_stand_149 (lv_at hl 4 rfl) ?_
  obtain ⟨g5, h⟩ := gd_e h
  refine mw_cast B hM hS 12 (by decide) (by decide) rfl g5 dX6_stand_151 (fun H locs hM hS => ?_)
  refine lv_iload_n hx hb dX6_stand_152 rfl (lv_at hl 2 rfl) ?_
  refine lv_bipush (v := 45) hx hb dX6_stand_153 (by decide) ?_
  refine lv_icmp_ne (tgt := 176) hx hb dX6_stand_155 (by decide) (fun c6 => ?_) (fun c6 => ?_)
  · have h := bi_f c6 h
    exact w_X6_stand_176 B _ _ _ _ _ h hM hS (lv_sub hl [0, 1] rfl)
  · have h := bi_t c6 h
    refine lv_aload_n hx hb dX6_stand_158 rfl (lv_at hl 0 rfl) ?_
    refine mw_get B hM 13 (by decide) wf_RX6_42 rfl (v := .ref (ad 13)) rfl dX6_stand_159 ?_
    refine lv_iload hx hb dX6_stand_162 (lv_at hl 3 rfl) ?_
    refine lv_bipush (v := 45) hx hb dX6_stand_164 (by decide) ?_
    obtain ⟨g7, h⟩ := gd_e h
    refine mw_cast B hM hS 13 (by decide) (by decide) rfl g7 dX6_stand_166 (fun H locs hM hS => ?_)
    refine lv_aload_n hx hb dX6_stand_167 rfl (lv_at hl 0 rfl) ?_
    refine mw_get B hM 14 (by decide) wf_RX6_45 rfl (v := .ref (ad 14)) rfl dX6_stand_168 ?_
    refine lv_iload hx hb dX6_stand_171 (lv_at hl 3 rfl) ?_
    refine lv_bipush (v := 45) hx hb dX6_stand_173 (by decide) ?_
    obtain ⟨g8, h⟩ := gd_e h
    refine mw_cast B hM hS 14 (by decide) (by decide) rfl g8 dX6_stand_175 (fun H locs hM hS => ?_)
    exact w_X6_stand_176 B _ _ _ _ _ h hM hS (lv_sub hl [0, 1] rfl)
set_option maxHeartbeats 4000000 in
set_option maxRecDepth 100000 in
theorem w_X6_stand_127 {p : Program} {l : Launch} {e : Env} {s : State} {m : MethodId} {args : Array Value} {below : List Frame} {meth : Method} {c : Code} {G : GG} {A : Nat → Prop} {ad : Nat → Nat} (B : MB G p s m args meth c cX6_stand 8 RX6 (some .int)) {r : Int32} {st' : MS} : ∀ (st : MS) (x1 : Int32) (x3 : Int32) (x6 : Int32) (x7 : Int32) (y1 : Int32) (H : Heap) (locs : List Loc) (ls : Array Slot), f_X6_stand_127 st x1 x3 x6 x7 y1 = some (r, st') → MW G A ad st H → va_S A s.heap H locs → lv_has ls 8 [(0, .ref (ad 0)), (1, .int x1), (3, .int x3), (6, .int x6), (7, .int x7)] → W p l e ({ frames := 2, cells := 0, slots := 0, locals := 43 } : Room) s m args below meth c H locs 0 0 (MQ below (QM G A ad (some (.int r)) st') args s 0 0 A) (F0 m 127 ls [.int y1, .ref (ad 0)]) := by
  have ⟨hx, hb, hr, hml, hown, hT, hlocks, hK⟩ := B
  intro st x1 x3 x6 x7 y1 H locs ls h hM hS hl
  rw [f_X6_stand_127] at h
  refine lv_iconst (v := 1) hx hb dX6_stand_127 (by decide) ?_
  refine lv_goto (tgt := 132) hx hb dX6_stand_128 (by decide) ?_
  exact w_X6_stand_132 B _ _ _ _ _ _ _ _ _ _ h hM hS (lv_sub hl [0, 1, 2, 3, 4] rfl)
set_option maxHeartbeats 4000000 in
set_option maxRecDepth 100000 in
theorem w_X6_stand_100 {p : Program} {l : Launch} {e : Env} {s : State} {m : MethodId} {args : Array Value} {below : List Frame} {meth : Method} {c : Code} {G : GG} {A : Nat → Prop} {ad : Nat → Nat} (B : MB G p s m args meth c cX6_stand 8 RX6 (some .int)) {r : Int32} {st' : MS} : ∀ (st : MS) (x1 : Int32) (x3 : Int32) (x6 : Int32) (y0 : Int32) (H : Heap) (locs : List Loc) (ls : Array Slot), f_X6_stand_100 st x1 x3 x6 y0 = some (r, st') → MW G A ad st H → va_S A s.heap H locs → lv_has ls 8 [(0, .ref (ad 0)), (1, .int x1), (3, .int x3), (6, .int x6)] → W p l e ({ frames := 2, cells := 0, slots := 0, locals := 43 } : Room) s m args below meth c H locs 0 0 (MQ below (QM G A ad (some (.int r)) st') args s 0 0 A) (F0 m 100 ls [.int y0]) := by
  have ⟨hx, hb, hr, hml, hown, hT, hlocks, hK⟩ := B
  intro st x1 x3 x6 y0 H locs ls h hM hS hl
  rw [f_X6_stand_100] at h
  refine lv_istore (lv' := [(7, .int y0), (0, .ref (ad 0)), (1, .int x1), (3, .int x3), (6, .int x6)]) hx hb dX6_stand_100 hl (by decide) rfl (fun ls hl => ?_)
  refine lv_aload_n hx hb dX6_stand_102 rfl (lv_at hl 1 rfl) ?_
  refine lv_iload_n hx hb dX6_stand_103 rfl (lv_at hl 2 rfl) ?_
  refine lv_aload_n hx hb dX6_stand_104 rfl (lv_at hl 1 rfl) ?_
  refine mw_get B hM 11 (by decide) wf_RX6_36 rfl (v := .ref (ad 11)) rfl dX6_stand_105 ?_
  refine lv_iload hx hb dX6_stand_108 (lv_at hl 4 rfl) ?_
  obtain ⟨g1, h⟩ := gd_e h
  refine mw_cald B hM 11 (by decide) (by decide) rfl g1 dX6_stand_110 ?_
  refine lv_iload_n hx hb dX6_stand_111 rfl (lv_at hl 3 rfl) ?_
  refine lv_icmp_ne (tgt := 127) hx hb dX6_stand_112 (by decide) (fun c2 => ?_) (fun c2 => ?_)
  · have h := bi_f c2 h
    exact w_X6_stand_127 B _ _ _ _ _ _ _ _ _ h hM hS (lv_sub hl [1, 2, 3, 4, 0] rfl)
  · have h := bi_t c2 h
    refine lv_aload_n hx hb dX6_stand_115 rfl (lv_at hl 1 rfl) ?_
    refine mw_get B hM 12 (by decide) wf_RX6_39 rfl (v := .ref (ad 12)) rfl dX6_stand_116 ?_
    refine lv_iload hx hb dX6_stand_119 (lv_at hl 4 rfl) ?_
    obtain ⟨g3, h⟩ := gd_e h
    refine mw_cald B hM 12 (by decide) (by decide) rfl g3 dX6_stand_121 ?_
    refine lv_iload hx hb dX6_stand_122 (lv_at hl 0 rfl) ?_
    refine lv_icmp_eq (tgt := 131) hx hb dX6_stand_124 (by decide) (fun c4 => ?_) (fun c4 => ?_)
    · have h := bi_t c4 h
      refine lv_iconst (v := 0) hx hb dX6_stand_131 (by decide) ?_
      exact w_X6_stand_132 B _ _ _ _ _ _ _ _ _ _ h hM hS (lv_sub hl [1, 2, 3, 4, 0] rfl)
    · have h := bi_f c4 h
      exact w_X6_stand_127 B _ _ _ _ _ _ _ _ _ h hM hS (lv_sub hl [1, 2, 3, 4, 0] rfl)
set_option maxHeartbeats 4000000 in
set_option maxRecDepth 100000 in
theorem w_X6_stand_72 {p : Program} {l : Launch} {e : Env} {s : State} {m : MethodId} {args : Array Value} {below : List Frame} {meth : Method} {c : Code} {G : GG} {A : Nat → Prop} {ad : Nat → Nat} (B : MB G p s m args meth c cX6_stand 8 RX6 (some .int)) {r : Int32} {st' : MS} : ∀ (st : MS) (x1 : Int32) (x2 : Int32) (x3 : Int32) (x4 : Int32) (y1 : Int32) (H : Heap) (locs : List Loc) (ls : Array Slot), f_X6_stand_72 st x1 x2 x3 x4 y1 = some (r, st') → MW G A ad st H → va_S A s.heap H locs → lv_has ls 8 [(0, .ref (ad 0)), (1, .int x1), (2, .int x2), (3, .int x3), (4, .int x4)] → W p l e ({ frames := 2, cells := 0, slots := 0, locals := 43 } : Room) s m args below meth c H locs 0 0 (MQ below (QM G A ad (some (.int r)) st') args s 0 0 A) (F0 m 72 ls [.int y1, .ref (ad 0)]) := by
  have ⟨hx, hb, hr, hml, hown, hT, hlocks, hK⟩ := B
  intro st x1 x2 x3 x4 y1 H locs ls h hM hS hl
  rw [f_X6_stand_72] at h
  obtain ⟨r1, t2, e3, h⟩ := bd_e h
  refine mw_callV B hM hS [.int y1] (n := 1) (v := (some (.int r1))) (c_X6_fails e3) wm_RX6_102 wi_yX6_fails ws_yX6_fails wc_yX6_fails rfl rfl (by decide +kernel) ⟨Nat.le_of_ble_eq_true rfl, Nat.le_of_ble_eq_true rfl⟩ ⟨Nat.le_refl 0, Nat.le_refl 0⟩ rfl hl.1 (Nat.le_of_ble_eq_true rfl) rfl dX6_stand_72 (fun H locs hM hS => ?_)
  refine lv_if_eq (tgt := 80) hx hb dX6_stand_75 (by decide) (fun c4 => ?_) (fun c4 => ?_)
  · have h := bi_t c4 h
    refine lv_iconst (v := 4) hx hb dX6_stand_80 (by decide) ?_
    refine lv_iload_n hx hb dX6_stand_81 rfl (lv_at hl 1 rfl) ?_
    refine lv_imul hx hb dX6_stand_82 ?_
    refine lv_iload_n hx hb dX6_stand_83 rfl (lv_at hl 2 rfl) ?_
    refine lv_iadd hx hb dX6_stand_84 ?_
    refine lv_istore (lv' := [(6, .int ((4 * x1) + x2)), (0, .ref (ad 0)), (1, .int x1), (2, .int x2), (3, .int x3), (4, .int x4)]) hx hb dX6_stand_85 hl (by decide) rfl (fun ls hl => ?_)
    refine lv_iload_n hx hb dX6_stand_87 rfl (lv_at hl 4 rfl) ?_
    refine lv_bipush (v := 45) hx hb dX6_stand_88 (by decide) ?_
    refine lv_icmp_ne (tgt := 98) hx hb dX6_stand_90 (by decide) (fun c5 => ?_) (fun c5 => ?_)
    · have h := bi_f c5 h
      refine lv_iload hx hb dX6_stand_98 (lv_at hl 5 rfl) ?_
      exact w_X6_stand_100 B _ _ _ _ _ _ _ _ h hM hS (lv_sub hl [1, 2, 4, 0] rfl)
    · have h := bi_t c5 h
      refine lv_bipush (v := 45) hx hb dX6_stand_93 (by decide) ?_
      refine lv_goto (tgt := 100) hx hb dX6_stand_95 (by decide) ?_
      exact w_X6_stand_100 B _ _ _ _ _ _ _ _ h hM hS (lv_sub hl [1, 2, 4, 0] rfl)
  · have h := bi_f c4 h
    refine lv_iconst (v := 0) hx hb dX6_stand_78 (by decide) ?_
    cases h
    exact mw_iret B hM hS dX6_stand_79
set_option maxHeartbeats 4000000 in
set_option maxRecDepth 100000 in
theorem w_X6_stand_35 {p : Program} {l : Launch} {e : Env} {s : State} {m : MethodId} {args : Array Value} {below : List Frame} {meth : Method} {c : Code} {G : GG} {A : Nat → Prop} {ad : Nat → Nat} (B : MB G p s m args meth c cX6_stand 8 RX6 (some .int)) {r : Int32} {st' : MS} : ∀ (st : MS) (x1 : Int32) (x2 : Int32) (x3 : Int32) (x4 : Int32) (y0 : Int32) (H : Heap) (locs : List Loc) (ls : Array Slot), f_X6_stand_35 st x1 x2 x3 x4 y0 = some (r, st') → MW G A ad st H → va_S A s.heap H locs → lv_has ls 8 [(0, .ref (ad 0)), (1, .int x1), (2, .int x2), (3, .int x3), (4, .int x4)] → W p l e ({ frames := 2, cells := 0, slots := 0, locals := 43 } : Room) s m args below meth c H locs 0 0 (MQ below (QM G A ad (some (.int r)) st') args s 0 0 A) (F0 m 35 ls [.int y0]) := by
  have ⟨hx, hb, hr, hml, hown, hT, hlocks, hK⟩ := B
  intro st x1 x2 x3 x4 y0 H locs ls h hM hS hl
  rw [f_X6_stand_35] at h
  refine lv_istore (lv' := [(5, .int y0), (0, .ref (ad 0)), (1, .int x1), (2, .int x2), (3, .int x3), (4, .int x4)]) hx hb dX6_stand_35 hl (by decide) rfl (fun ls hl => ?_)
  refine lv_aload_n hx hb dX6_stand_37 rfl (lv_at hl 1 rfl) ?_
  refine lv_aload_n hx hb dX6_stand_38 rfl (lv_at hl 1 rfl) ?_
  refine lv_iload_n hx hb dX6_stand_39 rfl (lv_at hl 2 rfl) ?_
  obtain ⟨r1, t2, e3, h⟩ := bd_e h
  refine mw_callV B hM hS [.int x1] (n := 1) (v := (some (.int r1))) (c_X6_isShot e3) wm_RX6_118 wi_yX6_isShot ws_yX6_isShot wc_yX6_isShot rfl rfl (by decide +kernel) ⟨Nat.le_of_ble_eq_true rfl, Nat.le_of_ble_eq_true rfl⟩ ⟨Nat.le_refl 0, Nat.le_refl 0⟩ rfl hl.1 (Nat.le_of_ble_eq_true rfl) rfl dX6_stand_40 (fun H locs hM hS => ?_)
  refine lv_if_ne (tgt := 50) hx hb dX6_stand_43 (by decide) (fun c4 => ?_) (fun c4 => ?_)
  · have h := bi_f c4 h
    refine lv_iload hx hb dX6_stand_50 (lv_at hl 0 rfl) ?_
    refine lv_if_ne (tgt := 59) hx hb dX6_stand_52 (by decide) (fun c5 => ?_) (fun c5 => ?_)
    · have h := bi_f c5 h
      refine lv_aload_n hx hb dX6_stand_59 rfl (lv_at hl 1 rfl) ?_
      refine lv_iload_n hx hb dX6_stand_60 rfl (lv_at hl 2 rfl) ?_
      obtain ⟨r6, t7, e8, h⟩ := bd_e h
      refine mw_callV B hM hS [.int x1] (n := 1) (v := (some (.int r6))) (c_X6_placeOf e8) wm_RX6_121 wi_yX6_placeOf ws_yX6_placeOf wc_yX6_placeOf rfl rfl (by decide +kernel) ⟨Nat.le_of_ble_eq_true rfl, Nat.le_of_ble_eq_true rfl⟩ ⟨Nat.le_refl 0, Nat.le_refl 0⟩ rfl hl.1 (Nat.le_of_ble_eq_true rfl) rfl dX6_stand_61 (fun H locs hM hS => ?_)
      refine lv_if_ge (tgt := 71) hx hb dX6_stand_64 (by decide) (fun c9 => ?_) (fun c9 => ?_)
      · have h := bi_t c9 h
        refine lv_iconst (v := 0) hx hb dX6_stand_71 (by decide) ?_
        exact w_X6_stand_72 B _ _ _ _ _ _ _ _ _ h hM hS (lv_sub hl [1, 2, 3, 4, 5] rfl)
      · have h := bi_f c9 h
        refine lv_iconst (v := 3) hx hb dX6_stand_67 (by decide) ?_
        refine lv_goto (tgt := 72) hx hb dX6_stand_68 (by decide) ?_
        exact w_X6_stand_72 B _ _ _ _ _ _ _ _ _ h hM hS (lv_sub hl [1, 2, 3, 4, 5] rfl)
    · have h := bi_t c5 h
      refine lv_iconst (v := 2) hx hb dX6_stand_55 (by decide) ?_
      refine lv_goto (tgt := 72) hx hb dX6_stand_56 (by decide) ?_
      exact w_X6_stand_72 B _ _ _ _ _ _ _ _ _ h hM hS (lv_sub hl [1, 2, 3, 4, 5] rfl)
  · have h := bi_t c4 h
    refine lv_iconst (v := 1) hx hb dX6_stand_46 (by decide) ?_
    refine lv_goto (tgt := 72) hx hb dX6_stand_47 (by decide) ?_
    exact w_X6_stand_72 B _ _ _ _ _ _ _ _ _ h hM hS (lv_sub hl [1, 2, 3, 4, 5] rfl)
set_option maxHeartbeats 4000000 in
set_option maxRecDepth 100000 in
theorem w_X6_stand_34 {p : Program} {l : Launch} {e : Env} {s : State} {m : MethodId} {args : Array Value} {below : List Frame} {meth : Method} {c : Code} {G : GG} {A : Nat → Prop} {ad : Nat → Nat} (B : MB G p s m args meth c cX6_stand 8 RX6 (some .int)) {r : Int32} {st' : MS} : ∀ (st : MS) (x1 : Int32) (x2 : Int32) (x3 : Int32) (x4 : Int32) (H : Heap) (locs : List Loc) (ls : Array Slot), f_X6_stand_34 st x1 x2 x3 x4 = some (r, st') → MW G A ad st H → va_S A s.heap H locs → lv_has ls 8 [(0, .ref (ad 0)), (1, .int x1), (2, .int x2), (3, .int x3), (4, .int x4)] → W p l e ({ frames := 2, cells := 0, slots := 0, locals := 43 } : Room) s m args below meth c H locs 0 0 (MQ below (QM G A ad (some (.int r)) st') args s 0 0 A) (F0 m 34 ls []) := by
  have ⟨hx, hb, hr, hml, hown, hT, hlocks, hK⟩ := B
  intro st x1 x2 x3 x4 H locs ls h hM hS hl
  rw [f_X6_stand_34] at h
  refine lv_iconst (v := 0) hx hb dX6_stand_34 (by decide) ?_
  exact w_X6_stand_35 B _ _ _ _ _ _ _ _ _ h hM hS (lv_sub hl [0, 1, 2, 3, 4] rfl)
set_option maxHeartbeats 4000000 in
set_option maxRecDepth 100000 in
theorem w_X6_stand_30 {p : Program} {l : Launch} {e : Env} {s : State} {m : MethodId} {args : Array Value} {below : List Frame} {meth : Method} {c : Code} {G : GG} {A : Nat → Prop} {ad : Nat → Nat} (B : MB G p s m args meth c cX6_stand 8 RX6 (some .int)) {r : Int32} {st' : MS} : ∀ (st : MS) (x1 : Int32) (x2 : Int32) (x3 : Int32) (x4 : Int32) (H : Heap) (locs : List Loc) (ls : Array Slot), f_X6_stand_30 st x1 x2 x3 x4 = some (r, st') → MW G A ad st H → va_S A s.heap H locs → lv_has ls 8 [(0, .ref (ad 0)), (1, .int x1), (2, .int x2), (3, .int x3), (4, .int x4)] → W p l e ({ frames := 2, cells := 0, slots := 0, locals := 43 } : Room) s m args below meth c H locs 0 0 (MQ below (QM G A ad (some (.int r)) st') args s 0 0 A) (F0 m 30 ls []) := by
  have ⟨hx, hb, hr, hml, hown, hT, hlocks, hK⟩ := B
  intro st x1 x2 x3 x4 H locs ls h hM hS hl
  rw [f_X6_stand_30] at h
  refine lv_iconst (v := 1) hx hb dX6_stand_30 (by decide) ?_
  refine lv_goto (tgt := 35) hx hb dX6_stand_31 (by decide) ?_
  exact w_X6_stand_35 B _ _ _ _ _ _ _ _ _ h hM hS (lv_sub hl [0, 1, 2, 3, 4] rfl)
set_option maxHeartbeats 4000000 in
set_option maxRecDepth 100000 in
theorem w_X6_stand {p : Program} {l : Launch} {e : Env} {s : State} {m : MethodId} {args : Array Value} {below : List Frame} {meth : Method} {c : Code} {G : GG} {A : Nat → Prop} {ad : Nat → Nat} (B : MB G p s m args meth c cX6_stand 8 RX6 (some .int)) {r : Int32} {st' : MS} : ∀ (st : MS) (x1 : Int32) (x2 : Int32) (x3 : Int32) (x4 : Int32) (H : Heap) (locs : List Loc) (ls : Array Slot), f_X6_stand st x1 x2 x3 x4 = some (r, st') → MW G A ad st H → va_S A s.heap H locs → lv_has ls 8 [(0, .ref (ad 0)), (1, .int x1), (2, .int x2), (3, .int x3), (4, .int x4)] → W p l e ({ frames := 2, cells := 0, slots := 0, locals := 43 } : Room) s m args below meth c H locs 0 0 (MQ below (QM G A ad (some (.int r)) st') args s 0 0 A) (F0 m 0 ls []) := by
  have ⟨hx, hb, hr, hml, hown, hT, hlocks, hK⟩ := B
  intro st x1 x2 x3 x4 H locs ls h hM hS hl
  rw [f_X6_stand] at h
  refine lv_iload_n hx hb dX6_stand_0 rfl (lv_at hl 2 rfl) ?_
  refine lv_iconst (v := 0) hx hb dX6_stand_1 (by decide) ?_
  refine lv_iconst (v := 3) hx hb dX6_stand_2 (by decide) ?_
  obtain ⟨r1, t2, e3, h⟩ := bd_e h
  refine mw_callS B hM hS [.int x2, .int 0, .int 3] (n := 3) (v := (some (.int r1))) (c_X6_in e3) wm_RX6_91 wt_yX6_in wc_yX6_in rfl rfl (by decide +kernel) ⟨Nat.le_of_ble_eq_true rfl, Nat.le_of_ble_eq_true rfl⟩ ⟨Nat.le_refl 0, Nat.le_refl 0⟩ rfl hl.1 (Nat.le_of_ble_eq_true rfl) rfl dX6_stand_3 (fun H locs hM hS => ?_)
  refine lv_if_eq (tgt := 34) hx hb dX6_stand_6 (by decide) (fun c4 => ?_) (fun c4 => ?_)
  · have h := bi_t c4 h
    exact w_X6_stand_34 B _ _ _ _ _ _ _ _ h hM hS (lv_sub hl [0, 1, 2, 3, 4] rfl)
  · have h := bi_f c4 h
    refine lv_iload_n hx hb dX6_stand_9 rfl (lv_at hl 3 rfl) ?_
    refine lv_bipush (v := 45) hx hb dX6_stand_10 (by decide) ?_
    refine lv_icmp_eq (tgt := 30) hx hb dX6_stand_12 (by decide) (fun c5 => ?_) (fun c5 => ?_)
    · have h := bi_t c5 h
      exact w_X6_stand_30 B _ _ _ _ _ _ _ _ h hM hS (lv_sub hl [0, 1, 2, 3, 4] rfl)
    · have h := bi_f c5 h
      refine lv_iload_n hx hb dX6_stand_15 rfl (lv_at hl 3 rfl) ?_
      obtain ⟨r6, t7, e8, h⟩ := bd_e h
      refine mw_callS B hM hS [.int x3] (n := 1) (v := (some (.int r6))) (c_X6_isThird e8) wm_RX6_133 wt_yX6_isThird wc_yX6_isThird rfl rfl (by decide +kernel) ⟨Nat.le_of_ble_eq_true rfl, Nat.le_of_ble_eq_true rfl⟩ ⟨Nat.le_refl 0, Nat.le_refl 0⟩ rfl hl.1 (Nat.le_of_ble_eq_true rfl) rfl dX6_stand_16 (fun H locs hM hS => ?_)
      refine lv_if_eq (tgt := 34) hx hb dX6_stand_19 (by decide) (fun c9 => ?_) (fun c9 => ?_)
      · have h := bi_t c9 h
        exact w_X6_stand_34 B _ _ _ _ _ _ _ _ h hM hS (lv_sub hl [0, 1, 2, 3, 4] rfl)
      · have h := bi_f c9 h
        refine lv_iload hx hb dX6_stand_22 (lv_at hl 4 rfl) ?_
        obtain ⟨r10, t11, e12, h⟩ := bd_e h
        refine mw_callS B hM hS [.int x4] (n := 1) (v := (some (.int r10))) (c_X6_isThird e12) wm_RX6_133 wt_yX6_isThird wc_yX6_isThird rfl rfl (by decide +kernel) ⟨Nat.le_of_ble_eq_true rfl, Nat.le_of_ble_eq_true rfl⟩ ⟨Nat.le_refl 0, Nat.le_refl 0⟩ rfl hl.1 (Nat.le_of_ble_eq_true rfl) rfl dX6_stand_24 (fun H locs hM hS => ?_)
        refine lv_if_eq (tgt := 34) hx hb dX6_stand_27 (by decide) (fun c13 => ?_) (fun c13 => ?_)
        · have h := bi_t c13 h
          exact w_X6_stand_34 B _ _ _ _ _ _ _ _ h hM hS (lv_sub hl [0, 1, 2, 3, 4] rfl)
        · have h := bi_f c13 h
          exact w_X6_stand_30 B _ _ _ _ _ _ _ _ h hM hS (lv_sub hl [0, 1, 2, 3, 4] rfl)
theorem c_X6_stand {l : Launch} {G : GG} {A : Nat → Prop} {ad : Nat → Nat} {st : MS} {x1 : Int32} {x2 : Int32} {x3 : Int32} {x4 : Int32} {r : Int32} {st' : MS} (h : f_X6_stand st x1 x2 x3 x4 = some (r, st')) : Met l yX6_stand (Cond.code yX6_stand cX6_stand 8 (some .int) :: TG) ({ frames := 2, cells := 0, slots := 0, locals := 43 } : Room) (PM G A ad st [.ref (ad 0), .int x1, .int x2, .int x3, .int x4]) (QM G A ad (some (.int r)) st') 0 0 A :=
  mw_of (own := RX6) (by decide +kernel) rfl rfl rfl (Nat.le_of_ble_eq_true rfl) fun p e s m below meth c ls B hM hS hl => w_X6_stand B _ _ _ _ _ _ _ _ h hM hS hl
