set_option maxHeartbeats 4000000 in
set_option maxRecDepth 100000 in
theorem w_X5_nameNumberAt_27 {p : Program} {l : Launch} {e : Env} {s : State} {m : MethodId} {args : Array Value} {below : List Frame} {meth : Method} {c : Code} {G : GG} {A : Nat → Prop} {ad : AD} (B : XB G A ad p l s m args meth c cX5_nameNumberAt 2 RX5 (some .int)) {r : Int32} {st' : XS} : ∀ (st : XS) (y0 : Int32) (H : Heap) (locs : List Loc) (ls : Array Slot), f_X5_nameNumberAt_27 st y0 = some (r, st') → XW G A ad st H → va_S A s.heap H locs → lv_has ls 2 [] → W p l e ({ frames := 3, cells := 0, slots := 0, locals := 64 } : Room) s m args below meth c H locs 0 0 (MQ below (QX G A ad (some (.int r)) st') args s 0 0 A) (F0 m 27 ls [.int y0]) := by
  have ⟨⟨hx, hb, hr, hml, hown, hT, hlocks, hK⟩, hnt, hST, hA, hll⟩ := B
  intro st y0 H locs ls h hM hS hl
  rw [f_X5_nameNumberAt_27] at h
  cases h
  exact xw_iret B hM hS (Nat.le_refl 0) (Nat.le_refl 0) dX5_nameNumberAt_27
set_option maxHeartbeats 4000000 in
set_option maxRecDepth 100000 in
theorem w_X5_nameNumberAt {p : Program} {l : Launch} {e : Env} {s : State} {m : MethodId} {args : Array Value} {below : List Frame} {meth : Method} {c : Code} {G : GG} {A : Nat → Prop} {ad : AD} (B : XB G A ad p l s m args meth c cX5_nameNumberAt 2 RX5 (some .int)) {r : Int32} {st' : XS} : ∀ (st : XS) (x1 : Int32) (H : Heap) (locs : List Loc) (ls : Array Slot), f_X5_nameNumberAt st x1 = some (r, st') → XW G A ad st H → va_S A s.heap H locs → lv_has ls 2 [(0, .ref (ad 0 0)), (1, .int x1)] → W p l e ({ frames := 3, cells := 0, slots := 0, locals := 64 } : Room) s m args below meth c H locs 0 0 (MQ below (QX G A ad (some (.int r)) st') args s 0 0 A) (F0 m 0 ls []) := by
  have ⟨⟨hx, hb, hr, hml, hown, hT, hlocks, hK⟩, hnt, hST, hA, hll⟩ := B
  intro st x1 H locs ls h hM hS hl
  rw [f_X5_nameNumberAt] at h
  refine lv_aload_n hx hb dX5_nameNumberAt_0 rfl (lv_at hl 0 rfl) ?_
  refine xw_get B.1 hM 0 0 xv_0 (ci := 6) (N := 6) (fs := fTR ad st) (C := RX5) (T := TX5) (fun _ => rfl) rfl inX5 4 (by decide) wf_RX5_48 rfl (v := .int (xF st 0 0 4)) rfl dX5_nameNumberAt_1 ?_
  refine lv_if_eq (tgt := 24) hx hb dX5_nameNumberAt_4 (by decide) (fun c1 => ?_) (fun c1 => ?_)
  · have h := bi_t c1 h
    refine lv_iload_n hx hb dX5_nameNumberAt_24 rfl (lv_at hl 1 rfl) ?_
    refine lv_iconst (v := 1) hx hb dX5_nameNumberAt_25 (by decide) ?_
    refine lv_iadd hx hb dX5_nameNumberAt_26 ?_
    exact w_X5_nameNumberAt_27 B _ _ _ _ _ h hM hS (lv_sub hl [] rfl)
  · have h := bi_f c1 h
    refine lv_aload_n hx hb dX5_nameNumberAt_7 rfl (lv_at hl 0 rfl) ?_
    refine xw_get B.1 hM 0 0 xv_0 (ci := 6) (N := 6) (fs := fTR ad st) (C := RX5) (T := TX5) (fun _ => rfl) rfl inX5 1 (by decide) wf_RX5_16 rfl (v := .ref (ad 13 1)) rfl dX5_nameNumberAt_8 ?_
    refine lv_iload_n hx hb dX5_nameNumberAt_11 rfl (lv_at hl 1 rfl) ?_
    obtain ⟨g2, h⟩ := gd_e h
    refine xw_lget B hM hS 1 (by decide) wm_RX5_116 g2 ⟨Nat.le_of_ble_eq_true rfl, Nat.le_of_ble_eq_true rfl⟩ ⟨Nat.le_refl 0, Nat.le_refl 0⟩ hl.1 (Nat.le_of_ble_eq_true rfl) dX5_nameNumberAt_12 ?_
    obtain ⟨v3, h⟩ := gd_e h
    refine xw_castShot B.1 hM v3 wk_RX5_70 dX5_nameNumberAt_15 ?_
    refine xw_get B.1 hM 1 ((xL st 1).getD x1.toNatClampNeg 0) (xv_s (k := 1) (by decide) v3) (ci := 5) (N := 12) (fs := fSh ad st ((xL st 1).getD x1.toNatClampNeg 0)) (C := RX4) (T := TX4) (fun _ => rfl) rfl inX4 7 (by decide) wf_RX5_75 rfl (v := .int (xF st 1 ((xL st 1).getD x1.toNatClampNeg 0) 7)) rfl dX5_nameNumberAt_18 ?_
    refine lv_goto (tgt := 27) hx hb dX5_nameNumberAt_21 (by decide) ?_
    exact w_X5_nameNumberAt_27 B _ _ _ _ _ h hM hS (lv_sub hl [] rfl)
theorem c_X5_nameNumberAt {l : Launch} (hll : l.stackTraces = false) {G : GG} {A : Nat → Prop} {ad : AD} {st : XS} {x1 : Int32} {r : Int32} {st' : XS} (h : f_X5_nameNumberAt st x1 = some (r, st')) : Met l yX5_nameNumberAt (Cond.code yX5_nameNumberAt cX5_nameNumberAt 2 (some .int) :: TG) ({ frames := 3, cells := 0, slots := 0, locals := 64 } : Room) (PX G A ad st [.ref (ad 0 0), .int x1]) (QX G A ad (some (.int r)) st') 0 0 A :=
  xw_of (own := RX5) hll (by decide +kernel) rfl (Nat.le_of_ble_eq_true rfl) fun p e s m below meth c ls B hM hS hl => w_X5_nameNumberAt B _ _ _ _ _ h hM hS hl
set_option maxHeartbeats 4000000 in
set_option maxRecDepth 100000 in
theorem w_X5_lock_55 {p : Program} {l : Launch} {e : Env} {s : State} {m : MethodId} {args : Array Value} {below : List Frame} {meth : Method} {c : Code} {G : GG} {A : Nat → Prop} {ad : AD} (B : XB G A ad p l s m args meth c cX5_lock 3 RX5 (some .boolean)) {r : Int32} {st' : XS} : ∀ (st : XS) (x1 : Int32) (H : Heap) (locs : List Loc) (ls : Array Slot), f_X5_lock_55 st x1 = some (r, st') → XW G A ad st H → va_S A s.heap H locs → lv_has ls 3 [(1, .int x1)] → W p l e ({ frames := 4, cells := 0, slots := 0, locals := 85 } : Room) s m args below meth c H locs 0 0 (MQ below (QX G A ad (some (.int r)) st') args s 0 0 A) (F0 m 55 ls []) := by
  have ⟨⟨hx, hb, hr, hml, hown, hT, hlocks, hK⟩, hnt, hST, hA, hll⟩ := B
  intro st x1 H locs ls h hM hS hl
  rw [f_X5_lock_55] at h
  refine lv_iload_n hx hb dX5_lock_55 rfl (lv_at hl 0 rfl) ?_
  obtain ⟨g1, h⟩ := gd_e h
  cases h
  exact xw_zret B hM hS (Nat.le_refl 0) (Nat.le_refl 0) g1 dX5_lock_56
set_option maxHeartbeats 4000000 in
set_option maxRecDepth 100000 in
theorem w_X5_lock_14 {p : Program} {l : Launch} {e : Env} {s : State} {m : MethodId} {args : Array Value} {below : List Frame} {meth : Method} {c : Code} {G : GG} {A : Nat → Prop} {ad : AD} (B : XB G A ad p l s m args meth c cX5_lock 3 RX5 (some .boolean)) {r : Int32} {st' : XS} : ∀ (n : Nat) (st : XS) (x1 : Int32) (x2 : Int32) (H : Heap) (locs : List Loc) (ls : Array Slot), f_X5_lock_14 n st x1 x2 = some (r, st') → XW G A ad st H → va_S A s.heap H locs → lv_has ls 3 [(0, .ref (ad 0 0)), (1, .int x1), (2, .int x2)] → W p l e ({ frames := 4, cells := 0, slots := 0, locals := 85 } : Room) s m args below meth c H locs 0 0 (MQ below (QX G A ad (some (.int r)) st') args s 0 0 A) (F0 m 14 ls []) := by
  have ⟨⟨hx, hb, hr, hml, hown, hT, hlocks, hK⟩, hnt, hST, hA, hll⟩ := B
  intro n
  induction n with
  | zero =>
    intro st x1 x2 H locs ls h
    cases h
  | succ n ih =>
    intro st x1 x2 H locs ls h hM hS hl
    rw [f_X5_lock_14] at h
    refine lv_iload_n hx hb dX5_lock_14 rfl (lv_at hl 2 rfl) ?_
    refine lv_aload_n hx hb dX5_lock_15 rfl (lv_at hl 0 rfl) ?_
    refine xw_get B.1 hM 0 0 xv_0 (ci := 6) (N := 6) (fs := fTR ad st) (C := RX5) (T := TX5) (fun _ => rfl) rfl inX5 1 (by decide) wf_RX5_16 rfl (v := .ref (ad 13 1)) rfl dX5_lock_16 ?_
    refine xw_size B hM hS 1 (by decide) wm_RX5_37 ⟨Nat.le_of_ble_eq_true rfl, Nat.le_of_ble_eq_true rfl⟩ ⟨Nat.le_refl 0, Nat.le_refl 0⟩ hl.1 (Nat.le_of_ble_eq_true rfl) dX5_lock_19 ?_
    refine lv_icmp_ge (tgt := 50) hx hb dX5_lock_22 (by decide) (fun c1 => ?_) (fun c1 => ?_)
    · have h := bi_t c1 h
      refine lv_aload_n hx hb dX5_lock_50 rfl (lv_at hl 0 rfl) ?_
      refine lv_iconst (v := 1) hx hb dX5_lock_51 (by decide) ?_
      refine xw_putF B.1 hM hS 0 0 0 (Or.inl ⟨rfl, rfl, rfl⟩) xv_0 (ci := 6) (N := 6) (fs := fTR ad st) (C := RX5) (T := TX5) (fun _ => rfl) rfl inX5 tyX5_ok nmX5 4 (by decide) wf_RX5_48 rfl rfl rfl rfl (Nat.le_of_ble_eq_true rfl) (fun _ => by simp [enX, fTR, sF, xF, xU]) dX5_lock_52 (fun H locs hM hS => ?_)
      exact w_X5_lock_55 B _ _ _ _ _ h hM hS (lv_sub hl [1] rfl)
    · have h := bi_f c1 h
      refine lv_aload_n hx hb dX5_lock_25 rfl (lv_at hl 0 rfl) ?_
      refine xw_get B.1 hM 0 0 xv_0 (ci := 6) (N := 6) (fs := fTR ad st) (C := RX5) (T := TX5) (fun _ => rfl) rfl inX5 1 (by decide) wf_RX5_16 rfl (v := .ref (ad 13 1)) rfl dX5_lock_26 ?_
      refine lv_iload_n hx hb dX5_lock_29 rfl (lv_at hl 2 rfl) ?_
      obtain ⟨g2, h⟩ := gd_e h
      refine xw_lget B hM hS 1 (by decide) wm_RX5_116 g2 ⟨Nat.le_of_ble_eq_true rfl, Nat.le_of_ble_eq_true rfl⟩ ⟨Nat.le_refl 0, Nat.le_refl 0⟩ hl.1 (Nat.le_of_ble_eq_true rfl) dX5_lock_30 ?_
      obtain ⟨v3, h⟩ := gd_e h
      refine xw_castShot B.1 hM v3 wk_RX5_70 dX5_lock_33 ?_
      refine lv_aload_n hx hb dX5_lock_36 rfl (lv_at hl 0 rfl) ?_
      refine lv_iload_n hx hb dX5_lock_37 rfl (lv_at hl 2 rfl) ?_
      obtain ⟨r4, t5, e6, h⟩ := bd_e h
      refine xw_callV B hM hS (xw_recv (xb_vk B) hM 0 0 (Or.inl xv_0) (fun gh => ⟨_, rfl⟩) rfl) [.int x2] (n := 1) (v := (some (.int r4))) (c_X5_nameNumberAt B.2.2.2.2 e6) wm_RX5_190 wi_yX5_nameNumberAt ws_yX5_nameNumberAt wn_RX5 wc_yX5_nameNumberAt rfl rfl (by decide +kernel) ⟨Nat.le_of_ble_eq_true rfl, Nat.le_of_ble_eq_true rfl⟩ ⟨Nat.le_refl 0, Nat.le_refl 0⟩ rfl hl.1 (Nat.le_of_ble_eq_true rfl) rfl dX5_lock_38 (fun H locs hM hS => ?_)
      obtain ⟨v7, h⟩ := gd_e h
      refine xw_putF B.1 hM hS 1 ((xL st 1).getD x2.toNatClampNeg 0) 1 (Or.inr (Or.inl ⟨rfl, rfl⟩)) (xv_s (k := 1) (by decide) v7) (ci := 5) (N := 12) (fs := fSh ad t5 ((xL st 1).getD x2.toNatClampNeg 0)) (C := RX4) (T := TX4) (fun _ => rfl) rfl inX4 tyX4_ok nmX4 7 (by decide) wf_RX5_75 rfl rfl rfl rfl (Nat.le_of_ble_eq_true rfl) (fun _ => by simp [enX, fSh, sF, xF, xU]) dX5_lock_41 (fun H locs hM hS => ?_)
      refine lv_iinc (v := (x2 + 1)) (lv' := [(2, .int (x2 + 1)), (0, .ref (ad 0 0)), (1, .int x1)]) hx hb dX5_lock_44 hl (k := 2) rfl rfl (by decide) rfl (fun ls hl => ?_)
      refine lv_goto (tgt := 14) hx hb dX5_lock_47 (by decide) ?_
      exact ih _ _ _ _ _ _ h hM hS (lv_sub hl [1, 2, 0] rfl)
set_option maxHeartbeats 4000000 in
set_option maxRecDepth 100000 in
theorem w_X5_lock {p : Program} {l : Launch} {e : Env} {s : State} {m : MethodId} {args : Array Value} {below : List Frame} {meth : Method} {c : Code} {G : GG} {A : Nat → Prop} {ad : AD} (B : XB G A ad p l s m args meth c cX5_lock 3 RX5 (some .boolean)) {r : Int32} {st' : XS} : ∀ (st : XS) (H : Heap) (locs : List Loc) (ls : Array Slot), f_X5_lock st = some (r, st') → XW G A ad st H → va_S A s.heap H locs → lv_has ls 3 [(0, .ref (ad 0 0))] → W p l e ({ frames := 4, cells := 0, slots := 0, locals := 85 } : Room) s m args below meth c H locs 0 0 (MQ below (QX G A ad (some (.int r)) st') args s 0 0 A) (F0 m 0 ls []) := by
  have ⟨⟨hx, hb, hr, hml, hown, hT, hlocks, hK⟩, hnt, hST, hA, hll⟩ := B
  intro st  H locs ls h hM hS hl
  rw [f_X5_lock] at h
  refine lv_aload_n hx hb dX5_lock_0 rfl (lv_at hl 0 rfl) ?_
  refine xw_get B.1 hM 0 0 xv_0 (ci := 6) (N := 6) (fs := fTR ad st) (C := RX5) (T := TX5) (fun _ => rfl) rfl inX5 4 (by decide) wf_RX5_48 rfl (v := .int (xF st 0 0 4)) rfl dX5_lock_1 ?_
  refine lv_istore_n (lv' := [(1, .int (xF st 0 0 4)), (0, .ref (ad 0 0))]) hx hb dX5_lock_4 rfl hl (by decide) rfl (fun ls hl => ?_)
  refine lv_aload_n hx hb dX5_lock_5 rfl (lv_at hl 1 rfl) ?_
  refine xw_get B.1 hM 0 0 xv_0 (ci := 6) (N := 6) (fs := fTR ad st) (C := RX5) (T := TX5) (fun _ => rfl) rfl inX5 4 (by decide) wf_RX5_48 rfl (v := .int (xF st 0 0 4)) rfl dX5_lock_6 ?_
  refine lv_if_ne (tgt := 55) hx hb dX5_lock_9 (by decide) (fun c1 => ?_) (fun c1 => ?_)
  · have h := bi_f c1 h
    exact w_X5_lock_55 B _ _ _ _ _ h hM hS (lv_sub hl [0] rfl)
  · have h := bi_t c1 h
    refine lv_iconst (v := 0) hx hb dX5_lock_12 (by decide) ?_
    refine lv_istore_n (lv' := [(2, .int 0), (1, .int (xF st 0 0 4)), (0, .ref (ad 0 0))]) hx hb dX5_lock_13 rfl hl (by decide) rfl (fun ls hl => ?_)
    exact w_X5_lock_14 B FU _ _ _ _ _ _ h hM hS (lv_sub hl [2, 1, 0] rfl)
theorem c_X5_lock {l : Launch} (hll : l.stackTraces = false) {G : GG} {A : Nat → Prop} {ad : AD} {st : XS} {r : Int32} {st' : XS} (h : f_X5_lock st = some (r, st')) : Met l yX5_lock (Cond.code yX5_lock cX5_lock 3 (some .boolean) :: TG) ({ frames := 4, cells := 0, slots := 0, locals := 85 } : Room) (PX G A ad st [.ref (ad 0 0)]) (QX G A ad (some (.int r)) st') 0 0 A :=
  xw_of (own := RX5) hll (by decide +kernel) rfl (Nat.le_of_ble_eq_true rfl) fun p e s m below meth c ls B hM hS hl => w_X5_lock B _ _ _ _ h hM hS hl
set_option maxHeartbeats 4000000 in
set_option maxRecDepth 100000 in
theorem w_X5_nameNumberOf_32 {p : Program} {l : Launch} {e : Env} {s : State} {m : MethodId} {args : Array Value} {below : List Frame} {meth : Method} {c : Code} {G : GG} {A : Nat → Prop} {ad : AD} (B : XB G A ad p l s m args meth c cX5_nameNumberOf 3 RX5 (some .int)) {r : Int32} {st' : XS} : ∀ (st : XS) (y0 : Int32) (H : Heap) (locs : List Loc) (ls : Array Slot), f_X5_nameNumberOf_32 st y0 = some (r, st') → XW G A ad st H → va_S A s.heap H locs → lv_has ls 3 [] → W p l e ({ frames := 4, cells := 0, slots := 0, locals := 86 } : Room) s m args below meth c H locs 0 0 (MQ below (QX G A ad (some (.int r)) st') args s 0 0 A) (F0 m 32 ls [.int y0]) := by
  have ⟨⟨hx, hb, hr, hml, hown, hT, hlocks, hK⟩, hnt, hST, hA, hll⟩ := B
  intro st y0 H locs ls h hM hS hl
  rw [f_X5_nameNumberOf_32] at h
  cases h
  exact xw_iret B hM hS (Nat.le_refl 0) (Nat.le_refl 0) dX5_nameNumberOf_32
set_option maxHeartbeats 4000000 in
set_option maxRecDepth 100000 in
theorem w_X5_nameNumberOf {p : Program} {l : Launch} {e : Env} {s : State} {m : MethodId} {args : Array Value} {below : List Frame} {meth : Method} {c : Code} {G : GG} {A : Nat → Prop} {ad : AD} (B : XB G A ad p l s m args meth c cX5_nameNumberOf 3 RX5 (some .int)) {r : Int32} {st' : XS} : ∀ (st : XS) (x1 : Nat) (H : Heap) (locs : List Loc) (ls : Array Slot), f_X5_nameNumberOf st x1 = some (r, st') → XW G A ad st H → va_S A s.heap H locs → lv_has ls 3 [(0, .ref (ad 0 0)), (1, .ref (ad 1 x1))] → W p l e ({ frames := 4, cells := 0, slots := 0, locals := 86 } : Room) s m args below meth c H locs 0 0 (MQ below (QX G A ad (some (.int r)) st') args s 0 0 A) (F0 m 0 ls []) := by
  have ⟨⟨hx, hb, hr, hml, hown, hT, hlocks, hK⟩, hnt, hST, hA, hll⟩ := B
  intro st x1 H locs ls h hM hS hl
  rw [f_X5_nameNumberOf] at h
  refine lv_aload_n hx hb dX5_nameNumberOf_0 rfl (lv_at hl 0 rfl) ?_
  refine xw_get B.1 hM 0 0 xv_0 (ci := 6) (N := 6) (fs := fTR ad st) (C := RX5) (T := TX5) (fun _ => rfl) rfl inX5 4 (by decide) wf_RX5_48 rfl (v := .int (xF st 0 0 4)) rfl dX5_nameNumberOf_1 ?_
  refine lv_if_eq (tgt := 12) hx hb dX5_nameNumberOf_4 (by decide) (fun c1 => ?_) (fun c1 => ?_)
  · have h := bi_t c1 h
    refine lv_aload_n hx hb dX5_nameNumberOf_12 rfl (lv_at hl 0 rfl) ?_
    refine lv_aload_n hx hb dX5_nameNumberOf_13 rfl (lv_at hl 1 rfl) ?_
    obtain ⟨r2, t3, e4, h⟩ := bd_e h
    refine xw_callV B hM hS (xw_recv (xb_vk B) hM 0 0 (Or.inl xv_0) (fun gh => ⟨_, rfl⟩) rfl) [.ref (ad 1 x1)] (n := 1) (v := (some (.int r2))) (c_X5_placeOf B.2.2.2.2 e4) wm_RX5_327 wi_yX5_placeOf ws_yX5_placeOf wn_RX5 wc_yX5_placeOf rfl rfl (by decide +kernel) ⟨Nat.le_of_ble_eq_true rfl, Nat.le_of_ble_eq_true rfl⟩ ⟨Nat.le_refl 0, Nat.le_refl 0⟩ rfl hl.1 (Nat.le_of_ble_eq_true rfl) rfl dX5_nameNumberOf_14 (fun H locs hM hS => ?_)
    refine lv_istore_n (lv' := [(2, .int r2), (0, .ref (ad 0 0)), (1, .ref (ad 1 x1))]) hx hb dX5_nameNumberOf_17 rfl hl (by decide) rfl (fun ls hl => ?_)
    refine lv_iload_n hx hb dX5_nameNumberOf_18 rfl (lv_at hl 0 rfl) ?_
    refine lv_iconst (v := (-1)) hx hb dX5_nameNumberOf_19 (by decide) ?_
    refine lv_icmp_ne (tgt := 27) hx hb dX5_nameNumberOf_20 (by decide) (fun c5 => ?_) (fun c5 => ?_)
    · have h := bi_f c5 h
      refine lv_aload_n hx hb dX5_nameNumberOf_27 rfl (lv_at hl 1 rfl) ?_
      refine lv_iload_n hx hb dX5_nameNumberOf_28 rfl (lv_at hl 0 rfl) ?_
      obtain ⟨r6, t7, e8, h⟩ := bd_e h
      refine xw_callV B hM hS (xw_recv (xb_vk B) hM 0 0 (Or.inl xv_0) (fun gh => ⟨_, rfl⟩) rfl) [.int r2] (n := 1) (v := (some (.int r6))) (c_X5_nameNumberAt B.2.2.2.2 e8) wm_RX5_190 wi_yX5_nameNumberAt ws_yX5_nameNumberAt wn_RX5 wc_yX5_nameNumberAt rfl rfl (by decide +kernel) ⟨Nat.le_of_ble_eq_true rfl, Nat.le_of_ble_eq_true rfl⟩ ⟨Nat.le_refl 0, Nat.le_refl 0⟩ rfl hl.1 (Nat.le_of_ble_eq_true rfl) rfl dX5_nameNumberOf_29 (fun H locs hM hS => ?_)
      exact w_X5_nameNumberOf_32 B _ _ _ _ _ h hM hS (lv_sub hl [] rfl)
    · have h := bi_t c5 h
      refine lv_iconst (v := (-1)) hx hb dX5_nameNumberOf_23 (by decide) ?_
      refine lv_goto (tgt := 32) hx hb dX5_nameNumberOf_24 (by decide) ?_
      exact w_X5_nameNumberOf_32 B _ _ _ _ _ h hM hS (lv_sub hl [] rfl)
  · have h := bi_f c1 h
    refine lv_aload_n hx hb dX5_nameNumberOf_7 rfl (lv_at hl 1 rfl) ?_
    obtain ⟨v9, h⟩ := gd_e h
    refine xw_get B.1 hM 1 x1 (xv_s (k := 1) (by decide) v9) (ci := 5) (N := 12) (fs := fSh ad st x1) (C := RX4) (T := TX4) (fun _ => rfl) rfl inX4 7 (by decide) wf_RX5_75 rfl (v := .int (xF st 1 x1 7)) rfl dX5_nameNumberOf_8 ?_
    cases h
    exact xw_iret B hM hS (Nat.le_refl 0) (Nat.le_refl 0) dX5_nameNumberOf_11
theorem c_X5_nameNumberOf {l : Launch} (hll : l.stackTraces = false) {G : GG} {A : Nat → Prop} {ad : AD} {st : XS} {x1 : Nat} {r : Int32} {st' : XS} (h : f_X5_nameNumberOf st x1 = some (r, st')) : Met l yX5_nameNumberOf (Cond.code yX5_nameNumberOf cX5_nameNumberOf 3 (some .int) :: TG) ({ frames := 4, cells := 0, slots := 0, locals := 86 } : Room) (PX G A ad st [.ref (ad 0 0), .ref (ad 1 x1)]) (QX G A ad (some (.int r)) st') 0 0 A :=
  xw_of (own := RX5) hll (by decide +kernel) rfl (Nat.le_of_ble_eq_true rfl) fun p e s m below meth c ls B hM hS hl => w_X5_nameNumberOf B _ _ _ _ _ h hM hS hl
set_option maxHeartbeats 4000000 in
set_option maxRecDepth 100000 in
theorem w_X5_foundNumber {p : Program} {l : Launch} {e : Env} {s : State} {m : MethodId} {args : Array Value} {below : List Frame} {meth : Method} {c : Code} {G : GG} {A : Nat → Prop} {ad : AD} (B : XB G A ad p l s m args meth c cX5_foundNumber 3 RX5 (some .int)) {r : (Nat ⊕ Int32)} {st' : XS} : ∀ (cells slots : Nat) (st : XS) (x1 : Nat) (H : Heap) (locs : List Loc) (ls : Array Slot), cells + 1 ≤ 1 → slots + 6 ≤ 6 → f_X5_foundNumber st x1 = some (r, st') → XW G A ad st H → va_S A s.heap H locs → lv_has ls 3 [(0, .ref (ad 0 0)), (1, .ref (ad 1 x1))] → W p l e ({ frames := 6, cells := 1, slots := 6, locals := 108 } : Room) s m args below meth c H locs cells slots (vx_MQ below (QXr G A ad (ovw (fun x => some (.int x)) r) st') (QXx G A ad (ovw (fun x => some (.int x)) r) st') args s 1 6 A) (F0 m 0 ls []) := by
  have ⟨⟨hx, hb, hr, hml, hown, hT, hlocks, hK⟩, hnt, hST, hA, hll⟩ := B
  intro cells slots st x1 H locs ls hc hs h hM hS hl
  rw [f_X5_foundNumber] at h
  refine lv_aload_n hx hb dX5_foundNumber_0 rfl (lv_at hl 0 rfl) ?_
  refine lv_aload_n hx hb dX5_foundNumber_1 rfl (lv_at hl 1 rfl) ?_
  obtain ⟨r1, t2, e3, h⟩ := bd_e h
  refine xw_callV B hM hS (xw_recv (xb_vk B) hM 0 0 (Or.inl xv_0) (fun gh => ⟨_, rfl⟩) rfl) [.ref (ad 1 x1)] (n := 1) (v := (some (.int r1))) (c_X5_nameNumberOf B.2.2.2.2 e3) wm_RX5_332 wi_yX5_nameNumberOf ws_yX5_nameNumberOf wn_RX5 wc_yX5_nameNumberOf rfl rfl (by decide +kernel) ⟨Nat.le_of_ble_eq_true rfl, Nat.le_of_ble_eq_true rfl⟩ ⟨(by show _ ≤ 1; omega), (by show _ ≤ 6; omega)⟩ rfl hl.1 (Nat.le_of_ble_eq_true rfl) rfl dX5_foundNumber_2 (fun H locs hM hS => ?_)
  refine lv_istore_n (lv' := [(2, .int r1), (0, .ref (ad 0 0)), (1, .ref (ad 1 x1))]) hx hb dX5_foundNumber_5 rfl hl (by decide) rfl (fun ls hl => ?_)
  refine lv_iload_n hx hb dX5_foundNumber_6 rfl (lv_at hl 0 rfl) ?_
  refine lv_iconst (v := (-1)) hx hb dX5_foundNumber_7 (by decide) ?_
  refine lv_icmp_ne (tgt := 22) hx hb dX5_foundNumber_8 (by decide) (fun c4 => ?_) (fun c4 => ?_)
  · have h := bi_f c4 h
    refine lv_iload_n hx hb dX5_foundNumber_22 rfl (lv_at hl 0 rfl) ?_
    cases h
    exact xx_iret B hM hS (by omega) (by omega) dX5_foundNumber_23 rfl
  · have h := bi_t c4 h
    cases h
    exact xw_throwN (is := 335) (text := "the shot has no name") B hM hS (by decide +kernel) hl.1 ⟨⟨dX5_foundNumber_11, dX5_foundNumber_14⟩, Or.inr ⟨dX5_foundNumber_15, dX5_foundNumber_18, dX5_foundNumber_21⟩⟩ (Nat.le_of_ble_eq_true rfl) (Nat.le_of_ble_eq_true rfl) (by show _ ≤ 1; omega) (by show _ ≤ 6; omega) (by omega) (by omega) rfl
theorem c_X5_foundNumber {l : Launch} (hll : l.stackTraces = false) {G : GG} {A : Nat → Prop} {ad : AD} {st : XS} {x1 : Nat} {r : (Nat ⊕ Int32)} {st' : XS} (h : f_X5_foundNumber st x1 = some (r, st')) : vx_Met l yX5_foundNumber (Cond.code yX5_foundNumber cX5_foundNumber 3 (some .int) :: TG) ({ frames := 6, cells := 1, slots := 6, locals := 108 } : Room) (PX G A ad st [.ref (ad 0 0), .ref (ad 1 x1)]) (QXr G A ad (ovw (fun x => some (.int x)) r) st') (QXx G A ad (ovw (fun x => some (.int x)) r) st') 1 6 A :=
  xx_of (own := RX5) hll (by decide +kernel) rfl (Nat.le_of_ble_eq_true rfl) fun p e s m below meth c ls B hM hS hl => w_X5_foundNumber B _ _ _ _ _ _ _ (Nat.le_of_ble_eq_true rfl) (Nat.le_of_ble_eq_true rfl) h hM hS hl
set_option maxHeartbeats 4000000 in
set_option maxRecDepth 100000 in
theorem w_X5_number {p : Program} {l : Launch} {e : Env} {s : State} {m : MethodId} {args : Array Value} {below : List Frame} {meth : Method} {c : Code} {G : GG} {A : Nat → Prop} {ad : AD} (B : XB G A ad p l s m args meth c cX5_number 2 RX5 (some .int)) {r : (Nat ⊕ Int32)} {st' : XS} : ∀ (cells slots : Nat) (st : XS) (x1 : Int32) (H : Heap) (locs : List Loc) (ls : Array Slot), cells + 2 ≤ 2 → slots + 12 ≤ 12 → f_X5_number st x1 = some (r, st') → XW G A ad st H → va_S A s.heap H locs → lv_has ls 2 [(0, .ref (ad 0 0)), (1, .int x1)] → W p l e ({ frames := 7, cells := 2, slots := 12, locals := 130 } : Room) s m args below meth c H locs cells slots (vx_MQ below (QXr G A ad (ovw (fun x => some (.int x)) r) st') (QXx G A ad (ovw (fun x => some (.int x)) r) st') args s 2 12 A) (F0 m 0 ls []) := by
  have ⟨⟨hx, hb, hr, hml, hown, hT, hlocks, hK⟩, hnt, hST, hA, hll⟩ := B
  intro cells slots st x1 H locs ls hc hs h hM hS hl
  rw [f_X5_number] at h
  refine lv_aload_n hx hb dX5_number_0 rfl (lv_at hl 0 rfl) ?_
  refine lv_aload_n hx hb dX5_number_1 rfl (lv_at hl 0 rfl) ?_
  refine lv_iload_n hx hb dX5_number_2 rfl (lv_at hl 1 rfl) ?_
  rcases bdx_e h with ⟨k4, t2, e3, h⟩ | ⟨r1, t2, e3, h⟩
  · cases h
    exact xx_goV B hM hS (xw_recv (xb_vk B) hM 0 0 (Or.inl xv_0) (fun gh => ⟨_, rfl⟩) rfl) [.int x1] (n := 1) (c_X5_madeShot B.2.2.2.2 e3) wm_RX5_93 wi_yX5_madeShot ws_yX5_madeShot wn_RX5 wc_yX5_madeShot rfl rfl (by decide +kernel) ⟨Nat.le_of_ble_eq_true rfl, Nat.le_of_ble_eq_true rfl⟩ ⟨(by show _ ≤ 2; omega), (by show _ ≤ 12; omega)⟩ rfl hl.1 (Nat.le_of_ble_eq_true rfl) rfl dX5_number_3 (by omega) (by omega) rfl
  · refine xx_callV B hM hS (xw_recv (xb_vk B) hM 0 0 (Or.inl xv_0) (fun gh => ⟨_, rfl⟩) rfl) [.int x1] (n := 1) (v := (some (.ref (ad 1 r1)))) (c_X5_madeShot B.2.2.2.2 e3) wm_RX5_93 wi_yX5_madeShot ws_yX5_madeShot wn_RX5 wc_yX5_madeShot rfl rfl (by decide +kernel) ⟨Nat.le_of_ble_eq_true rfl, Nat.le_of_ble_eq_true rfl⟩ ⟨(by show _ ≤ 2; omega), (by show _ ≤ 12; omega)⟩ rfl hl.1 (Nat.le_of_ble_eq_true rfl) rfl dX5_number_3 (fun H locs hM hS => ?_)
    rcases bdx_e h with ⟨k8, t6, e7, h⟩ | ⟨r5, t6, e7, h⟩
    · cases h
      exact xx_goV B hM hS (xw_recv (xb_vk B) hM 0 0 (Or.inl xv_0) (fun gh => ⟨_, rfl⟩) rfl) [.ref (ad 1 r1)] (n := 1) (c_X5_foundNumber B.2.2.2.2 e7) wm_RX5_193 wi_yX5_foundNumber ws_yX5_foundNumber wn_RX5 wc_yX5_foundNumber rfl rfl (by decide +kernel) ⟨Nat.le_of_ble_eq_true rfl, Nat.le_of_ble_eq_true rfl⟩ ⟨(by show _ ≤ 2; omega), (by show _ ≤ 12; omega)⟩ rfl hl.1 (Nat.le_of_ble_eq_true rfl) rfl dX5_number_6 (by omega) (by omega) rfl
    · refine xx_callV B hM hS (xw_recv (xb_vk B) hM 0 0 (Or.inl xv_0) (fun gh => ⟨_, rfl⟩) rfl) [.ref (ad 1 r1)] (n := 1) (v := (some (.int r5))) (c_X5_foundNumber B.2.2.2.2 e7) wm_RX5_193 wi_yX5_foundNumber ws_yX5_foundNumber wn_RX5 wc_yX5_foundNumber rfl rfl (by decide +kernel) ⟨Nat.le_of_ble_eq_true rfl, Nat.le_of_ble_eq_true rfl⟩ ⟨(by show _ ≤ 2; omega), (by show _ ≤ 12; omega)⟩ rfl hl.1 (Nat.le_of_ble_eq_true rfl) rfl dX5_number_6 (fun H locs hM hS => ?_)
      cases h
      exact xx_iret B hM hS (by omega) (by omega) dX5_number_9 rfl
theorem c_X5_number {l : Launch} (hll : l.stackTraces = false) {G : GG} {A : Nat → Prop} {ad : AD} {st : XS} {x1 : Int32} {r : (Nat ⊕ Int32)} {st' : XS} (h : f_X5_number st x1 = some (r, st')) : vx_Met l yX5_number (Cond.code yX5_number cX5_number 2 (some .int) :: TG) ({ frames := 7, cells := 2, slots := 12, locals := 130 } : Room) (PX G A ad st [.ref (ad 0 0), .int x1]) (QXr G A ad (ovw (fun x => some (.int x)) r) st') (QXx G A ad (ovw (fun x => some (.int x)) r) st') 2 12 A :=
  xx_of (own := RX5) hll (by decide +kernel) rfl (Nat.le_of_ble_eq_true rfl) fun p e s m below meth c ls B hM hS hl => w_X5_number B _ _ _ _ _ _ _ (Nat.le_of_ble_eq_true rfl) (Nat.le_of_ble_eq_true rfl) h hM hS hl
set_option maxHeartbeats 4000000 in
set_option maxRecDepth 100000 in
theorem w_X5_letter {p : Program} {l : Launch} {e : Env} {s : State} {m : MethodId} {args : Array Value} {below : List Frame} {meth : Method} {c : Code} {G : GG} {A : Nat → Prop} {ad : AD} (B : XB G A ad p l s m args meth c cX5_letter 3 RX5 (some .char)) {r : (Nat ⊕ Int32)} {st' : XS} : ∀ (cells slots : Nat) (st : XS) (x1 : Int32) (H : Heap) (locs : List Loc) (ls : Array Slot), cells + 2 ≤ 2 → slots + 12 ≤ 12 → f_X5_letter st x1 = some (r, st') → XW G A ad st H → va_S A s.heap H locs → lv_has ls 3 [(0, .ref (ad 0 0)), (1, .int x1)] → W p l e ({ frames := 7, cells := 2, slots := 12, locals := 130 } : Room) s m args below meth c H locs cells slots (vx_MQ below (QXr G A ad (ovw (fun x => some (.int x)) r) st') (QXx G A ad (ovw (fun x => some (.int x)) r) st') args s 2 12 A) (F0 m 0 ls []) := by
  have ⟨⟨hx, hb, hr, hml, hown, hT, hlocks, hK⟩, hnt, hST, hA, hll⟩ := B
  intro cells slots st x1 H locs ls hc hs h hM hS hl
  rw [f_X5_letter] at h
  refine lv_aload_n hx hb dX5_letter_0 rfl (lv_at hl 0 rfl) ?_
  refine lv_iload_n hx hb dX5_letter_1 rfl (lv_at hl 1 rfl) ?_
  rcases bdx_e h with ⟨k4, t2, e3, h⟩ | ⟨r1, t2, e3, h⟩
  · cases h
    exact xx_goV B hM hS (xw_recv (xb_vk B) hM 0 0 (Or.inl xv_0) (fun gh => ⟨_, rfl⟩) rfl) [.int x1] (n := 1) (c_X5_madeShot B.2.2.2.2 e3) wm_RX5_93 wi_yX5_madeShot ws_yX5_madeShot wn_RX5 wc_yX5_madeShot rfl rfl (by decide +kernel) ⟨Nat.le_of_ble_eq_true rfl, Nat.le_of_ble_eq_true rfl⟩ ⟨(by show _ ≤ 2; omega), (by show _ ≤ 12; omega)⟩ rfl hl.1 (Nat.le_of_ble_eq_true rfl) rfl dX5_letter_2 (by omega) (by omega) rfl
  · refine xx_callV B hM hS (xw_recv (xb_vk B) hM 0 0 (Or.inl xv_0) (fun gh => ⟨_, rfl⟩) rfl) [.int x1] (n := 1) (v := (some (.ref (ad 1 r1)))) (c_X5_madeShot B.2.2.2.2 e3) wm_RX5_93 wi_yX5_madeShot ws_yX5_madeShot wn_RX5 wc_yX5_madeShot rfl rfl (by decide +kernel) ⟨Nat.le_of_ble_eq_true rfl, Nat.le_of_ble_eq_true rfl⟩ ⟨(by show _ ≤ 2; omega), (by show _ ≤ 12; omega)⟩ rfl hl.1 (Nat.le_of_ble_eq_true rfl) rfl dX5_letter_2 (fun H locs hM hS => ?_)
    refine lv_astore_n (lv' := [(2, .ref (ad 1 r1)), (0, .ref (ad 0 0)), (1, .int x1)]) hx hb dX5_letter_5 rfl hl (by decide) rfl (fun ls hl => ?_)
    refine lv_aload_n hx hb dX5_letter_6 rfl (lv_at hl 1 rfl) ?_
    refine lv_aload_n hx hb dX5_letter_7 rfl (lv_at hl 0 rfl) ?_
    rcases bdx_e h with ⟨k8, t6, e7, h⟩ | ⟨r5, t6, e7, h⟩
    · cases h
      exact xx_goV B hM hS (xw_recv (xb_vk B) hM 0 0 (Or.inl xv_0) (fun gh => ⟨_, rfl⟩) rfl) [.ref (ad 1 r1)] (n := 1) (c_X5_foundNumber B.2.2.2.2 e7) wm_RX5_193 wi_yX5_foundNumber ws_yX5_foundNumber wn_RX5 wc_yX5_foundNumber rfl rfl (by decide +kernel) ⟨Nat.le_of_ble_eq_true rfl, Nat.le_of_ble_eq_true rfl⟩ ⟨(by show _ ≤ 2; omega), (by show _ ≤ 12; omega)⟩ rfl hl.1 (Nat.le_of_ble_eq_true rfl) rfl dX5_letter_8 (by omega) (by omega) rfl
    · refine xx_callV B hM hS (xw_recv (xb_vk B) hM 0 0 (Or.inl xv_0) (fun gh => ⟨_, rfl⟩) rfl) [.ref (ad 1 r1)] (n := 1) (v := (some (.int r5))) (c_X5_foundNumber B.2.2.2.2 e7) wm_RX5_193 wi_yX5_foundNumber ws_yX5_foundNumber wn_RX5 wc_yX5_foundNumber rfl rfl (by decide +kernel) ⟨Nat.le_of_ble_eq_true rfl, Nat.le_of_ble_eq_true rfl⟩ ⟨(by show _ ≤ 2; omega), (by show _ ≤ 12; omega)⟩ rfl hl.1 (Nat.le_of_ble_eq_true rfl) rfl dX5_letter_8 (fun H locs hM hS => ?_)
      refine lv_pop hx hb dX5_letter_11 rfl ?_
      refine lv_aload_n hx hb dX5_letter_12 rfl (lv_at hl 0 rfl) ?_
      obtain ⟨v9, h⟩ := gd_e h
      refine xw_get B.1 hM 1 r1 (xv_s (k := 1) (by decide) v9) (ci := 5) (N := 12) (fs := fSh ad t6 r1) (C := RX4) (T := TX4) (fun _ => rfl) rfl inX4 8 (by decide) wf_RX5_79 rfl (v := .int (xF t6 1 r1 8)) rfl dX5_letter_13 ?_
      obtain ⟨g10, h⟩ := gd_e h
      cases h
      exact xx_zret B hM hS (by omega) (by omega) g10 dX5_letter_16 rfl
theorem c_X5_letter {l : Launch} (hll : l.stackTraces = false) {G : GG} {A : Nat → Prop} {ad : AD} {st : XS} {x1 : Int32} {r : (Nat ⊕ Int32)} {st' : XS} (h : f_X5_letter st x1 = some (r, st')) : vx_Met l yX5_letter (Cond.code yX5_letter cX5_letter 3 (some .char) :: TG) ({ frames := 7, cells := 2, slots := 12, locals := 130 } : Room) (PX G A ad st [.ref (ad 0 0), .int x1]) (QXr G A ad (ovw (fun x => some (.int x)) r) st') (QXx G A ad (ovw (fun x => some (.int x)) r) st') 2 12 A :=
  xx_of (own := RX5) hll (by decide +kernel) rfl (Nat.le_of_ble_eq_true rfl) fun p e s m below meth c ls B hM hS hl => w_X5_letter B _ _ _ _ _ _ _ (Nat.le_of_ble_eq_true rfl) (Nat.le_of_ble_eq_true rfl) h hM hS hl
set_option maxHeartbeats 4000000 in
set_option maxRecDepth 100000 in
theorem w_X5_named_55 {p : Program} {l : Launch} {e : Env} {s : State} {m : MethodId} {args : Array Value} {below : List Frame} {meth : Method} {c : Code} {G : GG} {A : Nat → Prop} {ad : AD} (B : XB G A ad p l s m args meth c cX5_named 4 RX5 (some .int)) {r : (Nat ⊕ Int32)} {st' : XS} {k2 : XS → Int32 → Int32 → Int32 → Option ((Nat ⊕ Int32) × XS)} (hk2 : ∀ (cells slots : Nat) (st : XS) (x1 : Int32) (x2 : Int32) (x3 : Int32) (H : Heap) (locs : List Loc) (ls : Array Slot), cells + 1 ≤ 1 → slots + 6 ≤ 6 → k2 st x1 x2 x3 = some (r, st') → XW G A ad st H → va_S A s.heap H locs → lv_has ls 4 [(0, .ref (ad 0 0)), (1, .int x1), (2, .int x2), (3, .int x3)] → W p l e ({ frames := 6, cells := 1, slots := 6, locals := 100 } : Room) s m args below meth c H locs cells slots (vx_MQ below (QXr G A ad (ovw (fun x => some (.int x)) r) st') (QXx G A ad (ovw (fun x => some (.int x)) r) st') args s 1 6 A) (F0 m 2 ls [])) : ∀ (cells slots : Nat) (st : XS) (x1 : Int32) (x2 : Int32) (x3 : Int32) (H : Heap) (locs : List Loc) (ls : Array Slot), cells + 1 ≤ 1 → slots + 6 ≤ 6 → f_X5_named_55 k2 st x1 x2 x3 = some (r, st') → XW G A ad st H → va_S A s.heap H locs → lv_has ls 4 [(0, .ref (ad 0 0)), (1, .int x1), (2, .int x2), (3, .int x3)] → W p l e ({ frames := 6, cells := 1, slots := 6, locals := 100 } : Room) s m args below meth c H locs cells slots (vx_MQ below (QXr G A ad (ovw (fun x => some (.int x)) r) st') (QXx G A ad (ovw (fun x => some (.int x)) r) st') args s 1 6 A) (F0 m 55 ls []) := by
  have ⟨⟨hx, hb, hr, hml, hown, hT, hlocks, hK⟩, hnt, hST, hA, hll⟩ := B
  intro cells slots st x1 x2 x3 H locs ls hc hs h hM hS hl
  rw [f_X5_named_55] at h
  refine lv_iinc (v := (x3 + 1)) (lv' := [(3, .int (x3 + 1)), (0, .ref (ad 0 0)), (1, .int x1), (2, .int x2)]) hx hb dX5_named_55 hl (k := 3) rfl rfl (by decide) rfl (fun ls hl => ?_)
  refine lv_goto (tgt := 2) hx hb dX5_named_58 (by decide) ?_
  exact hk2 _ _ _ _ _ _ _ _ _ (by omega) (by omega) h hM hS (lv_sub hl [1, 2, 3, 0] rfl)
set_option maxHeartbeats 4000000 in
set_option maxRecDepth 100000 in
theorem w_X5_named_2 {p : Program} {l : Launch} {e : Env} {s : State} {m : MethodId} {args : Array Value} {below : List Frame} {meth : Method} {c : Code} {G : GG} {A : Nat → Prop} {ad : AD} (B : XB G A ad p l s m args meth c cX5_named 4 RX5 (some .int)) {r : (Nat ⊕ Int32)} {st' : XS} : ∀ (n : Nat) (cells slots : Nat) (st : XS) (x1 : Int32) (x2 : Int32) (x3 : Int32) (H : Heap) (locs : List Loc) (ls : Array Slot), cells + 1 ≤ 1 → slots + 6 ≤ 6 → f_X5_named_2 n st x1 x2 x3 = some (r, st') → XW G A ad st H → va_S A s.heap H locs → lv_has ls 4 [(0, .ref (ad 0 0)), (1, .int x1), (2, .int x2), (3, .int x3)] → W p l e ({ frames := 6, cells := 1, slots := 6, locals := 100 } : Room) s m args below meth c H locs cells slots (vx_MQ below (QXr G A ad (ovw (fun x => some (.int x)) r) st') (QXx G A ad (ovw (fun x => some (.int x)) r) st') args s 1 6 A) (F0 m 2 ls []) := by
  have ⟨⟨hx, hb, hr, hml, hown, hT, hlocks, hK⟩, hnt, hST, hA, hll⟩ := B
  intro n
  induction n with
  | zero =>
    intro cells slots st x1 x2 x3 H locs ls hc hs h
    cases h
  | succ n ih =>
    intro cells slots st x1 x2 x3 H locs ls hc hs h hM hS hl
    rw [f_X5_named_2] at h
    refine lv_iload_n hx hb dX5_named_2 rfl (lv_at hl 3 rfl) ?_
    refine lv_aload_n hx hb dX5_named_3 rfl (lv_at hl 0 rfl) ?_
    refine xw_get B.1 hM 0 0 xv_0 (ci := 6) (N := 6) (fs := fTR ad st) (C := RX5) (T := TX5) (fun _ => rfl) rfl inX5 1 (by decide) wf_RX5_16 rfl (v := .ref (ad 13 1)) rfl dX5_named_4 ?_
    refine xw_size B hM hS 1 (by decide) wm_RX5_37 ⟨Nat.le_of_ble_eq_true rfl, Nat.le_of_ble_eq_true rfl⟩ ⟨(by show _ ≤ 1; omega), (by show _ ≤ 6; omega)⟩ hl.1 (Nat.le_of_ble_eq_true rfl) dX5_named_7 ?_
    refine lv_icmp_ge (tgt := 61) hx hb dX5_named_10 (by decide) (fun c1 => ?_) (fun c1 => ?_)
    · have h := bi_t c1 h
      cases h
      exact xw_throwN (is := 196) (text := "no such name") B hM hS (by decide +kernel) hl.1 ⟨⟨dX5_named_61, dX5_named_64⟩, Or.inl ⟨dX5_named_65, dX5_named_67, dX5_named_70⟩⟩ (Nat.le_of_ble_eq_true rfl) (Nat.le_of_ble_eq_true rfl) (by show _ ≤ 1; omega) (by show _ ≤ 6; omega) (by omega) (by omega) rfl
    · have h := bi_f c1 h
      refine lv_aload_n hx hb dX5_named_13 rfl (lv_at hl 0 rfl) ?_
      refine lv_iload_n hx hb dX5_named_14 rfl (lv_at hl 3 rfl) ?_
      obtain ⟨r2, t3, e4, h⟩ := bd_e h
      refine xw_callV B hM hS (xw_recv (xb_vk B) hM 0 0 (Or.inl xv_0) (fun gh => ⟨_, rfl⟩) rfl) [.int x3] (n := 1) (v := (some (.int r2))) (c_X5_nameNumberAt B.2.2.2.2 e4) wm_RX5_190 wi_yX5_nameNumberAt ws_yX5_nameNumberAt wn_RX5 wc_yX5_nameNumberAt rfl rfl (by decide +kernel) ⟨Nat.le_of_ble_eq_true rfl, Nat.le_of_ble_eq_true rfl⟩ ⟨(by show _ ≤ 1; omega), (by show _ ≤ 6; omega)⟩ rfl hl.1 (Nat.le_of_ble_eq_true rfl) rfl dX5_named_15 (fun H locs hM hS => ?_)
      refine lv_iload_n hx hb dX5_named_18 rfl (lv_at hl 1 rfl) ?_
      refine lv_icmp_ne (tgt := 55) hx hb dX5_named_19 (by decide) (fun c5 => ?_) (fun c5 => ?_)
      · have h := bi_f c5 h
        exact w_X5_named_55 B ih _ _ _ _ _ _ _ _ _ (by omega) (by omega) h hM hS (lv_sub hl [0, 1, 2, 3] rfl)
      · have h := bi_t c5 h
        refine lv_aload_n hx hb dX5_named_22 rfl (lv_at hl 0 rfl) ?_
        refine xw_get B.1 hM 0 0 xv_0 (ci := 6) (N := 6) (fs := fTR ad t3) (C := RX5) (T := TX5) (fun _ => rfl) rfl inX5 1 (by decide) wf_RX5_16 rfl (v := .ref (ad 13 1)) rfl dX5_named_23 ?_
        refine lv_iload_n hx hb dX5_named_26 rfl (lv_at hl 3 rfl) ?_
        obtain ⟨g6, h⟩ := gd_e h
        refine xw_lget B hM hS 1 (by decide) wm_RX5_116 g6 ⟨Nat.le_of_ble_eq_true rfl, Nat.le_of_ble_eq_true rfl⟩ ⟨(by show _ ≤ 1; omega), (by show _ ≤ 6; omega)⟩ hl.1 (Nat.le_of_ble_eq_true rfl) dX5_named_27 ?_
        obtain ⟨v7, h⟩ := gd_e h
        refine xw_castShot B.1 hM v7 wk_RX5_70 dX5_named_30 ?_
        refine xw_get B.1 hM 1 ((xL t3 1).getD x3.toNatClampNeg 0) (xv_s (k := 1) (by decide) v7) (ci := 5) (N := 12) (fs := fSh ad t3 ((xL t3 1).getD x3.toNatClampNeg 0)) (C := RX4) (T := TX4) (fun _ => rfl) rfl inX4 8 (by decide) wf_RX5_79 rfl (v := .int (xF t3 1 ((xL t3 1).getD x3.toNatClampNeg 0) 8)) rfl dX5_named_33 ?_
        refine lv_iload_n hx hb dX5_named_36 rfl (lv_at hl 2 rfl) ?_
        refine lv_icmp_ne (tgt := 55) hx hb dX5_named_37 (by decide) (fun c8 => ?_) (fun c8 => ?_)
        · have h := bi_f c8 h
          exact w_X5_named_55 B ih _ _ _ _ _ _ _ _ _ (by omega) (by omega) h hM hS (lv_sub hl [0, 1, 2, 3] rfl)
        · have h := bi_t c8 h
          refine lv_aload_n hx hb dX5_named_40 rfl (lv_at hl 0 rfl) ?_
          refine xw_get B.1 hM 0 0 xv_0 (ci := 6) (N := 6) (fs := fTR ad t3) (C := RX5) (T := TX5) (fun _ => rfl) rfl inX5 1 (by decide) wf_RX5_16 rfl (v := .ref (ad 13 1)) rfl dX5_named_41 ?_
          refine lv_iload_n hx hb dX5_named_44 rfl (lv_at hl 3 rfl) ?_
          obtain ⟨g9, h⟩ := gd_e h
          refine xw_lget B hM hS 1 (by decide) wm_RX5_116 g9 ⟨Nat.le_of_ble_eq_true rfl, Nat.le_of_ble_eq_true rfl⟩ ⟨(by show _ ≤ 1; omega), (by show _ ≤ 6; omega)⟩ hl.1 (Nat.le_of_ble_eq_true rfl) dX5_named_45 ?_
          refine xw_castShot B.1 hM v7 wk_RX5_70 dX5_named_48 ?_
          refine xw_get B.1 hM 1 ((xL t3 1).getD x3.toNatClampNeg 0) (xv_s (k := 1) (by decide) v7) (ci := 5) (N := 12) (fs := fSh ad t3 ((xL t3 1).getD x3.toNatClampNeg 0)) (C := RX4) (T := TX4) (fun _ => rfl) rfl inX4 0 (by decide) wf_RX5_90 rfl (v := .int (nI ((xL t3 1).getD x3.toNatClampNeg 0))) rfl dX5_named_51 ?_
          cases h
          exact xx_iret B hM hS (by omega) (by omega) dX5_named_54 rfl
set_option maxHeartbeats 4000000 in
set_option maxRecDepth 100000 in
theorem w_X5_named {p : Program} {l : Launch} {e : Env} {s : State} {m : MethodId} {args : Array Value} {below : List Frame} {meth : Method} {c : Code} {G : GG} {A : Nat → Prop} {ad : AD} (B : XB G A ad p l s m args meth c cX5_named 4 RX5 (some .int)) {r : (Nat ⊕ Int32)} {st' : XS} : ∀ (cells slots : Nat) (st : XS) (x1 : Int32) (x2 : Int32) (H : Heap) (locs : List Loc) (ls : Array Slot), cells + 1 ≤ 1 → slots + 6 ≤ 6 → f_X5_named st x1 x2 = some (r, st') → XW G A ad st H → va_S A s.heap H locs → lv_has ls 4 [(0, .ref (ad 0 0)), (1, .int x1), (2, .int x2)] → W p l e ({ frames := 6, cells := 1, slots := 6, locals := 100 } : Room) s m args below meth c H locs cells slots (vx_MQ below (QXr G A ad (ovw (fun x => some (.int x)) r) st') (QXx G A ad (ovw (fun x => some (.int x)) r) st') args s 1 6 A) (F0 m 0 ls []) := by
  have ⟨⟨hx, hb, hr, hml, hown, hT, hlocks, hK⟩, hnt, hST, hA, hll⟩ := B
  intro cells slots st x1 x2 H locs ls hc hs h hM hS hl
  rw [f_X5_named] at h
  refine lv_iconst (v := 0) hx hb dX5_named_0 (by decide) ?_
  refine lv_istore_n (lv' := [(3, .int 0), (0, .ref (ad 0 0)), (1, .int x1), (2, .int x2)]) hx hb dX5_named_1 rfl hl (by decide) rfl (fun ls hl => ?_)
  exact w_X5_named_2 B FU _ _ _ _ _ _ _ _ _ (by omega) (by omega) h hM hS (lv_sub hl [1, 2, 3, 0] rfl)
theorem c_X5_named {l : Launch} (hll : l.stackTraces = false) {G : GG} {A : Nat → Prop} {ad : AD} {st : XS} {x1 : Int32} {x2 : Int32} {r : (Nat ⊕ Int32)} {st' : XS} (h : f_X5_named st x1 x2 = some (r, st')) : vx_Met l yX5_named (Cond.code yX5_named cX5_named 4 (some .int) :: TG) ({ frames := 6, cells := 1, slots := 6, locals := 100 } : Room) (PX G A ad st [.ref (ad 0 0), .int x1, .int x2]) (QXr G A ad (ovw (fun x => some (.int x)) r) st') (QXx G A ad (ovw (fun x => some (.int x)) r) st') 1 6 A :=
  xx_of (own := RX5) hll (by decide +kernel) rfl (Nat.le_of_ble_eq_true rfl) fun p e s m below meth c ls B hM hS hl => w_X5_named B _ _ _ _ _ _ _ _ (Nat.le_of_ble_eq_true rfl) (Nat.le_of_ble_eq_true rfl) h hM hS hl
set_option maxHeartbeats 4000000 in
set_option maxRecDepth 100000 in
theorem w_X5_checkCut_16 {p : Program} {l : Launch} {e : Env} {s : State} {m : MethodId} {args : Array Value} {below : List Frame} {meth : Method} {c : Code} {G : GG} {A : Nat → Prop} {ad : AD} (B : XB G A ad p l s m args meth c cX5_checkCut 2 RX5 none) {r : (Nat ⊕ Unit)} {st' : XS} : ∀ (cells slots : Nat) (st : XS) (H : Heap) (locs : List Loc) (ls : Array Slot), cells + 1 ≤ 1 → slots + 6 ≤ 6 → f_X5_checkCut_16 st = some (r, st') → XW G A ad st H → va_S A s.heap H locs → lv_has ls 2 [] → W p l e ({ frames := 6, cells := 1, slots := 6, locals := 100 } : Room) s m args below meth c H locs cells slots (vx_MQ below (QXr G A ad (ovw (fun _ => none) r) st') (QXx G A ad (ovw (fun _ => none) r) st') args s 1 6 A) (F0 m 16 ls []) := by
  have ⟨⟨hx, hb, hr, hml, hown, hT, hlocks, hK⟩, hnt, hST, hA, hll⟩ := B
  intro cells slots st  H locs ls hc hs h hM hS hl
  rw [f_X5_checkCut_16] at h
  cases h
  exact xw_throwN (is := 351) (text := "no cut to this place") B hM hS (by decide +kernel) hl.1 ⟨⟨dX5_checkCut_16, dX5_checkCut_19⟩, Or.inr ⟨dX5_checkCut_20, dX5_checkCut_23, dX5_checkCut_26⟩⟩ (Nat.le_of_ble_eq_true rfl) (Nat.le_of_ble_eq_true rfl) (by show _ ≤ 1; omega) (by show _ ≤ 6; omega) (by omega) (by omega) rfl
set_option maxHeartbeats 4000000 in
set_option maxRecDepth 100000 in
theorem w_X5_checkCut {p : Program} {l : Launch} {e : Env} {s : State} {m : MethodId} {args : Array Value} {below : List Frame} {meth : Method} {c : Code} {G : GG} {A : Nat → Prop} {ad : AD} (B : XB G A ad p l s m args meth c cX5_checkCut 2 RX5 none) {r : (Nat ⊕ Unit)} {st' : XS} : ∀ (cells slots : Nat) (st : XS) (x1 : Int32) (H : Heap) (locs : List Loc) (ls : Array Slot), cells + 1 ≤ 1 → slots + 6 ≤ 6 → f_X5_checkCut st x1 = some (r, st') → XW G A ad st H → va_S A s.heap H locs → lv_has ls 2 [(0, .ref (ad 0 0)), (1, .int x1)] → W p l e ({ frames := 6, cells := 1, slots := 6, locals := 100 } : Room) s m args below meth c H locs cells slots (vx_MQ below (QXr G A ad (ovw (fun _ => none) r) st') (QXx G A ad (ovw (fun _ => none) r) st') args s 1 6 A) (F0 m 0 ls []) := by
  have ⟨⟨hx, hb, hr, hml, hown, hT, hlocks, hK⟩, hnt, hST, hA, hll⟩ := B
  intro cells slots st x1 H locs ls hc hs h hM hS hl
  rw [f_X5_checkCut] at h
  refine lv_iload_n hx hb dX5_checkCut_0 rfl (lv_at hl 1 rfl) ?_
  refine lv_iconst (v := 1) hx hb dX5_checkCut_1 (by decide) ?_
  refine lv_icmp_lt (tgt := 16) hx hb dX5_checkCut_2 (by decide) (fun c1 => ?_) (fun c1 => ?_)
  · have h := bi_t c1 h
    exact w_X5_checkCut_16 B _ _ _ _ _ _ (by omega) (by omega) h hM hS (lv_sub hl [] rfl)
  · have h := bi_f c1 h
    refine lv_iload_n hx hb dX5_checkCut_5 rfl (lv_at hl 1 rfl) ?_
    refine lv_aload_n hx hb dX5_checkCut_6 rfl (lv_at hl 0 rfl) ?_
    refine xw_get B.1 hM 0 0 xv_0 (ci := 6) (N := 6) (fs := fTR ad st) (C := RX5) (T := TX5) (fun _ => rfl) rfl inX5 1 (by decide) wf_RX5_16 rfl (v := .ref (ad 13 1)) rfl dX5_checkCut_7 ?_
    refine xw_size B hM hS 1 (by decide) wm_RX5_37 ⟨Nat.le_of_ble_eq_true rfl, Nat.le_of_ble_eq_true rfl⟩ ⟨(by show _ ≤ 1; omega), (by show _ ≤ 6; omega)⟩ hl.1 (Nat.le_of_ble_eq_true rfl) dX5_checkCut_10 ?_
    refine lv_icmp_lt (tgt := 27) hx hb dX5_checkCut_13 (by decide) (fun c2 => ?_) (fun c2 => ?_)
    · have h := bi_t c2 h
      cases h
      exact xx_vret B hM hS (by omega) (by omega) dX5_checkCut_27 rfl
    · have h := bi_f c2 h
      exact w_X5_checkCut_16 B _ _ _ _ _ _ (by omega) (by omega) h hM hS (lv_sub hl [] rfl)
theorem c_X5_checkCut {l : Launch} (hll : l.stackTraces = false) {G : GG} {A : Nat → Prop} {ad : AD} {st : XS} {x1 : Int32} {r : (Nat ⊕ Unit)} {st' : XS} (h : f_X5_checkCut st x1 = some (r, st')) : vx_Met l yX5_checkCut (Cond.code yX5_checkCut cX5_checkCut 2 none :: TG) ({ frames := 6, cells := 1, slots := 6, locals := 100 } : Room) (PX G A ad st [.ref (ad 0 0), .int x1]) (QXr G A ad (ovw (fun _ => none) r) st') (QXx G A ad (ovw (fun _ => none) r) st') 1 6 A :=
  xx_of (own := RX5) hll (by decide +kernel) rfl (Nat.le_of_ble_eq_true rfl) fun p e s m below meth c ls B hM hS hl => w_X5_checkCut B _ _ _ _ _ _ _ (Nat.le_of_ble_eq_true rfl) (Nat.le_of_ble_eq_true rfl) h hM hS hl
set_option maxHeartbeats 4000000 in
set_option maxRecDepth 100000 in
theorem w_X5_wrong {p : Program} {l : Launch} {e : Env} {s : State} {m : MethodId} {args : Array Value} {below : List Frame} {meth : Method} {c : Code} {G : GG} {A : Nat → Prop} {ad : AD} (B : XB G A ad p l s m args meth c cX5_wrong 2 RX5 (some .char)) {r : (Nat ⊕ Int32)} {st' : XS} : ∀ (cells slots : Nat) (st : XS) (x1 : Int32) (H : Heap) (locs : List Loc) (ls : Array Slot), cells + 1 ≤ 1 → slots + 6 ≤ 6 → f_X5_wrong st x1 = some (r, st') → XW G A ad st H → va_S A s.heap H locs → lv_has ls 2 [(0, .ref (ad 0 0)), (1, .int x1)] → W p l e ({ frames := 7, cells := 1, slots := 6, locals := 121 } : Room) s m args below meth c H locs cells slots (vx_MQ below (QXr G A ad (ovw (fun x => some (.int x)) r) st') (QXx G A ad (ovw (fun x => some (.int x)) r) st') args s 1 6 A) (F0 m 0 ls []) := by
  have ⟨⟨hx, hb, hr, hml, hown, hT, hlocks, hK⟩, hnt, hST, hA, hll⟩ := B
  intro cells slots st x1 H locs ls hc hs h hM hS hl
  rw [f_X5_wrong] at h
  refine lv_aload_n hx hb dX5_wrong_0 rfl (lv_at hl 0 rfl) ?_
  refine lv_iload_n hx hb dX5_wrong_1 rfl (lv_at hl 1 rfl) ?_
  rcases bdx_e h with ⟨k4, t2, e3, h⟩ | ⟨r1, t2, e3, h⟩
  · cases h
    exact xx_goV B hM hS (xw_recv (xb_vk B) hM 0 0 (Or.inl xv_0) (fun gh => ⟨_, rfl⟩) rfl) [.int x1] (n := 1) (c_X5_checkCut B.2.2.2.2 e3) wm_RX5_198 wi_yX5_checkCut ws_yX5_checkCut wn_RX5 wc_yX5_checkCut rfl rfl (by decide +kernel) ⟨Nat.le_of_ble_eq_true rfl, Nat.le_of_ble_eq_true rfl⟩ ⟨(by show _ ≤ 1; omega), (by show _ ≤ 6; omega)⟩ rfl hl.1 (Nat.le_of_ble_eq_true rfl) rfl dX5_wrong_2 (by omega) (by omega) rfl
  · refine xx_callV B hM hS (xw_recv (xb_vk B) hM 0 0 (Or.inl xv_0) (fun gh => ⟨_, rfl⟩) rfl) [.int x1] (n := 1) (v := none) (c_X5_checkCut B.2.2.2.2 e3) wm_RX5_198 wi_yX5_checkCut ws_yX5_checkCut wn_RX5 wc_yX5_checkCut rfl rfl (by decide +kernel) ⟨Nat.le_of_ble_eq_true rfl, Nat.le_of_ble_eq_true rfl⟩ ⟨(by show _ ≤ 1; omega), (by show _ ≤ 6; omega)⟩ rfl hl.1 (Nat.le_of_ble_eq_true rfl) rfl dX5_wrong_2 (fun H locs hM hS => ?_)
    refine lv_aload_n hx hb dX5_wrong_5 rfl (lv_at hl 0 rfl) ?_
    refine xw_get B.1 hM 0 0 xv_0 (ci := 6) (N := 6) (fs := fTR ad t2) (C := RX5) (T := TX5) (fun _ => rfl) rfl inX5 1 (by decide) wf_RX5_16 rfl (v := .ref (ad 13 1)) rfl dX5_wrong_6 ?_
    refine lv_iload_n hx hb dX5_wrong_9 rfl (lv_at hl 1 rfl) ?_
    refine lv_iconst (v := 1) hx hb dX5_wrong_10 (by decide) ?_
    refine lv_isub hx hb dX5_wrong_11 ?_
    obtain ⟨g5, h⟩ := gd_e h
    refine xw_lget B hM hS 1 (by decide) wm_RX5_116 g5 ⟨Nat.le_of_ble_eq_true rfl, Nat.le_of_ble_eq_true rfl⟩ ⟨(by show _ ≤ 1; omega), (by show _ ≤ 6; omega)⟩ hl.1 (Nat.le_of_ble_eq_true rfl) dX5_wrong_12 ?_
    obtain ⟨v6, h⟩ := gd_e h
    refine xw_castShot B.1 hM v6 wk_RX5_70 dX5_wrong_15 ?_
    refine lv_aload_n hx hb dX5_wrong_18 rfl (lv_at hl 0 rfl) ?_
    refine xw_get B.1 hM 0 0 xv_0 (ci := 6) (N := 6) (fs := fTR ad t2) (C := RX5) (T := TX5) (fun _ => rfl) rfl inX5 1 (by decide) wf_RX5_16 rfl (v := .ref (ad 13 1)) rfl dX5_wrong_19 ?_
    refine lv_iload_n hx hb dX5_wrong_22 rfl (lv_at hl 1 rfl) ?_
    obtain ⟨g7, h⟩ := gd_e h
    refine xw_lget B hM hS 1 (by decide) wm_RX5_116 g7 ⟨Nat.le_of_ble_eq_true rfl, Nat.le_of_ble_eq_true rfl⟩ ⟨(by show _ ≤ 1; omega), (by show _ ≤ 6; omega)⟩ hl.1 (Nat.le_of_ble_eq_true rfl) dX5_wrong_23 ?_
    obtain ⟨v8, h⟩ := gd_e h
    refine xw_castShot B.1 hM v8 wk_RX5_70 dX5_wrong_26 ?_
    obtain ⟨r9, t10, e11, h⟩ := bd_e h
    refine xw_callS B hM hS [.ref (ad 1 ((xL t2 1).getD (x1 - 1).toNatClampNeg 0)), .ref (ad 1 ((xL t2 1).getD x1.toNatClampNeg 0))] (n := 2) (v := (some (.int r9))) (c_X5_faultBetween B.2.2.2.2 e11) wm_RX5_201 wt_yX5_faultBetween wn_RX5 wc_yX5_faultBetween rfl rfl (by decide +kernel) ⟨Nat.le_of_ble_eq_true rfl, Nat.le_of_ble_eq_true rfl⟩ ⟨(by show _ ≤ 1; omega), (by show _ ≤ 6; omega)⟩ rfl hl.1 (Nat.le_of_ble_eq_true rfl) rfl dX5_wrong_29 (fun H locs hM hS => ?_)
    obtain ⟨g12, h⟩ := gd_e h
    cases h
    exact xx_zret B hM hS (by omega) (by omega) g12 dX5_wrong_32 rfl
theorem c_X5_wrong {l : Launch} (hll : l.stackTraces = false) {G : GG} {A : Nat → Prop} {ad : AD} {st : XS} {x1 : Int32} {r : (Nat ⊕ Int32)} {st' : XS} (h : f_X5_wrong st x1 = some (r, st')) : vx_Met l yX5_wrong (Cond.code yX5_wrong cX5_wrong 2 (some .char) :: TG) ({ frames := 7, cells := 1, slots := 6, locals := 121 } : Room) (PX G A ad st [.ref (ad 0 0), .int x1]) (QXr G A ad (ovw (fun x => some (.int x)) r) st') (QXx G A ad (ovw (fun x => some (.int x)) r) st') 1 6 A :=
  xx_of (own := RX5) hll (by decide +kernel) rfl (Nat.le_of_ble_eq_true rfl) fun p e s m below meth c ls B hM hS hl => w_X5_wrong B _ _ _ _ _ _ _ (Nat.le_of_ble_eq_true rfl) (Nat.le_of_ble_eq_true rfl) h hM hS hl
set_option maxHeartbeats 4000000 in
set_option maxRecDepth 100000 in
theorem w_X5_excuse_40 {p : Program} {l : Launch} {e : Env} {s : State} {m : MethodId} {args : Array Value} {below : List Frame} {meth : Method} {c : Code} {G : GG} {A : Nat → Prop} {ad : AD} (B : XB G A ad p l s m args meth c cX5_excuse 6 RX5 (some .char)) {r : (Nat ⊕ Int32)} {st' : XS} : ∀ (cells slots : Nat) (st : XS) (x1 : Int32) (x2 : Int32) (H : Heap) (locs : List Loc) (ls : Array Slot), cells + 1 ≤ 1 → slots + 6 ≤ 6 → f_X5_excuse_40 st x1 x2 = some (r, st') → XW G A ad st H → va_S A s.heap H locs → lv_has ls 6 [(0, .ref (ad 0 0)), (1, .int x1), (2, .int x2)] → W p l e ({ frames := 7, cells := 1, slots := 6, locals := 121 } : Room) s m args below meth c H locs cells slots (vx_MQ below (QXr G A ad (ovw (fun x => some (.int x)) r) st') (QXx G A ad (ovw (fun x => some (.int x)) r) st') args s 1 6 A) (F0 m 40 ls []) := by
  have ⟨⟨hx, hb, hr, hml, hown, hT, hlocks, hK⟩, hnt, hST, hA, hll⟩ := B
  intro cells slots st x1 x2 H locs ls hc hs h hM hS hl
  rw [f_X5_excuse_40] at h
  refine lv_aload_n hx hb dX5_excuse_40 rfl (lv_at hl 0 rfl) ?_
  refine lv_iload_n hx hb dX5_excuse_41 rfl (lv_at hl 1 rfl) ?_
  rcases bdx_e h with ⟨k4, t2, e3, h⟩ | ⟨r1, t2, e3, h⟩
  · cases h
    exact xx_goV B hM hS (xw_recv (xb_vk B) hM 0 0 (Or.inl xv_0) (fun gh => ⟨_, rfl⟩) rfl) [.int x1] (n := 1) (c_X5_checkCut B.2.2.2.2 e3) wm_RX5_198 wi_yX5_checkCut ws_yX5_checkCut wn_RX5 wc_yX5_checkCut rfl rfl (by decide +kernel) ⟨Nat.le_of_ble_eq_true rfl, Nat.le_of_ble_eq_true rfl⟩ ⟨(by show _ ≤ 1; omega), (by show _ ≤ 6; omega)⟩ rfl hl.1 (Nat.le_of_ble_eq_true rfl) rfl dX5_excuse_42 (by omega) (by omega) rfl
  · refine xx_callV B hM hS (xw_recv (xb_vk B) hM 0 0 (Or.inl xv_0) (fun gh => ⟨_, rfl⟩) rfl) [.int x1] (n := 1) (v := none) (c_X5_checkCut B.2.2.2.2 e3) wm_RX5_198 wi_yX5_checkCut ws_yX5_checkCut wn_RX5 wc_yX5_checkCut rfl rfl (by decide +kernel) ⟨Nat.le_of_ble_eq_true rfl, Nat.le_of_ble_eq_true rfl⟩ ⟨(by show _ ≤ 1; omega), (by show _ ≤ 6; omega)⟩ rfl hl.1 (Nat.le_of_ble_eq_true rfl) rfl dX5_excuse_42 (fun H locs hM hS => ?_)
    refine lv_aload_n hx hb dX5_excuse_45 rfl (lv_at hl 0 rfl) ?_
    refine xw_get B.1 hM 0 0 xv_0 (ci := 6) (N := 6) (fs := fTR ad t2) (C := RX5) (T := TX5) (fun _ => rfl) rfl inX5 1 (by decide) wf_RX5_16 rfl (v := .ref (ad 13 1)) rfl dX5_excuse_46 ?_
    refine lv_iload_n hx hb dX5_excuse_49 rfl (lv_at hl 1 rfl) ?_
    refine lv_iconst (v := 1) hx hb dX5_excuse_50 (by decide) ?_
    refine lv_isub hx hb dX5_excuse_51 ?_
    obtain ⟨g5, h⟩ := gd_e h
    refine xw_lget B hM hS 1 (by decide) wm_RX5_116 g5 ⟨Nat.le_of_ble_eq_true rfl, Nat.le_of_ble_eq_true rfl⟩ ⟨(by show _ ≤ 1; omega), (by show _ ≤ 6; omega)⟩ hl.1 (Nat.le_of_ble_eq_true rfl) dX5_excuse_52 ?_
    obtain ⟨v6, h⟩ := gd_e h
    refine xw_castShot B.1 hM v6 wk_RX5_70 dX5_excuse_55 ?_
    refine lv_astore_n (lv' := [(3, .ref (ad 1 ((xL t2 1).getD (x1 - 1).toNatClampNeg 0))), (0, .ref (ad 0 0)), (1, .int x1), (2, .int x2)]) hx hb dX5_excuse_58 rfl hl (by decide) rfl (fun ls hl => ?_)
    refine lv_aload_n hx hb dX5_excuse_59 rfl (lv_at hl 1 rfl) ?_
    refine xw_get B.1 hM 0 0 xv_0 (ci := 6) (N := 6) (fs := fTR ad t2) (C := RX5) (T := TX5) (fun _ => rfl) rfl inX5 1 (by decide) wf_RX5_16 rfl (v := .ref (ad 13 1)) rfl dX5_excuse_60 ?_
    refine lv_iload_n hx hb dX5_excuse_63 rfl (lv_at hl 2 rfl) ?_
    obtain ⟨g7, h⟩ := gd_e h
    refine xw_lget B hM hS 1 (by decide) wm_RX5_116 g7 ⟨Nat.le_of_ble_eq_true rfl, Nat.le_of_ble_eq_true rfl⟩ ⟨(by show _ ≤ 1; omega), (by show _ ≤ 6; omega)⟩ hl.1 (Nat.le_of_ble_eq_true rfl) dX5_excuse_64 ?_
    obtain ⟨v8, h⟩ := gd_e h
    refine xw_castShot B.1 hM v8 wk_RX5_70 dX5_excuse_67 ?_
    refine lv_astore (lv' := [(4, .ref (ad 1 ((xL t2 1).getD x1.toNatClampNeg 0))), (3, .ref (ad 1 ((xL t2 1).getD (x1 - 1).toNatClampNeg 0))), (0, .ref (ad 0 0)), (1, .int x1), (2, .int x2)]) hx hb dX5_excuse_70 hl (by decide) rfl (fun ls hl => ?_)
    refine lv_aload hx hb dX5_excuse_72 (lv_at hl 0 rfl) ?_
    refine lv_aload_n hx hb dX5_excuse_74 rfl (lv_at hl 1 rfl) ?_
    obtain ⟨r9, t10, e11, h⟩ := bd_e h
    refine xw_callV B hM hS (xw_recv (xb_vk B) hM 1 ((xL t2 1).getD x1.toNatClampNeg 0) (Or.inl (xv_s (k := 1) (by decide) v8)) (fun gh => ⟨_, rfl⟩) rfl) [.ref (ad 1 ((xL t2 1).getD (x1 - 1).toNatClampNeg 0))] (n := 1) (v := (some (.int r9))) (c_X4_excusedFor B.2.2.2.2 e11) wm_RX5_207 wi_yX4_excusedFor ws_yX4_excusedFor wn_RX4 wc_yX4_excusedFor rfl rfl (by decide +kernel) ⟨Nat.le_of_ble_eq_true rfl, Nat.le_of_ble_eq_true rfl⟩ ⟨(by show _ ≤ 1; omega), (by show _ ≤ 6; omega)⟩ rfl hl.1 (Nat.le_of_ble_eq_true rfl) rfl dX5_excuse_75 (fun H locs hM hS => ?_)
    refine lv_istore (lv' := [(5, .int r9), (4, .ref (ad 1 ((xL t2 1).getD x1.toNatClampNeg 0))), (3, .ref (ad 1 ((xL t2 1).getD (x1 - 1).toNatClampNeg 0))), (0, .ref (ad 0 0)), (1, .int x1), (2, .int x2)]) hx hb dX5_excuse_78 hl (by decide) rfl (fun ls hl => ?_)
    refine lv_aload hx hb dX5_excuse_80 (lv_at hl 1 rfl) ?_
    obtain ⟨v12, h⟩ := gd_e h
    refine xw_get B.1 hM 1 ((xL t2 1).getD x1.toNatClampNeg 0) (xv_s (k := 1) (by decide) v12) (ci := 5) (N := 12) (fs := fSh ad t10 ((xL t2 1).getD x1.toNatClampNeg 0)) (C := RX4) (T := TX4) (fun _ => rfl) rfl inX4 2 (by decide) wf_RX5_211 rfl (v := .ref (ad 3 ((xL t2 1).getD x1.toNatClampNeg 0))) rfl dX5_excuse_82 ?_
    refine lv_iload_n hx hb dX5_excuse_85 rfl (lv_at hl 5 rfl) ?_
    refine lv_aload hx hb dX5_excuse_86 (lv_at hl 1 rfl) ?_
    refine lv_aload_n hx hb dX5_excuse_88 rfl (lv_at hl 2 rfl) ?_
    obtain ⟨r13, t14, e15, h⟩ := bd_e h
    refine xw_callV B hM hS (xw_recv (xb_vk B) hM 3 ((xL t2 1).getD x1.toNatClampNeg 0) (Or.inl (xv_s (k := 3) (by decide) v12)) (fun gh => ⟨_, rfl⟩) rfl) [.int x2, .ref (ad 1 ((xL t2 1).getD x1.toNatClampNeg 0)), .ref (ad 1 ((xL t2 1).getD (x1 - 1).toNatClampNeg 0))] (n := 3) (v := none) (c_X3_grant B.2.2.2.2 e15) wm_RX5_215 wi_yX3_grant ws_yX3_grant wn_RX3 wc_yX3_grant rfl rfl (by decide +kernel) ⟨Nat.le_of_ble_eq_true rfl, Nat.le_of_ble_eq_true rfl⟩ ⟨(by show _ ≤ 1; omega), (by show _ ≤ 6; omega)⟩ rfl hl.1 (Nat.le_of_ble_eq_true rfl) rfl dX5_excuse_89 (fun H locs hM hS => ?_)
    refine lv_iload hx hb dX5_excuse_92 (lv_at hl 0 rfl) ?_
    obtain ⟨g16, h⟩ := gd_e h
    cases h
    exact xx_zret B hM hS (by omega) (by omega) g16 dX5_excuse_94 rfl
set_option maxHeartbeats 4000000 in
set_option maxRecDepth 100000 in
theorem w_X5_excuse {p : Program} {l : Launch} {e : Env} {s : State} {m : MethodId} {args : Array Value} {below : List Frame} {meth : Method} {c : Code} {G : GG} {A : Nat → Prop} {ad : AD} (B : XB G A ad p l s m args meth c cX5_excuse 6 RX5 (some .char)) {r : (Nat ⊕ Int32)} {st' : XS} : ∀ (cells slots : Nat) (st : XS) (x1 : Int32) (x2 : Int32) (H : Heap) (locs : List Loc) (ls : Array Slot), cells + 1 ≤ 1 → slots + 6 ≤ 6 → f_X5_excuse st x1 x2 = some (r, st') → XW G A ad st H → va_S A s.heap H locs → lv_has ls 6 [(0, .ref (ad 0 0)), (1, .int x1), (2, .int x2)] → W p l e ({ frames := 7, cells := 1, slots := 6, locals := 121 } : Room) s m args below meth c H locs cells slots (vx_MQ below (QXr G A ad (ovw (fun x => some (.int x)) r) st') (QXx G A ad (ovw (fun x => some (.int x)) r) st') args s 1 6 A) (F0 m 0 ls []) := by
  have ⟨⟨hx, hb, hr, hml, hown, hT, hlocks, hK⟩, hnt, hST, hA, hll⟩ := B
  intro cells slots st x1 x2 H locs ls hc hs h hM hS hl
  rw [f_X5_excuse] at h
  refine lv_iload_n hx hb dX5_excuse_0 rfl (lv_at hl 2 rfl) ?_
  refine lv_bipush (v := 120) hx hb dX5_excuse_1 (by decide) ?_
  refine lv_icmp_eq (tgt := 40) hx hb dX5_excuse_3 (by decide) (fun c1 => ?_) (fun c1 => ?_)
  · have h := bi_t c1 h
    exact w_X5_excuse_40 B _ _ _ _ _ _ _ _ (by omega) (by omega) h hM hS (lv_sub hl [0, 1, 2] rfl)
  · have h := bi_f c1 h
    refine lv_iload_n hx hb dX5_excuse_6 rfl (lv_at hl 2 rfl) ?_
    refine lv_bipush (v := 106) hx hb dX5_excuse_7 (by decide) ?_
    refine lv_icmp_eq (tgt := 40) hx hb dX5_excuse_9 (by decide) (fun c2 => ?_) (fun c2 => ?_)
    · have h := bi_t c2 h
      exact w_X5_excuse_40 B _ _ _ _ _ _ _ _ (by omega) (by omega) h hM hS (lv_sub hl [0, 1, 2] rfl)
    · have h := bi_f c2 h
      refine lv_iload_n hx hb dX5_excuse_12 rfl (lv_at hl 2 rfl) ?_
      refine lv_bipush (v := 103) hx hb dX5_excuse_13 (by decide) ?_
      refine lv_icmp_eq (tgt := 40) hx hb dX5_excuse_15 (by decide) (fun c3 => ?_) (fun c3 => ?_)
      · have h := bi_t c3 h
        exact w_X5_excuse_40 B _ _ _ _ _ _ _ _ (by omega) (by omega) h hM hS (lv_sub hl [0, 1, 2] rfl)
      · have h := bi_f c3 h
        refine lv_iload_n hx hb dX5_excuse_18 rfl (lv_at hl 2 rfl) ?_
        refine lv_bipush (v := 101) hx hb dX5_excuse_19 (by decide) ?_
        refine lv_icmp_eq (tgt := 40) hx hb dX5_excuse_21 (by decide) (fun c4 => ?_) (fun c4 => ?_)
        · have h := bi_t c4 h
          exact w_X5_excuse_40 B _ _ _ _ _ _ _ _ (by omega) (by omega) h hM hS (lv_sub hl [0, 1, 2] rfl)
        · have h := bi_f c4 h
          refine lv_iload_n hx hb dX5_excuse_24 rfl (lv_at hl 2 rfl) ?_
          refine lv_bipush (v := 109) hx hb dX5_excuse_25 (by decide) ?_
          refine lv_icmp_eq (tgt := 40) hx hb dX5_excuse_27 (by decide) (fun c5 => ?_) (fun c5 => ?_)
          · have h := bi_t c5 h
            exact w_X5_excuse_40 B _ _ _ _ _ _ _ _ (by omega) (by omega) h hM hS (lv_sub hl [0, 1, 2] rfl)
          · have h := bi_f c5 h
            cases h
            exact xw_throw (k := 0) (ik := 41) (ic := 45) (is := 205) (text := "no such letter") B hM hS wk_RX5_41 wn_java_lang_IllegalArgumentException at_0 an_0 ag_0 (by decide +kernel) (by decide +kernel) hl.1 ⟨⟨dX5_excuse_30, dX5_excuse_33⟩, Or.inl ⟨dX5_excuse_34, dX5_excuse_36, dX5_excuse_39⟩⟩ (Nat.le_of_ble_eq_true rfl) (Nat.le_of_ble_eq_true rfl) (by show _ ≤ 1; omega) (by show _ ≤ 6; omega) (by omega) (by omega) rfl
theorem c_X5_excuse {l : Launch} (hll : l.stackTraces = false) {G : GG} {A : Nat → Prop} {ad : AD} {st : XS} {x1 : Int32} {x2 : Int32} {r : (Nat ⊕ Int32)} {st' : XS} (h : f_X5_excuse st x1 x2 = some (r, st')) : vx_Met l yX5_excuse (Cond.code yX5_excuse cX5_excuse 6 (some .char) :: TG) ({ frames := 7, cells := 1, slots := 6, locals := 121 } : Room) (PX G A ad st [.ref (ad 0 0), .int x1, .int x2]) (QXr G A ad (ovw (fun x => some (.int x)) r) st') (QXx G A ad (ovw (fun x => some (.int x)) r) st') 1 6 A :=
  xx_of (own := RX5) hll (by decide +kernel) rfl (Nat.le_of_ble_eq_true rfl) fun p e s m below meth c ls B hM hS hl => w_X5_excuse B _ _ _ _ _ _ _ _ (Nat.le_of_ble_eq_true rfl) (Nat.le_of_ble_eq_true rfl) h hM hS hl
set_option maxHeartbeats 4000000 in
set_option maxRecDepth 100000 in
theorem w_X5_isBrokenBetween_26 {p : Program} {l : Launch} {e : Env} {s : State} {m : MethodId} {args : Array Value} {below : List Frame} {meth : Method} {c : Code} {G : GG} {A : Nat → Prop} {ad : AD} (B : XB G A ad p l s m args meth c cX5_isBrokenBetween 3 RX5 (some .boolean)) {r : Int32} {st' : XS} : ∀ (st : XS) (y0 : Int32) (H : Heap) (locs : List Loc) (ls : Array Slot), f_X5_isBrokenBetween_26 st y0 = some (r, st') → XW G A ad st H → va_S A s.heap H locs → lv_has ls 3 [] → W p l e ({ frames := 4, cells := 0, slots := 0, locals := 91 } : Room) s m args below meth c H locs 0 0 (MQ below (QX G A ad (some (.int r)) st') args s 0 0 A) (F0 m 26 ls [.int y0]) := by
  have ⟨⟨hx, hb, hr, hml, hown, hT, hlocks, hK⟩, hnt, hST, hA, hll⟩ := B
  intro st y0 H locs ls h hM hS hl
  rw [f_X5_isBrokenBetween_26] at h
  obtain ⟨g1, h⟩ := gd_e h
  cases h
  exact xw_zret B hM hS (Nat.le_refl 0) (Nat.le_refl 0) g1 dX5_isBrokenBetween_26
set_option maxHeartbeats 4000000 in
set_option maxRecDepth 100000 in
theorem w_X5_isBrokenBetween_25 {p : Program} {l : Launch} {e : Env} {s : State} {m : MethodId} {args : Array Value} {below : List Frame} {meth : Method} {c : Code} {G : GG} {A : Nat → Prop} {ad : AD} (B : XB G A ad p l s m args meth c cX5_isBrokenBetween 3 RX5 (some .boolean)) {r : Int32} {st' : XS} : ∀ (st : XS) (H : Heap) (locs : List Loc) (ls : Array Slot), f_X5_isBrokenBetween_25 st = some (r, st') → XW G A ad st H → va_S A s.heap H locs → lv_has ls 3 [] → W p l e ({ frames := 4, cells := 0, slots := 0, locals := 91 } : Room) s m args below meth c H locs 0 0 (MQ below (QX G A ad (some (.int r)) st') args s 0 0 A) (F0 m 25 ls []) := by
  have ⟨⟨hx, hb, hr, hml, hown, hT, hlocks, hK⟩, hnt, hST, hA, hll⟩ := B
  intro st  H locs ls h hM hS hl
  rw [f_X5_isBrokenBetween_25] at h
  refine lv_iconst (v := 0) hx hb dX5_isBrokenBetween_25 (by decide) ?_
  exact w_X5_isBrokenBetween_26 B _ _ _ _ _ h hM hS (lv_sub hl [] rfl)
set_option maxHeartbeats 4000000 in
set_option maxRecDepth 100000 in
theorem w_X5_isBrokenBetween {p : Program} {l : Launch} {e : Env} {s : State} {m : MethodId} {args : Array Value} {below : List Frame} {meth : Method} {c : Code} {G : GG} {A : Nat → Prop} {ad : AD} (B : XB G A ad p l s m args meth c cX5_isBrokenBetween 3 RX5 (some .boolean)) {r : Int32} {st' : XS} : ∀ (st : XS) (x0 : Nat) (x1 : Nat) (H : Heap) (locs : List Loc) (ls : Array Slot), f_X5_isBrokenBetween st x0 x1 = some (r, st') → XW G A ad st H → va_S A s.heap H locs → lv_has ls 3 [(0, .ref (ad 1 x0)), (1, .ref (ad 1 x1))] → W p l e ({ frames := 4, cells := 0, slots := 0, locals := 91 } : Room) s m args below meth c H locs 0 0 (MQ below (QX G A ad (some (.int r)) st') args s 0 0 A) (F0 m 0 ls []) := by
  have ⟨⟨hx, hb, hr, hml, hown, hT, hlocks, hK⟩, hnt, hST, hA, hll⟩ := B
  intro st x0 x1 H locs ls h hM hS hl
  rw [f_X5_isBrokenBetween] at h
  refine lv_aload_n hx hb dX5_isBrokenBetween_0 rfl (lv_at hl 0 rfl) ?_
  refine lv_aload_n hx hb dX5_isBrokenBetween_1 rfl (lv_at hl 1 rfl) ?_
  obtain ⟨r1, t2, e3, h⟩ := bd_e h
  refine xw_callS B hM hS [.ref (ad 1 x0), .ref (ad 1 x1)] (n := 2) (v := (some (.int r1))) (c_X5_faultBetween B.2.2.2.2 e3) wm_RX5_201 wt_yX5_faultBetween wn_RX5 wc_yX5_faultBetween rfl rfl (by decide +kernel) ⟨Nat.le_of_ble_eq_true rfl, Nat.le_of_ble_eq_true rfl⟩ ⟨Nat.le_refl 0, Nat.le_refl 0⟩ rfl hl.1 (Nat.le_of_ble_eq_true rfl) rfl dX5_isBrokenBetween_2 (fun H locs hM hS => ?_)
  refine lv_istore_n (lv' := [(2, .int r1), (0, .ref (ad 1 x0)), (1, .ref (ad 1 x1))]) hx hb dX5_isBrokenBetween_5 rfl hl (by decide) rfl (fun ls hl => ?_)
  refine lv_iload_n hx hb dX5_isBrokenBetween_6 rfl (lv_at hl 0 rfl) ?_
  refine lv_bipush (v := 45) hx hb dX5_isBrokenBetween_7 (by decide) ?_
  refine lv_icmp_eq (tgt := 25) hx hb dX5_isBrokenBetween_9 (by decide) (fun c4 => ?_) (fun c4 => ?_)
  · have h := bi_t c4 h
    exact w_X5_isBrokenBetween_25 B _ _ _ _ h hM hS (lv_sub hl [] rfl)
  · have h := bi_f c4 h
    refine lv_iload_n hx hb dX5_isBrokenBetween_12 rfl (lv_at hl 0 rfl) ?_
    refine lv_aload_n hx hb dX5_isBrokenBetween_13 rfl (lv_at hl 2 rfl) ?_
    refine lv_aload_n hx hb dX5_isBrokenBetween_14 rfl (lv_at hl 1 rfl) ?_
    obtain ⟨v5, h⟩ := gd_e h
    obtain ⟨r6, t7, e8, h⟩ := bd_e h
    refine xw_callV B hM hS (xw_recv (xb_vk B) hM 1 x1 (Or.inl (xv_s (k := 1) (by decide) v5)) (fun gh => ⟨_, rfl⟩) rfl) [.ref (ad 1 x0)] (n := 1) (v := (some (.int r6))) (c_X4_excusedFor B.2.2.2.2 e8) wm_RX5_207 wi_yX4_excusedFor ws_yX4_excusedFor wn_RX4 wc_yX4_excusedFor rfl rfl (by decide +kernel) ⟨Nat.le_of_ble_eq_true rfl, Nat.le_of_ble_eq_true rfl⟩ ⟨Nat.le_refl 0, Nat.le_refl 0⟩ rfl hl.1 (Nat.le_of_ble_eq_true rfl) rfl dX5_isBrokenBetween_15 (fun H locs hM hS => ?_)
    refine lv_icmp_eq (tgt := 25) hx hb dX5_isBrokenBetween_18 (by decide) (fun c9 => ?_) (fun c9 => ?_)
    · have h := bi_t c9 h
      exact w_X5_isBrokenBetween_25 B _ _ _ _ h hM hS (lv_sub hl [] rfl)
    · have h := bi_f c9 h
      refine lv_iconst (v := 1) hx hb dX5_isBrokenBetween_21 (by decide) ?_
      refine lv_goto (tgt := 26) hx hb dX5_isBrokenBetween_22 (by decide) ?_
      exact w_X5_isBrokenBetween_26 B _ _ _ _ _ h hM hS (lv_sub hl [] rfl)
theorem c_X5_isBrokenBetween {l : Launch} (hll : l.stackTraces = false) {G : GG} {A : Nat → Prop} {ad : AD} {st : XS} {x0 : Nat} {x1 : Nat} {r : Int32} {st' : XS} (h : f_X5_isBrokenBetween st x0 x1 = some (r, st')) : Met l yX5_isBrokenBetween (Cond.code yX5_isBrokenBetween cX5_isBrokenBetween 3 (some .boolean) :: TG) ({ frames := 4, cells := 0, slots := 0, locals := 91 } : Room) (PX G A ad st [.ref (ad 1 x0), .ref (ad 1 x1)]) (QX G A ad (some (.int r)) st') 0 0 A :=
  xw_of (own := RX5) hll (by decide +kernel) rfl (Nat.le_of_ble_eq_true rfl) fun p e s m below meth c ls B hM hS hl => w_X5_isBrokenBetween B _ _ _ _ _ _ h hM hS hl
set_option maxHeartbeats 4000000 in
set_option maxRecDepth 100000 in
theorem w_X5_isBroken {p : Program} {l : Launch} {e : Env} {s : State} {m : MethodId} {args : Array Value} {below : List Frame} {meth : Method} {c : Code} {G : GG} {A : Nat → Prop} {ad : AD} (B : XB G A ad p l s m args meth c cX5_isBroken 2 RX5 (some .boolean)) {r : (Nat ⊕ Int32)} {st' : XS} : ∀ (cells slots : Nat) (st : XS) (x1 : Int32) (H : Heap) (locs : List Loc) (ls : Array Slot), cells + 1 ≤ 1 → slots + 6 ≤ 6 → f_X5_isBroken st x1 = some (r, st') → XW G A ad st H → va_S A s.heap H locs → lv_has ls 2 [(0, .ref (ad 0 0)), (1, .int x1)] → W p l e ({ frames := 7, cells := 1, slots := 6, locals := 121 } : Room) s m args below meth c H locs cells slots (vx_MQ below (QXr G A ad (ovw (fun x => some (.int x)) r) st') (QXx G A ad (ovw (fun x => some (.int x)) r) st') args s 1 6 A) (F0 m 0 ls []) := by
  have ⟨⟨hx, hb, hr, hml, hown, hT, hlocks, hK⟩, hnt, hST, hA, hll⟩ := B
  intro cells slots st x1 H locs ls hc hs h hM hS hl
  rw [f_X5_isBroken] at h
  refine lv_aload_n hx hb dX5_isBroken_0 rfl (lv_at hl 0 rfl) ?_
  refine lv_iload_n hx hb dX5_isBroken_1 rfl (lv_at hl 1 rfl) ?_
  rcases bdx_e h with ⟨k4, t2, e3, h⟩ | ⟨r1, t2, e3, h⟩
  · cases h
    exact xx_goV B hM hS (xw_recv (xb_vk B) hM 0 0 (Or.inl xv_0) (fun gh => ⟨_, rfl⟩) rfl) [.int x1] (n := 1) (c_X5_checkCut B.2.2.2.2 e3) wm_RX5_198 wi_yX5_checkCut ws_yX5_checkCut wn_RX5 wc_yX5_checkCut rfl rfl (by decide +kernel) ⟨Nat.le_of_ble_eq_true rfl, Nat.le_of_ble_eq_true rfl⟩ ⟨(by show _ ≤ 1; omega), (by show _ ≤ 6; omega)⟩ rfl hl.1 (Nat.le_of_ble_eq_true rfl) rfl dX5_isBroken_2 (by omega) (by omega) rfl
  · refine xx_callV B hM hS (xw_recv (xb_vk B) hM 0 0 (Or.inl xv_0) (fun gh => ⟨_, rfl⟩) rfl) [.int x1] (n := 1) (v := none) (c_X5_checkCut B.2.2.2.2 e3) wm_RX5_198 wi_yX5_checkCut ws_yX5_checkCut wn_RX5 wc_yX5_checkCut rfl rfl (by decide +kernel) ⟨Nat.le_of_ble_eq_true rfl, Nat.le_of_ble_eq_true rfl⟩ ⟨(by show _ ≤ 1; omega), (by show _ ≤ 6; omega)⟩ rfl hl.1 (Nat.le_of_ble_eq_true rfl) rfl dX5_isBroken_2 (fun H locs hM hS => ?_)
    refine lv_aload_n hx hb dX5_isBroken_5 rfl (lv_at hl 0 rfl) ?_
    refine xw_get B.1 hM 0 0 xv_0 (ci := 6) (N := 6) (fs := fTR ad t2) (C := RX5) (T := TX5) (fun _ => rfl) rfl inX5 1 (by decide) wf_RX5_16 rfl (v := .ref (ad 13 1)) rfl dX5_isBroken_6 ?_
    refine lv_iload_n hx hb dX5_isBroken_9 rfl (lv_at hl 1 rfl) ?_
    refine lv_iconst (v := 1) hx hb dX5_isBroken_10 (by decide) ?_
    refine lv_isub hx hb dX5_isBroken_11 ?_
    obtain ⟨g5, h⟩ := gd_e h
    refine xw_lget B hM hS 1 (by decide) wm_RX5_116 g5 ⟨Nat.le_of_ble_eq_true rfl, Nat.le_of_ble_eq_true rfl⟩ ⟨(by show _ ≤ 1; omega), (by show _ ≤ 6; omega)⟩ hl.1 (Nat.le_of_ble_eq_true rfl) dX5_isBroken_12 ?_
    obtain ⟨v6, h⟩ := gd_e h
    refine xw_castShot B.1 hM v6 wk_RX5_70 dX5_isBroken_15 ?_
    refine lv_aload_n hx hb dX5_isBroken_18 rfl (lv_at hl 0 rfl) ?_
    refine xw_get B.1 hM 0 0 xv_0 (ci := 6) (N := 6) (fs := fTR ad t2) (C := RX5) (T := TX5) (fun _ => rfl) rfl inX5 1 (by decide) wf_RX5_16 rfl (v := .ref (ad 13 1)) rfl dX5_isBroken_19 ?_
    refine lv_iload_n hx hb dX5_isBroken_22 rfl (lv_at hl 1 rfl) ?_
    obtain ⟨g7, h⟩ := gd_e h
    refine xw_lget B hM hS 1 (by decide) wm_RX5_116 g7 ⟨Nat.le_of_ble_eq_true rfl, Nat.le_of_ble_eq_true rfl⟩ ⟨(by show _ ≤ 1; omega), (by show _ ≤ 6; omega)⟩ hl.1 (Nat.le_of_ble_eq_true rfl) dX5_isBroken_23 ?_
    obtain ⟨v8, h⟩ := gd_e h
    refine xw_castShot B.1 hM v8 wk_RX5_70 dX5_isBroken_26 ?_
    obtain ⟨r9, t10, e11, h⟩ := bd_e h
    refine xw_callS B hM hS [.ref (ad 1 ((xL t2 1).getD (x1 - 1).toNatClampNeg 0)), .ref (ad 1 ((xL t2 1).getD x1.toNatClampNeg 0))] (n := 2) (v := (some (.int r9))) (c_X5_isBrokenBetween B.2.2.2.2 e11) wm_RX5_221 wt_yX5_isBrokenBetween wn_RX5 wc_yX5_isBrokenBetween rfl rfl (by decide +kernel) ⟨Nat.le_of_ble_eq_true rfl, Nat.le_of_ble_eq_true rfl⟩ ⟨(by show _ ≤ 1; omega), (by show _ ≤ 6; omega)⟩ rfl hl.1 (Nat.le_of_ble_eq_true rfl) rfl dX5_isBroken_29 (fun H locs hM hS => ?_)
    obtain ⟨g12, h⟩ := gd_e h
    cases h
    exact xx_zret B hM hS (by omega) (by omega) g12 dX5_isBroken_32 rfl
theorem c_X5_isBroken {l : Launch} (hll : l.stackTraces = false) {G : GG} {A : Nat → Prop} {ad : AD} {st : XS} {x1 : Int32} {r : (Nat ⊕ Int32)} {st' : XS} (h : f_X5_isBroken st x1 = some (r, st')) : vx_Met l yX5_isBroken (Cond.code yX5_isBroken cX5_isBroken 2 (some .boolean) :: TG) ({ frames := 7, cells := 1, slots := 6, locals := 121 } : Room) (PX G A ad st [.ref (ad 0 0), .int x1]) (QXr G A ad (ovw (fun x => some (.int x)) r) st') (QXx G A ad (ovw (fun x => some (.int x)) r) st') 1 6 A :=
  xx_of (own := RX5) hll (by decide +kernel) rfl (Nat.le_of_ble_eq_true rfl) fun p e s m below meth c ls B hM hS hl => w_X5_isBroken B _ _ _ _ _ _ _ (Nat.le_of_ble_eq_true rfl) (Nat.le_of_ble_eq_true rfl) h hM hS hl
set_option maxHeartbeats 4000000 in
set_option maxRecDepth 100000 in
theorem w_X5_brokenCuts_48 {p : Program} {l : Launch} {e : Env} {s : State} {m : MethodId} {args : Array Value} {below : List Frame} {meth : Method} {c : Code} {G : GG} {A : Nat → Prop} {ad : AD} (B : XB G A ad p l s m args meth c cX5_brokenCuts 3 RX5 (some .int)) {r : Int32} {st' : XS} {k4 : XS → Int32 → Int32 → Option (Int32 × XS)} (hk4 : ∀ (st : XS) (x1 : Int32) (x2 : Int32) (H : Heap) (locs : List Loc) (ls : Array Slot), k4 st x1 x2 = some (r, st') → XW G A ad st H → va_S A s.heap H locs → lv_has ls 3 [(0, .ref (ad 0 0)), (1, .int x1), (2, .int x2)] → W p l e ({ frames := 5, cells := 0, slots := 0, locals := 113 } : Room) s m args below meth c H locs 0 0 (MQ below (QX G A ad (some (.int r)) st') args s 0 0 A) (F0 m 4 ls [])) : ∀ (st : XS) (x1 : Int32) (x2 : Int32) (H : Heap) (locs : List Loc) (ls : Array Slot), f_X5_brokenCuts_48 k4 st x1 x2 = some (r, st') → XW G A ad st H → va_S A s.heap H locs → lv_has ls 3 [(0, .ref (ad 0 0)), (1, .int x1), (2, .int x2)] → W p l e ({ frames := 5, cells := 0, slots := 0, locals := 113 } : Room) s m args below meth c H locs 0 0 (MQ below (QX G A ad (some (.int r)) st') args s 0 0 A) (F0 m 48 ls []) := by
  have ⟨⟨hx, hb, hr, hml, hown, hT, hlocks, hK⟩, hnt, hST, hA, hll⟩ := B
  intro st x1 x2 H locs ls h hM hS hl
  rw [f_X5_brokenCuts_48] at h
  refine lv_iinc (v := (x2 + 1)) (lv' := [(2, .int (x2 + 1)), (0, .ref (ad 0 0)), (1, .int x1)]) hx hb dX5_brokenCuts_48 hl (k := 2) rfl rfl (by decide) rfl (fun ls hl => ?_)
  refine lv_goto (tgt := 4) hx hb dX5_brokenCuts_51 (by decide) ?_
  exact hk4 _ _ _ _ _ _ h hM hS (lv_sub hl [1, 2, 0] rfl)
set_option maxHeartbeats 4000000 in
set_option maxRecDepth 100000 in
theorem w_X5_brokenCuts_4 {p : Program} {l : Launch} {e : Env} {s : State} {m : MethodId} {args : Array Value} {below : List Frame} {meth : Method} {c : Code} {G : GG} {A : Nat → Prop} {ad : AD} (B : XB G A ad p l s m args meth c cX5_brokenCuts 3 RX5 (some .int)) {r : Int32} {st' : XS} : ∀ (n : Nat) (st : XS) (x1 : Int32) (x2 : Int32) (H : Heap) (locs : List Loc) (ls : Array Slot), f_X5_brokenCuts_4 n st x1 x2 = some (r, st') → XW G A ad st H → va_S A s.heap H locs → lv_has ls 3 [(0, .ref (ad 0 0)), (1, .int x1), (2, .int x2)] → W p l e ({ frames := 5, cells := 0, slots := 0, locals := 113 } : Room) s m args below meth c H locs 0 0 (MQ below (QX G A ad (some (.int r)) st') args s 0 0 A) (F0 m 4 ls []) := by
  have ⟨⟨hx, hb, hr, hml, hown, hT, hlocks, hK⟩, hnt, hST, hA, hll⟩ := B
  intro n
  induction n with
  | zero =>
    intro st x1 x2 H locs ls h
    cases h
  | succ n ih =>
    intro st x1 x2 H locs ls h hM hS hl
    rw [f_X5_brokenCuts_4] at h
    refine lv_iload_n hx hb dX5_brokenCuts_4 rfl (lv_at hl 2 rfl) ?_
    refine lv_aload_n hx hb dX5_brokenCuts_5 rfl (lv_at hl 0 rfl) ?_
    refine xw_get B.1 hM 0 0 xv_0 (ci := 6) (N := 6) (fs := fTR ad st) (C := RX5) (T := TX5) (fun _ => rfl) rfl inX5 1 (by decide) wf_RX5_16 rfl (v := .ref (ad 13 1)) rfl dX5_brokenCuts_6 ?_
    refine xw_size B hM hS 1 (by decide) wm_RX5_37 ⟨Nat.le_of_ble_eq_true rfl, Nat.le_of_ble_eq_true rfl⟩ ⟨Nat.le_refl 0, Nat.le_refl 0⟩ hl.1 (Nat.le_of_ble_eq_true rfl) dX5_brokenCuts_9 ?_
    refine lv_icmp_ge (tgt := 54) hx hb dX5_brokenCuts_12 (by decide) (fun c1 => ?_) (fun c1 => ?_)
    · have h := bi_t c1 h
      refine lv_iload_n hx hb dX5_brokenCuts_54 rfl (lv_at hl 1 rfl) ?_
      cases h
      exact xw_iret B hM hS (Nat.le_refl 0) (Nat.le_refl 0) dX5_brokenCuts_55
    · have h := bi_f c1 h
      refine lv_aload_n hx hb dX5_brokenCuts_15 rfl (lv_at hl 0 rfl) ?_
      refine xw_get B.1 hM 0 0 xv_0 (ci := 6) (N := 6) (fs := fTR ad st) (C := RX5) (T := TX5) (fun _ => rfl) rfl inX5 1 (by decide) wf_RX5_16 rfl (v := .ref (ad 13 1)) rfl dX5_brokenCuts_16 ?_
      refine lv_iload_n hx hb dX5_brokenCuts_19 rfl (lv_at hl 2 rfl) ?_
      refine lv_iconst (v := 1) hx hb dX5_brokenCuts_20 (by decide) ?_
      refine lv_isub hx hb dX5_brokenCuts_21 ?_
      obtain ⟨g2, h⟩ := gd_e h
      refine xw_lget B hM hS 1 (by decide) wm_RX5_116 g2 ⟨Nat.le_of_ble_eq_true rfl, Nat.le_of_ble_eq_true rfl⟩ ⟨Nat.le_refl 0, Nat.le_refl 0⟩ hl.1 (Nat.le_of_ble_eq_true rfl) dX5_brokenCuts_22 ?_
      obtain ⟨v3, h⟩ := gd_e h
      refine xw_castShot B.1 hM v3 wk_RX5_70 dX5_brokenCuts_25 ?_
      refine lv_aload_n hx hb dX5_brokenCuts_28 rfl (lv_at hl 0 rfl) ?_
      refine xw_get B.1 hM 0 0 xv_0 (ci := 6) (N := 6) (fs := fTR ad st) (C := RX5) (T := TX5) (fun _ => rfl) rfl inX5 1 (by decide) wf_RX5_16 rfl (v := .ref (ad 13 1)) rfl dX5_brokenCuts_29 ?_
      refine lv_iload_n hx hb dX5_brokenCuts_32 rfl (lv_at hl 2 rfl) ?_
      obtain ⟨g4, h⟩ := gd_e h
      refine xw_lget B hM hS 1 (by decide) wm_RX5_116 g4 ⟨Nat.le_of_ble_eq_true rfl, Nat.le_of_ble_eq_true rfl⟩ ⟨Nat.le_refl 0, Nat.le_refl 0⟩ hl.1 (Nat.le_of_ble_eq_true rfl) dX5_brokenCuts_33 ?_
      obtain ⟨v5, h⟩ := gd_e h
      refine xw_castShot B.1 hM v5 wk_RX5_70 dX5_brokenCuts_36 ?_
      obtain ⟨r6, t7, e8, h⟩ := bd_e h
      refine xw_callS B hM hS [.ref (ad 1 ((xL st 1).getD (x2 - 1).toNatClampNeg 0)), .ref (ad 1 ((xL st 1).getD x2.toNatClampNeg 0))] (n := 2) (v := (some (.int r6))) (c_X5_isBrokenBetween B.2.2.2.2 e8) wm_RX5_221 wt_yX5_isBrokenBetween wn_RX5 wc_yX5_isBrokenBetween rfl rfl (by decide +kernel) ⟨Nat.le_of_ble_eq_true rfl, Nat.le_of_ble_eq_true rfl⟩ ⟨Nat.le_refl 0, Nat.le_refl 0⟩ rfl hl.1 (Nat.le_of_ble_eq_true rfl) rfl dX5_brokenCuts_39 (fun H locs hM hS => ?_)
      refine lv_if_eq (tgt := 48) hx hb dX5_brokenCuts_42 (by decide) (fun c9 => ?_) (fun c9 => ?_)
      · have h := bi_t c9 h
        exact w_X5_brokenCuts_48 B ih _ _ _ _ _ _ h hM hS (lv_sub hl [0, 1, 2] rfl)
      · have h := bi_f c9 h
        refine lv_iinc (v := (x1 + 1)) (lv' := [(1, .int (x1 + 1)), (0, .ref (ad 0 0)), (2, .int x2)]) hx hb dX5_brokenCuts_45 hl (k := 1) rfl rfl (by decide) rfl (fun ls hl => ?_)
        exact w_X5_brokenCuts_48 B ih _ _ _ _ _ _ h hM hS (lv_sub hl [1, 0, 2] rfl)
set_option maxHeartbeats 4000000 in
set_option maxRecDepth 100000 in
theorem w_X5_brokenCuts {p : Program} {l : Launch} {e : Env} {s : State} {m : MethodId} {args : Array Value} {below : List Frame} {meth : Method} {c : Code} {G : GG} {A : Nat → Prop} {ad : AD} (B : XB G A ad p l s m args meth c cX5_brokenCuts 3 RX5 (some .int)) {r : Int32} {st' : XS} : ∀ (st : XS) (H : Heap) (locs : List Loc) (ls : Array Slot), f_X5_brokenCuts st = some (r, st') → XW G A ad st H → va_S A s.heap H locs → lv_has ls 3 [(0, .ref (ad 0 0))] → W p l e ({ frames := 5, cells := 0, slots := 0, locals := 113 } : Room) s m args below meth c H locs 0 0 (MQ below (QX G A ad (some (.int r)) st') args s 0 0 A) (F0 m 0 ls []) := by
  have ⟨⟨hx, hb, hr, hml, hown, hT, hlocks, hK⟩, hnt, hST, hA, hll⟩ := B
  intro st  H locs ls h hM hS hl
  rw [f_X5_brokenCuts] at h
  refine lv_iconst (v := 0) hx hb dX5_brokenCuts_0 (by decide) ?_
  refine lv_istore_n (lv' := [(1, .int 0), (0, .ref (ad 0 0))]) hx hb dX5_brokenCuts_1 rfl hl (by decide) rfl (fun ls hl => ?_)
  refine lv_iconst (v := 1) hx hb dX5_brokenCuts_2 (by decide) ?_
  refine lv_istore_n (lv' := [(2, .int 1), (1, .int 0), (0, .ref (ad 0 0))]) hx hb dX5_brokenCuts_3 rfl hl (by decide) rfl (fun ls hl => ?_)
  exact w_X5_brokenCuts_4 B FU _ _ _ _ _ _ h hM hS (lv_sub hl [2, 1, 0] rfl)
theorem c_X5_brokenCuts {l : Launch} (hll : l.stackTraces = false) {G : GG} {A : Nat → Prop} {ad : AD} {st : XS} {r : Int32} {st' : XS} (h : f_X5_brokenCuts st = some (r, st')) : Met l yX5_brokenCuts (Cond.code yX5_brokenCuts cX5_brokenCuts 3 (some .int) :: TG) ({ frames := 5, cells := 0, slots := 0, locals := 113 } : Room) (PX G A ad st [.ref (ad 0 0)]) (QX G A ad (some (.int r)) st') 0 0 A :=
  xw_of (own := RX5) hll (by decide +kernel) rfl (Nat.le_of_ble_eq_true rfl) fun p e s m below meth c ls B hM hS hl => w_X5_brokenCuts B _ _ _ _ h hM hS hl
set_option maxHeartbeats 4000000 in
set_option maxRecDepth 100000 in
theorem w_X5_broken {p : Program} {l : Launch} {e : Env} {s : State} {m : MethodId} {args : Array Value} {below : List Frame} {meth : Method} {c : Code} {G : GG} {A : Nat → Prop} {ad : AD} (B : XB G A ad p l s m args meth c cX5_broken 1 RX5 (some .int)) {r : Int32} {st' : XS} : ∀ (st : XS) (H : Heap) (locs : List Loc) (ls : Array Slot), f_X5_broken st = some (r, st') → XW G A ad st H → va_S A s.heap H locs → lv_has ls 1 [(0, .ref (ad 0 0))] → W p l e ({ frames := 6, cells := 0, slots := 0, locals := 135 } : Room) s m args below meth c H locs 0 0 (MQ below (QX G A ad (some (.int r)) st') args s 0 0 A) (F0 m 0 ls []) := by
  have ⟨⟨hx, hb, hr, hml, hown, hT, hlocks, hK⟩, hnt, hST, hA, hll⟩ := B
  intro st  H locs ls h hM hS hl
  rw [f_X5_broken] at h
  refine lv_aload_n hx hb dX5_broken_0 rfl (lv_at hl 0 rfl) ?_
  obtain ⟨r1, t2, e3, h⟩ := bd_e h
  refine xw_callV B hM hS (xw_recv (xb_vk B) hM 0 0 (Or.inl xv_0) (fun gh => ⟨_, rfl⟩) rfl) [] (n := 0) (v := (some (.int r1))) (c_X5_brokenCuts B.2.2.2.2 e3) wm_RX5_225 wi_yX5_brokenCuts ws_yX5_brokenCuts wn_RX5 wc_yX5_brokenCuts rfl rfl (by decide +kernel) ⟨Nat.le_of_ble_eq_true rfl, Nat.le_of_ble_eq_true rfl⟩ ⟨Nat.le_refl 0, Nat.le_refl 0⟩ rfl hl.1 (Nat.le_of_ble_eq_true rfl) rfl dX5_broken_1 (fun H locs hM hS => ?_)
  cases h
  exact xw_iret B hM hS (Nat.le_refl 0) (Nat.le_refl 0) dX5_broken_4
theorem c_X5_broken {l : Launch} (hll : l.stackTraces = false) {G : GG} {A : Nat → Prop} {ad : AD} {st : XS} {r : Int32} {st' : XS} (h : f_X5_broken st = some (r, st')) : Met l yX5_broken (Cond.code yX5_broken cX5_broken 1 (some .int) :: TG) ({ frames := 6, cells := 0, slots := 0, locals := 135 } : Room) (PX G A ad st [.ref (ad 0 0)]) (QX G A ad (some (.int r)) st') 0 0 A :=
  xw_of (own := RX5) hll (by decide +kernel) rfl (Nat.le_of_ble_eq_true rfl) fun p e s m below meth c ls B hM hS hl => w_X5_broken B _ _ _ _ h hM hS hl
set_option maxHeartbeats 4000000 in
set_option maxRecDepth 100000 in
theorem w_X5_boardsWith_36 {p : Program} {l : Launch} {e : Env} {s : State} {m : MethodId} {args : Array Value} {below : List Frame} {meth : Method} {c : Code} {G : GG} {A : Nat → Prop} {ad : AD} (B : XB G A ad p l s m args meth c cX5_boardsWith 4 RX5 (some .int)) {r : Int32} {st' : XS} {k4 : XS → Int32 → Int32 → Int32 → Option (Int32 × XS)} (hk4 : ∀ (st : XS) (x1 : Int32) (x2 : Int32) (x3 : Int32) (H : Heap) (locs : List Loc) (ls : Array Slot), k4 st x1 x2 x3 = some (r, st') → XW G A ad st H → va_S A s.heap H locs → lv_has ls 4 [(0, .ref (ad 0 0)), (1, .int x1), (2, .int x2), (3, .int x3)] → W p l e ({ frames := 3, cells := 0, slots := 0, locals := 64 } : Room) s m args below meth c H locs 0 0 (MQ below (QX G A ad (some (.int r)) st') args s 0 0 A) (F0 m 4 ls [])) : ∀ (st : XS) (x1 : Int32) (x2 : Int32) (x3 : Int32) (H : Heap) (locs : List Loc) (ls : Array Slot), f_X5_boardsWith_36 k4 st x1 x2 x3 = some (r, st') → XW G A ad st H → va_S A s.heap H locs → lv_has ls 4 [(0, .ref (ad 0 0)), (1, .int x1), (2, .int x2), (3, .int x3)] → W p l e ({ frames := 3, cells := 0, slots := 0, locals := 64 } : Room) s m args below meth c H locs 0 0 (MQ below (QX G A ad (some (.int r)) st') args s 0 0 A) (F0 m 36 ls []) := by
  have ⟨⟨hx, hb, hr, hml, hown, hT, hlocks, hK⟩, hnt, hST, hA, hll⟩ := B
  intro st x1 x2 x3 H locs ls h hM hS hl
  rw [f_X5_boardsWith_36] at h
  refine lv_iinc (v := (x3 + 1)) (lv' := [(3, .int (x3 + 1)), (0, .ref (ad 0 0)), (1, .int x1), (2, .int x2)]) hx hb dX5_boardsWith_36 hl (k := 3) rfl rfl (by decide) rfl (fun ls hl => ?_)
  refine lv_goto (tgt := 4) hx hb dX5_boardsWith_39 (by decide) ?_
  exact hk4 _ _ _ _ _ _ _ h hM hS (lv_sub hl [1, 2, 3, 0] rfl)
set_option maxHeartbeats 4000000 in
set_option maxRecDepth 100000 in
theorem w_X5_boardsWith_4 {p : Program} {l : Launch} {e : Env} {s : State} {m : MethodId} {args : Array Value} {below : List Frame} {meth : Method} {c : Code} {G : GG} {A : Nat → Prop} {ad : AD} (B : XB G A ad p l s m args meth c cX5_boardsWith 4 RX5 (some .int)) {r : Int32} {st' : XS} : ∀ (n : Nat) (st : XS) (x1 : Int32) (x2 : Int32) (x3 : Int32) (H : Heap) (locs : List Loc) (ls : Array Slot), f_X5_boardsWith_4 n st x1 x2 x3 = some (r, st') → XW G A ad st H → va_S A s.heap H locs → lv_has ls 4 [(0, .ref (ad 0 0)), (1, .int x1), (2, .int x2), (3, .int x3)] → W p l e ({ frames := 3, cells := 0, slots := 0, locals := 64 } : Room) s m args below meth c H locs 0 0 (MQ below (QX G A ad (some (.int r)) st') args s 0 0 A) (F0 m 4 ls []) := by
  have ⟨⟨hx, hb, hr, hml, hown, hT, hlocks, hK⟩, hnt, hST, hA, hll⟩ := B
  intro n
  induction n with
  | zero =>
    intro st x1 x2 x3 H locs ls h
    cases h
  | succ n ih =>
    intro st x1 x2 x3 H locs ls h hM hS hl
    rw [f_X5_boardsWith_4] at h
    refine lv_iload_n hx hb dX5_boardsWith_4 rfl (lv_at hl 3 rfl) ?_
    refine lv_aload_n hx hb dX5_boardsWith_5 rfl (lv_at hl 0 rfl) ?_
    refine xw_get B.1 hM 0 0 xv_0 (ci := 6) (N := 6) (fs := fTR ad st) (C := RX5) (T := TX5) (fun _ => rfl) rfl inX5 0 (by decide) wf_RX5_10 rfl (v := .ref (ad 13 0)) rfl dX5_boardsWith_6 ?_
    refine xw_size B hM hS 0 (by decide) wm_RX5_37 ⟨Nat.le_of_ble_eq_true rfl, Nat.le_of_ble_eq_true rfl⟩ ⟨Nat.le_refl 0, Nat.le_refl 0⟩ hl.1 (Nat.le_of_ble_eq_true rfl) dX5_boardsWith_9 ?_
    refine lv_icmp_ge (tgt := 42) hx hb dX5_boardsWith_12 (by decide) (fun c1 => ?_) (fun c1 => ?_)
    · have h := bi_t c1 h
      refine lv_iload_n hx hb dX5_boardsWith_42 rfl (lv_at hl 2 rfl) ?_
      cases h
      exact xw_iret B hM hS (Nat.le_refl 0) (Nat.le_refl 0) dX5_boardsWith_43
    · have h := bi_f c1 h
      refine lv_aload_n hx hb dX5_boardsWith_15 rfl (lv_at hl 0 rfl) ?_
      refine xw_get B.1 hM 0 0 xv_0 (ci := 6) (N := 6) (fs := fTR ad st) (C := RX5) (T := TX5) (fun _ => rfl) rfl inX5 0 (by decide) wf_RX5_10 rfl (v := .ref (ad 13 0)) rfl dX5_boardsWith_16 ?_
      refine lv_iload_n hx hb dX5_boardsWith_19 rfl (lv_at hl 3 rfl) ?_
      obtain ⟨g2, h⟩ := gd_e h
      refine xw_lget B hM hS 0 (by decide) wm_RX5_116 g2 ⟨Nat.le_of_ble_eq_true rfl, Nat.le_of_ble_eq_true rfl⟩ ⟨Nat.le_refl 0, Nat.le_refl 0⟩ hl.1 (Nat.le_of_ble_eq_true rfl) dX5_boardsWith_20 ?_
      obtain ⟨v3, h⟩ := gd_e h
      refine xw_castShot B.1 hM v3 wk_RX5_70 dX5_boardsWith_23 ?_
      refine xw_get B.1 hM 1 ((xL st 0).getD x3.toNatClampNeg 0) (xv_s (k := 1) (by decide) v3) (ci := 5) (N := 12) (fs := fSh ad st ((xL st 0).getD x3.toNatClampNeg 0)) (C := RX4) (T := TX4) (fun _ => rfl) rfl inX4 9 (by decide) wf_RX5_108 rfl (v := .int (xF st 1 ((xL st 0).getD x3.toNatClampNeg 0) 9)) rfl dX5_boardsWith_26 ?_
      refine lv_iload_n hx hb dX5_boardsWith_29 rfl (lv_at hl 1 rfl) ?_
      refine lv_icmp_ne (tgt := 36) hx hb dX5_boardsWith_30 (by decide) (fun c4 => ?_) (fun c4 => ?_)
      · have h := bi_f c4 h
        exact w_X5_boardsWith_36 B ih _ _ _ _ _ _ _ h hM hS (lv_sub hl [0, 1, 2, 3] rfl)
      · have h := bi_t c4 h
        refine lv_iinc (v := (x2 + 1)) (lv' := [(2, .int (x2 + 1)), (0, .ref (ad 0 0)), (1, .int x1), (3, .int x3)]) hx hb dX5_boardsWith_33 hl (k := 2) rfl rfl (by decide) rfl (fun ls hl => ?_)
        exact w_X5_boardsWith_36 B ih _ _ _ _ _ _ _ h hM hS (lv_sub hl [1, 2, 0, 3] rfl)
set_option maxHeartbeats 4000000 in
set_option maxRecDepth 100000 in
theorem w_X5_boardsWith {p : Program} {l : Launch} {e : Env} {s : State} {m : MethodId} {args : Array Value} {below : List Frame} {meth : Method} {c : Code} {G : GG} {A : Nat → Prop} {ad : AD} (B : XB G A ad p l s m args meth c cX5_boardsWith 4 RX5 (some .int)) {r : Int32} {st' : XS} : ∀ (st : XS) (x1 : Int32) (H : Heap) (locs : List Loc) (ls : Array Slot), f_X5_boardsWith st x1 = some (r, st') → XW G A ad st H → va_S A s.heap H locs → lv_has ls 4 [(0, .ref (ad 0 0)), (1, .int x1)] → W p l e ({ frames := 3, cells := 0, slots := 0, locals := 64 } : Room) s m args below meth c H locs 0 0 (MQ below (QX G A ad (some (.int r)) st') args s 0 0 A) (F0 m 0 ls []) := by
  have ⟨⟨hx, hb, hr, hml, hown, hT, hlocks, hK⟩, hnt, hST, hA, hll⟩ := B
  intro st x1 H locs ls h hM hS hl
  rw [f_X5_boardsWith] at h
  refine lv_iconst (v := 0) hx hb dX5_boardsWith_0 (by decide) ?_
  refine lv_istore_n (lv' := [(2, .int 0), (0, .ref (ad 0 0)), (1, .int x1)]) hx hb dX5_boardsWith_1 rfl hl (by decide) rfl (fun ls hl => ?_)
  refine lv_iconst (v := 0) hx hb dX5_boardsWith_2 (by decide) ?_
  refine lv_istore_n (lv' := [(3, .int 0), (2, .int 0), (0, .ref (ad 0 0)), (1, .int x1)]) hx hb dX5_boardsWith_3 rfl hl (by decide) rfl (fun ls hl => ?_)
  exact w_X5_boardsWith_4 B FU _ _ _ _ _ _ _ h hM hS (lv_sub hl [2, 3, 1, 0] rfl)
theorem c_X5_boardsWith {l : Launch} (hll : l.stackTraces = false) {G : GG} {A : Nat → Prop} {ad : AD} {st : XS} {x1 : Int32} {r : Int32} {st' : XS} (h : f_X5_boardsWith st x1 = some (r, st')) : Met l yX5_boardsWith (Cond.code yX5_boardsWith cX5_boardsWith 4 (some .int) :: TG) ({ frames := 3, cells := 0, slots := 0, locals := 64 } : Room) (PX G A ad st [.ref (ad 0 0), .int x1]) (QX G A ad (some (.int r)) st') 0 0 A :=
  xw_of (own := RX5) hll (by decide +kernel) rfl (Nat.le_of_ble_eq_true rfl) fun p e s m below meth c ls B hM hS hl => w_X5_boardsWith B _ _ _ _ _ h hM hS hl
set_option maxHeartbeats 4000000 in
set_option maxRecDepth 100000 in
theorem w_X5_hand_15 {p : Program} {l : Launch} {e : Env} {s : State} {m : MethodId} {args : Array Value} {below : List Frame} {meth : Method} {c : Code} {G : GG} {A : Nat → Prop} {ad : AD} (B : XB G A ad p l s m args meth c cX5_hand 4 RX5 (some .int)) {r : (Nat ⊕ Int32)} {st' : XS} : ∀ (cells slots : Nat) (st : XS) (H : Heap) (locs : List Loc) (ls : Array Slot), cells + 1 ≤ 3 → slots + 6 ≤ 18 → f_X5_hand_15 st = some (r, st') → XW G A ad st H → va_S A s.heap H locs → lv_has ls 4 [] → W p l e ({ frames := 8, cells := 3, slots := 18, locals := 143 } : Room) s m args below meth c H locs cells slots (vx_MQ below (QXr G A ad (ovw (fun x => some (.int x)) r) st') (QXx G A ad (ovw (fun x => some (.int x)) r) st') args s 3 18 A) (F0 m 15 ls []) := by
  have ⟨⟨hx, hb, hr, hml, hown, hT, hlocks, hK⟩, hnt, hST, hA, hll⟩ := B
  intro cells slots st  H locs ls hc hs h hM hS hl
  rw [f_X5_hand_15] at h
  cases h
  exact xw_throw (k := 0) (ik := 41) (ic := 45) (is := 228) (text := "no such hand") B hM hS wk_RX5_41 wn_java_lang_IllegalArgumentException at_0 an_0 ag_0 (by decide +kernel) (by decide +kernel) hl.1 ⟨⟨dX5_hand_15, dX5_hand_18⟩, Or.inl ⟨dX5_hand_19, dX5_hand_21, dX5_hand_24⟩⟩ (Nat.le_of_ble_eq_true rfl) (Nat.le_of_ble_eq_true rfl) (by show _ ≤ 3; omega) (by show _ ≤ 18; omega) (by omega) (by omega) rfl
set_option maxHeartbeats 4000000 in
set_option maxRecDepth 100000 in
theorem w_X5_hand {p : Program} {l : Launch} {e : Env} {s : State} {m : MethodId} {args : Array Value} {below : List Frame} {meth : Method} {c : Code} {G : GG} {A : Nat → Prop} {ad : AD} (B : XB G A ad p l s m args meth c cX5_hand 4 RX5 (some .int)) {r : (Nat ⊕ Int32)} {st' : XS} : ∀ (cells slots : Nat) (st : XS) (x1 : Int32) (x2 : Int32) (H : Heap) (locs : List Loc) (ls : Array Slot), cells + 3 ≤ 3 → slots + 18 ≤ 18 → f_X5_hand st x1 x2 = some (r, st') → XW G A ad st H → va_S A s.heap H locs → lv_has ls 4 [(0, .ref (ad 0 0)), (1, .int x1), (2, .int x2)] → W p l e ({ frames := 8, cells := 3, slots := 18, locals := 143 } : Room) s m args below meth c H locs cells slots (vx_MQ below (QXr G A ad (ovw (fun x => some (.int x)) r) st') (QXx G A ad (ovw (fun x => some (.int x)) r) st') args s 3 18 A) (F0 m 0 ls []) := by
  have ⟨⟨hx, hb, hr, hml, hown, hT, hlocks, hK⟩, hnt, hST, hA, hll⟩ := B
  intro cells slots st x1 x2 H locs ls hc hs h hM hS hl
  rw [f_X5_hand] at h
  refine lv_aload_n hx hb dX5_hand_0 rfl (lv_at hl 0 rfl) ?_
  refine lv_iload_n hx hb dX5_hand_1 rfl (lv_at hl 1 rfl) ?_
  rcases bdx_e h with ⟨k4, t2, e3, h⟩ | ⟨r1, t2, e3, h⟩
  · cases h
    exact xx_goV B hM hS (xw_recv (xb_vk B) hM 0 0 (Or.inl xv_0) (fun gh => ⟨_, rfl⟩) rfl) [.int x1] (n := 1) (c_X5_madeShot B.2.2.2.2 e3) wm_RX5_93 wi_yX5_madeShot ws_yX5_madeShot wn_RX5 wc_yX5_madeShot rfl rfl (by decide +kernel) ⟨Nat.le_of_ble_eq_true rfl, Nat.le_of_ble_eq_true rfl⟩ ⟨(by show _ ≤ 3; omega), (by show _ ≤ 18; omega)⟩ rfl hl.1 (Nat.le_of_ble_eq_true rfl) rfl dX5_hand_2 (by omega) (by omega) rfl
  · refine xx_callV B hM hS (xw_recv (xb_vk B) hM 0 0 (Or.inl xv_0) (fun gh => ⟨_, rfl⟩) rfl) [.int x1] (n := 1) (v := (some (.ref (ad 1 r1)))) (c_X5_madeShot B.2.2.2.2 e3) wm_RX5_93 wi_yX5_madeShot ws_yX5_madeShot wn_RX5 wc_yX5_madeShot rfl rfl (by decide +kernel) ⟨Nat.le_of_ble_eq_true rfl, Nat.le_of_ble_eq_true rfl⟩ ⟨(by show _ ≤ 3; omega), (by show _ ≤ 18; omega)⟩ rfl hl.1 (Nat.le_of_ble_eq_true rfl) rfl dX5_hand_2 (fun H locs hM hS => ?_)
    refine lv_astore_n (lv' := [(3, .ref (ad 1 r1)), (0, .ref (ad 0 0)), (1, .int x1), (2, .int x2)]) hx hb dX5_hand_5 rfl hl (by decide) rfl (fun ls hl => ?_)
    refine lv_iload_n hx hb dX5_hand_6 rfl (lv_at hl 3 rfl) ?_
    refine lv_if_lt (tgt := 15) hx hb dX5_hand_7 (by decide) (fun c5 => ?_) (fun c5 => ?_)
    · have h := bi_t c5 h
      exact w_X5_hand_15 B _ _ _ _ _ _ (by omega) (by omega) h hM hS (lv_sub hl [] rfl)
    · have h := bi_f c5 h
      refine lv_iload_n hx hb dX5_hand_10 rfl (lv_at hl 3 rfl) ?_
      refine lv_iconst (v := 4) hx hb dX5_hand_11 (by decide) ?_
      refine lv_icmp_lt (tgt := 25) hx hb dX5_hand_12 (by decide) (fun c6 => ?_) (fun c6 => ?_)
      · have h := bi_t c6 h
        refine lv_aload_n hx hb dX5_hand_25 rfl (lv_at hl 1 rfl) ?_
        refine lv_aload_n hx hb dX5_hand_26 rfl (lv_at hl 0 rfl) ?_
        rcases bdx_e h with ⟨k10, t8, e9, h⟩ | ⟨r7, t8, e9, h⟩
        · cases h
          exact xx_goV B hM hS (xw_recv (xb_vk B) hM 0 0 (Or.inl xv_0) (fun gh => ⟨_, rfl⟩) rfl) [.ref (ad 1 r1)] (n := 1) (c_X5_checkInReel B.2.2.2.2 e9) wm_RX5_122 wi_yX5_checkInReel ws_yX5_checkInReel wn_RX5 wc_yX5_checkInReel rfl rfl (by decide +kernel) ⟨Nat.le_of_ble_eq_true rfl, Nat.le_of_ble_eq_true rfl⟩ ⟨(by show _ ≤ 3; omega), (by show _ ≤ 18; omega)⟩ rfl hl.1 (Nat.le_of_ble_eq_true rfl) rfl dX5_hand_27 (by omega) (by omega) rfl
        · refine xx_callV B hM hS (xw_recv (xb_vk B) hM 0 0 (Or.inl xv_0) (fun gh => ⟨_, rfl⟩) rfl) [.ref (ad 1 r1)] (n := 1) (v := none) (c_X5_checkInReel B.2.2.2.2 e9) wm_RX5_122 wi_yX5_checkInReel ws_yX5_checkInReel wn_RX5 wc_yX5_checkInReel rfl rfl (by decide +kernel) ⟨Nat.le_of_ble_eq_true rfl, Nat.le_of_ble_eq_true rfl⟩ ⟨(by show _ ≤ 3; omega), (by show _ ≤ 18; omega)⟩ rfl hl.1 (Nat.le_of_ble_eq_true rfl) rfl dX5_hand_27 (fun H locs hM hS => ?_)
          refine lv_aload_n hx hb dX5_hand_30 rfl (lv_at hl 0 rfl) ?_
          obtain ⟨v11, h⟩ := gd_e h
          refine xw_get B.1 hM 1 r1 (xv_s (k := 1) (by decide) v11) (ci := 5) (N := 12) (fs := fSh ad t8 r1) (C := RX4) (T := TX4) (fun _ => rfl) rfl inX4 9 (by decide) wf_RX5_108 rfl (v := .int (xF t8 1 r1 9)) rfl dX5_hand_31 ?_
          refine lv_iconst (v := (-1)) hx hb dX5_hand_34 (by decide) ?_
          refine lv_icmp_eq (tgt := 48) hx hb dX5_hand_35 (by decide) (fun c12 => ?_) (fun c12 => ?_)
          · have h := bi_t c12 h
            refine lv_aload_n hx hb dX5_hand_48 rfl (lv_at hl 0 rfl) ?_
            refine lv_iload_n hx hb dX5_hand_49 rfl (lv_at hl 3 rfl) ?_
            refine xw_putF B.1 hM hS 1 r1 1 (Or.inr (Or.inl ⟨rfl, rfl⟩)) (xv_s (k := 1) (by decide) v11) (ci := 5) (N := 12) (fs := fSh ad t8 r1) (C := RX4) (T := TX4) (fun _ => rfl) rfl inX4 tyX4_ok nmX4 9 (by decide) wf_RX5_108 rfl rfl rfl rfl (Nat.le_of_ble_eq_true rfl) (fun _ => by simp [enX, fSh, sF, xF, xU]) dX5_hand_50 (fun H locs hM hS => ?_)
            refine lv_aload_n hx hb dX5_hand_53 rfl (lv_at hl 0 rfl) ?_
            refine lv_aload_n hx hb dX5_hand_54 rfl (lv_at hl 0 rfl) ?_
            refine xw_get B.1 hM 1 r1 (xv_s (k := 1) (by decide) v11) (ci := 5) (N := 12) (fs := fSh ad (sF t8 1 r1 9 x2) r1) (C := RX4) (T := TX4) (fun _ => rfl) rfl inX4 6 (by decide) wf_RX5_105 rfl (v := .int (xF (sF t8 1 r1 9 x2) 1 r1 6)) rfl dX5_hand_55 ?_
            refine xw_putF B.1 hM hS 1 r1 1 (Or.inr (Or.inl ⟨rfl, rfl⟩)) (xv_s (k := 1) (by decide) v11) (ci := 5) (N := 12) (fs := fSh ad (sF t8 1 r1 9 x2) r1) (C := RX4) (T := TX4) (fun _ => rfl) rfl inX4 tyX4_ok nmX4 10 (by decide) wf_RX5_232 rfl rfl rfl rfl (Nat.le_of_ble_eq_true rfl) (fun _ => by simp [enX, fSh, sF, xF, xU]) dX5_hand_58 (fun H locs hM hS => ?_)
            refine lv_aload_n hx hb dX5_hand_61 rfl (lv_at hl 1 rfl) ?_
            refine lv_iload_n hx hb dX5_hand_62 rfl (lv_at hl 3 rfl) ?_
            obtain ⟨r13, t14, e15, h⟩ := bd_e h
            refine xw_callV B hM hS (xw_recv (xb_vk B) hM 0 0 (Or.inl xv_0) (fun gh => ⟨_, rfl⟩) rfl) [.int x2] (n := 1) (v := (some (.int r13))) (c_X5_boardsWith B.2.2.2.2 e15) wm_RX5_235 wi_yX5_boardsWith ws_yX5_boardsWith wn_RX5 wc_yX5_boardsWith rfl rfl (by decide +kernel) ⟨Nat.le_of_ble_eq_true rfl, Nat.le_of_ble_eq_true rfl⟩ ⟨(by show _ ≤ 3; omega), (by show _ ≤ 18; omega)⟩ rfl hl.1 (Nat.le_of_ble_eq_true rfl) rfl dX5_hand_63 (fun H locs hM hS => ?_)
            cases h
            exact xx_iret B hM hS (by omega) (by omega) dX5_hand_66 rfl
          · have h := bi_f c12 h
            cases h
            exact xw_throw (k := 1) (ik := 60) (ic := 64) (is := 230) (text := "the board is with somebody") B hM hS wk_RX5_60 wn_java_lang_UnsupportedOperationException at_1 an_1 ag_1 (by decide +kernel) (by decide +kernel) hl.1 ⟨⟨dX5_hand_38, dX5_hand_41⟩, Or.inl ⟨dX5_hand_42, dX5_hand_44, dX5_hand_47⟩⟩ (Nat.le_of_ble_eq_true rfl) (Nat.le_of_ble_eq_true rfl) (by show _ ≤ 3; omega) (by show _ ≤ 18; omega) (by omega) (by omega) rfl
      · have h := bi_f c6 h
        exact w_X5_hand_15 B _ _ _ _ _ _ (by omega) (by omega) h hM hS (lv_sub hl [] rfl)
theorem c_X5_hand {l : Launch} (hll : l.stackTraces = false) {G : GG} {A : Nat → Prop} {ad : AD} {st : XS} {x1 : Int32} {x2 : Int32} {r : (Nat ⊕ Int32)} {st' : XS} (h : f_X5_hand st x1 x2 = some (r, st')) : vx_Met l yX5_hand (Cond.code yX5_hand cX5_hand 4 (some .int) :: TG) ({ frames := 8, cells := 3, slots := 18, locals := 143 } : Room) (PX G A ad st [.ref (ad 0 0), .int x1, .int x2]) (QXr G A ad (ovw (fun x => some (.int x)) r) st') (QXx G A ad (ovw (fun x => some (.int x)) r) st') 3 18 A :=
  xx_of (own := RX5) hll (by decide +kernel) rfl (Nat.le_of_ble_eq_true rfl) fun p e s m below meth c ls B hM hS hl => w_X5_hand B _ _ _ _ _ _ _ _ (Nat.le_of_ble_eq_true rfl) (Nat.le_of_ble_eq_true rfl) h hM hS hl
set_option maxHeartbeats 4000000 in
set_option maxRecDepth 100000 in
theorem w_X5_bring {p : Program} {l : Launch} {e : Env} {s : State} {m : MethodId} {args : Array Value} {below : List Frame} {meth : Method} {c : Code} {G : GG} {A : Nat → Prop} {ad : AD} (B : XB G A ad p l s m args meth c cX5_bring 4 RX5 (some .boolean)) {r : (Nat ⊕ Int32)} {st' : XS} : ∀ (cells slots : Nat) (st : XS) (x1 : Int32) (x2 : Int32) (H : Heap) (locs : List Loc) (ls : Array Slot), cells + 3 ≤ 3 → slots + 18 ≤ 18 → f_X5_bring st x1 x2 = some (r, st') → XW G A ad st H → va_S A s.heap H locs → lv_has ls 4 [(0, .ref (ad 0 0)), (1, .int x1), (2, .int x2)] → W p l e ({ frames := 7, cells := 3, slots := 18, locals := 121 } : Room) s m args below meth c H locs cells slots (vx_MQ below (QXr G A ad (ovw (fun x => some (.int x)) r) st') (QXx G A ad (ovw (fun x => some (.int x)) r) st') args s 3 18 A) (F0 m 0 ls []) := by
  have ⟨⟨hx, hb, hr, hml, hown, hT, hlocks, hK⟩, hnt, hST, hA, hll⟩ := B
  intro cells slots st x1 x2 H locs ls hc hs h hM hS hl
  rw [f_X5_bring] at h
  refine lv_aload_n hx hb dX5_bring_0 rfl (lv_at hl 0 rfl) ?_
  refine lv_iload_n hx hb dX5_bring_1 rfl (lv_at hl 1 rfl) ?_
  rcases bdx_e h with ⟨k4, t2, e3, h⟩ | ⟨r1, t2, e3, h⟩
  · cases h
    exact xx_goV B hM hS (xw_recv (xb_vk B) hM 0 0 (Or.inl xv_0) (fun gh => ⟨_, rfl⟩) rfl) [.int x1] (n := 1) (c_X5_madeShot B.2.2.2.2 e3) wm_RX5_93 wi_yX5_madeShot ws_yX5_madeShot wn_RX5 wc_yX5_madeShot rfl rfl (by decide +kernel) ⟨Nat.le_of_ble_eq_true rfl, Nat.le_of_ble_eq_true rfl⟩ ⟨(by show _ ≤ 3; omega), (by show _ ≤ 18; omega)⟩ rfl hl.1 (Nat.le_of_ble_eq_true rfl) rfl dX5_bring_2 (by omega) (by omega) rfl
  · refine xx_callV B hM hS (xw_recv (xb_vk B) hM 0 0 (Or.inl xv_0) (fun gh => ⟨_, rfl⟩) rfl) [.int x1] (n := 1) (v := (some (.ref (ad 1 r1)))) (c_X5_madeShot B.2.2.2.2 e3) wm_RX5_93 wi_yX5_madeShot ws_yX5_madeShot wn_RX5 wc_yX5_madeShot rfl rfl (by decide +kernel) ⟨Nat.le_of_ble_eq_true rfl, Nat.le_of_ble_eq_true rfl⟩ ⟨(by show _ ≤ 3; omega), (by show _ ≤ 18; omega)⟩ rfl hl.1 (Nat.le_of_ble_eq_true rfl) rfl dX5_bring_2 (fun H locs hM hS => ?_)
    refine lv_astore_n (lv' := [(3, .ref (ad 1 r1)), (0, .ref (ad 0 0)), (1, .int x1), (2, .int x2)]) hx hb dX5_bring_5 rfl hl (by decide) rfl (fun ls hl => ?_)
    refine lv_iload_n hx hb dX5_bring_6 rfl (lv_at hl 3 rfl) ?_
    rcases bdx_e h with ⟨k8, t6, e7, h⟩ | ⟨r5, t6, e7, h⟩
    · cases h
      exact xx_goS B hM hS [.int x2] (n := 1) (c_X5_checkLength B.2.2.2.2 e7) wm_RX5_33 wt_yX5_checkLength wn_RX5 wc_yX5_checkLength rfl rfl (by decide +kernel) ⟨Nat.le_of_ble_eq_true rfl, Nat.le_of_ble_eq_true rfl⟩ ⟨(by show _ ≤ 3; omega), (by show _ ≤ 18; omega)⟩ rfl hl.1 (Nat.le_of_ble_eq_true rfl) rfl dX5_bring_7 (by omega) (by omega) rfl
    · refine xx_callS B hM hS [.int x2] (n := 1) (v := none) (c_X5_checkLength B.2.2.2.2 e7) wm_RX5_33 wt_yX5_checkLength wn_RX5 wc_yX5_checkLength rfl rfl (by decide +kernel) ⟨Nat.le_of_ble_eq_true rfl, Nat.le_of_ble_eq_true rfl⟩ ⟨(by show _ ≤ 3; omega), (by show _ ≤ 18; omega)⟩ rfl hl.1 (Nat.le_of_ble_eq_true rfl) rfl dX5_bring_7 (fun H locs hM hS => ?_)
      refine lv_aload_n hx hb dX5_bring_10 rfl (lv_at hl 0 rfl) ?_
      obtain ⟨v9, h⟩ := gd_e h
      refine xw_get B.1 hM 1 r1 (xv_s (k := 1) (by decide) v9) (ci := 5) (N := 12) (fs := fSh ad t6 r1) (C := RX4) (T := TX4) (fun _ => rfl) rfl inX4 9 (by decide) wf_RX5_108 rfl (v := .int (xF t6 1 r1 9)) rfl dX5_bring_11 ?_
      refine lv_iconst (v := (-1)) hx hb dX5_bring_14 (by decide) ?_
      refine lv_icmp_ne (tgt := 28) hx hb dX5_bring_15 (by decide) (fun c10 => ?_) (fun c10 => ?_)
      · have h := bi_f c10 h
        refine lv_aload_n hx hb dX5_bring_28 rfl (lv_at hl 0 rfl) ?_
        refine lv_iconst (v := (-1)) hx hb dX5_bring_29 (by decide) ?_
        refine xw_putF B.1 hM hS 1 r1 1 (Or.inr (Or.inl ⟨rfl, rfl⟩)) (xv_s (k := 1) (by decide) v9) (ci := 5) (N := 12) (fs := fSh ad t6 r1) (C := RX4) (T := TX4) (fun _ => rfl) rfl inX4 tyX4_ok nmX4 9 (by decide) wf_RX5_108 rfl rfl rfl rfl (Nat.le_of_ble_eq_true rfl) (fun _ => by simp [enX, fSh, sF, xF, xU]) dX5_bring_30 (fun H locs hM hS => ?_)
        refine lv_aload_n hx hb dX5_bring_33 rfl (lv_at hl 0 rfl) ?_
        refine xw_get B.1 hM 1 r1 (xv_s (k := 1) (by decide) v9) (ci := 5) (N := 12) (fs := fSh ad (sF t6 1 r1 9 (-1)) r1) (C := RX4) (T := TX4) (fun _ => rfl) rfl inX4 6 (by decide) wf_RX5_105 rfl (v := .int (xF (sF t6 1 r1 9 (-1)) 1 r1 6)) rfl dX5_bring_34 ?_
        refine lv_aload_n hx hb dX5_bring_37 rfl (lv_at hl 0 rfl) ?_
        refine xw_get B.1 hM 1 r1 (xv_s (k := 1) (by decide) v9) (ci := 5) (N := 12) (fs := fSh ad (sF t6 1 r1 9 (-1)) r1) (C := RX4) (T := TX4) (fun _ => rfl) rfl inX4 10 (by decide) wf_RX5_232 rfl (v := .int (xF (sF t6 1 r1 9 (-1)) 1 r1 10)) rfl dX5_bring_38 ?_
        refine lv_icmp_eq (tgt := 56) hx hb dX5_bring_41 (by decide) (fun c11 => ?_) (fun c11 => ?_)
        · have h := bi_t c11 h
          refine lv_aload_n hx hb dX5_bring_56 rfl (lv_at hl 0 rfl) ?_
          refine lv_iload_n hx hb dX5_bring_57 rfl (lv_at hl 3 rfl) ?_
          obtain ⟨r12, t13, e14, h⟩ := bd_e h
          refine xw_callV B hM hS (xw_recv (xb_vk B) hM 1 r1 (Or.inl (xv_s (k := 1) (by decide) v9)) (fun gh => ⟨_, rfl⟩) rfl) [.int x2] (n := 1) (v := (some (.int r12))) (c_X4_changeLength B.2.2.2.2 e14) wm_RX5_129 wi_yX4_changeLength ws_yX4_changeLength wn_RX4 wc_yX4_changeLength rfl rfl (by decide +kernel) ⟨Nat.le_of_ble_eq_true rfl, Nat.le_of_ble_eq_true rfl⟩ ⟨(by show _ ≤ 3; omega), (by show _ ≤ 18; omega)⟩ rfl hl.1 (Nat.le_of_ble_eq_true rfl) rfl dX5_bring_58 (fun H locs hM hS => ?_)
          refine lv_pop hx hb dX5_bring_61 rfl ?_
          refine lv_iconst (v := 1) hx hb dX5_bring_62 (by decide) ?_
          cases h
          exact xx_zret B hM hS (by omega) (by omega) (by rfl) dX5_bring_63 rfl
        · have h := bi_f c11 h
          refine lv_aload_n hx hb dX5_bring_44 rfl (lv_at hl 1 rfl) ?_
          refine lv_dup hx hb dX5_bring_45 rfl ?_
          refine xw_get B.1 hM 0 0 xv_0 (ci := 6) (N := 6) (fs := fTR ad (sF t6 1 r1 9 (-1))) (C := RX5) (T := TX5) (fun _ => rfl) rfl inX5 5 (by decide) wf_RX5_240 rfl (v := .int (xF (sF t6 1 r1 9 (-1)) 0 0 5)) rfl dX5_bring_46 ?_
          refine lv_iconst (v := 1) hx hb dX5_bring_49 (by decide) ?_
          refine lv_iadd hx hb dX5_bring_50 ?_
          refine xw_putF B.1 hM hS 0 0 0 (Or.inl ⟨rfl, rfl, rfl⟩) xv_0 (ci := 6) (N := 6) (fs := fTR ad (sF t6 1 r1 9 (-1))) (C := RX5) (T := TX5) (fun _ => rfl) rfl inX5 tyX5_ok nmX5 5 (by decide) wf_RX5_240 rfl rfl rfl rfl (Nat.le_of_ble_eq_true rfl) (fun _ => by simp [enX, fTR, sF, xF, xU]) dX5_bring_51 (fun H locs hM hS => ?_)
          refine lv_iconst (v := 0) hx hb dX5_bring_54 (by decide) ?_
          cases h
          exact xx_zret B hM hS (by omega) (by omega) (by rfl) dX5_bring_55 rfl
      · have h := bi_t c10 h
        cases h
        exact xw_throw (k := 1) (ik := 60) (ic := 64) (is := 238) (text := "the board is with nobody") B hM hS wk_RX5_60 wn_java_lang_UnsupportedOperationException at_1 an_1 ag_1 (by decide +kernel) (by decide +kernel) hl.1 ⟨⟨dX5_bring_18, dX5_bring_21⟩, Or.inl ⟨dX5_bring_22, dX5_bring_24, dX5_bring_27⟩⟩ (Nat.le_of_ble_eq_true rfl) (Nat.le_of_ble_eq_true rfl) (by show _ ≤ 3; omega) (by show _ ≤ 18; omega) (by omega) (by omega) rfl
theorem c_X5_bring {l : Launch} (hll : l.stackTraces = false) {G : GG} {A : Nat → Prop} {ad : AD} {st : XS} {x1 : Int32} {x2 : Int32} {r : (Nat ⊕ Int32)} {st' : XS} (h : f_X5_bring st x1 x2 = some (r, st')) : vx_Met l yX5_bring (Cond.code yX5_bring cX5_bring 4 (some .boolean) :: TG) ({ frames := 7, cells := 3, slots := 18, locals := 121 } : Room) (PX G A ad st [.ref (ad 0 0), .int x1, .int x2]) (QXr G A ad (ovw (fun x => some (.int x)) r) st') (QXx G A ad (ovw (fun x => some (.int x)) r) st') 3 18 A :=
  xx_of (own := RX5) hll (by decide +kernel) rfl (Nat.le_of_ble_eq_true rfl) fun p e s m below meth c ls B hM hS hl => w_X5_bring B _ _ _ _ _ _ _ _ (Nat.le_of_ble_eq_true rfl) (Nat.le_of_ble_eq_true rfl) h hM hS hl
set_option maxHeartbeats 4000000 in
set_option maxRecDepth 100000 in
theorem w_X5_with {p : Program} {l : Launch} {e : Env} {s : State} {m : MethodId} {args : Array Value} {below : List Frame} {meth : Method} {c : Code} {G : GG} {A : Nat → Prop} {ad : AD} (B : XB G A ad p l s m args meth c cX5_with 3 RX5 (some .int)) {r : (Nat ⊕ Int32)} {st' : XS} : ∀ (cells slots : Nat) (st : XS) (x1 : Int32) (H : Heap) (locs : List Loc) (ls : Array Slot), cells + 2 ≤ 2 → slots + 12 ≤ 12 → f_X5_with st x1 = some (r, st') → XW G A ad st H → va_S A s.heap H locs → lv_has ls 3 [(0, .ref (ad 0 0)), (1, .int x1)] → W p l e ({ frames := 7, cells := 2, slots := 12, locals := 121 } : Room) s m args below meth c H locs cells slots (vx_MQ below (QXr G A ad (ovw (fun x => some (.int x)) r) st') (QXx G A ad (ovw (fun x => some (.int x)) r) st') args s 2 12 A) (F0 m 0 ls []) := by
  have ⟨⟨hx, hb, hr, hml, hown, hT, hlocks, hK⟩, hnt, hST, hA, hll⟩ := B
  intro cells slots st x1 H locs ls hc hs h hM hS hl
  rw [f_X5_with] at h
  refine lv_aload_n hx hb dX5_with_0 rfl (lv_at hl 0 rfl) ?_
  refine lv_iload_n hx hb dX5_with_1 rfl (lv_at hl 1 rfl) ?_
  rcases bdx_e h with ⟨k4, t2, e3, h⟩ | ⟨r1, t2, e3, h⟩
  · cases h
    exact xx_goV B hM hS (xw_recv (xb_vk B) hM 0 0 (Or.inl xv_0) (fun gh => ⟨_, rfl⟩) rfl) [.int x1] (n := 1) (c_X5_madeShot B.2.2.2.2 e3) wm_RX5_93 wi_yX5_madeShot ws_yX5_madeShot wn_RX5 wc_yX5_madeShot rfl rfl (by decide +kernel) ⟨Nat.le_of_ble_eq_true rfl, Nat.le_of_ble_eq_true rfl⟩ ⟨(by show _ ≤ 2; omega), (by show _ ≤ 12; omega)⟩ rfl hl.1 (Nat.le_of_ble_eq_true rfl) rfl dX5_with_2 (by omega) (by omega) rfl
  · refine xx_callV B hM hS (xw_recv (xb_vk B) hM 0 0 (Or.inl xv_0) (fun gh => ⟨_, rfl⟩) rfl) [.int x1] (n := 1) (v := (some (.ref (ad 1 r1)))) (c_X5_madeShot B.2.2.2.2 e3) wm_RX5_93 wi_yX5_madeShot ws_yX5_madeShot wn_RX5 wc_yX5_madeShot rfl rfl (by decide +kernel) ⟨Nat.le_of_ble_eq_true rfl, Nat.le_of_ble_eq_true rfl⟩ ⟨(by show _ ≤ 2; omega), (by show _ ≤ 12; omega)⟩ rfl hl.1 (Nat.le_of_ble_eq_true rfl) rfl dX5_with_2 (fun H locs hM hS => ?_)
    refine lv_astore_n (lv' := [(2, .ref (ad 1 r1)), (0, .ref (ad 0 0)), (1, .int x1)]) hx hb dX5_with_5 rfl hl (by decide) rfl (fun ls hl => ?_)
    refine lv_aload_n hx hb dX5_with_6 rfl (lv_at hl 0 rfl) ?_
    obtain ⟨v5, h⟩ := gd_e h
    refine xw_get B.1 hM 1 r1 (xv_s (k := 1) (by decide) v5) (ci := 5) (N := 12) (fs := fSh ad t2 r1) (C := RX4) (T := TX4) (fun _ => rfl) rfl inX4 9 (by decide) wf_RX5_108 rfl (v := .int (xF t2 1 r1 9)) rfl dX5_with_7 ?_
    refine lv_iconst (v := (-1)) hx hb dX5_with_10 (by decide) ?_
    refine lv_icmp_ne (tgt := 24) hx hb dX5_with_11 (by decide) (fun c6 => ?_) (fun c6 => ?_)
    · have h := bi_f c6 h
      refine lv_aload_n hx hb dX5_with_24 rfl (lv_at hl 0 rfl) ?_
      refine xw_get B.1 hM 1 r1 (xv_s (k := 1) (by decide) v5) (ci := 5) (N := 12) (fs := fSh ad t2 r1) (C := RX4) (T := TX4) (fun _ => rfl) rfl inX4 9 (by decide) wf_RX5_108 rfl (v := .int (xF t2 1 r1 9)) rfl dX5_with_25 ?_
      cases h
      exact xx_iret B hM hS (by omega) (by omega) dX5_with_28 rfl
    · have h := bi_t c6 h
      cases h
      exact xw_throwN (is := 238) (text := "the board is with nobody") B hM hS (by decide +kernel) hl.1 ⟨⟨dX5_with_14, dX5_with_17⟩, Or.inl ⟨dX5_with_18, dX5_with_20, dX5_with_23⟩⟩ (Nat.le_of_ble_eq_true rfl) (Nat.le_of_ble_eq_true rfl) (by show _ ≤ 2; omega) (by show _ ≤ 12; omega) (by omega) (by omega) rfl
theorem c_X5_with {l : Launch} (hll : l.stackTraces = false) {G : GG} {A : Nat → Prop} {ad : AD} {st : XS} {x1 : Int32} {r : (Nat ⊕ Int32)} {st' : XS} (h : f_X5_with st x1 = some (r, st')) : vx_Met l yX5_with (Cond.code yX5_with cX5_with 3 (some .int) :: TG) ({ frames := 7, cells := 2, slots := 12, locals := 121 } : Room) (PX G A ad st [.ref (ad 0 0), .int x1]) (QXr G A ad (ovw (fun x => some (.int x)) r) st') (QXx G A ad (ovw (fun x => some (.int x)) r) st') 2 12 A :=
  xx_of (own := RX5) hll (by decide +kernel) rfl (Nat.le_of_ble_eq_true rfl) fun p e s m below meth c ls B hM hS hl => w_X5_with B _ _ _ _ _ _ _ (Nat.le_of_ble_eq_true rfl) (Nat.le_of_ble_eq_true rfl) h hM hS hl
set_option maxHeartbeats 4000000 in
set_option maxRecDepth 100000 in
theorem w_X5_conflicts {p : Program} {l : Launch} {e : Env} {s : State} {m : MethodId} {args : Array Value} {below : List Frame} {meth : Method} {c : Code} {G : GG} {A : Nat → Prop} {ad : AD} (B : XB G A ad p l s m args meth c cX5_conflicts 1 RX5 (some .int)) {r : Int32} {st' : XS} : ∀ (st : XS) (H : Heap) (locs : List Loc) (ls : Array Slot), f_X5_conflicts st = some (r, st') → XW G A ad st H → va_S A s.heap H locs → lv_has ls 1 [(0, .ref (ad 0 0))] → W p l e ({ frames := 0, cells := 0, slots := 0, locals := 0 } : Room) s m args below meth c H locs 0 0 (MQ below (QX G A ad (some (.int r)) st') args s 0 0 A) (F0 m 0 ls []) := by
  have ⟨⟨hx, hb, hr, hml, hown, hT, hlocks, hK⟩, hnt, hST, hA, hll⟩ := B
  intro st  H locs ls h hM hS hl
  rw [f_X5_conflicts] at h
  refine lv_aload_n hx hb dX5_conflicts_0 rfl (lv_at hl 0 rfl) ?_
  refine xw_get B.1 hM 0 0 xv_0 (ci := 6) (N := 6) (fs := fTR ad st) (C := RX5) (T := TX5) (fun _ => rfl) rfl inX5 5 (by decide) wf_RX5_240 rfl (v := .int (xF st 0 0 5)) rfl dX5_conflicts_1 ?_
  cases h
  exact xw_iret B hM hS (Nat.le_refl 0) (Nat.le_refl 0) dX5_conflicts_4
theorem c_X5_conflicts {l : Launch} (hll : l.stackTraces = false) {G : GG} {A : Nat → Prop} {ad : AD} {st : XS} {r : Int32} {st' : XS} (h : f_X5_conflicts st = some (r, st')) : Met l yX5_conflicts (Cond.code yX5_conflicts cX5_conflicts 1 (some .int) :: TG) ({ frames := 0, cells := 0, slots := 0, locals := 0 } : Room) (PX G A ad st [.ref (ad 0 0)]) (QX G A ad (some (.int r)) st') 0 0 A :=
  xw_of (own := RX5) hll (by decide +kernel) rfl (Nat.le_of_ble_eq_true rfl) fun p e s m below meth c ls B hM hS hl => w_X5_conflicts B _ _ _ _ h hM hS hl
set_option maxHeartbeats 4000000 in
set_option maxRecDepth 100000 in
theorem w_X5_madeNote_15 {p : Program} {l : Launch} {e : Env} {s : State} {m : MethodId} {args : Array Value} {below : List Frame} {meth : Method} {c : Code} {G : GG} {A : Nat → Prop} {ad : AD} (B : XB G A ad p l s m args meth c cX5_madeNote 2 RX5 (some (.object "ThumbnailRow$Note"))) {r : (Nat ⊕ Nat)} {st' : XS} : ∀ (cells slots : Nat) (st : XS) (H : Heap) (locs : List Loc) (ls : Array Slot), cells + 1 ≤ 1 → slots + 6 ≤ 6 → f_X5_madeNote_15 st = some (r, st') → XW G A ad st H → va_S A s.heap H locs → lv_has ls 2 [] → W p l e ({ frames := 6, cells := 1, slots := 6, locals := 100 } : Room) s m args below meth c H locs cells slots (vx_MQ below (QXr G A ad (ovw (fun x => some (.ref (ad 8 x))) r) st') (QXx G A ad (ovw (fun x => some (.ref (ad 8 x))) r) st') args s 1 6 A) (F0 m 15 ls []) := by
  have ⟨⟨hx, hb, hr, hml, hown, hT, hlocks, hK⟩, hnt, hST, hA, hll⟩ := B
  intro cells slots st  H locs ls hc hs h hM hS hl
  rw [f_X5_madeNote_15] at h
  cases h
  exact xw_throw (k := 3) (ik := 320) (ic := 324) (is := 325) (text := "no such note") B hM hS wk_RX5_320 wn_java_lang_IndexOutOfBoundsException at_3 an_3 ag_3 (by decide +kernel) (by decide +kernel) hl.1 ⟨⟨dX5_madeNote_15, dX5_madeNote_18⟩, Or.inr ⟨dX5_madeNote_19, dX5_madeNote_22, dX5_madeNote_25⟩⟩ (Nat.le_of_ble_eq_true rfl) (Nat.le_of_ble_eq_true rfl) (by show _ ≤ 1; omega) (by show _ ≤ 6; omega) (by omega) (by omega) rfl
set_option maxHeartbeats 4000000 in
set_option maxRecDepth 100000 in
theorem w_X5_madeNote {p : Program} {l : Launch} {e : Env} {s : State} {m : MethodId} {args : Array Value} {below : List Frame} {meth : Method} {c : Code} {G : GG} {A : Nat → Prop} {ad : AD} (B : XB G A ad p l s m args meth c cX5_madeNote 2 RX5 (some (.object "ThumbnailRow$Note"))) {r : (Nat ⊕ Nat)} {st' : XS} : ∀ (cells slots : Nat) (st : XS) (x1 : Int32) (H : Heap) (locs : List Loc) (ls : Array Slot), cells + 1 ≤ 1 → slots + 6 ≤ 6 → f_X5_madeNote st x1 = some (r, st') → XW G A ad st H → va_S A s.heap H locs → lv_has ls 2 [(0, .ref (ad 0 0)), (1, .int x1)] → W p l e ({ frames := 6, cells := 1, slots := 6, locals := 100 } : Room) s m args below meth c H locs cells slots (vx_MQ below (QXr G A ad (ovw (fun x => some (.ref (ad 8 x))) r) st') (QXx G A ad (ovw (fun x => some (.ref (ad 8 x))) r) st') args s 1 6 A) (F0 m 0 ls []) := by
  have ⟨⟨hx, hb, hr, hml, hown, hT, hlocks, hK⟩, hnt, hST, hA, hll⟩ := B
  intro cells slots st x1 H locs ls hc hs h hM hS hl
  rw [f_X5_madeNote] at h
  refine lv_iload_n hx hb dX5_madeNote_0 rfl (lv_at hl 1 rfl) ?_
  refine lv_if_lt (tgt := 15) hx hb dX5_madeNote_1 (by decide) (fun c1 => ?_) (fun c1 => ?_)
  · have h := bi_t c1 h
    exact w_X5_madeNote_15 B _ _ _ _ _ _ (by omega) (by omega) h hM hS (lv_sub hl [] rfl)
  · have h := bi_f c1 h
    refine lv_iload_n hx hb dX5_madeNote_4 rfl (lv_at hl 1 rfl) ?_
    refine lv_aload_n hx hb dX5_madeNote_5 rfl (lv_at hl 0 rfl) ?_
    refine xw_get B.1 hM 0 0 xv_0 (ci := 6) (N := 6) (fs := fTR ad st) (C := RX5) (T := TX5) (fun _ => rfl) rfl inX5 2 (by decide) wf_RX5_19 rfl (v := .ref (ad 13 2)) rfl dX5_madeNote_6 ?_
    refine xw_size B hM hS 2 (by decide) wm_RX5_37 ⟨Nat.le_of_ble_eq_true rfl, Nat.le_of_ble_eq_true rfl⟩ ⟨(by show _ ≤ 1; omega), (by show _ ≤ 6; omega)⟩ hl.1 (Nat.le_of_ble_eq_true rfl) dX5_madeNote_9 ?_
    refine lv_icmp_lt (tgt := 26) hx hb dX5_madeNote_12 (by decide) (fun c2 => ?_) (fun c2 => ?_)
    · have h := bi_t c2 h
      refine lv_aload_n hx hb dX5_madeNote_26 rfl (lv_at hl 0 rfl) ?_
      refine xw_get B.1 hM 0 0 xv_0 (ci := 6) (N := 6) (fs := fTR ad st) (C := RX5) (T := TX5) (fun _ => rfl) rfl inX5 2 (by decide) wf_RX5_19 rfl (v := .ref (ad 13 2)) rfl dX5_madeNote_27 ?_
      refine lv_iload_n hx hb dX5_madeNote_30 rfl (lv_at hl 1 rfl) ?_
      obtain ⟨g3, h⟩ := gd_e h
      refine xw_lget B hM hS 2 (by decide) wm_RX5_116 g3 ⟨Nat.le_of_ble_eq_true rfl, Nat.le_of_ble_eq_true rfl⟩ ⟨(by show _ ≤ 1; omega), (by show _ ≤ 6; omega)⟩ hl.1 (Nat.le_of_ble_eq_true rfl) dX5_madeNote_31 ?_
      obtain ⟨v4, h⟩ := gd_e h
      refine xw_castNote B.1 hM v4 wk_RX5_245 dX5_madeNote_34 ?_
      cases h
      exact xx_aret B hM hS (by omega) (by omega) dX5_madeNote_37 rfl
    · have h := bi_f c2 h
      exact w_X5_madeNote_15 B _ _ _ _ _ _ (by omega) (by omega) h hM hS (lv_sub hl [] rfl)
theorem c_X5_madeNote {l : Launch} (hll : l.stackTraces = false) {G : GG} {A : Nat → Prop} {ad : AD} {st : XS} {x1 : Int32} {r : (Nat ⊕ Nat)} {st' : XS} (h : f_X5_madeNote st x1 = some (r, st')) : vx_Met l yX5_madeNote (Cond.code yX5_madeNote cX5_madeNote 2 (some (.object "ThumbnailRow$Note")) :: TG) ({ frames := 6, cells := 1, slots := 6, locals := 100 } : Room) (PX G A ad st [.ref (ad 0 0), .int x1]) (QXr G A ad (ovw (fun x => some (.ref (ad 8 x))) r) st') (QXx G A ad (ovw (fun x => some (.ref (ad 8 x))) r) st') 1 6 A :=
  xx_of (own := RX5) hll (by decide +kernel) rfl (Nat.le_of_ble_eq_true rfl) fun p e s m below meth c ls B hM hS hl => w_X5_madeNote B _ _ _ _ _ _ _ (Nat.le_of_ble_eq_true rfl) (Nat.le_of_ble_eq_true rfl) h hM hS hl
set_option maxHeartbeats 4000000 in
set_option maxRecDepth 100000 in
theorem w_X5_noteIs {p : Program} {l : Launch} {e : Env} {s : State} {m : MethodId} {args : Array Value} {below : List Frame} {meth : Method} {c : Code} {G : GG} {A : Nat → Prop} {ad : AD} (B : XB G A ad p l s m args meth c cX5_noteIs 2 RX5 (some .char)) {r : (Nat ⊕ Int32)} {st' : XS} : ∀ (cells slots : Nat) (st : XS) (x1 : Int32) (H : Heap) (locs : List Loc) (ls : Array Slot), cells + 1 ≤ 1 → slots + 6 ≤ 6 → f_X5_noteIs st x1 = some (r, st') → XW G A ad st H → va_S A s.heap H locs → lv_has ls 2 [(0, .ref (ad 0 0)), (1, .int x1)] → W p l e ({ frames := 7, cells := 1, slots := 6, locals := 121 } : Room) s m args below meth c H locs cells slots (vx_MQ below (QXr G A ad (ovw (fun x => some (.int x)) r) st') (QXx G A ad (ovw (fun x => some (.int x)) r) st') args s 1 6 A) (F0 m 0 ls []) := by
  have ⟨⟨hx, hb, hr, hml, hown, hT, hlocks, hK⟩, hnt, hST, hA, hll⟩ := B
  intro cells slots st x1 H locs ls hc hs h hM hS hl
  rw [f_X5_noteIs] at h
  refine lv_aload_n hx hb dX5_noteIs_0 rfl (lv_at hl 0 rfl) ?_
  refine lv_iload_n hx hb dX5_noteIs_1 rfl (lv_at hl 1 rfl) ?_
  rcases bdx_e h with ⟨k4, t2, e3, h⟩ | ⟨r1, t2, e3, h⟩
  · cases h
    exact xx_goV B hM hS (xw_recv (xb_vk B) hM 0 0 (Or.inl xv_0) (fun gh => ⟨_, rfl⟩) rfl) [.int x1] (n := 1) (c_X5_madeNote B.2.2.2.2 e3) wm_RX5_249 wi_yX5_madeNote ws_yX5_madeNote wn_RX5 wc_yX5_madeNote rfl rfl (by decide +kernel) ⟨Nat.le_of_ble_eq_true rfl, Nat.le_of_ble_eq_true rfl⟩ ⟨(by show _ ≤ 1; omega), (by show _ ≤ 6; omega)⟩ rfl hl.1 (Nat.le_of_ble_eq_true rfl) rfl dX5_noteIs_2 (by omega) (by omega) rfl
  · refine xx_callV B hM hS (xw_recv (xb_vk B) hM 0 0 (Or.inl xv_0) (fun gh => ⟨_, rfl⟩) rfl) [.int x1] (n := 1) (v := (some (.ref (ad 8 r1)))) (c_X5_madeNote B.2.2.2.2 e3) wm_RX5_249 wi_yX5_madeNote ws_yX5_madeNote wn_RX5 wc_yX5_madeNote rfl rfl (by decide +kernel) ⟨Nat.le_of_ble_eq_true rfl, Nat.le_of_ble_eq_true rfl⟩ ⟨(by show _ ≤ 1; omega), (by show _ ≤ 6; omega)⟩ rfl hl.1 (Nat.le_of_ble_eq_true rfl) rfl dX5_noteIs_2 (fun H locs hM hS => ?_)
    obtain ⟨v5, h⟩ := gd_e h
    obtain ⟨r6, t7, e8, h⟩ := bd_e h
    refine xw_callV B hM hS (xw_recv (xb_vk B) hM 8 r1 (Or.inl (xv_n v5)) (fun gh => ⟨_, rfl⟩) rfl) [] (n := 0) (v := (some (.int r6))) (c_X1_kind B.2.2.2.2 e8) wm_RX5_253 wi_yX1_kind ws_yX1_kind wn_RX1 wc_yX1_kind rfl rfl (by decide +kernel) ⟨Nat.le_of_ble_eq_true rfl, Nat.le_of_ble_eq_true rfl⟩ ⟨(by show _ ≤ 1; omega), (by show _ ≤ 6; omega)⟩ rfl hl.1 (Nat.le_of_ble_eq_true rfl) rfl dX5_noteIs_5 (fun H locs hM hS => ?_)
    obtain ⟨g9, h⟩ := gd_e h
    cases h
    exact xx_zret B hM hS (by omega) (by omega) g9 dX5_noteIs_8 rfl
theorem c_X5_noteIs {l : Launch} (hll : l.stackTraces = false) {G : GG} {A : Nat → Prop} {ad : AD} {st : XS} {x1 : Int32} {r : (Nat ⊕ Int32)} {st' : XS} (h : f_X5_noteIs st x1 = some (r, st')) : vx_Met l yX5_noteIs (Cond.code yX5_noteIs cX5_noteIs 2 (some .char) :: TG) ({ frames := 7, cells := 1, slots := 6, locals := 121 } : Room) (PX G A ad st [.ref (ad 0 0), .int x1]) (QXr G A ad (ovw (fun x => some (.int x)) r) st') (QXx G A ad (ovw (fun x => some (.int x)) r) st') 1 6 A :=
  xx_of (own := RX5) hll (by decide +kernel) rfl (Nat.le_of_ble_eq_true rfl) fun p e s m below meth c ls B hM hS hl => w_X5_noteIs B _ _ _ _ _ _ _ (Nat.le_of_ble_eq_true rfl) (Nat.le_of_ble_eq_true rfl) h hM hS hl
set_option maxHeartbeats 4000000 in
set_option maxRecDepth 100000 in
theorem w_X5_close_38 {p : Program} {l : Launch} {e : Env} {s : State} {m : MethodId} {args : Array Value} {below : List Frame} {meth : Method} {c : Code} {G : GG} {A : Nat → Prop} {ad : AD} (B : XB G A ad p l s m args meth c cX5_close 4 RX5 (some .boolean)) {r : (Nat ⊕ Int32)} {st' : XS} : ∀ (cells slots : Nat) (st : XS) (y0 : Nat) (y1 : Int32) (H : Heap) (locs : List Loc) (ls : Array Slot), cells + 0 ≤ 2 → slots + 0 ≤ 12 → f_X5_close_38 st y0 y1 = some (r, st') → XW G A ad st H → va_S A s.heap H locs → lv_has ls 4 [] → W p l e ({ frames := 7, cells := 2, slots := 12, locals := 121 } : Room) s m args below meth c H locs cells slots (vx_MQ below (QXr G A ad (ovw (fun x => some (.int x)) r) st') (QXx G A ad (ovw (fun x => some (.int x)) r) st') args s 2 12 A) (F0 m 38 ls [.int y1, .ref (ad 8 y0)]) := by
  have ⟨⟨hx, hb, hr, hml, hown, hT, hlocks, hK⟩, hnt, hST, hA, hll⟩ := B
  intro cells slots st y0 y1 H locs ls hc hs h hM hS hl
  rw [f_X5_close_38] at h
  obtain ⟨v1, h⟩ := gd_e h
  obtain ⟨g2, h⟩ := gd_e h
  refine xw_putF B.1 hM hS 8 y0 3 (Or.inr (Or.inr (Or.inr (Or.inl ⟨rfl, rfl⟩)))) (xv_n v1) (ci := 2) (N := 3) (fs := fNo ad st y0) (C := RX1) (T := TX1) (fun _ => rfl) rfl inX1 tyX1_ok nmX1 2 (by decide) wf_RX5_259 rfl rfl g2.1 g2.2 (Nat.le_of_ble_eq_true rfl) (fun _ => by simp [enX, fNo, sF, xF, xU]) dX5_close_38 (fun H locs hM hS => ?_)
  refine lv_iconst (v := 1) hx hb dX5_close_41 (by decide) ?_
  cases h
  exact xx_zret B hM hS (by omega) (by omega) (by rfl) dX5_close_42 rfl
set_option maxHeartbeats 4000000 in
set_option maxRecDepth 100000 in
theorem w_X5_close {p : Program} {l : Launch} {e : Env} {s : State} {m : MethodId} {args : Array Value} {below : List Frame} {meth : Method} {c : Code} {G : GG} {A : Nat → Prop} {ad : AD} (B : XB G A ad p l s m args meth c cX5_close 4 RX5 (some .boolean)) {r : (Nat ⊕ Int32)} {st' : XS} : ∀ (cells slots : Nat) (st : XS) (x1 : Int32) (x2 : Int32) (H : Heap) (locs : List Loc) (ls : Array Slot), cells + 2 ≤ 2 → slots + 12 ≤ 12 → f_X5_close st x1 x2 = some (r, st') → XW G A ad st H → va_S A s.heap H locs → lv_has ls 4 [(0, .ref (ad 0 0)), (1, .int x1), (2, .int x2)] → W p l e ({ frames := 7, cells := 2, slots := 12, locals := 121 } : Room) s m args below meth c H locs cells slots (vx_MQ below (QXr G A ad (ovw (fun x => some (.int x)) r) st') (QXx G A ad (ovw (fun x => some (.int x)) r) st') args s 2 12 A) (F0 m 0 ls []) := by
  have ⟨⟨hx, hb, hr, hml, hown, hT, hlocks, hK⟩, hnt, hST, hA, hll⟩ := B
  intro cells slots st x1 x2 H locs ls hc hs h hM hS hl
  rw [f_X5_close] at h
  refine lv_aload_n hx hb dX5_close_0 rfl (lv_at hl 0 rfl) ?_
  refine lv_iload_n hx hb dX5_close_1 rfl (lv_at hl 1 rfl) ?_
  rcases bdx_e h with ⟨k4, t2, e3, h⟩ | ⟨r1, t2, e3, h⟩
  · cases h
    exact xx_goV B hM hS (xw_recv (xb_vk B) hM 0 0 (Or.inl xv_0) (fun gh => ⟨_, rfl⟩) rfl) [.int x1] (n := 1) (c_X5_madeNote B.2.2.2.2 e3) wm_RX5_249 wi_yX5_madeNote ws_yX5_madeNote wn_RX5 wc_yX5_madeNote rfl rfl (by decide +kernel) ⟨Nat.le_of_ble_eq_true rfl, Nat.le_of_ble_eq_true rfl⟩ ⟨(by show _ ≤ 2; omega), (by show _ ≤ 12; omega)⟩ rfl hl.1 (Nat.le_of_ble_eq_true rfl) rfl dX5_close_2 (by omega) (by omega) rfl
  · refine xx_callV B hM hS (xw_recv (xb_vk B) hM 0 0 (Or.inl xv_0) (fun gh => ⟨_, rfl⟩) rfl) [.int x1] (n := 1) (v := (some (.ref (ad 8 r1)))) (c_X5_madeNote B.2.2.2.2 e3) wm_RX5_249 wi_yX5_madeNote ws_yX5_madeNote wn_RX5 wc_yX5_madeNote rfl rfl (by decide +kernel) ⟨Nat.le_of_ble_eq_true rfl, Nat.le_of_ble_eq_true rfl⟩ ⟨(by show _ ≤ 2; omega), (by show _ ≤ 12; omega)⟩ rfl hl.1 (Nat.le_of_ble_eq_true rfl) rfl dX5_close_2 (fun H locs hM hS => ?_)
    refine lv_astore_n (lv' := [(3, .ref (ad 8 r1)), (0, .ref (ad 0 0)), (1, .int x1), (2, .int x2)]) hx hb dX5_close_5 rfl hl (by decide) rfl (fun ls hl => ?_)
    refine lv_aload_n hx hb dX5_close_6 rfl (lv_at hl 0 rfl) ?_
    obtain ⟨v5, h⟩ := gd_e h
    obtain ⟨r6, t7, e8, h⟩ := bd_e h
    refine xw_callV B hM hS (xw_recv (xb_vk B) hM 8 r1 (Or.inl (xv_n v5)) (fun gh => ⟨_, rfl⟩) rfl) [] (n := 0) (v := (some (.int r6))) (c_X1_kind B.2.2.2.2 e8) wm_RX5_253 wi_yX1_kind ws_yX1_kind wn_RX1 wc_yX1_kind rfl rfl (by decide +kernel) ⟨Nat.le_of_ble_eq_true rfl, Nat.le_of_ble_eq_true rfl⟩ ⟨(by show _ ≤ 2; omega), (by show _ ≤ 12; omega)⟩ rfl hl.1 (Nat.le_of_ble_eq_true rfl) rfl dX5_close_7 (fun H locs hM hS => ?_)
    refine lv_bipush (v := 111) hx hb dX5_close_10 (by decide) ?_
    refine lv_icmp_eq (tgt := 26) hx hb dX5_close_12 (by decide) (fun c9 => ?_) (fun c9 => ?_)
    · have h := bi_t c9 h
      refine lv_aload_n hx hb dX5_close_26 rfl (lv_at hl 0 rfl) ?_
      refine lv_iload_n hx hb dX5_close_27 rfl (lv_at hl 3 rfl) ?_
      refine lv_if_eq (tgt := 36) hx hb dX5_close_28 (by decide) (fun c10 => ?_) (fun c10 => ?_)
      · have h := bi_t c10 h
        refine lv_bipush (v := 114) hx hb dX5_close_36 (by decide) ?_
        exact w_X5_close_38 B _ _ _ _ _ _ _ _ (by omega) (by omega) h hM hS (lv_sub hl [] rfl)
      · have h := bi_f c10 h
        refine lv_bipush (v := 100) hx hb dX5_close_31 (by decide) ?_
        refine lv_goto (tgt := 38) hx hb dX5_close_33 (by decide) ?_
        exact w_X5_close_38 B _ _ _ _ _ _ _ _ (by omega) (by omega) h hM hS (lv_sub hl [] rfl)
    · have h := bi_f c9 h
      cases h
      exact xw_throw (k := 1) (ik := 60) (ic := 64) (is := 257) (text := "the note is not open") B hM hS wk_RX5_60 wn_java_lang_UnsupportedOperationException at_1 an_1 ag_1 (by decide +kernel) (by decide +kernel) hl.1 ⟨⟨dX5_close_15, dX5_close_18⟩, Or.inr ⟨dX5_close_19, dX5_close_22, dX5_close_25⟩⟩ (Nat.le_of_ble_eq_true rfl) (Nat.le_of_ble_eq_true rfl) (by show _ ≤ 2; omega) (by show _ ≤ 12; omega) (by omega) (by omega) rfl
theorem c_X5_close {l : Launch} (hll : l.stackTraces = false) {G : GG} {A : Nat → Prop} {ad : AD} {st : XS} {x1 : Int32} {x2 : Int32} {r : (Nat ⊕ Int32)} {st' : XS} (h : f_X5_close st x1 x2 = some (r, st')) : vx_Met l yX5_close (Cond.code yX5_close cX5_close 4 (some .boolean) :: TG) ({ frames := 7, cells := 2, slots := 12, locals := 121 } : Room) (PX G A ad st [.ref (ad 0 0), .int x1, .int x2]) (QXr G A ad (ovw (fun x => some (.int x)) r) st') (QXx G A ad (ovw (fun x => some (.int x)) r) st') 2 12 A :=
  xx_of (own := RX5) hll (by decide +kernel) rfl (Nat.le_of_ble_eq_true rfl) fun p e s m below meth c ls B hM hS hl => w_X5_close B _ _ _ _ _ _ _ _ (Nat.le_of_ble_eq_true rfl) (Nat.le_of_ble_eq_true rfl) h hM hS hl
set_option maxHeartbeats 4000000 in
set_option maxRecDepth 100000 in
theorem w_X5_renew {p : Program} {l : Launch} {e : Env} {s : State} {m : MethodId} {args : Array Value} {below : List Frame} {meth : Method} {c : Code} {G : GG} {A : Nat → Prop} {ad : AD} (B : XB G A ad p l s m args meth c cX5_renew 3 RX5 (some .int)) {r : (Nat ⊕ Int32)} {st' : XS} : ∀ (cells slots : Nat) (st : XS) (x1 : Int32) (H : Heap) (locs : List Loc) (ls : Array Slot), cells + 2 ≤ 2 → slots + 12 ≤ 12 → f_X5_renew st x1 = some (r, st') → XW G A ad st H → va_S A s.heap H locs → lv_has ls 3 [(0, .ref (ad 0 0)), (1, .int x1)] → W p l e ({ frames := 8, cells := 2, slots := 12, locals := 143 } : Room) s m args below meth c H locs cells slots (vx_MQ below (QXr G A ad (ovw (fun x => some (.int x)) r) st') (QXx G A ad (ovw (fun x => some (.int x)) r) st') args s 2 12 A) (F0 m 0 ls []) := by
  have ⟨⟨hx, hb, hr, hml, hown, hT, hlocks, hK⟩, hnt, hST, hA, hll⟩ := B
  intro cells slots st x1 H locs ls hc hs h hM hS hl
  rw [f_X5_renew] at h
  refine lv_aload_n hx hb dX5_renew_0 rfl (lv_at hl 0 rfl) ?_
  refine lv_iload_n hx hb dX5_renew_1 rfl (lv_at hl 1 rfl) ?_
  rcases bdx_e h with ⟨k4, t2, e3, h⟩ | ⟨r1, t2, e3, h⟩
  · cases h
    exact xx_goV B hM hS (xw_recv (xb_vk B) hM 0 0 (Or.inl xv_0) (fun gh => ⟨_, rfl⟩) rfl) [.int x1] (n := 1) (c_X5_madeNote B.2.2.2.2 e3) wm_RX5_249 wi_yX5_madeNote ws_yX5_madeNote wn_RX5 wc_yX5_madeNote rfl rfl (by decide +kernel) ⟨Nat.le_of_ble_eq_true rfl, Nat.le_of_ble_eq_true rfl⟩ ⟨(by show _ ≤ 2; omega), (by show _ ≤ 12; omega)⟩ rfl hl.1 (Nat.le_of_ble_eq_true rfl) rfl dX5_renew_2 (by omega) (by omega) rfl
  · refine xx_callV B hM hS (xw_recv (xb_vk B) hM 0 0 (Or.inl xv_0) (fun gh => ⟨_, rfl⟩) rfl) [.int x1] (n := 1) (v := (some (.ref (ad 8 r1)))) (c_X5_madeNote B.2.2.2.2 e3) wm_RX5_249 wi_yX5_madeNote ws_yX5_madeNote wn_RX5 wc_yX5_madeNote rfl rfl (by decide +kernel) ⟨Nat.le_of_ble_eq_true rfl, Nat.le_of_ble_eq_true rfl⟩ ⟨(by show _ ≤ 2; omega), (by show _ ≤ 12; omega)⟩ rfl hl.1 (Nat.le_of_ble_eq_true rfl) rfl dX5_renew_2 (fun H locs hM hS => ?_)
    refine lv_astore_n (lv' := [(2, .ref (ad 8 r1)), (0, .ref (ad 0 0)), (1, .int x1)]) hx hb dX5_renew_5 rfl hl (by decide) rfl (fun ls hl => ?_)
    refine lv_aload_n hx hb dX5_renew_6 rfl (lv_at hl 0 rfl) ?_
    obtain ⟨v5, h⟩ := gd_e h
    obtain ⟨r6, t7, e8, h⟩ := bd_e h
    refine xw_callV B hM hS (xw_recv (xb_vk B) hM 8 r1 (Or.inl (xv_n v5)) (fun gh => ⟨_, rfl⟩) rfl) [] (n := 0) (v := (some (.int r6))) (c_X1_kind B.2.2.2.2 e8) wm_RX5_253 wi_yX1_kind ws_yX1_kind wn_RX1 wc_yX1_kind rfl rfl (by decide +kernel) ⟨Nat.le_of_ble_eq_true rfl, Nat.le_of_ble_eq_true rfl⟩ ⟨(by show _ ≤ 2; omega), (by show _ ≤ 12; omega)⟩ rfl hl.1 (Nat.le_of_ble_eq_true rfl) rfl dX5_renew_7 (fun H locs hM hS => ?_)
    refine lv_bipush (v := 115) hx hb dX5_renew_10 (by decide) ?_
    refine lv_icmp_eq (tgt := 26) hx hb dX5_renew_12 (by decide) (fun c9 => ?_) (fun c9 => ?_)
    · have h := bi_t c9 h
      refine lv_aload_n hx hb dX5_renew_26 rfl (lv_at hl 1 rfl) ?_
      refine lv_aload_n hx hb dX5_renew_27 rfl (lv_at hl 0 rfl) ?_
      obtain ⟨v10, h⟩ := gd_e h
      refine xw_get B.1 hM 8 r1 (xv_n v10) (ci := 2) (N := 3) (fs := fNo ad t7 r1) (C := RX1) (T := TX1) (fun _ => rfl) rfl inX1 0 (by decide) wf_RX5_264 rfl (v := .ref (ad 1 (xU t7 r1))) rfl dX5_renew_28 ?_
      rcases bdx_e h with ⟨k14, t12, e13, h⟩ | ⟨r11, t12, e13, h⟩
      · cases h
        exact xx_goV B hM hS (xw_recv (xb_vk B) hM 0 0 (Or.inl xv_0) (fun gh => ⟨_, rfl⟩) rfl) [.ref (ad 1 (xU t7 r1))] (n := 1) (c_X5_checkInReel B.2.2.2.2 e13) wm_RX5_122 wi_yX5_checkInReel ws_yX5_checkInReel wn_RX5 wc_yX5_checkInReel rfl rfl (by decide +kernel) ⟨Nat.le_of_ble_eq_true rfl, Nat.le_of_ble_eq_true rfl⟩ ⟨(by show _ ≤ 2; omega), (by show _ ≤ 12; omega)⟩ rfl hl.1 (Nat.le_of_ble_eq_true rfl) rfl dX5_renew_31 (by omega) (by omega) rfl
      · refine xx_callV B hM hS (xw_recv (xb_vk B) hM 0 0 (Or.inl xv_0) (fun gh => ⟨_, rfl⟩) rfl) [.ref (ad 1 (xU t7 r1))] (n := 1) (v := none) (c_X5_checkInReel B.2.2.2.2 e13) wm_RX5_122 wi_yX5_checkInReel ws_yX5_checkInReel wn_RX5 wc_yX5_checkInReel rfl rfl (by decide +kernel) ⟨Nat.le_of_ble_eq_true rfl, Nat.le_of_ble_eq_true rfl⟩ ⟨(by show _ ≤ 2; omega), (by show _ ≤ 12; omega)⟩ rfl hl.1 (Nat.le_of_ble_eq_true rfl) rfl dX5_renew_31 (fun H locs hM hS => ?_)
        refine lv_aload_n hx hb dX5_renew_34 rfl (lv_at hl 0 rfl) ?_
        refine lv_aload_n hx hb dX5_renew_35 rfl (lv_at hl 0 rfl) ?_
        obtain ⟨v15, h⟩ := gd_e h
        refine xw_get B.1 hM 8 r1 (xv_n v15) (ci := 2) (N := 3) (fs := fNo ad t12 r1) (C := RX1) (T := TX1) (fun _ => rfl) rfl inX1 0 (by decide) wf_RX5_264 rfl (v := .ref (ad 1 (xU t12 r1))) rfl dX5_renew_36 ?_
        obtain ⟨v16, h⟩ := gd_e h
        refine xw_get B.1 hM 1 (xU t12 r1) (xv_s (k := 1) (by decide) v16) (ci := 5) (N := 12) (fs := fSh ad t12 (xU t12 r1)) (C := RX4) (T := TX4) (fun _ => rfl) rfl inX4 6 (by decide) wf_RX5_105 rfl (v := .int (xF t12 1 (xU t12 r1) 6)) rfl dX5_renew_39 ?_
        refine xw_putF B.1 hM hS 8 r1 3 (Or.inr (Or.inr (Or.inr (Or.inl ⟨rfl, rfl⟩)))) (xv_n v15) (ci := 2) (N := 3) (fs := fNo ad t12 r1) (C := RX1) (T := TX1) (fun _ => rfl) rfl inX1 tyX1_ok nmX1 1 (by decide) wf_RX5_268 rfl rfl rfl rfl (Nat.le_of_ble_eq_true rfl) (fun _ => by simp [enX, fNo, sF, xF, xU]) dX5_renew_42 (fun H locs hM hS => ?_)
        refine lv_aload_n hx hb dX5_renew_45 rfl (lv_at hl 0 rfl) ?_
        refine xw_get B.1 hM 8 r1 (xv_n v15) (ci := 2) (N := 3) (fs := fNo ad (sF t12 3 r1 1 (xF t12 1 (xU t12 r1) 6)) r1) (C := RX1) (T := TX1) (fun _ => rfl) rfl inX1 1 (by decide) wf_RX5_268 rfl (v := .int (xF (sF t12 3 r1 1 (xF t12 1 (xU t12 r1) 6)) 3 r1 1)) rfl dX5_renew_46 ?_
        cases h
        exact xx_iret B hM hS (by omega) (by omega) dX5_renew_49 rfl
    · have h := bi_f c9 h
      cases h
      exact xw_throw (k := 1) (ik := 60) (ic := 64) (is := 262) (text := "the note is not stale") B hM hS wk_RX5_60 wn_java_lang_UnsupportedOperationException at_1 an_1 ag_1 (by decide +kernel) (by decide +kernel) hl.1 ⟨⟨dX5_renew_15, dX5_renew_18⟩, Or.inr ⟨dX5_renew_19, dX5_renew_22, dX5_renew_25⟩⟩ (Nat.le_of_ble_eq_true rfl) (Nat.le_of_ble_eq_true rfl) (by show _ ≤ 2; omega) (by show _ ≤ 12; omega) (by omega) (by omega) rfl
theorem c_X5_renew {l : Launch} (hll : l.stackTraces = false) {G : GG} {A : Nat → Prop} {ad : AD} {st : XS} {x1 : Int32} {r : (Nat ⊕ Int32)} {st' : XS} (h : f_X5_renew st x1 = some (r, st')) : vx_Met l yX5_renew (Cond.code yX5_renew cX5_renew 3 (some .int) :: TG) ({ frames := 8, cells := 2, slots := 12, locals := 143 } : Room) (PX G A ad st [.ref (ad 0 0), .int x1]) (QXr G A ad (ovw (fun x => some (.int x)) r) st') (QXx G A ad (ovw (fun x => some (.int x)) r) st') 2 12 A :=
  xx_of (own := RX5) hll (by decide +kernel) rfl (Nat.le_of_ble_eq_true rfl) fun p e s m below meth c ls B hM hS hl => w_X5_renew B _ _ _ _ _ _ _ (Nat.le_of_ble_eq_true rfl) (Nat.le_of_ble_eq_true rfl) h hM hS hl
set_option maxHeartbeats 4000000 in
set_option maxRecDepth 100000 in
theorem w_X5_notesOf_36 {p : Program} {l : Launch} {e : Env} {s : State} {m : MethodId} {args : Array Value} {below : List Frame} {meth : Method} {c : Code} {G : GG} {A : Nat → Prop} {ad : AD} (B : XB G A ad p l s m args meth c cX5_notesOf 4 RX5 (some .int)) {r : Int32} {st' : XS} {k4 : XS → Int32 → Int32 → Int32 → Option (Int32 × XS)} (hk4 : ∀ (st : XS) (x1 : Int32) (x2 : Int32) (x3 : Int32) (H : Heap) (locs : List Loc) (ls : Array Slot), k4 st x1 x2 x3 = some (r, st') → XW G A ad st H → va_S A s.heap H locs → lv_has ls 4 [(0, .ref (ad 0 0)), (1, .int x1), (2, .int x2), (3, .int x3)] → W p l e ({ frames := 3, cells := 0, slots := 0, locals := 64 } : Room) s m args below meth c H locs 0 0 (MQ below (QX G A ad (some (.int r)) st') args s 0 0 A) (F0 m 4 ls [])) : ∀ (st : XS) (x1 : Int32) (x2 : Int32) (x3 : Int32) (H : Heap) (locs : List Loc) (ls : Array Slot), f_X5_notesOf_36 k4 st x1 x2 x3 = some (r, st') → XW G A ad st H → va_S A s.heap H locs → lv_has ls 4 [(0, .ref (ad 0 0)), (1, .int x1), (2, .int x2), (3, .int x3)] → W p l e ({ frames := 3, cells := 0, slots := 0, locals := 64 } : Room) s m args below meth c H locs 0 0 (MQ below (QX G A ad (some (.int r)) st') args s 0 0 A) (F0 m 36 ls []) := by
  have ⟨⟨hx, hb, hr, hml, hown, hT, hlocks, hK⟩, hnt, hST, hA, hll⟩ := B
  intro st x1 x2 x3 H locs ls h hM hS hl
  rw [f_X5_notesOf_36] at h
  refine lv_iinc (v := (x3 + 1)) (lv' := [(3, .int (x3 + 1)), (0, .ref (ad 0 0)), (1, .int x1), (2, .int x2)]) hx hb dX5_notesOf_36 hl (k := 3) rfl rfl (by decide) rfl (fun ls hl => ?_)
  refine lv_goto (tgt := 4) hx hb dX5_notesOf_39 (by decide) ?_
  exact hk4 _ _ _ _ _ _ _ h hM hS (lv_sub hl [1, 2, 3, 0] rfl)
set_option maxHeartbeats 4000000 in
set_option maxRecDepth 100000 in
theorem w_X5_notesOf_4 {p : Program} {l : Launch} {e : Env} {s : State} {m : MethodId} {args : Array Value} {below : List Frame} {meth : Method} {c : Code} {G : GG} {A : Nat → Prop} {ad : AD} (B : XB G A ad p l s m args meth c cX5_notesOf 4 RX5 (some .int)) {r : Int32} {st' : XS} : ∀ (n : Nat) (st : XS) (x1 : Int32) (x2 : Int32) (x3 : Int32) (H : Heap) (locs : List Loc) (ls : Array Slot), f_X5_notesOf_4 n st x1 x2 x3 = some (r, st') → XW G A ad st H → va_S A s.heap H locs → lv_has ls 4 [(0, .ref (ad 0 0)), (1, .int x1), (2, .int x2), (3, .int x3)] → W p l e ({ frames := 3, cells := 0, slots := 0, locals := 64 } : Room) s m args below meth c H locs 0 0 (MQ below (QX G A ad (some (.int r)) st') args s 0 0 A) (F0 m 4 ls []) := by
  have ⟨⟨hx, hb, hr, hml, hown, hT, hlocks, hK⟩, hnt, hST, hA, hll⟩ := B
  intro n
  induction n with
  | zero =>
    intro st x1 x2 x3 H locs ls h
    cases h
  | succ n ih =>
    intro st x1 x2 x3 H locs ls h hM hS hl
    rw [f_X5_notesOf_4] at h
    refine lv_iload_n hx hb dX5_notesOf_4 rfl (lv_at hl 3 rfl) ?_
    refine lv_aload_n hx hb dX5_notesOf_5 rfl (lv_at hl 0 rfl) ?_
    refine xw_get B.1 hM 0 0 xv_0 (ci := 6) (N := 6) (fs := fTR ad st) (C := RX5) (T := TX5) (fun _ => rfl) rfl inX5 2 (by decide) wf_RX5_19 rfl (v := .ref (ad 13 2)) rfl dX5_notesOf_6 ?_
    refine xw_size B hM hS 2 (by decide) wm_RX5_37 ⟨Nat.le_of_ble_eq_true rfl, Nat.le_of_ble_eq_true rfl⟩ ⟨Nat.le_refl 0, Nat.le_refl 0⟩ hl.1 (Nat.le_of_ble_eq_true rfl) dX5_notesOf_9 ?_
    refine lv_icmp_ge (tgt := 42) hx hb dX5_notesOf_12 (by decide) (fun c1 => ?_) (fun c1 => ?_)
    · have h := bi_t c1 h
      refine lv_iload_n hx hb dX5_notesOf_42 rfl (lv_at hl 2 rfl) ?_
      cases h
      exact xw_iret B hM hS (Nat.le_refl 0) (Nat.le_refl 0) dX5_notesOf_43
    · have h := bi_f c1 h
      refine lv_aload_n hx hb dX5_notesOf_15 rfl (lv_at hl 0 rfl) ?_
      refine xw_get B.1 hM 0 0 xv_0 (ci := 6) (N := 6) (fs := fTR ad st) (C := RX5) (T := TX5) (fun _ => rfl) rfl inX5 2 (by decide) wf_RX5_19 rfl (v := .ref (ad 13 2)) rfl dX5_notesOf_16 ?_
      refine lv_iload_n hx hb dX5_notesOf_19 rfl (lv_at hl 3 rfl) ?_
      obtain ⟨g2, h⟩ := gd_e h
      refine xw_lget B hM hS 2 (by decide) wm_RX5_116 g2 ⟨Nat.le_of_ble_eq_true rfl, Nat.le_of_ble_eq_true rfl⟩ ⟨Nat.le_refl 0, Nat.le_refl 0⟩ hl.1 (Nat.le_of_ble_eq_true rfl) dX5_notesOf_20 ?_
      obtain ⟨v3, h⟩ := gd_e h
      refine xw_castNote B.1 hM v3 wk_RX5_245 dX5_notesOf_23 ?_
      obtain ⟨r4, t5, e6, h⟩ := bd_e h
      refine xw_callV B hM hS (xw_recv (xb_vk B) hM 8 ((xL st 2).getD x3.toNatClampNeg 0) (Or.inl (xv_n v3)) (fun gh => ⟨_, rfl⟩) rfl) [] (n := 0) (v := (some (.int r4))) (c_X1_kind B.2.2.2.2 e6) wm_RX5_253 wi_yX1_kind ws_yX1_kind wn_RX1 wc_yX1_kind rfl rfl (by decide +kernel) ⟨Nat.le_of_ble_eq_true rfl, Nat.le_of_ble_eq_true rfl⟩ ⟨Nat.le_refl 0, Nat.le_refl 0⟩ rfl hl.1 (Nat.le_of_ble_eq_true rfl) rfl dX5_notesOf_26 (fun H locs hM hS => ?_)
      refine lv_iload_n hx hb dX5_notesOf_29 rfl (lv_at hl 1 rfl) ?_
      refine lv_icmp_ne (tgt := 36) hx hb dX5_notesOf_30 (by decide) (fun c7 => ?_) (fun c7 => ?_)
      · have h := bi_f c7 h
        exact w_X5_notesOf_36 B ih _ _ _ _ _ _ _ h hM hS (lv_sub hl [0, 1, 2, 3] rfl)
      · have h := bi_t c7 h
        refine lv_iinc (v := (x2 + 1)) (lv' := [(2, .int (x2 + 1)), (0, .ref (ad 0 0)), (1, .int x1), (3, .int x3)]) hx hb dX5_notesOf_33 hl (k := 2) rfl rfl (by decide) rfl (fun ls hl => ?_)
        exact w_X5_notesOf_36 B ih _ _ _ _ _ _ _ h hM hS (lv_sub hl [1, 2, 0, 3] rfl)
set_option maxHeartbeats 4000000 in
set_option maxRecDepth 100000 in
theorem w_X5_notesOf {p : Program} {l : Launch} {e : Env} {s : State} {m : MethodId} {args : Array Value} {below : List Frame} {meth : Method} {c : Code} {G : GG} {A : Nat → Prop} {ad : AD} (B : XB G A ad p l s m args meth c cX5_notesOf 4 RX5 (some .int)) {r : Int32} {st' : XS} : ∀ (st : XS) (x1 : Int32) (H : Heap) (locs : List Loc) (ls : Array Slot), f_X5_notesOf st x1 = some (r, st') → XW G A ad st H → va_S A s.heap H locs → lv_has ls 4 [(0, .ref (ad 0 0)), (1, .int x1)] → W p l e ({ frames := 3, cells := 0, slots := 0, locals := 64 } : Room) s m args below meth c H locs 0 0 (MQ below (QX G A ad (some (.int r)) st') args s 0 0 A) (F0 m 0 ls []) := by
  have ⟨⟨hx, hb, hr, hml, hown, hT, hlocks, hK⟩, hnt, hST, hA, hll⟩ := B
  intro st x1 H locs ls h hM hS hl
  rw [f_X5_notesOf] at h
  refine lv_iconst (v := 0) hx hb dX5_notesOf_0 (by decide) ?_
  refine lv_istore_n (lv' := [(2, .int 0), (0, .ref (ad 0 0)), (1, .int x1)]) hx hb dX5_notesOf_1 rfl hl (by decide) rfl (fun ls hl => ?_)
  refine lv_iconst (v := 0) hx hb dX5_notesOf_2 (by decide) ?_
  refine lv_istore_n (lv' := [(3, .int 0), (2, .int 0), (0, .ref (ad 0 0)), (1, .int x1)]) hx hb dX5_notesOf_3 rfl hl (by decide) rfl (fun ls hl => ?_)
  exact w_X5_notesOf_4 B FU _ _ _ _ _ _ _ h hM hS (lv_sub hl [2, 3, 1, 0] rfl)
theorem c_X5_notesOf {l : Launch} (hll : l.stackTraces = false) {G : GG} {A : Nat → Prop} {ad : AD} {st : XS} {x1 : Int32} {r : Int32} {st' : XS} (h : f_X5_notesOf st x1 = some (r, st')) : Met l yX5_notesOf (Cond.code yX5_notesOf cX5_notesOf 4 (some .int) :: TG) ({ frames := 3, cells := 0, slots := 0, locals := 64 } : Room) (PX G A ad st [.ref (ad 0 0), .int x1]) (QX G A ad (some (.int r)) st') 0 0 A :=
  xw_of (own := RX5) hll (by decide +kernel) rfl (Nat.le_of_ble_eq_true rfl) fun p e s m below meth c ls B hM hS hl => w_X5_notesOf B _ _ _ _ _ h hM hS hl
set_option maxHeartbeats 4000000 in
set_option maxRecDepth 100000 in
theorem w_X5_notes_34 {p : Program} {l : Launch} {e : Env} {s : State} {m : MethodId} {args : Array Value} {below : List Frame} {meth : Method} {c : Code} {G : GG} {A : Nat → Prop} {ad : AD} (B : XB G A ad p l s m args meth c cX5_notes 2 RX5 (some .int)) {r : (Nat ⊕ Int32)} {st' : XS} : ∀ (cells slots : Nat) (st : XS) (x1 : Int32) (H : Heap) (locs : List Loc) (ls : Array Slot), cells + 0 ≤ 1 → slots + 0 ≤ 6 → f_X5_notes_34 st x1 = some (r, st') → XW G A ad st H → va_S A s.heap H locs → lv_has ls 2 [(0, .ref (ad 0 0)), (1, .int x1)] → W p l e ({ frames := 6, cells := 1, slots := 6, locals := 100 } : Room) s m args below meth c H locs cells slots (vx_MQ below (QXr G A ad (ovw (fun x => some (.int x)) r) st') (QXx G A ad (ovw (fun x => some (.int x)) r) st') args s 1 6 A) (F0 m 34 ls []) := by
  have ⟨⟨hx, hb, hr, hml, hown, hT, hlocks, hK⟩, hnt, hST, hA, hll⟩ := B
  intro cells slots st x1 H locs ls hc hs h hM hS hl
  rw [f_X5_notes_34] at h
  refine lv_aload_n hx hb dX5_notes_34 rfl (lv_at hl 0 rfl) ?_
  refine lv_iload_n hx hb dX5_notes_35 rfl (lv_at hl 1 rfl) ?_
  obtain ⟨r1, t2, e3, h⟩ := bd_e h
  refine xw_callV B hM hS (xw_recv (xb_vk B) hM 0 0 (Or.inl xv_0) (fun gh => ⟨_, rfl⟩) rfl) [.int x1] (n := 1) (v := (some (.int r1))) (c_X5_notesOf B.2.2.2.2 e3) wm_RX5_269 wi_yX5_notesOf ws_yX5_notesOf wn_RX5 wc_yX5_notesOf rfl rfl (by decide +kernel) ⟨Nat.le_of_ble_eq_true rfl, Nat.le_of_ble_eq_true rfl⟩ ⟨(by show _ ≤ 1; omega), (by show _ ≤ 6; omega)⟩ rfl hl.1 (Nat.le_of_ble_eq_true rfl) rfl dX5_notes_36 (fun H locs hM hS => ?_)
  cases h
  exact xx_iret B hM hS (by omega) (by omega) dX5_notes_39 rfl
set_option maxHeartbeats 4000000 in
set_option maxRecDepth 100000 in
theorem w_X5_notes {p : Program} {l : Launch} {e : Env} {s : State} {m : MethodId} {args : Array Value} {below : List Frame} {meth : Method} {c : Code} {G : GG} {A : Nat → Prop} {ad : AD} (B : XB G A ad p l s m args meth c cX5_notes 2 RX5 (some .int)) {r : (Nat ⊕ Int32)} {st' : XS} : ∀ (cells slots : Nat) (st : XS) (x1 : Int32) (H : Heap) (locs : List Loc) (ls : Array Slot), cells + 1 ≤ 1 → slots + 6 ≤ 6 → f_X5_notes st x1 = some (r, st') → XW G A ad st H → va_S A s.heap H locs → lv_has ls 2 [(0, .ref (ad 0 0)), (1, .int x1)] → W p l e ({ frames := 6, cells := 1, slots := 6, locals := 100 } : Room) s m args below meth c H locs cells slots (vx_MQ below (QXr G A ad (ovw (fun x => some (.int x)) r) st') (QXx G A ad (ovw (fun x => some (.int x)) r) st') args s 1 6 A) (F0 m 0 ls []) := by
  have ⟨⟨hx, hb, hr, hml, hown, hT, hlocks, hK⟩, hnt, hST, hA, hll⟩ := B
  intro cells slots st x1 H locs ls hc hs h hM hS hl
  rw [f_X5_notes] at h
  refine lv_iload_n hx hb dX5_notes_0 rfl (lv_at hl 1 rfl) ?_
  refine lv_bipush (v := 111) hx hb dX5_notes_1 (by decide) ?_
  refine lv_icmp_eq (tgt := 34) hx hb dX5_notes_3 (by decide) (fun c1 => ?_) (fun c1 => ?_)
  · have h := bi_t c1 h
    exact w_X5_notes_34 B _ _ _ _ _ _ _ (by omega) (by omega) h hM hS (lv_sub hl [0, 1] rfl)
  · have h := bi_f c1 h
    refine lv_iload_n hx hb dX5_notes_6 rfl (lv_at hl 1 rfl) ?_
    refine lv_bipush (v := 100) hx hb dX5_notes_7 (by decide) ?_
    refine lv_icmp_eq (tgt := 34) hx hb dX5_notes_9 (by decide) (fun c2 => ?_) (fun c2 => ?_)
    · have h := bi_t c2 h
      exact w_X5_notes_34 B _ _ _ _ _ _ _ (by omega) (by omega) h hM hS (lv_sub hl [0, 1] rfl)
    · have h := bi_f c2 h
      refine lv_iload_n hx hb dX5_notes_12 rfl (lv_at hl 1 rfl) ?_
      refine lv_bipush (v := 114) hx hb dX5_notes_13 (by decide) ?_
      refine lv_icmp_eq (tgt := 34) hx hb dX5_notes_15 (by decide) (fun c3 => ?_) (fun c3 => ?_)
      · have h := bi_t c3 h
        exact w_X5_notes_34 B _ _ _ _ _ _ _ (by omega) (by omega) h hM hS (lv_sub hl [0, 1] rfl)
      · have h := bi_f c3 h
        refine lv_iload_n hx hb dX5_notes_18 rfl (lv_at hl 1 rfl) ?_
        refine lv_bipush (v := 115) hx hb dX5_notes_19 (by decide) ?_
        refine lv_icmp_eq (tgt := 34) hx hb dX5_notes_21 (by decide) (fun c4 => ?_) (fun c4 => ?_)
        · have h := bi_t c4 h
          exact w_X5_notes_34 B _ _ _ _ _ _ _ (by omega) (by omega) h hM hS (lv_sub hl [0, 1] rfl)
        · have h := bi_f c4 h
          cases h
          exact xw_throw (k := 0) (ik := 41) (ic := 45) (is := 205) (text := "no such letter") B hM hS wk_RX5_41 wn_java_lang_IllegalArgumentException at_0 an_0 ag_0 (by decide +kernel) (by decide +kernel) hl.1 ⟨⟨dX5_notes_24, dX5_notes_27⟩, Or.inl ⟨dX5_notes_28, dX5_notes_30, dX5_notes_33⟩⟩ (Nat.le_of_ble_eq_true rfl) (Nat.le_of_ble_eq_true rfl) (by show _ ≤ 1; omega) (by show _ ≤ 6; omega) (by omega) (by omega) rfl
theorem c_X5_notes {l : Launch} (hll : l.stackTraces = false) {G : GG} {A : Nat → Prop} {ad : AD} {st : XS} {x1 : Int32} {r : (Nat ⊕ Int32)} {st' : XS} (h : f_X5_notes st x1 = some (r, st')) : vx_Met l yX5_notes (Cond.code yX5_notes cX5_notes 2 (some .int) :: TG) ({ frames := 6, cells := 1, slots := 6, locals := 100 } : Room) (PX G A ad st [.ref (ad 0 0), .int x1]) (QXr G A ad (ovw (fun x => some (.int x)) r) st') (QXx G A ad (ovw (fun x => some (.int x)) r) st') 1 6 A :=
  xx_of (own := RX5) hll (by decide +kernel) rfl (Nat.le_of_ble_eq_true rfl) fun p e s m below meth c ls B hM hS hl => w_X5_notes B _ _ _ _ _ _ _ (Nat.le_of_ble_eq_true rfl) (Nat.le_of_ble_eq_true rfl) h hM hS hl
set_option maxHeartbeats 4000000 in
set_option maxRecDepth 100000 in
theorem w_X5_dear {p : Program} {l : Launch} {e : Env} {s : State} {m : MethodId} {args : Array Value} {below : List Frame} {meth : Method} {c : Code} {G : GG} {A : Nat → Prop} {ad : AD} (B : XB G A ad p l s m args meth c cX5_dear 5 RX5 (some .boolean)) {r : (Nat ⊕ Int32)} {st' : XS} : ∀ (cells slots : Nat) (st : XS) (x1 : Int32) (x2 : Int32) (H : Heap) (locs : List Loc) (ls : Array Slot), cells + 1 ≤ 1 → slots + 6 ≤ 6 → f_X5_dear st x1 x2 = some (r, st') → XW G A ad st H → va_S A s.heap H locs → lv_has ls 5 [(0, .ref (ad 0 0)), (1, .int x1), (2, .int x2)] → W p l e ({ frames := 7, cells := 1, slots := 6, locals := 121 } : Room) s m args below meth c H locs cells slots (vx_MQ below (QXr G A ad (ovw (fun x => some (.int x)) r) st') (QXx G A ad (ovw (fun x => some (.int x)) r) st') args s 1 6 A) (F0 m 0 ls []) := by
  have ⟨⟨hx, hb, hr, hml, hown, hT, hlocks, hK⟩, hnt, hST, hA, hll⟩ := B
  intro cells slots st x1 x2 H locs ls hc hs h hM hS hl
  rw [f_X5_dear] at h
  refine lv_aload_n hx hb dX5_dear_0 rfl (lv_at hl 0 rfl) ?_
  refine lv_iload_n hx hb dX5_dear_1 rfl (lv_at hl 1 rfl) ?_
  rcases bdx_e h with ⟨k4, t2, e3, h⟩ | ⟨r1, t2, e3, h⟩
  · cases h
    exact xx_goV B hM hS (xw_recv (xb_vk B) hM 0 0 (Or.inl xv_0) (fun gh => ⟨_, rfl⟩) rfl) [.int x1] (n := 1) (c_X5_madeShot B.2.2.2.2 e3) wm_RX5_93 wi_yX5_madeShot ws_yX5_madeShot wn_RX5 wc_yX5_madeShot rfl rfl (by decide +kernel) ⟨Nat.le_of_ble_eq_true rfl, Nat.le_of_ble_eq_true rfl⟩ ⟨(by show _ ≤ 1; omega), (by show _ ≤ 6; omega)⟩ rfl hl.1 (Nat.le_of_ble_eq_true rfl) rfl dX5_dear_2 (by omega) (by omega) rfl
  · refine xx_callV B hM hS (xw_recv (xb_vk B) hM 0 0 (Or.inl xv_0) (fun gh => ⟨_, rfl⟩) rfl) [.int x1] (n := 1) (v := (some (.ref (ad 1 r1)))) (c_X5_madeShot B.2.2.2.2 e3) wm_RX5_93 wi_yX5_madeShot ws_yX5_madeShot wn_RX5 wc_yX5_madeShot rfl rfl (by decide +kernel) ⟨Nat.le_of_ble_eq_true rfl, Nat.le_of_ble_eq_true rfl⟩ ⟨(by show _ ≤ 1; omega), (by show _ ≤ 6; omega)⟩ rfl hl.1 (Nat.le_of_ble_eq_true rfl) rfl dX5_dear_2 (fun H locs hM hS => ?_)
    refine lv_astore_n (lv' := [(3, .ref (ad 1 r1)), (0, .ref (ad 0 0)), (1, .int x1), (2, .int x2)]) hx hb dX5_dear_5 rfl hl (by decide) rfl (fun ls hl => ?_)
    refine lv_aload_n hx hb dX5_dear_6 rfl (lv_at hl 0 rfl) ?_
    obtain ⟨v5, h⟩ := gd_e h
    refine xw_get B.1 hM 1 r1 (xv_s (k := 1) (by decide) v5) (ci := 5) (N := 12) (fs := fSh ad t2 r1) (C := RX4) (T := TX4) (fun _ => rfl) rfl inX4 11 (by decide) wf_RX5_273 rfl (v := .int (xF t2 1 r1 11)) rfl dX5_dear_7 ?_
    refine lv_istore (lv' := [(4, .int (xF t2 1 r1 11)), (3, .ref (ad 1 r1)), (0, .ref (ad 0 0)), (1, .int x1), (2, .int x2)]) hx hb dX5_dear_10 hl (by decide) rfl (fun ls hl => ?_)
    refine lv_aload_n hx hb dX5_dear_12 rfl (lv_at hl 1 rfl) ?_
    refine lv_iload_n hx hb dX5_dear_13 rfl (lv_at hl 4 rfl) ?_
    obtain ⟨g6, h⟩ := gd_e h
    refine xw_putF B.1 hM hS 1 r1 1 (Or.inr (Or.inl ⟨rfl, rfl⟩)) (xv_s (k := 1) (by decide) v5) (ci := 5) (N := 12) (fs := fSh ad t2 r1) (C := RX4) (T := TX4) (fun _ => rfl) rfl inX4 tyX4_ok nmX4 11 (by decide) wf_RX5_273 rfl rfl g6.1 g6.2 (Nat.le_of_ble_eq_true rfl) (fun _ => by simp [enX, fSh, sF, xF, xU]) dX5_dear_14 (fun H locs hM hS => ?_)
    refine lv_iload hx hb dX5_dear_17 (lv_at hl 0 rfl) ?_
    obtain ⟨g7, h⟩ := gd_e h
    cases h
    exact xx_zret B hM hS (by omega) (by omega) g7 dX5_dear_19 rfl
theorem c_X5_dear {l : Launch} (hll : l.stackTraces = false) {G : GG} {A : Nat → Prop} {ad : AD} {st : XS} {x1 : Int32} {x2 : Int32} {r : (Nat ⊕ Int32)} {st' : XS} (h : f_X5_dear st x1 x2 = some (r, st')) : vx_Met l yX5_dear (Cond.code yX5_dear cX5_dear 5 (some .boolean) :: TG) ({ frames := 7, cells := 1, slots := 6, locals := 121 } : Room) (PX G A ad st [.ref (ad 0 0), .int x1, .int x2]) (QXr G A ad (ovw (fun x => some (.int x)) r) st') (QXx G A ad (ovw (fun x => some (.int x)) r) st') 1 6 A :=
  xx_of (own := RX5) hll (by decide +kernel) rfl (Nat.le_of_ble_eq_true rfl) fun p e s m below meth c ls B hM hS hl => w_X5_dear B _ _ _ _ _ _ _ _ (Nat.le_of_ble_eq_true rfl) (Nat.le_of_ble_eq_true rfl) h hM hS hl
set_option maxHeartbeats 4000000 in
set_option maxRecDepth 100000 in
theorem w_X5_setupCount_48 {p : Program} {l : Launch} {e : Env} {s : State} {m : MethodId} {args : Array Value} {below : List Frame} {meth : Method} {c : Code} {G : GG} {A : Nat → Prop} {ad : AD} (B : XB G A ad p l s m args meth c cX5_setupCount 5 RX5 (some .int)) {r : Int32} {st' : XS} {k4 : XS → Int32 → Int32 → Int32 → Option (Int32 × XS)} (hk4 : ∀ (st : XS) (x1 : Int32) (x2 : Int32) (x3 : Int32) (H : Heap) (locs : List Loc) (ls : Array Slot), k4 st x1 x2 x3 = some (r, st') → XW G A ad st H → va_S A s.heap H locs → lv_has ls 5 [(0, .ref (ad 0 0)), (1, .int x1), (2, .int x2), (3, .int x3)] → W p l e ({ frames := 3, cells := 0, slots := 0, locals := 64 } : Room) s m args below meth c H locs 0 0 (MQ below (QX G A ad (some (.int r)) st') args s 0 0 A) (F0 m 4 ls [])) : ∀ (st : XS) (x1 : Int32) (x2 : Int32) (x3 : Int32) (H : Heap) (locs : List Loc) (ls : Array Slot), f_X5_setupCount_48 k4 st x1 x2 x3 = some (r, st') → XW G A ad st H → va_S A s.heap H locs → lv_has ls 5 [(0, .ref (ad 0 0)), (1, .int x1), (2, .int x2), (3, .int x3)] → W p l e ({ frames := 3, cells := 0, slots := 0, locals := 64 } : Room) s m args below meth c H locs 0 0 (MQ below (QX G A ad (some (.int r)) st') args s 0 0 A) (F0 m 48 ls []) := by
  have ⟨⟨hx, hb, hr, hml, hown, hT, hlocks, hK⟩, hnt, hST, hA, hll⟩ := B
  intro st x1 x2 x3 H locs ls h hM hS hl
  rw [f_X5_setupCount_48] at h
  refine lv_iinc (v := (x3 + 1)) (lv' := [(3, .int (x3 + 1)), (0, .ref (ad 0 0)), (1, .int x1), (2, .int x2)]) hx hb dX5_setupCount_48 hl (k := 3) rfl rfl (by decide) rfl (fun ls hl => ?_)
  refine lv_goto (tgt := 4) hx hb dX5_setupCount_51 (by decide) ?_
  exact hk4 _ _ _ _ _ _ _ h hM hS (lv_sub hl [1, 2, 3, 0] rfl)
set_option maxHeartbeats 4000000 in
set_option maxRecDepth 100000 in
theorem w_X5_setupCount_40 {p : Program} {l : Launch} {e : Env} {s : State} {m : MethodId} {args : Array Value} {below : List Frame} {meth : Method} {c : Code} {G : GG} {A : Nat → Prop} {ad : AD} (B : XB G A ad p l s m args meth c cX5_setupCount 5 RX5 (some .int)) {r : Int32} {st' : XS} {k4 : XS → Int32 → Int32 → Int32 → Option (Int32 × XS)} (hk4 : ∀ (st : XS) (x1 : Int32) (x2 : Int32) (x3 : Int32) (H : Heap) (locs : List Loc) (ls : Array Slot), k4 st x1 x2 x3 = some (r, st') → XW G A ad st H → va_S A s.heap H locs → lv_has ls 5 [(0, .ref (ad 0 0)), (1, .int x1), (2, .int x2), (3, .int x3)] → W p l e ({ frames := 3, cells := 0, slots := 0, locals := 64 } : Room) s m args below meth c H locs 0 0 (MQ below (QX G A ad (some (.int r)) st') args s 0 0 A) (F0 m 4 ls [])) : ∀ (st : XS) (x1 : Int32) (x2 : Int32) (x3 : Int32) (x4 : Nat) (H : Heap) (locs : List Loc) (ls : Array Slot), f_X5_setupCount_40 k4 st x1 x2 x3 x4 = some (r, st') → XW G A ad st H → va_S A s.heap H locs → lv_has ls 5 [(0, .ref (ad 0 0)), (1, .int x1), (2, .int x2), (3, .int x3), (4, .ref (ad 1 x4))] → W p l e ({ frames := 3, cells := 0, slots := 0, locals := 64 } : Room) s m args below meth c H locs 0 0 (MQ below (QX G A ad (some (.int r)) st') args s 0 0 A) (F0 m 40 ls []) := by
  have ⟨⟨hx, hb, hr, hml, hown, hT, hlocks, hK⟩, hnt, hST, hA, hll⟩ := B
  intro st x1 x2 x3 x4 H locs ls h hM hS hl
  rw [f_X5_setupCount_40] at h
  refine lv_iload_n hx hb dX5_setupCount_40 rfl (lv_at hl 2 rfl) ?_
  refine lv_aload hx hb dX5_setupCount_41 (lv_at hl 4 rfl) ?_
  obtain ⟨v1, h⟩ := gd_e h
  obtain ⟨r2, t3, e4, h⟩ := bd_e h
  refine xw_callV B hM hS (xw_recv (xb_vk B) hM 1 x4 (Or.inl (xv_s (k := 1) (by decide) v1)) (fun gh => ⟨_, rfl⟩) rfl) [] (n := 0) (v := (some (.int r2))) (c_X4_setupBit B.2.2.2.2 e4) wm_RX5_362 wi_yX4_setupBit ws_yX4_setupBit wn_RX4 wc_yX4_setupBit rfl rfl (by decide +kernel) ⟨Nat.le_of_ble_eq_true rfl, Nat.le_of_ble_eq_true rfl⟩ ⟨Nat.le_refl 0, Nat.le_refl 0⟩ rfl hl.1 (Nat.le_of_ble_eq_true rfl) rfl dX5_setupCount_43 (fun H locs hM hS => ?_)
  refine lv_ior hx hb dX5_setupCount_46 ?_
  refine lv_istore_n (lv' := [(2, .int (x2 ||| r2)), (0, .ref (ad 0 0)), (1, .int x1), (3, .int x3), (4, .ref (ad 1 x4))]) hx hb dX5_setupCount_47 rfl hl (by decide) rfl (fun ls hl => ?_)
  exact w_X5_setupCount_48 B hk4 _ _ _ _ _ _ _ h hM hS (lv_sub hl [1, 2, 0, 3] rfl)
set_option maxHeartbeats 4000000 in
set_option maxRecDepth 100000 in
theorem w_X5_setupCount_4 {p : Program} {l : Launch} {e : Env} {s : State} {m : MethodId} {args : Array Value} {below : List Frame} {meth : Method} {c : Code} {G : GG} {A : Nat → Prop} {ad : AD} (B : XB G A ad p l s m args meth c cX5_setupCount 5 RX5 (some .int)) {r : Int32} {st' : XS} : ∀ (n : Nat) (st : XS) (x1 : Int32) (x2 : Int32) (x3 : Int32) (H : Heap) (locs : List Loc) (ls : Array Slot), f_X5_setupCount_4 n st x1 x2 x3 = some (r, st') → XW G A ad st H → va_S A s.heap H locs → lv_has ls 5 [(0, .ref (ad 0 0)), (1, .int x1), (2, .int x2), (3, .int x3)] → W p l e ({ frames := 3, cells := 0, slots := 0, locals := 64 } : Room) s m args below meth c H locs 0 0 (MQ below (QX G A ad (some (.int r)) st') args s 0 0 A) (F0 m 4 ls []) := by
  have ⟨⟨hx, hb, hr, hml, hown, hT, hlocks, hK⟩, hnt, hST, hA, hll⟩ := B
  intro n
  induction n with
  | zero =>
    intro st x1 x2 x3 H locs ls h
    cases h
  | succ n ih =>
    intro st x1 x2 x3 H locs ls h hM hS hl
    rw [f_X5_setupCount_4] at h
    refine lv_iload_n hx hb dX5_setupCount_4 rfl (lv_at hl 3 rfl) ?_
    refine lv_aload_n hx hb dX5_setupCount_5 rfl (lv_at hl 0 rfl) ?_
    refine xw_get B.1 hM 0 0 xv_0 (ci := 6) (N := 6) (fs := fTR ad st) (C := RX5) (T := TX5) (fun _ => rfl) rfl inX5 1 (by decide) wf_RX5_16 rfl (v := .ref (ad 13 1)) rfl dX5_setupCount_6 ?_
    refine xw_size B hM hS 1 (by decide) wm_RX5_37 ⟨Nat.le_of_ble_eq_true rfl, Nat.le_of_ble_eq_true rfl⟩ ⟨Nat.le_refl 0, Nat.le_refl 0⟩ hl.1 (Nat.le_of_ble_eq_true rfl) dX5_setupCount_9 ?_
    refine lv_icmp_ge (tgt := 54) hx hb dX5_setupCount_12 (by decide) (fun c1 => ?_) (fun c1 => ?_)
    · have h := bi_t c1 h
      refine lv_iload_n hx hb dX5_setupCount_54 rfl (lv_at hl 2 rfl) ?_
      obtain ⟨r2, t3, e4, h⟩ := bd_e h
      refine xw_callSO B hM hS [.int x2] (n := 1) (v := (some (.int r2))) (c_J6_bitCount_0f7a4 B.2.2.2.2 e4) wm_RX5_157 wt_yJ6_bitCount_0f7a4 wn_RJ6 wc_yJ6_bitCount_0f7a4 rfl rfl (by decide +kernel) ⟨Nat.le_of_ble_eq_true rfl, Nat.le_of_ble_eq_true rfl⟩ ⟨Nat.le_refl 0, Nat.le_refl 0⟩ rfl hl.1 (Nat.le_of_ble_eq_true rfl) rfl dX5_setupCount_55 (fun H locs hM hS => ?_)
      cases h
      exact xw_iret B hM hS (Nat.le_refl 0) (Nat.le_refl 0) dX5_setupCount_58
    · have h := bi_f c1 h
      refine lv_aload_n hx hb dX5_setupCount_15 rfl (lv_at hl 0 rfl) ?_
      refine xw_get B.1 hM 0 0 xv_0 (ci := 6) (N := 6) (fs := fTR ad st) (C := RX5) (T := TX5) (fun _ => rfl) rfl inX5 1 (by decide) wf_RX5_16 rfl (v := .ref (ad 13 1)) rfl dX5_setupCount_16 ?_
      refine lv_iload_n hx hb dX5_setupCount_19 rfl (lv_at hl 3 rfl) ?_
      obtain ⟨g5, h⟩ := gd_e h
      refine xw_lget B hM hS 1 (by decide) wm_RX5_116 g5 ⟨Nat.le_of_ble_eq_true rfl, Nat.le_of_ble_eq_true rfl⟩ ⟨Nat.le_refl 0, Nat.le_refl 0⟩ hl.1 (Nat.le_of_ble_eq_true rfl) dX5_setupCount_20 ?_
      obtain ⟨v6, h⟩ := gd_e h
      refine xw_castShot B.1 hM v6 wk_RX5_70 dX5_setupCount_23 ?_
      refine lv_astore (lv' := [(4, .ref (ad 1 ((xL st 1).getD x3.toNatClampNeg 0))), (0, .ref (ad 0 0)), (1, .int x1), (2, .int x2), (3, .int x3)]) hx hb dX5_setupCount_26 hl (by decide) rfl (fun ls hl => ?_)
      refine lv_aload hx hb dX5_setupCount_28 (lv_at hl 0 rfl) ?_
      refine xw_get B.1 hM 1 ((xL st 1).getD x3.toNatClampNeg 0) (xv_s (k := 1) (by decide) v6) (ci := 5) (N := 12) (fs := fSh ad st ((xL st 1).getD x3.toNatClampNeg 0)) (C := RX4) (T := TX4) (fun _ => rfl) rfl inX4 11 (by decide) wf_RX5_273 rfl (v := .int (xF st 1 ((xL st 1).getD x3.toNatClampNeg 0) 11)) rfl dX5_setupCount_30 ?_
      refine lv_if_ne (tgt := 40) hx hb dX5_setupCount_33 (by decide) (fun c7 => ?_) (fun c7 => ?_)
      · have h := bi_f c7 h
        exact w_X5_setupCount_40 B ih _ _ _ _ _ _ _ _ h hM hS (lv_sub hl [1, 2, 3, 4, 0] rfl)
      · have h := bi_t c7 h
        refine lv_iload_n hx hb dX5_setupCount_36 rfl (lv_at hl 2 rfl) ?_
        refine lv_if_ne (tgt := 48) hx hb dX5_setupCount_37 (by decide) (fun c8 => ?_) (fun c8 => ?_)
        · have h := bi_f c8 h
          exact w_X5_setupCount_48 B ih _ _ _ _ _ _ _ h hM hS (lv_sub hl [1, 2, 3, 4] rfl)
        · have h := bi_t c8 h
          exact w_X5_setupCount_40 B ih _ _ _ _ _ _ _ _ h hM hS (lv_sub hl [1, 2, 3, 4, 0] rfl)
set_option maxHeartbeats 4000000 in
set_option maxRecDepth 100000 in
theorem w_X5_setupCount {p : Program} {l : Launch} {e : Env} {s : State} {m : MethodId} {args : Array Value} {below : List Frame} {meth : Method} {c : Code} {G : GG} {A : Nat → Prop} {ad : AD} (B : XB G A ad p l s m args meth c cX5_setupCount 5 RX5 (some .int)) {r : Int32} {st' : XS} : ∀ (st : XS) (x1 : Int32) (H : Heap) (locs : List Loc) (ls : Array Slot), f_X5_setupCount st x1 = some (r, st') → XW G A ad st H → va_S A s.heap H locs → lv_has ls 5 [(0, .ref (ad 0 0)), (1, .int x1)] → W p l e ({ frames := 3, cells := 0, slots := 0, locals := 64 } : Room) s m args below meth c H locs 0 0 (MQ below (QX G A ad (some (.int r)) st') args s 0 0 A) (F0 m 0 ls []) := by
  have ⟨⟨hx, hb, hr, hml, hown, hT, hlocks, hK⟩, hnt, hST, hA, hll⟩ := B
  intro st x1 H locs ls h hM hS hl
  rw [f_X5_setupCount] at h
  refine lv_iconst (v := 0) hx hb dX5_setupCount_0 (by decide) ?_
  refine lv_istore_n (lv' := [(2, .int 0), (0, .ref (ad 0 0)), (1, .int x1)]) hx hb dX5_setupCount_1 rfl hl (by decide) rfl (fun ls hl => ?_)
  refine lv_iconst (v := 0) hx hb dX5_setupCount_2 (by decide) ?_
  refine lv_istore_n (lv' := [(3, .int 0), (2, .int 0), (0, .ref (ad 0 0)), (1, .int x1)]) hx hb dX5_setupCount_3 rfl hl (by decide) rfl (fun ls hl => ?_)
  exact w_X5_setupCount_4 B FU _ _ _ _ _ _ _ h hM hS (lv_sub hl [2, 3, 1, 0] rfl)
theorem c_X5_setupCount {l : Launch} (hll : l.stackTraces = false) {G : GG} {A : Nat → Prop} {ad : AD} {st : XS} {x1 : Int32} {r : Int32} {st' : XS} (h : f_X5_setupCount st x1 = some (r, st')) : Met l yX5_setupCount (Cond.code yX5_setupCount cX5_setupCount 5 (some .int) :: TG) ({ frames := 3, cells := 0, slots := 0, locals := 64 } : Room) (PX G A ad st [.ref (ad 0 0), .int x1]) (QX G A ad (some (.int r)) st') 0 0 A :=
  xw_of (own := RX5) hll (by decide +kernel) rfl (Nat.le_of_ble_eq_true rfl) fun p e s m below meth c ls B hM hS hl => w_X5_setupCount B _ _ _ _ _ h hM hS hl
set_option maxHeartbeats 4000000 in
set_option maxRecDepth 100000 in
theorem w_X5_setups {p : Program} {l : Launch} {e : Env} {s : State} {m : MethodId} {args : Array Value} {below : List Frame} {meth : Method} {c : Code} {G : GG} {A : Nat → Prop} {ad : AD} (B : XB G A ad p l s m args meth c cX5_setups 1 RX5 (some .int)) {r : Int32} {st' : XS} : ∀ (st : XS) (H : Heap) (locs : List Loc) (ls : Array Slot), f_X5_setups st = some (r, st') → XW G A ad st H → va_S A s.heap H locs → lv_has ls 1 [(0, .ref (ad 0 0))] → W p l e ({ frames := 4, cells := 0, slots := 0, locals := 88 } : Room) s m args below meth c H locs 0 0 (MQ below (QX G A ad (some (.int r)) st') args s 0 0 A) (F0 m 0 ls []) := by
  have ⟨⟨hx, hb, hr, hml, hown, hT, hlocks, hK⟩, hnt, hST, hA, hll⟩ := B
  intro st  H locs ls h hM hS hl
  rw [f_X5_setups] at h
  refine lv_aload_n hx hb dX5_setups_0 rfl (lv_at hl 0 rfl) ?_
  refine lv_iconst (v := 0) hx hb dX5_setups_1 (by decide) ?_
  obtain ⟨r1, t2, e3, h⟩ := bd_e h
  refine xw_callV B hM hS (xw_recv (xb_vk B) hM 0 0 (Or.inl xv_0) (fun gh => ⟨_, rfl⟩) rfl) [.int 0] (n := 1) (v := (some (.int r1))) (c_X5_setupCount B.2.2.2.2 e3) wm_RX5_276 wi_yX5_setupCount ws_yX5_setupCount wn_RX5 wc_yX5_setupCount rfl rfl (by decide +kernel) ⟨Nat.le_of_ble_eq_true rfl, Nat.le_of_ble_eq_true rfl⟩ ⟨Nat.le_refl 0, Nat.le_refl 0⟩ rfl hl.1 (Nat.le_of_ble_eq_true rfl) rfl dX5_setups_2 (fun H locs hM hS => ?_)
  cases h
  exact xw_iret B hM hS (Nat.le_refl 0) (Nat.le_refl 0) dX5_setups_5
theorem c_X5_setups {l : Launch} (hll : l.stackTraces = false) {G : GG} {A : Nat → Prop} {ad : AD} {st : XS} {r : Int32} {st' : XS} (h : f_X5_setups st = some (r, st')) : Met l yX5_setups (Cond.code yX5_setups cX5_setups 1 (some .int) :: TG) ({ frames := 4, cells := 0, slots := 0, locals := 88 } : Room) (PX G A ad st [.ref (ad 0 0)]) (QX G A ad (some (.int r)) st') 0 0 A :=
  xw_of (own := RX5) hll (by decide +kernel) rfl (Nat.le_of_ble_eq_true rfl) fun p e s m below meth c ls B hM hS hl => w_X5_setups B _ _ _ _ h hM hS hl
set_option maxHeartbeats 4000000 in
set_option maxRecDepth 100000 in
theorem w_X5_first {p : Program} {l : Launch} {e : Env} {s : State} {m : MethodId} {args : Array Value} {below : List Frame} {meth : Method} {c : Code} {G : GG} {A : Nat → Prop} {ad : AD} (B : XB G A ad p l s m args meth c cX5_first 1 RX5 (some .int)) {r : Int32} {st' : XS} : ∀ (st : XS) (H : Heap) (locs : List Loc) (ls : Array Slot), f_X5_first st = some (r, st') → XW G A ad st H → va_S A s.heap H locs → lv_has ls 1 [(0, .ref (ad 0 0))] → W p l e ({ frames := 4, cells := 0, slots := 0, locals := 88 } : Room) s m args below meth c H locs 0 0 (MQ below (QX G A ad (some (.int r)) st') args s 0 0 A) (F0 m 0 ls []) := by
  have ⟨⟨hx, hb, hr, hml, hown, hT, hlocks, hK⟩, hnt, hST, hA, hll⟩ := B
  intro st  H locs ls h hM hS hl
  rw [f_X5_first] at h
  refine lv_aload_n hx hb dX5_first_0 rfl (lv_at hl 0 rfl) ?_
  refine lv_iconst (v := 1) hx hb dX5_first_1 (by decide) ?_
  obtain ⟨r1, t2, e3, h⟩ := bd_e h
  refine xw_callV B hM hS (xw_recv (xb_vk B) hM 0 0 (Or.inl xv_0) (fun gh => ⟨_, rfl⟩) rfl) [.int 1] (n := 1) (v := (some (.int r1))) (c_X5_setupCount B.2.2.2.2 e3) wm_RX5_276 wi_yX5_setupCount ws_yX5_setupCount wn_RX5 wc_yX5_setupCount rfl rfl (by decide +kernel) ⟨Nat.le_of_ble_eq_true rfl, Nat.le_of_ble_eq_true rfl⟩ ⟨Nat.le_refl 0, Nat.le_refl 0⟩ rfl hl.1 (Nat.le_of_ble_eq_true rfl) rfl dX5_first_2 (fun H locs hM hS => ?_)
  cases h
  exact xw_iret B hM hS (Nat.le_refl 0) (Nat.le_refl 0) dX5_first_5
theorem c_X5_first {l : Launch} (hll : l.stackTraces = false) {G : GG} {A : Nat → Prop} {ad : AD} {st : XS} {r : Int32} {st' : XS} (h : f_X5_first st = some (r, st')) : Met l yX5_first (Cond.code yX5_first cX5_first 1 (some .int) :: TG) ({ frames := 4, cells := 0, slots := 0, locals := 88 } : Room) (PX G A ad st [.ref (ad 0 0)]) (QX G A ad (some (.int r)) st') 0 0 A :=
  xw_of (own := RX5) hll (by decide +kernel) rfl (Nat.le_of_ble_eq_true rfl) fun p e s m below meth c ls B hM hS hl => w_X5_first B _ _ _ _ h hM hS hl
set_option maxHeartbeats 4000000 in
set_option maxRecDepth 100000 in
theorem w_X5_days {p : Program} {l : Launch} {e : Env} {s : State} {m : MethodId} {args : Array Value} {below : List Frame} {meth : Method} {c : Code} {G : GG} {A : Nat → Prop} {ad : AD} (B : XB G A ad p l s m args meth c cX5_days 3 RX5 (some .int)) {r : Int32} {st' : XS} : ∀ (st : XS) (H : Heap) (locs : List Loc) (ls : Array Slot), f_X5_days st = some (r, st') → XW G A ad st H → va_S A s.heap H locs → lv_has ls 3 [(0, .ref (ad 0 0))] → W p l e ({ frames := 4, cells := 0, slots := 0, locals := 88 } : Room) s m args below meth c H locs 0 0 (MQ below (QX G A ad (some (.int r)) st') args s 0 0 A) (F0 m 0 ls []) := by
  have ⟨⟨hx, hb, hr, hml, hown, hT, hlocks, hK⟩, hnt, hST, hA, hll⟩ := B
  intro st  H locs ls h hM hS hl
  rw [f_X5_days] at h
  refine lv_aload_n hx hb dX5_days_0 rfl (lv_at hl 0 rfl) ?_
  refine lv_iconst (v := 0) hx hb dX5_days_1 (by decide) ?_
  obtain ⟨r1, t2, e3, h⟩ := bd_e h
  refine xw_callV B hM hS (xw_recv (xb_vk B) hM 0 0 (Or.inl xv_0) (fun gh => ⟨_, rfl⟩) rfl) [.int 0] (n := 1) (v := (some (.int r1))) (c_X5_setupCount B.2.2.2.2 e3) wm_RX5_276 wi_yX5_setupCount ws_yX5_setupCount wn_RX5 wc_yX5_setupCount rfl rfl (by decide +kernel) ⟨Nat.le_of_ble_eq_true rfl, Nat.le_of_ble_eq_true rfl⟩ ⟨Nat.le_refl 0, Nat.le_refl 0⟩ rfl hl.1 (Nat.le_of_ble_eq_true rfl) rfl dX5_days_2 (fun H locs hM hS => ?_)
  refine lv_iconst (v := 4) hx hb dX5_days_5 (by decide) ?_
  refine lv_iadd hx hb dX5_days_6 ?_
  refine lv_iconst (v := 1) hx hb dX5_days_7 (by decide) ?_
  refine lv_isub hx hb dX5_days_8 ?_
  refine lv_iconst (v := 4) hx hb dX5_days_9 (by decide) ?_
  refine lv_idiv hx hb dX5_days_10 (by decide) ?_
  refine lv_istore_n (lv' := [(1, .int (((r1 + 4) - 1) / 4)), (0, .ref (ad 0 0))]) hx hb dX5_days_11 rfl hl (by decide) rfl (fun ls hl => ?_)
  refine lv_aload_n hx hb dX5_days_12 rfl (lv_at hl 1 rfl) ?_
  refine xw_get B.1 hM 0 0 xv_0 (ci := 6) (N := 6) (fs := fTR ad t2) (C := RX5) (T := TX5) (fun _ => rfl) rfl inX5 1 (by decide) wf_RX5_16 rfl (v := .ref (ad 13 1)) rfl dX5_days_13 ?_
  refine xw_size B hM hS 1 (by decide) wm_RX5_37 ⟨Nat.le_of_ble_eq_true rfl, Nat.le_of_ble_eq_true rfl⟩ ⟨Nat.le_refl 0, Nat.le_refl 0⟩ hl.1 (Nat.le_of_ble_eq_true rfl) dX5_days_16 ?_
  refine lv_bipush (v := 20) hx hb dX5_days_19 (by decide) ?_
  refine lv_iadd hx hb dX5_days_21 ?_
  refine lv_iconst (v := 1) hx hb dX5_days_22 (by decide) ?_
  refine lv_isub hx hb dX5_days_23 ?_
  refine lv_bipush (v := 20) hx hb dX5_days_24 (by decide) ?_
  refine lv_idiv hx hb dX5_days_26 (by decide) ?_
  refine lv_istore_n (lv' := [(2, .int ((((nI (xL t2 1).length) + 20) - 1) / 20)), (1, .int (((r1 + 4) - 1) / 4)), (0, .ref (ad 0 0))]) hx hb dX5_days_27 rfl hl (by decide) rfl (fun ls hl => ?_)
  refine lv_iload_n hx hb dX5_days_28 rfl (lv_at hl 1 rfl) ?_
  refine lv_iload_n hx hb dX5_days_29 rfl (lv_at hl 0 rfl) ?_
  refine va_mmax hx hb (hml.trans hl.1.symm) hown (hT _ wm_RX5_280) (hT _ wt_yJ9_max_7cf53) (hT _ wn_RJ9) (hT _ wc_yJ9_max_7cf53) (Nat.le_of_ble_eq_true rfl) (Nat.le_of_ble_eq_true rfl) (Nat.le_refl 0) (Nat.le_refl 0) dX5_days_30 ?_
  cases h
  exact xw_iret B hM hS (Nat.le_refl 0) (Nat.le_refl 0) dX5_days_33
theorem c_X5_days {l : Launch} (hll : l.stackTraces = false) {G : GG} {A : Nat → Prop} {ad : AD} {st : XS} {r : Int32} {st' : XS} (h : f_X5_days st = some (r, st')) : Met l yX5_days (Cond.code yX5_days cX5_days 3 (some .int) :: TG) ({ frames := 4, cells := 0, slots := 0, locals := 88 } : Room) (PX G A ad st [.ref (ad 0 0)]) (QX G A ad (some (.int r)) st') 0 0 A :=
  xw_of (own := RX5) hll (by decide +kernel) rfl (Nat.le_of_ble_eq_true rfl) fun p e s m below meth c ls B hM hS hl => w_X5_days B _ _ _ _ h hM hS hl
set_option maxHeartbeats 4000000 in
set_option maxRecDepth 100000 in
theorem w_X5_checkShortReel_22 {p : Program} {l : Launch} {e : Env} {s : State} {m : MethodId} {args : Array Value} {below : List Frame} {meth : Method} {c : Code} {G : GG} {A : Nat → Prop} {ad : AD} (B : XB G A ad p l s m args meth c cX5_checkShortReel 1 RX5 none) {r : (Nat ⊕ Unit)} {st' : XS} : ∀ (cells slots : Nat) (st : XS) (H : Heap) (locs : List Loc) (ls : Array Slot), cells + 1 ≤ 1 → slots + 6 ≤ 6 → f_X5_checkShortReel_22 st = some (r, st') → XW G A ad st H → va_S A s.heap H locs → lv_has ls 1 [] → W p l e ({ frames := 6, cells := 1, slots := 6, locals := 100 } : Room) s m args below meth c H locs cells slots (vx_MQ below (QXr G A ad (ovw (fun _ => none) r) st') (QXx G A ad (ovw (fun _ => none) r) st') args s 1 6 A) (F0 m 22 ls []) := by
  have ⟨⟨hx, hb, hr, hml, hown, hT, hlocks, hK⟩, hnt, hST, hA, hll⟩ := B
  intro cells slots st  H locs ls hc hs h hM hS hl
  rw [f_X5_checkShortReel_22] at h
  cases h
  exact xw_throw (k := 1) (ik := 60) (ic := 64) (is := 356) (text := "the reel is empty or too long") B hM hS wk_RX5_60 wn_java_lang_UnsupportedOperationException at_1 an_1 ag_1 (by decide +kernel) (by decide +kernel) hl.1 ⟨⟨dX5_checkShortReel_22, dX5_checkShortReel_25⟩, Or.inr ⟨dX5_checkShortReel_26, dX5_checkShortReel_29, dX5_checkShortReel_32⟩⟩ (Nat.le_of_ble_eq_true rfl) (Nat.le_of_ble_eq_true rfl) (by show _ ≤ 1; omega) (by show _ ≤ 6; omega) (by omega) (by omega) rfl
set_option maxHeartbeats 4000000 in
set_option maxRecDepth 100000 in
theorem w_X5_checkShortReel {p : Program} {l : Launch} {e : Env} {s : State} {m : MethodId} {args : Array Value} {below : List Frame} {meth : Method} {c : Code} {G : GG} {A : Nat → Prop} {ad : AD} (B : XB G A ad p l s m args meth c cX5_checkShortReel 1 RX5 none) {r : (Nat ⊕ Unit)} {st' : XS} : ∀ (cells slots : Nat) (st : XS) (H : Heap) (locs : List Loc) (ls : Array Slot), cells + 1 ≤ 1 → slots + 6 ≤ 6 → f_X5_checkShortReel st = some (r, st') → XW G A ad st H → va_S A s.heap H locs → lv_has ls 1 [(0, .ref (ad 0 0))] → W p l e ({ frames := 6, cells := 1, slots := 6, locals := 100 } : Room) s m args below meth c H locs cells slots (vx_MQ below (QXr G A ad (ovw (fun _ => none) r) st') (QXx G A ad (ovw (fun _ => none) r) st') args s 1 6 A) (F0 m 0 ls []) := by
  have ⟨⟨hx, hb, hr, hml, hown, hT, hlocks, hK⟩, hnt, hST, hA, hll⟩ := B
  intro cells slots st  H locs ls hc hs h hM hS hl
  rw [f_X5_checkShortReel] at h
  refine lv_aload_n hx hb dX5_checkShortReel_0 rfl (lv_at hl 0 rfl) ?_
  refine xw_get B.1 hM 0 0 xv_0 (ci := 6) (N := 6) (fs := fTR ad st) (C := RX5) (T := TX5) (fun _ => rfl) rfl inX5 1 (by decide) wf_RX5_16 rfl (v := .ref (ad 13 1)) rfl dX5_checkShortReel_1 ?_
  refine xw_isEmpty B hM hS 1 (by decide) wm_RX5_353 ⟨Nat.le_of_ble_eq_true rfl, Nat.le_of_ble_eq_true rfl⟩ ⟨(by show _ ≤ 1; omega), (by show _ ≤ 6; omega)⟩ hl.1 (Nat.le_of_ble_eq_true rfl) dX5_checkShortReel_4 ?_
  refine lv_if_ne (tgt := 22) hx hb dX5_checkShortReel_7 (by decide) (fun c1 => ?_) (fun c1 => ?_)
  · have h := bi_f c1 h
    exact w_X5_checkShortReel_22 B _ _ _ _ _ _ (by omega) (by omega) h hM hS (lv_sub hl [] rfl)
  · have h := bi_t c1 h
    refine lv_aload_n hx hb dX5_checkShortReel_10 rfl (lv_at hl 0 rfl) ?_
    refine xw_get B.1 hM 0 0 xv_0 (ci := 6) (N := 6) (fs := fTR ad st) (C := RX5) (T := TX5) (fun _ => rfl) rfl inX5 1 (by decide) wf_RX5_16 rfl (v := .ref (ad 13 1)) rfl dX5_checkShortReel_11 ?_
    refine xw_size B hM hS 1 (by decide) wm_RX5_37 ⟨Nat.le_of_ble_eq_true rfl, Nat.le_of_ble_eq_true rfl⟩ ⟨(by show _ ≤ 1; omega), (by show _ ≤ 6; omega)⟩ hl.1 (Nat.le_of_ble_eq_true rfl) dX5_checkShortReel_14 ?_
    refine lv_bipush (v := 6) hx hb dX5_checkShortReel_17 (by decide) ?_
    refine lv_icmp_le (tgt := 33) hx hb dX5_checkShortReel_19 (by decide) (fun c2 => ?_) (fun c2 => ?_)
    · have h := bi_t c2 h
      cases h
      exact xx_vret B hM hS (by omega) (by omega) dX5_checkShortReel_33 rfl
    · have h := bi_f c2 h
      exact w_X5_checkShortReel_22 B _ _ _ _ _ _ (by omega) (by omega) h hM hS (lv_sub hl [] rfl)
theorem c_X5_checkShortReel {l : Launch} (hll : l.stackTraces = false) {G : GG} {A : Nat → Prop} {ad : AD} {st : XS} {r : (Nat ⊕ Unit)} {st' : XS} (h : f_X5_checkShortReel st = some (r, st')) : vx_Met l yX5_checkShortReel (Cond.code yX5_checkShortReel cX5_checkShortReel 1 none :: TG) ({ frames := 6, cells := 1, slots := 6, locals := 100 } : Room) (PX G A ad st [.ref (ad 0 0)]) (QXr G A ad (ovw (fun _ => none) r) st') (QXx G A ad (ovw (fun _ => none) r) st') 1 6 A :=
  xx_of (own := RX5) hll (by decide +kernel) rfl (Nat.le_of_ble_eq_true rfl) fun p e s m below meth c ls B hM hS hl => w_X5_checkShortReel B _ _ _ _ _ _ (Nat.le_of_ble_eq_true rfl) (Nat.le_of_ble_eq_true rfl) h hM hS hl
