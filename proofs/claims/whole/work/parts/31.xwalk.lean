set_option maxHeartbeats 4000000 in
set_option maxRecDepth 100000 in
theorem w_X0_has_16 {p : Program} {l : Launch} {e : Env} {s : State} {m : MethodId} {args : Array Value} {below : List Frame} {meth : Method} {c : Code} {G : GG} {A : Nat → Prop} {ad : AD} (B : XB G A ad p l s m args meth c cX0_has 2 RX0 (some .boolean)) {r : Int32} {st' : XS} : ∀ (st : XS) (y0 : Int32) (H : Heap) (locs : List Loc) (ls : Array Slot), f_X0_has_16 st y0 = some (r, st') → XW G A ad st H → va_S A s.heap H locs → lv_has ls 2 [] → W p l e ({ frames := 0, cells := 0, slots := 0, locals := 0 } : Room) s m args below meth c H locs 0 0 (MQ below (QX G A ad (some (.int r)) st') args s 0 0 A) (F0 m 16 ls [.int y0]) := by
  have ⟨⟨hx, hb, hr, hml, hown, hT, hlocks, hK⟩, hnt, hST, hA, hll⟩ := B
  intro st y0 H locs ls h hM hS hl
  rw [f_X0_has_16] at h
  obtain ⟨g1, h⟩ := gd_e h
  cases h
  exact xw_zret B hM hS (Nat.le_refl 0) (Nat.le_refl 0) g1 dX0_has_16
set_option maxHeartbeats 4000000 in
set_option maxRecDepth 100000 in
theorem w_X0_has {p : Program} {l : Launch} {e : Env} {s : State} {m : MethodId} {args : Array Value} {below : List Frame} {meth : Method} {c : Code} {G : GG} {A : Nat → Prop} {ad : AD} (B : XB G A ad p l s m args meth c cX0_has 2 RX0 (some .boolean)) {r : Int32} {st' : XS} : ∀ (st : XS) (x0 : Nat) (x1 : Int32) (H : Heap) (locs : List Loc) (ls : Array Slot), f_X0_has st x0 x1 = some (r, st') → XW G A ad st H → va_S A s.heap H locs → lv_has ls 2 [(0, .ref (ad 2 x0)), (1, .int x1)] → W p l e ({ frames := 0, cells := 0, slots := 0, locals := 0 } : Room) s m args below meth c H locs 0 0 (MQ below (QX G A ad (some (.int r)) st') args s 0 0 A) (F0 m 0 ls []) := by
  have ⟨⟨hx, hb, hr, hml, hown, hT, hlocks, hK⟩, hnt, hST, hA, hll⟩ := B
  intro st x0 x1 H locs ls h hM hS hl
  rw [f_X0_has] at h
  refine lv_aload_n hx hb dX0_has_0 rfl (lv_at hl 0 rfl) ?_
  obtain ⟨v1, h⟩ := gd_e h
  refine xw_get B.1 hM 2 x0 (xv_s (k := 2) (by decide) v1) (ci := 1) (N := 4) (fs := fCa ad x0) (C := RX0) (T := TX0) (fun _ => rfl) rfl inX0 0 (by decide) wf_RX0_9 rfl (v := .ref (ad 4 x0)) rfl dX0_has_1 ?_
  refine lv_iload_n hx hb dX0_has_4 rfl (lv_at hl 1 rfl) ?_
  obtain ⟨g2, h⟩ := gd_e h
  refine xw_cald B.1 hM 0 x0 (by decide) v1 g2 dX0_has_5 ?_
  refine lv_bipush (v := 45) hx hb dX0_has_6 (by decide) ?_
  refine lv_icmp_eq (tgt := 15) hx hb dX0_has_8 (by decide) (fun c3 => ?_) (fun c3 => ?_)
  · have h := bi_t c3 h
    refine lv_iconst (v := 0) hx hb dX0_has_15 (by decide) ?_
    exact w_X0_has_16 B _ _ _ _ _ h hM hS (lv_sub hl [] rfl)
  · have h := bi_f c3 h
    refine lv_iconst (v := 1) hx hb dX0_has_11 (by decide) ?_
    refine lv_goto (tgt := 16) hx hb dX0_has_12 (by decide) ?_
    exact w_X0_has_16 B _ _ _ _ _ h hM hS (lv_sub hl [] rfl)
theorem c_X0_has {l : Launch} (hll : l.stackTraces = false) {G : GG} {A : Nat → Prop} {ad : AD} {st : XS} {x0 : Nat} {x1 : Int32} {r : Int32} {st' : XS} (h : f_X0_has st x0 x1 = some (r, st')) : Met l yX0_has (Cond.code yX0_has cX0_has 2 (some .boolean) :: TG) ({ frames := 0, cells := 0, slots := 0, locals := 0 } : Room) (PX G A ad st [.ref (ad 2 x0), .int x1]) (QX G A ad (some (.int r)) st') 0 0 A :=
  xw_of (own := RX0) hll (by decide +kernel) rfl (Nat.le_of_ble_eq_true rfl) fun p e s m below meth c ls B hM hS hl => w_X0_has B _ _ _ _ _ _ h hM hS hl
set_option maxHeartbeats 4000000 in
set_option maxRecDepth 100000 in
theorem w_X0_members_23 {p : Program} {l : Launch} {e : Env} {s : State} {m : MethodId} {args : Array Value} {below : List Frame} {meth : Method} {c : Code} {G : GG} {A : Nat → Prop} {ad : AD} (B : XB G A ad p l s m args meth c cX0_members 3 RX0 (some .int)) {r : Int32} {st' : XS} {k4 : XS → Nat → Int32 → Int32 → Option (Int32 × XS)} (hk4 : ∀ (st : XS) (x0 : Nat) (x1 : Int32) (x2 : Int32) (H : Heap) (locs : List Loc) (ls : Array Slot), k4 st x0 x1 x2 = some (r, st') → XW G A ad st H → va_S A s.heap H locs → lv_has ls 3 [(0, .ref (ad 2 x0)), (1, .int x1), (2, .int x2)] → W p l e ({ frames := 1, cells := 0, slots := 0, locals := 21 } : Room) s m args below meth c H locs 0 0 (MQ below (QX G A ad (some (.int r)) st') args s 0 0 A) (F0 m 4 ls [])) : ∀ (st : XS) (x0 : Nat) (x1 : Int32) (x2 : Int32) (H : Heap) (locs : List Loc) (ls : Array Slot), f_X0_members_23 k4 st x0 x1 x2 = some (r, st') → XW G A ad st H → va_S A s.heap H locs → lv_has ls 3 [(0, .ref (ad 2 x0)), (1, .int x1), (2, .int x2)] → W p l e ({ frames := 1, cells := 0, slots := 0, locals := 21 } : Room) s m args below meth c H locs 0 0 (MQ below (QX G A ad (some (.int r)) st') args s 0 0 A) (F0 m 23 ls []) := by
  have ⟨⟨hx, hb, hr, hml, hown, hT, hlocks, hK⟩, hnt, hST, hA, hll⟩ := B
  intro st x0 x1 x2 H locs ls h hM hS hl
  rw [f_X0_members_23] at h
  refine lv_iinc (v := (x2 + 1)) (lv' := [(2, .int (x2 + 1)), (0, .ref (ad 2 x0)), (1, .int x1)]) hx hb dX0_members_23 hl (k := 2) rfl rfl (by decide) rfl (fun ls hl => ?_)
  refine lv_goto (tgt := 4) hx hb dX0_members_26 (by decide) ?_
  exact hk4 _ _ _ _ _ _ _ h hM hS (lv_sub hl [1, 2, 0] rfl)
set_option maxHeartbeats 4000000 in
set_option maxRecDepth 100000 in
theorem w_X0_members_4 {p : Program} {l : Launch} {e : Env} {s : State} {m : MethodId} {args : Array Value} {below : List Frame} {meth : Method} {c : Code} {G : GG} {A : Nat → Prop} {ad : AD} (B : XB G A ad p l s m args meth c cX0_members 3 RX0 (some .int)) {r : Int32} {st' : XS} : ∀ (n : Nat) (st : XS) (x0 : Nat) (x1 : Int32) (x2 : Int32) (H : Heap) (locs : List Loc) (ls : Array Slot), f_X0_members_4 n st x0 x1 x2 = some (r, st') → XW G A ad st H → va_S A s.heap H locs → lv_has ls 3 [(0, .ref (ad 2 x0)), (1, .int x1), (2, .int x2)] → W p l e ({ frames := 1, cells := 0, slots := 0, locals := 21 } : Room) s m args below meth c H locs 0 0 (MQ below (QX G A ad (some (.int r)) st') args s 0 0 A) (F0 m 4 ls []) := by
  have ⟨⟨hx, hb, hr, hml, hown, hT, hlocks, hK⟩, hnt, hST, hA, hll⟩ := B
  intro n
  induction n with
  | zero =>
    intro st x0 x1 x2 H locs ls h
    cases h
  | succ n ih =>
    intro st x0 x1 x2 H locs ls h hM hS hl
    rw [f_X0_members_4] at h
    refine lv_iload_n hx hb dX0_members_4 rfl (lv_at hl 2 rfl) ?_
    refine lv_iconst (v := 4) hx hb dX0_members_5 (by decide) ?_
    refine lv_icmp_ge (tgt := 29) hx hb dX0_members_6 (by decide) (fun c1 => ?_) (fun c1 => ?_)
    · have h := bi_t c1 h
      refine lv_iload_n hx hb dX0_members_29 rfl (lv_at hl 1 rfl) ?_
      cases h
      exact xw_iret B hM hS (Nat.le_refl 0) (Nat.le_refl 0) dX0_members_30
    · have h := bi_f c1 h
      refine lv_aload_n hx hb dX0_members_9 rfl (lv_at hl 0 rfl) ?_
      refine lv_iload_n hx hb dX0_members_10 rfl (lv_at hl 2 rfl) ?_
      obtain ⟨v2, h⟩ := gd_e h
      obtain ⟨r3, t4, e5, h⟩ := bd_e h
      refine xw_callV B hM hS (xw_recv (xb_vk B) hM 2 x0 (Or.inl (xv_s (k := 2) (by decide) v2)) (fun gh => ⟨_, rfl⟩) rfl) [.int x2] (n := 1) (v := (some (.int r3))) (c_X0_has B.2.2.2.2 e5) wm_RX0_24 wi_yX0_has ws_yX0_has wn_RX0 wc_yX0_has rfl rfl (by decide +kernel) ⟨Nat.le_of_ble_eq_true rfl, Nat.le_of_ble_eq_true rfl⟩ ⟨Nat.le_refl 0, Nat.le_refl 0⟩ rfl hl.1 (Nat.le_of_ble_eq_true rfl) rfl dX0_members_11 (fun H locs hM hS => ?_)
      refine lv_if_eq (tgt := 23) hx hb dX0_members_14 (by decide) (fun c6 => ?_) (fun c6 => ?_)
      · have h := bi_t c6 h
        exact w_X0_members_23 B ih _ _ _ _ _ _ _ h hM hS (lv_sub hl [0, 1, 2] rfl)
      · have h := bi_f c6 h
        refine lv_iload_n hx hb dX0_members_17 rfl (lv_at hl 1 rfl) ?_
        refine lv_iconst (v := 1) hx hb dX0_members_18 (by decide) ?_
        refine lv_iload_n hx hb dX0_members_19 rfl (lv_at hl 2 rfl) ?_
        refine lv_ishl hx hb dX0_members_20 ?_
        refine lv_ior hx hb dX0_members_21 ?_
        refine lv_istore_n (lv' := [(1, .int (x1 ||| (1 <<< (x2 &&& 31)))), (0, .ref (ad 2 x0)), (2, .int x2)]) hx hb dX0_members_22 rfl hl (by decide) rfl (fun ls hl => ?_)
        exact w_X0_members_23 B ih _ _ _ _ _ _ _ h hM hS (lv_sub hl [1, 0, 2] rfl)
set_option maxHeartbeats 4000000 in
set_option maxRecDepth 100000 in
theorem w_X0_members {p : Program} {l : Launch} {e : Env} {s : State} {m : MethodId} {args : Array Value} {below : List Frame} {meth : Method} {c : Code} {G : GG} {A : Nat → Prop} {ad : AD} (B : XB G A ad p l s m args meth c cX0_members 3 RX0 (some .int)) {r : Int32} {st' : XS} : ∀ (st : XS) (x0 : Nat) (H : Heap) (locs : List Loc) (ls : Array Slot), f_X0_members st x0 = some (r, st') → XW G A ad st H → va_S A s.heap H locs → lv_has ls 3 [(0, .ref (ad 2 x0))] → W p l e ({ frames := 1, cells := 0, slots := 0, locals := 21 } : Room) s m args below meth c H locs 0 0 (MQ below (QX G A ad (some (.int r)) st') args s 0 0 A) (F0 m 0 ls []) := by
  have ⟨⟨hx, hb, hr, hml, hown, hT, hlocks, hK⟩, hnt, hST, hA, hll⟩ := B
  intro st x0 H locs ls h hM hS hl
  rw [f_X0_members] at h
  refine lv_iconst (v := 0) hx hb dX0_members_0 (by decide) ?_
  refine lv_istore_n (lv' := [(1, .int 0), (0, .ref (ad 2 x0))]) hx hb dX0_members_1 rfl hl (by decide) rfl (fun ls hl => ?_)
  refine lv_iconst (v := 0) hx hb dX0_members_2 (by decide) ?_
  refine lv_istore_n (lv' := [(2, .int 0), (1, .int 0), (0, .ref (ad 2 x0))]) hx hb dX0_members_3 rfl hl (by decide) rfl (fun ls hl => ?_)
  exact w_X0_members_4 B FU _ _ _ _ _ _ _ h hM hS (lv_sub hl [2, 1, 0] rfl)
theorem c_X0_members {l : Launch} (hll : l.stackTraces = false) {G : GG} {A : Nat → Prop} {ad : AD} {st : XS} {x0 : Nat} {r : Int32} {st' : XS} (h : f_X0_members st x0 = some (r, st')) : Met l yX0_members (Cond.code yX0_members cX0_members 3 (some .int) :: TG) ({ frames := 1, cells := 0, slots := 0, locals := 21 } : Room) (PX G A ad st [.ref (ad 2 x0)]) (QX G A ad (some (.int r)) st') 0 0 A :=
  xw_of (own := RX0) hll (by decide +kernel) rfl (Nat.le_of_ble_eq_true rfl) fun p e s m below meth c ls B hM hS hl => w_X0_members B _ _ _ _ _ h hM hS hl
set_option maxHeartbeats 4000000 in
set_option maxRecDepth 100000 in
theorem w_X0_onlyMember_26 {p : Program} {l : Launch} {e : Env} {s : State} {m : MethodId} {args : Array Value} {below : List Frame} {meth : Method} {c : Code} {G : GG} {A : Nat → Prop} {ad : AD} (B : XB G A ad p l s m args meth c cX0_onlyMember 3 RX0 (some .int)) {r : Int32} {st' : XS} {k4 : XS → Nat → Int32 → Int32 → Option (Int32 × XS)} (hk4 : ∀ (st : XS) (x0 : Nat) (x1 : Int32) (x2 : Int32) (H : Heap) (locs : List Loc) (ls : Array Slot), k4 st x0 x1 x2 = some (r, st') → XW G A ad st H → va_S A s.heap H locs → lv_has ls 3 [(0, .ref (ad 2 x0)), (1, .int x1), (2, .int x2)] → W p l e ({ frames := 1, cells := 0, slots := 0, locals := 21 } : Room) s m args below meth c H locs 0 0 (MQ below (QX G A ad (some (.int r)) st') args s 0 0 A) (F0 m 4 ls [])) : ∀ (st : XS) (x0 : Nat) (x1 : Int32) (x2 : Int32) (H : Heap) (locs : List Loc) (ls : Array Slot), f_X0_onlyMember_26 k4 st x0 x1 x2 = some (r, st') → XW G A ad st H → va_S A s.heap H locs → lv_has ls 3 [(0, .ref (ad 2 x0)), (1, .int x1), (2, .int x2)] → W p l e ({ frames := 1, cells := 0, slots := 0, locals := 21 } : Room) s m args below meth c H locs 0 0 (MQ below (QX G A ad (some (.int r)) st') args s 0 0 A) (F0 m 26 ls []) := by
  have ⟨⟨hx, hb, hr, hml, hown, hT, hlocks, hK⟩, hnt, hST, hA, hll⟩ := B
  intro st x0 x1 x2 H locs ls h hM hS hl
  rw [f_X0_onlyMember_26] at h
  refine lv_iinc (v := (x2 + 1)) (lv' := [(2, .int (x2 + 1)), (0, .ref (ad 2 x0)), (1, .int x1)]) hx hb dX0_onlyMember_26 hl (k := 2) rfl rfl (by decide) rfl (fun ls hl => ?_)
  refine lv_goto (tgt := 4) hx hb dX0_onlyMember_29 (by decide) ?_
  exact hk4 _ _ _ _ _ _ _ h hM hS (lv_sub hl [1, 2, 0] rfl)
set_option maxHeartbeats 4000000 in
set_option maxRecDepth 100000 in
theorem w_X0_onlyMember_4 {p : Program} {l : Launch} {e : Env} {s : State} {m : MethodId} {args : Array Value} {below : List Frame} {meth : Method} {c : Code} {G : GG} {A : Nat → Prop} {ad : AD} (B : XB G A ad p l s m args meth c cX0_onlyMember 3 RX0 (some .int)) {r : Int32} {st' : XS} : ∀ (n : Nat) (st : XS) (x0 : Nat) (x1 : Int32) (x2 : Int32) (H : Heap) (locs : List Loc) (ls : Array Slot), f_X0_onlyMember_4 n st x0 x1 x2 = some (r, st') → XW G A ad st H → va_S A s.heap H locs → lv_has ls 3 [(0, .ref (ad 2 x0)), (1, .int x1), (2, .int x2)] → W p l e ({ frames := 1, cells := 0, slots := 0, locals := 21 } : Room) s m args below meth c H locs 0 0 (MQ below (QX G A ad (some (.int r)) st') args s 0 0 A) (F0 m 4 ls []) := by
  have ⟨⟨hx, hb, hr, hml, hown, hT, hlocks, hK⟩, hnt, hST, hA, hll⟩ := B
  intro n
  induction n with
  | zero =>
    intro st x0 x1 x2 H locs ls h
    cases h
  | succ n ih =>
    intro st x0 x1 x2 H locs ls h hM hS hl
    rw [f_X0_onlyMember_4] at h
    refine lv_iload_n hx hb dX0_onlyMember_4 rfl (lv_at hl 2 rfl) ?_
    refine lv_iconst (v := 4) hx hb dX0_onlyMember_5 (by decide) ?_
    refine lv_icmp_ge (tgt := 32) hx hb dX0_onlyMember_6 (by decide) (fun c1 => ?_) (fun c1 => ?_)
    · have h := bi_t c1 h
      refine lv_iload_n hx hb dX0_onlyMember_32 rfl (lv_at hl 1 rfl) ?_
      cases h
      exact xw_iret B hM hS (Nat.le_refl 0) (Nat.le_refl 0) dX0_onlyMember_33
    · have h := bi_f c1 h
      refine lv_aload_n hx hb dX0_onlyMember_9 rfl (lv_at hl 0 rfl) ?_
      refine lv_iload_n hx hb dX0_onlyMember_10 rfl (lv_at hl 2 rfl) ?_
      obtain ⟨v2, h⟩ := gd_e h
      obtain ⟨r3, t4, e5, h⟩ := bd_e h
      refine xw_callV B hM hS (xw_recv (xb_vk B) hM 2 x0 (Or.inl (xv_s (k := 2) (by decide) v2)) (fun gh => ⟨_, rfl⟩) rfl) [.int x2] (n := 1) (v := (some (.int r3))) (c_X0_has B.2.2.2.2 e5) wm_RX0_24 wi_yX0_has ws_yX0_has wn_RX0 wc_yX0_has rfl rfl (by decide +kernel) ⟨Nat.le_of_ble_eq_true rfl, Nat.le_of_ble_eq_true rfl⟩ ⟨Nat.le_refl 0, Nat.le_refl 0⟩ rfl hl.1 (Nat.le_of_ble_eq_true rfl) rfl dX0_onlyMember_11 (fun H locs hM hS => ?_)
      refine lv_if_eq (tgt := 26) hx hb dX0_onlyMember_14 (by decide) (fun c6 => ?_) (fun c6 => ?_)
      · have h := bi_t c6 h
        exact w_X0_onlyMember_26 B ih _ _ _ _ _ _ _ h hM hS (lv_sub hl [0, 1, 2] rfl)
      · have h := bi_f c6 h
        refine lv_iload_n hx hb dX0_onlyMember_17 rfl (lv_at hl 1 rfl) ?_
        refine lv_iconst (v := (-1)) hx hb dX0_onlyMember_18 (by decide) ?_
        refine lv_icmp_eq (tgt := 24) hx hb dX0_onlyMember_19 (by decide) (fun c7 => ?_) (fun c7 => ?_)
        · have h := bi_t c7 h
          refine lv_iload_n hx hb dX0_onlyMember_24 rfl (lv_at hl 2 rfl) ?_
          refine lv_istore_n (lv' := [(1, .int x2), (0, .ref (ad 2 x0)), (2, .int x2)]) hx hb dX0_onlyMember_25 rfl hl (by decide) rfl (fun ls hl => ?_)
          exact w_X0_onlyMember_26 B ih _ _ _ _ _ _ _ h hM hS (lv_sub hl [1, 0, 2] rfl)
        · have h := bi_f c7 h
          refine lv_iconst (v := (-1)) hx hb dX0_onlyMember_22 (by decide) ?_
          cases h
          exact xw_iret B hM hS (Nat.le_refl 0) (Nat.le_refl 0) dX0_onlyMember_23
set_option maxHeartbeats 4000000 in
set_option maxRecDepth 100000 in
theorem w_X0_onlyMember {p : Program} {l : Launch} {e : Env} {s : State} {m : MethodId} {args : Array Value} {below : List Frame} {meth : Method} {c : Code} {G : GG} {A : Nat → Prop} {ad : AD} (B : XB G A ad p l s m args meth c cX0_onlyMember 3 RX0 (some .int)) {r : Int32} {st' : XS} : ∀ (st : XS) (x0 : Nat) (H : Heap) (locs : List Loc) (ls : Array Slot), f_X0_onlyMember st x0 = some (r, st') → XW G A ad st H → va_S A s.heap H locs → lv_has ls 3 [(0, .ref (ad 2 x0))] → W p l e ({ frames := 1, cells := 0, slots := 0, locals := 21 } : Room) s m args below meth c H locs 0 0 (MQ below (QX G A ad (some (.int r)) st') args s 0 0 A) (F0 m 0 ls []) := by
  have ⟨⟨hx, hb, hr, hml, hown, hT, hlocks, hK⟩, hnt, hST, hA, hll⟩ := B
  intro st x0 H locs ls h hM hS hl
  rw [f_X0_onlyMember] at h
  refine lv_iconst (v := (-1)) hx hb dX0_onlyMember_0 (by decide) ?_
  refine lv_istore_n (lv' := [(1, .int (-1)), (0, .ref (ad 2 x0))]) hx hb dX0_onlyMember_1 rfl hl (by decide) rfl (fun ls hl => ?_)
  refine lv_iconst (v := 0) hx hb dX0_onlyMember_2 (by decide) ?_
  refine lv_istore_n (lv' := [(2, .int 0), (1, .int (-1)), (0, .ref (ad 2 x0))]) hx hb dX0_onlyMember_3 rfl hl (by decide) rfl (fun ls hl => ?_)
  exact w_X0_onlyMember_4 B FU _ _ _ _ _ _ _ h hM hS (lv_sub hl [2, 1, 0] rfl)
theorem c_X0_onlyMember {l : Launch} (hll : l.stackTraces = false) {G : GG} {A : Nat → Prop} {ad : AD} {st : XS} {x0 : Nat} {r : Int32} {st' : XS} (h : f_X0_onlyMember st x0 = some (r, st')) : Met l yX0_onlyMember (Cond.code yX0_onlyMember cX0_onlyMember 3 (some .int) :: TG) ({ frames := 1, cells := 0, slots := 0, locals := 21 } : Room) (PX G A ad st [.ref (ad 2 x0)]) (QX G A ad (some (.int r)) st') 0 0 A :=
  xw_of (own := RX0) hll (by decide +kernel) rfl (Nat.le_of_ble_eq_true rfl) fun p e s m below meth c ls B hM hS hl => w_X0_onlyMember B _ _ _ _ _ h hM hS hl
set_option maxHeartbeats 4000000 in
set_option maxRecDepth 100000 in
theorem w_X0_areEdgesOfThoseIn_39 {p : Program} {l : Launch} {e : Env} {s : State} {m : MethodId} {args : Array Value} {below : List Frame} {meth : Method} {c : Code} {G : GG} {A : Nat → Prop} {ad : AD} (B : XB G A ad p l s m args meth c cX0_areEdgesOfThoseIn 2 RX0 (some .boolean)) {r : Int32} {st' : XS} {k2 : XS → Nat → Int32 → Option (Int32 × XS)} (hk2 : ∀ (st : XS) (x0 : Nat) (x1 : Int32) (H : Heap) (locs : List Loc) (ls : Array Slot), k2 st x0 x1 = some (r, st') → XW G A ad st H → va_S A s.heap H locs → lv_has ls 2 [(0, .ref (ad 2 x0)), (1, .int x1)] → W p l e ({ frames := 1, cells := 0, slots := 0, locals := 21 } : Room) s m args below meth c H locs 0 0 (MQ below (QX G A ad (some (.int r)) st') args s 0 0 A) (F0 m 2 ls [])) : ∀ (st : XS) (x0 : Nat) (x1 : Int32) (H : Heap) (locs : List Loc) (ls : Array Slot), f_X0_areEdgesOfThoseIn_39 k2 st x0 x1 = some (r, st') → XW G A ad st H → va_S A s.heap H locs → lv_has ls 2 [(0, .ref (ad 2 x0)), (1, .int x1)] → W p l e ({ frames := 1, cells := 0, slots := 0, locals := 21 } : Room) s m args below meth c H locs 0 0 (MQ below (QX G A ad (some (.int r)) st') args s 0 0 A) (F0 m 39 ls []) := by
  have ⟨⟨hx, hb, hr, hml, hown, hT, hlocks, hK⟩, hnt, hST, hA, hll⟩ := B
  intro st x0 x1 H locs ls h hM hS hl
  rw [f_X0_areEdgesOfThoseIn_39] at h
  refine lv_iinc (v := (x1 + 1)) (lv' := [(1, .int (x1 + 1)), (0, .ref (ad 2 x0))]) hx hb dX0_areEdgesOfThoseIn_39 hl (k := 1) rfl rfl (by decide) rfl (fun ls hl => ?_)
  refine lv_goto (tgt := 2) hx hb dX0_areEdgesOfThoseIn_42 (by decide) ?_
  exact hk2 _ _ _ _ _ _ h hM hS (lv_sub hl [1, 0] rfl)
set_option maxHeartbeats 4000000 in
set_option maxRecDepth 100000 in
theorem w_X0_areEdgesOfThoseIn_37 {p : Program} {l : Launch} {e : Env} {s : State} {m : MethodId} {args : Array Value} {below : List Frame} {meth : Method} {c : Code} {G : GG} {A : Nat → Prop} {ad : AD} (B : XB G A ad p l s m args meth c cX0_areEdgesOfThoseIn 2 RX0 (some .boolean)) {r : Int32} {st' : XS} : ∀ (st : XS) (H : Heap) (locs : List Loc) (ls : Array Slot), f_X0_areEdgesOfThoseIn_37 st = some (r, st') → XW G A ad st H → va_S A s.heap H locs → lv_has ls 2 [] → W p l e ({ frames := 1, cells := 0, slots := 0, locals := 21 } : Room) s m args below meth c H locs 0 0 (MQ below (QX G A ad (some (.int r)) st') args s 0 0 A) (F0 m 37 ls []) := by
  have ⟨⟨hx, hb, hr, hml, hown, hT, hlocks, hK⟩, hnt, hST, hA, hll⟩ := B
  intro st  H locs ls h hM hS hl
  rw [f_X0_areEdgesOfThoseIn_37] at h
  refine lv_iconst (v := 0) hx hb dX0_areEdgesOfThoseIn_37 (by decide) ?_
  cases h
  exact xw_zret B hM hS (Nat.le_refl 0) (Nat.le_refl 0) (by rfl) dX0_areEdgesOfThoseIn_38
set_option maxHeartbeats 4000000 in
set_option maxRecDepth 100000 in
theorem w_X0_areEdgesOfThoseIn_2 {p : Program} {l : Launch} {e : Env} {s : State} {m : MethodId} {args : Array Value} {below : List Frame} {meth : Method} {c : Code} {G : GG} {A : Nat → Prop} {ad : AD} (B : XB G A ad p l s m args meth c cX0_areEdgesOfThoseIn 2 RX0 (some .boolean)) {r : Int32} {st' : XS} : ∀ (n : Nat) (st : XS) (x0 : Nat) (x1 : Int32) (H : Heap) (locs : List Loc) (ls : Array Slot), f_X0_areEdgesOfThoseIn_2 n st x0 x1 = some (r, st') → XW G A ad st H → va_S A s.heap H locs → lv_has ls 2 [(0, .ref (ad 2 x0)), (1, .int x1)] → W p l e ({ frames := 1, cells := 0, slots := 0, locals := 21 } : Room) s m args below meth c H locs 0 0 (MQ below (QX G A ad (some (.int r)) st') args s 0 0 A) (F0 m 2 ls []) := by
  have ⟨⟨hx, hb, hr, hml, hown, hT, hlocks, hK⟩, hnt, hST, hA, hll⟩ := B
  intro n
  induction n with
  | zero =>
    intro st x0 x1 H locs ls h
    cases h
  | succ n ih =>
    intro st x0 x1 H locs ls h hM hS hl
    rw [f_X0_areEdgesOfThoseIn_2] at h
    refine lv_iload_n hx hb dX0_areEdgesOfThoseIn_2 rfl (lv_at hl 1 rfl) ?_
    refine lv_iconst (v := 4) hx hb dX0_areEdgesOfThoseIn_3 (by decide) ?_
    refine lv_icmp_ge (tgt := 45) hx hb dX0_areEdgesOfThoseIn_4 (by decide) (fun c1 => ?_) (fun c1 => ?_)
    · have h := bi_t c1 h
      refine lv_iconst (v := 1) hx hb dX0_areEdgesOfThoseIn_45 (by decide) ?_
      cases h
      exact xw_zret B hM hS (Nat.le_refl 0) (Nat.le_refl 0) (by rfl) dX0_areEdgesOfThoseIn_46
    · have h := bi_f c1 h
      refine lv_aload_n hx hb dX0_areEdgesOfThoseIn_7 rfl (lv_at hl 0 rfl) ?_
      refine lv_iload_n hx hb dX0_areEdgesOfThoseIn_8 rfl (lv_at hl 1 rfl) ?_
      obtain ⟨v2, h⟩ := gd_e h
      obtain ⟨r3, t4, e5, h⟩ := bd_e h
      refine xw_callV B hM hS (xw_recv (xb_vk B) hM 2 x0 (Or.inl (xv_s (k := 2) (by decide) v2)) (fun gh => ⟨_, rfl⟩) rfl) [.int x1] (n := 1) (v := (some (.int r3))) (c_X0_has B.2.2.2.2 e5) wm_RX0_24 wi_yX0_has ws_yX0_has wn_RX0 wc_yX0_has rfl rfl (by decide +kernel) ⟨Nat.le_of_ble_eq_true rfl, Nat.le_of_ble_eq_true rfl⟩ ⟨Nat.le_refl 0, Nat.le_refl 0⟩ rfl hl.1 (Nat.le_of_ble_eq_true rfl) rfl dX0_areEdgesOfThoseIn_9 (fun H locs hM hS => ?_)
      refine lv_if_ne (tgt := 39) hx hb dX0_areEdgesOfThoseIn_12 (by decide) (fun c6 => ?_) (fun c6 => ?_)
      · have h := bi_f c6 h
        exact w_X0_areEdgesOfThoseIn_39 B ih _ _ _ _ _ _ h hM hS (lv_sub hl [0, 1] rfl)
      · have h := bi_t c6 h
        refine lv_aload_n hx hb dX0_areEdgesOfThoseIn_15 rfl (lv_at hl 0 rfl) ?_
        obtain ⟨v7, h⟩ := gd_e h
        refine xw_get B.1 hM 2 x0 (xv_s (k := 2) (by decide) v7) (ci := 1) (N := 4) (fs := fCa ad x0) (C := RX0) (T := TX0) (fun _ => rfl) rfl inX0 2 (by decide) wf_RX0_18 rfl (v := .ref (ad 6 x0)) rfl dX0_areEdgesOfThoseIn_16 ?_
        refine lv_iload_n hx hb dX0_areEdgesOfThoseIn_19 rfl (lv_at hl 1 rfl) ?_
        obtain ⟨g8, h⟩ := gd_e h
        refine xw_cald B.1 hM 2 x0 (by decide) v7 g8 dX0_areEdgesOfThoseIn_20 ?_
        refine lv_bipush (v := 45) hx hb dX0_areEdgesOfThoseIn_21 (by decide) ?_
        refine lv_icmp_ne (tgt := 37) hx hb dX0_areEdgesOfThoseIn_23 (by decide) (fun c9 => ?_) (fun c9 => ?_)
        · have h := bi_f c9 h
          exact w_X0_areEdgesOfThoseIn_37 B _ _ _ _ h hM hS (lv_sub hl [] rfl)
        · have h := bi_t c9 h
          refine lv_aload_n hx hb dX0_areEdgesOfThoseIn_26 rfl (lv_at hl 0 rfl) ?_
          refine xw_get B.1 hM 2 x0 (xv_s (k := 2) (by decide) v7) (ci := 1) (N := 4) (fs := fCa ad x0) (C := RX0) (T := TX0) (fun _ => rfl) rfl inX0 3 (by decide) wf_RX0_21 rfl (v := .ref (ad 7 x0)) rfl dX0_areEdgesOfThoseIn_27 ?_
          refine lv_iload_n hx hb dX0_areEdgesOfThoseIn_30 rfl (lv_at hl 1 rfl) ?_
          obtain ⟨g10, h⟩ := gd_e h
          refine xw_cald B.1 hM 3 x0 (by decide) v7 g10 dX0_areEdgesOfThoseIn_31 ?_
          refine lv_bipush (v := 45) hx hb dX0_areEdgesOfThoseIn_32 (by decide) ?_
          refine lv_icmp_eq (tgt := 39) hx hb dX0_areEdgesOfThoseIn_34 (by decide) (fun c11 => ?_) (fun c11 => ?_)
          · have h := bi_t c11 h
            exact w_X0_areEdgesOfThoseIn_39 B ih _ _ _ _ _ _ h hM hS (lv_sub hl [0, 1] rfl)
          · have h := bi_f c11 h
            exact w_X0_areEdgesOfThoseIn_37 B _ _ _ _ h hM hS (lv_sub hl [] rfl)
set_option maxHeartbeats 4000000 in
set_option maxRecDepth 100000 in
theorem w_X0_areEdgesOfThoseIn {p : Program} {l : Launch} {e : Env} {s : State} {m : MethodId} {args : Array Value} {below : List Frame} {meth : Method} {c : Code} {G : GG} {A : Nat → Prop} {ad : AD} (B : XB G A ad p l s m args meth c cX0_areEdgesOfThoseIn 2 RX0 (some .boolean)) {r : Int32} {st' : XS} : ∀ (st : XS) (x0 : Nat) (H : Heap) (locs : List Loc) (ls : Array Slot), f_X0_areEdgesOfThoseIn st x0 = some (r, st') → XW G A ad st H → va_S A s.heap H locs → lv_has ls 2 [(0, .ref (ad 2 x0))] → W p l e ({ frames := 1, cells := 0, slots := 0, locals := 21 } : Room) s m args below meth c H locs 0 0 (MQ below (QX G A ad (some (.int r)) st') args s 0 0 A) (F0 m 0 ls []) := by
  have ⟨⟨hx, hb, hr, hml, hown, hT, hlocks, hK⟩, hnt, hST, hA, hll⟩ := B
  intro st x0 H locs ls h hM hS hl
  rw [f_X0_areEdgesOfThoseIn] at h
  refine lv_iconst (v := 0) hx hb dX0_areEdgesOfThoseIn_0 (by decide) ?_
  refine lv_istore_n (lv' := [(1, .int 0), (0, .ref (ad 2 x0))]) hx hb dX0_areEdgesOfThoseIn_1 rfl hl (by decide) rfl (fun ls hl => ?_)
  exact w_X0_areEdgesOfThoseIn_2 B FU _ _ _ _ _ _ h hM hS (lv_sub hl [1, 0] rfl)
theorem c_X0_areEdgesOfThoseIn {l : Launch} (hll : l.stackTraces = false) {G : GG} {A : Nat → Prop} {ad : AD} {st : XS} {x0 : Nat} {r : Int32} {st' : XS} (h : f_X0_areEdgesOfThoseIn st x0 = some (r, st')) : Met l yX0_areEdgesOfThoseIn (Cond.code yX0_areEdgesOfThoseIn cX0_areEdgesOfThoseIn 2 (some .boolean) :: TG) ({ frames := 1, cells := 0, slots := 0, locals := 21 } : Room) (PX G A ad st [.ref (ad 2 x0)]) (QX G A ad (some (.int r)) st') 0 0 A :=
  xw_of (own := RX0) hll (by decide +kernel) rfl (Nat.le_of_ble_eq_true rfl) fun p e s m below meth c ls B hM hS hl => w_X0_areEdgesOfThoseIn B _ _ _ _ _ h hM hS hl
set_option maxHeartbeats 4000000 in
set_option maxRecDepth 100000 in
theorem w_X1_kind_32 {p : Program} {l : Launch} {e : Env} {s : State} {m : MethodId} {args : Array Value} {below : List Frame} {meth : Method} {c : Code} {G : GG} {A : Nat → Prop} {ad : AD} (B : XB G A ad p l s m args meth c cX1_kind 1 RX1 (some .char)) {r : Int32} {st' : XS} : ∀ (st : XS) (y0 : Int32) (H : Heap) (locs : List Loc) (ls : Array Slot), f_X1_kind_32 st y0 = some (r, st') → XW G A ad st H → va_S A s.heap H locs → lv_has ls 1 [] → W p l e ({ frames := 0, cells := 0, slots := 0, locals := 0 } : Room) s m args below meth c H locs 0 0 (MQ below (QX G A ad (some (.int r)) st') args s 0 0 A) (F0 m 32 ls [.int y0]) := by
  have ⟨⟨hx, hb, hr, hml, hown, hT, hlocks, hK⟩, hnt, hST, hA, hll⟩ := B
  intro st y0 H locs ls h hM hS hl
  rw [f_X1_kind_32] at h
  obtain ⟨g1, h⟩ := gd_e h
  cases h
  exact xw_zret B hM hS (Nat.le_refl 0) (Nat.le_refl 0) g1 dX1_kind_32
set_option maxHeartbeats 4000000 in
set_option maxRecDepth 100000 in
theorem w_X1_kind_28 {p : Program} {l : Launch} {e : Env} {s : State} {m : MethodId} {args : Array Value} {below : List Frame} {meth : Method} {c : Code} {G : GG} {A : Nat → Prop} {ad : AD} (B : XB G A ad p l s m args meth c cX1_kind 1 RX1 (some .char)) {r : Int32} {st' : XS} : ∀ (st : XS) (x0 : Nat) (H : Heap) (locs : List Loc) (ls : Array Slot), f_X1_kind_28 st x0 = some (r, st') → XW G A ad st H → va_S A s.heap H locs → lv_has ls 1 [(0, .ref (ad 8 x0))] → W p l e ({ frames := 0, cells := 0, slots := 0, locals := 0 } : Room) s m args below meth c H locs 0 0 (MQ below (QX G A ad (some (.int r)) st') args s 0 0 A) (F0 m 28 ls []) := by
  have ⟨⟨hx, hb, hr, hml, hown, hT, hlocks, hK⟩, hnt, hST, hA, hll⟩ := B
  intro st x0 H locs ls h hM hS hl
  rw [f_X1_kind_28] at h
  refine lv_aload_n hx hb dX1_kind_28 rfl (lv_at hl 0 rfl) ?_
  obtain ⟨v1, h⟩ := gd_e h
  refine xw_get B.1 hM 8 x0 (xv_n v1) (ci := 2) (N := 3) (fs := fNo ad st x0) (C := RX1) (T := TX1) (fun _ => rfl) rfl inX1 2 (by decide) wf_RX1_7 rfl (v := .int (xF st 3 x0 2)) rfl dX1_kind_29 ?_
  exact w_X1_kind_32 B _ _ _ _ _ h hM hS (lv_sub hl [] rfl)
set_option maxHeartbeats 4000000 in
set_option maxRecDepth 100000 in
theorem w_X1_kind {p : Program} {l : Launch} {e : Env} {s : State} {m : MethodId} {args : Array Value} {below : List Frame} {meth : Method} {c : Code} {G : GG} {A : Nat → Prop} {ad : AD} (B : XB G A ad p l s m args meth c cX1_kind 1 RX1 (some .char)) {r : Int32} {st' : XS} : ∀ (st : XS) (x0 : Nat) (H : Heap) (locs : List Loc) (ls : Array Slot), f_X1_kind st x0 = some (r, st') → XW G A ad st H → va_S A s.heap H locs → lv_has ls 1 [(0, .ref (ad 8 x0))] → W p l e ({ frames := 0, cells := 0, slots := 0, locals := 0 } : Room) s m args below meth c H locs 0 0 (MQ below (QX G A ad (some (.int r)) st') args s 0 0 A) (F0 m 0 ls []) := by
  have ⟨⟨hx, hb, hr, hml, hown, hT, hlocks, hK⟩, hnt, hST, hA, hll⟩ := B
  intro st x0 H locs ls h hM hS hl
  rw [f_X1_kind] at h
  refine lv_aload_n hx hb dX1_kind_0 rfl (lv_at hl 0 rfl) ?_
  obtain ⟨v1, h⟩ := gd_e h
  refine xw_get B.1 hM 8 x0 (xv_n v1) (ci := 2) (N := 3) (fs := fNo ad st x0) (C := RX1) (T := TX1) (fun _ => rfl) rfl inX1 2 (by decide) wf_RX1_7 rfl (v := .int (xF st 3 x0 2)) rfl dX1_kind_1 ?_
  refine lv_bipush (v := 111) hx hb dX1_kind_4 (by decide) ?_
  refine lv_icmp_ne (tgt := 28) hx hb dX1_kind_6 (by decide) (fun c2 => ?_) (fun c2 => ?_)
  · have h := bi_f c2 h
    exact w_X1_kind_28 B _ _ _ _ _ h hM hS (lv_sub hl [0] rfl)
  · have h := bi_t c2 h
    refine lv_aload_n hx hb dX1_kind_9 rfl (lv_at hl 0 rfl) ?_
    refine xw_get B.1 hM 8 x0 (xv_n v1) (ci := 2) (N := 3) (fs := fNo ad st x0) (C := RX1) (T := TX1) (fun _ => rfl) rfl inX1 1 (by decide) wf_RX1_23 rfl (v := .int (xF st 3 x0 1)) rfl dX1_kind_10 ?_
    refine lv_aload_n hx hb dX1_kind_13 rfl (lv_at hl 0 rfl) ?_
    refine xw_get B.1 hM 8 x0 (xv_n v1) (ci := 2) (N := 3) (fs := fNo ad st x0) (C := RX1) (T := TX1) (fun _ => rfl) rfl inX1 0 (by decide) wf_RX1_13 rfl (v := .ref (ad 1 (xU st x0))) rfl dX1_kind_14 ?_
    obtain ⟨v3, h⟩ := gd_e h
    refine xw_get B.1 hM 1 (xU st x0) (xv_s (k := 1) (by decide) v3) (ci := 5) (N := 12) (fs := fSh ad st (xU st x0)) (C := RX4) (T := TX4) (fun _ => rfl) rfl inX4 6 (by decide) wf_RX1_17 rfl (v := .int (xF st 1 (xU st x0) 6)) rfl dX1_kind_17 ?_
    refine lv_icmp_eq (tgt := 28) hx hb dX1_kind_20 (by decide) (fun c4 => ?_) (fun c4 => ?_)
    · have h := bi_t c4 h
      exact w_X1_kind_28 B _ _ _ _ _ h hM hS (lv_sub hl [0] rfl)
    · have h := bi_f c4 h
      refine lv_bipush (v := 115) hx hb dX1_kind_23 (by decide) ?_
      refine lv_goto (tgt := 32) hx hb dX1_kind_25 (by decide) ?_
      exact w_X1_kind_32 B _ _ _ _ _ h hM hS (lv_sub hl [] rfl)
theorem c_X1_kind {l : Launch} (hll : l.stackTraces = false) {G : GG} {A : Nat → Prop} {ad : AD} {st : XS} {x0 : Nat} {r : Int32} {st' : XS} (h : f_X1_kind st x0 = some (r, st')) : Met l yX1_kind (Cond.code yX1_kind cX1_kind 1 (some .char) :: TG) ({ frames := 0, cells := 0, slots := 0, locals := 0 } : Room) (PX G A ad st [.ref (ad 8 x0)]) (QX G A ad (some (.int r)) st') 0 0 A :=
  xw_of (own := RX1) hll (by decide +kernel) rfl (Nat.le_of_ble_eq_true rfl) fun p e s m below meth c ls B hM hS hl => w_X1_kind B _ _ _ _ _ h hM hS hl
set_option maxHeartbeats 4000000 in
set_option maxRecDepth 100000 in
theorem w_X2_cell {p : Program} {l : Launch} {e : Env} {s : State} {m : MethodId} {args : Array Value} {below : List Frame} {meth : Method} {c : Code} {G : GG} {A : Nat → Prop} {ad : AD} (B : XB G A ad p l s m args meth c cX2_cell 2 RX2 (some .int)) {r : Int32} {st' : XS} : ∀ (st : XS) (x0 : Int32) (x1 : Int32) (H : Heap) (locs : List Loc) (ls : Array Slot), f_X2_cell st x0 x1 = some (r, st') → XW G A ad st H → va_S A s.heap H locs → lv_has ls 2 [(0, .int x0), (1, .int x1)] → W p l e ({ frames := 0, cells := 0, slots := 0, locals := 0 } : Room) s m args below meth c H locs 0 0 (MQ below (QX G A ad (some (.int r)) st') args s 0 0 A) (F0 m 0 ls []) := by
  have ⟨⟨hx, hb, hr, hml, hown, hT, hlocks, hK⟩, hnt, hST, hA, hll⟩ := B
  intro st x0 x1 H locs ls h hM hS hl
  rw [f_X2_cell] at h
  refine lv_iload_n hx hb dX2_cell_0 rfl (lv_at hl 0 rfl) ?_
  refine lv_bipush (v := 6) hx hb dX2_cell_1 (by decide) ?_
  refine lv_imul hx hb dX2_cell_3 ?_
  refine lv_iload_n hx hb dX2_cell_4 rfl (lv_at hl 1 rfl) ?_
  refine lv_iadd hx hb dX2_cell_5 ?_
  cases h
  exact xw_iret B hM hS (Nat.le_refl 0) (Nat.le_refl 0) dX2_cell_6
theorem c_X2_cell {l : Launch} (hll : l.stackTraces = false) {G : GG} {A : Nat → Prop} {ad : AD} {st : XS} {x0 : Int32} {x1 : Int32} {r : Int32} {st' : XS} (h : f_X2_cell st x0 x1 = some (r, st')) : Met l yX2_cell (Cond.code yX2_cell cX2_cell 2 (some .int) :: TG) ({ frames := 0, cells := 0, slots := 0, locals := 0 } : Room) (PX G A ad st [.int x0, .int x1]) (QX G A ad (some (.int r)) st') 0 0 A :=
  xw_of (own := RX2) hll (by decide +kernel) rfl (Nat.le_of_ble_eq_true rfl) fun p e s m below meth c ls B hM hS hl => w_X2_cell B _ _ _ _ _ _ h hM hS hl
set_option maxHeartbeats 4000000 in
set_option maxRecDepth 100000 in
theorem w_X5_isAcrossLine_34 {p : Program} {l : Launch} {e : Env} {s : State} {m : MethodId} {args : Array Value} {below : List Frame} {meth : Method} {c : Code} {G : GG} {A : Nat → Prop} {ad : AD} (B : XB G A ad p l s m args meth c cX5_isAcrossLine 2 RX5 (some .boolean)) {r : Int32} {st' : XS} : ∀ (st : XS) (y0 : Int32) (H : Heap) (locs : List Loc) (ls : Array Slot), f_X5_isAcrossLine_34 st y0 = some (r, st') → XW G A ad st H → va_S A s.heap H locs → lv_has ls 2 [] → W p l e ({ frames := 0, cells := 0, slots := 0, locals := 0 } : Room) s m args below meth c H locs 0 0 (MQ below (QX G A ad (some (.int r)) st') args s 0 0 A) (F0 m 34 ls [.int y0]) := by
  have ⟨⟨hx, hb, hr, hml, hown, hT, hlocks, hK⟩, hnt, hST, hA, hll⟩ := B
  intro st y0 H locs ls h hM hS hl
  rw [f_X5_isAcrossLine_34] at h
  obtain ⟨g1, h⟩ := gd_e h
  cases h
  exact xw_zret B hM hS (Nat.le_refl 0) (Nat.le_refl 0) g1 dX5_isAcrossLine_34
set_option maxHeartbeats 4000000 in
set_option maxRecDepth 100000 in
theorem w_X5_isAcrossLine_33 {p : Program} {l : Launch} {e : Env} {s : State} {m : MethodId} {args : Array Value} {below : List Frame} {meth : Method} {c : Code} {G : GG} {A : Nat → Prop} {ad : AD} (B : XB G A ad p l s m args meth c cX5_isAcrossLine 2 RX5 (some .boolean)) {r : Int32} {st' : XS} : ∀ (st : XS) (H : Heap) (locs : List Loc) (ls : Array Slot), f_X5_isAcrossLine_33 st = some (r, st') → XW G A ad st H → va_S A s.heap H locs → lv_has ls 2 [] → W p l e ({ frames := 0, cells := 0, slots := 0, locals := 0 } : Room) s m args below meth c H locs 0 0 (MQ below (QX G A ad (some (.int r)) st') args s 0 0 A) (F0 m 33 ls []) := by
  have ⟨⟨hx, hb, hr, hml, hown, hT, hlocks, hK⟩, hnt, hST, hA, hll⟩ := B
  intro st  H locs ls h hM hS hl
  rw [f_X5_isAcrossLine_33] at h
  refine lv_iconst (v := 0) hx hb dX5_isAcrossLine_33 (by decide) ?_
  exact w_X5_isAcrossLine_34 B _ _ _ _ _ h hM hS (lv_sub hl [] rfl)
set_option maxHeartbeats 4000000 in
set_option maxRecDepth 100000 in
theorem w_X5_isAcrossLine {p : Program} {l : Launch} {e : Env} {s : State} {m : MethodId} {args : Array Value} {below : List Frame} {meth : Method} {c : Code} {G : GG} {A : Nat → Prop} {ad : AD} (B : XB G A ad p l s m args meth c cX5_isAcrossLine 2 RX5 (some .boolean)) {r : Int32} {st' : XS} : ∀ (st : XS) (x0 : Nat) (x1 : Nat) (H : Heap) (locs : List Loc) (ls : Array Slot), f_X5_isAcrossLine st x0 x1 = some (r, st') → XW G A ad st H → va_S A s.heap H locs → lv_has ls 2 [(0, .ref (ad 1 x0)), (1, .ref (ad 1 x1))] → W p l e ({ frames := 0, cells := 0, slots := 0, locals := 0 } : Room) s m args below meth c H locs 0 0 (MQ below (QX G A ad (some (.int r)) st') args s 0 0 A) (F0 m 0 ls []) := by
  have ⟨⟨hx, hb, hr, hml, hown, hT, hlocks, hK⟩, hnt, hST, hA, hll⟩ := B
  intro st x0 x1 H locs ls h hM hS hl
  rw [f_X5_isAcrossLine] at h
  refine lv_aload_n hx hb dX5_isAcrossLine_0 rfl (lv_at hl 0 rfl) ?_
  obtain ⟨v1, h⟩ := gd_e h
  refine xw_get B.1 hM 1 x0 (xv_s (k := 1) (by decide) v1) (ci := 5) (N := 12) (fs := fSh ad st x0) (C := RX4) (T := TX4) (fun _ => rfl) rfl inX4 3 (by decide) wf_RX5_382 rfl (v := .int (xF st 1 x0 3)) rfl dX5_isAcrossLine_1 ?_
  refine lv_bipush (v := 48) hx hb dX5_isAcrossLine_4 (by decide) ?_
  refine lv_icmp_eq (tgt := 33) hx hb dX5_isAcrossLine_6 (by decide) (fun c2 => ?_) (fun c2 => ?_)
  · have h := bi_t c2 h
    exact w_X5_isAcrossLine_33 B _ _ _ _ h hM hS (lv_sub hl [] rfl)
  · have h := bi_f c2 h
    refine lv_aload_n hx hb dX5_isAcrossLine_9 rfl (lv_at hl 1 rfl) ?_
    obtain ⟨v3, h⟩ := gd_e h
    refine xw_get B.1 hM 1 x1 (xv_s (k := 1) (by decide) v3) (ci := 5) (N := 12) (fs := fSh ad st x1) (C := RX4) (T := TX4) (fun _ => rfl) rfl inX4 3 (by decide) wf_RX5_382 rfl (v := .int (xF st 1 x1 3)) rfl dX5_isAcrossLine_10 ?_
    refine lv_bipush (v := 48) hx hb dX5_isAcrossLine_13 (by decide) ?_
    refine lv_icmp_eq (tgt := 33) hx hb dX5_isAcrossLine_15 (by decide) (fun c4 => ?_) (fun c4 => ?_)
    · have h := bi_t c4 h
      exact w_X5_isAcrossLine_33 B _ _ _ _ h hM hS (lv_sub hl [] rfl)
    · have h := bi_f c4 h
      refine lv_aload_n hx hb dX5_isAcrossLine_18 rfl (lv_at hl 0 rfl) ?_
      refine xw_get B.1 hM 1 x0 (xv_s (k := 1) (by decide) v1) (ci := 5) (N := 12) (fs := fSh ad st x0) (C := RX4) (T := TX4) (fun _ => rfl) rfl inX4 3 (by decide) wf_RX5_382 rfl (v := .int (xF st 1 x0 3)) rfl dX5_isAcrossLine_19 ?_
      refine lv_aload_n hx hb dX5_isAcrossLine_22 rfl (lv_at hl 1 rfl) ?_
      refine xw_get B.1 hM 1 x1 (xv_s (k := 1) (by decide) v3) (ci := 5) (N := 12) (fs := fSh ad st x1) (C := RX4) (T := TX4) (fun _ => rfl) rfl inX4 3 (by decide) wf_RX5_382 rfl (v := .int (xF st 1 x1 3)) rfl dX5_isAcrossLine_23 ?_
      refine lv_icmp_eq (tgt := 33) hx hb dX5_isAcrossLine_26 (by decide) (fun c5 => ?_) (fun c5 => ?_)
      · have h := bi_t c5 h
        exact w_X5_isAcrossLine_33 B _ _ _ _ h hM hS (lv_sub hl [] rfl)
      · have h := bi_f c5 h
        refine lv_iconst (v := 1) hx hb dX5_isAcrossLine_29 (by decide) ?_
        refine lv_goto (tgt := 34) hx hb dX5_isAcrossLine_30 (by decide) ?_
        exact w_X5_isAcrossLine_34 B _ _ _ _ _ h hM hS (lv_sub hl [] rfl)
theorem c_X5_isAcrossLine {l : Launch} (hll : l.stackTraces = false) {G : GG} {A : Nat → Prop} {ad : AD} {st : XS} {x0 : Nat} {x1 : Nat} {r : Int32} {st' : XS} (h : f_X5_isAcrossLine st x0 x1 = some (r, st')) : Met l yX5_isAcrossLine (Cond.code yX5_isAcrossLine cX5_isAcrossLine 2 (some .boolean) :: TG) ({ frames := 0, cells := 0, slots := 0, locals := 0 } : Room) (PX G A ad st [.ref (ad 1 x0), .ref (ad 1 x1)]) (QX G A ad (some (.int r)) st') 0 0 A :=
  xw_of (own := RX5) hll (by decide +kernel) rfl (Nat.le_of_ble_eq_true rfl) fun p e s m below meth c ls B hM hS hl => w_X5_isAcrossLine B _ _ _ _ _ _ h hM hS hl
set_option maxHeartbeats 4000000 in
set_option maxRecDepth 100000 in
theorem w_X5_isJump_50 {p : Program} {l : Launch} {e : Env} {s : State} {m : MethodId} {args : Array Value} {below : List Frame} {meth : Method} {c : Code} {G : GG} {A : Nat → Prop} {ad : AD} (B : XB G A ad p l s m args meth c cX5_isJump 3 RX5 (some .boolean)) {r : Int32} {st' : XS} : ∀ (st : XS) (y0 : Int32) (H : Heap) (locs : List Loc) (ls : Array Slot), f_X5_isJump_50 st y0 = some (r, st') → XW G A ad st H → va_S A s.heap H locs → lv_has ls 3 [] → W p l e ({ frames := 2, cells := 0, slots := 0, locals := 43 } : Room) s m args below meth c H locs 0 0 (MQ below (QX G A ad (some (.int r)) st') args s 0 0 A) (F0 m 50 ls [.int y0]) := by
  have ⟨⟨hx, hb, hr, hml, hown, hT, hlocks, hK⟩, hnt, hST, hA, hll⟩ := B
  intro st y0 H locs ls h hM hS hl
  rw [f_X5_isJump_50] at h
  obtain ⟨g1, h⟩ := gd_e h
  cases h
  exact xw_zret B hM hS (Nat.le_refl 0) (Nat.le_refl 0) g1 dX5_isJump_50
set_option maxHeartbeats 4000000 in
set_option maxRecDepth 100000 in
theorem w_X5_isJump_49 {p : Program} {l : Launch} {e : Env} {s : State} {m : MethodId} {args : Array Value} {below : List Frame} {meth : Method} {c : Code} {G : GG} {A : Nat → Prop} {ad : AD} (B : XB G A ad p l s m args meth c cX5_isJump 3 RX5 (some .boolean)) {r : Int32} {st' : XS} : ∀ (st : XS) (H : Heap) (locs : List Loc) (ls : Array Slot), f_X5_isJump_49 st = some (r, st') → XW G A ad st H → va_S A s.heap H locs → lv_has ls 3 [] → W p l e ({ frames := 2, cells := 0, slots := 0, locals := 43 } : Room) s m args below meth c H locs 0 0 (MQ below (QX G A ad (some (.int r)) st') args s 0 0 A) (F0 m 49 ls []) := by
  have ⟨⟨hx, hb, hr, hml, hown, hT, hlocks, hK⟩, hnt, hST, hA, hll⟩ := B
  intro st  H locs ls h hM hS hl
  rw [f_X5_isJump_49] at h
  refine lv_iconst (v := 0) hx hb dX5_isJump_49 (by decide) ?_
  exact w_X5_isJump_50 B _ _ _ _ _ h hM hS (lv_sub hl [] rfl)
set_option maxHeartbeats 4000000 in
set_option maxRecDepth 100000 in
theorem w_X5_isJump {p : Program} {l : Launch} {e : Env} {s : State} {m : MethodId} {args : Array Value} {below : List Frame} {meth : Method} {c : Code} {G : GG} {A : Nat → Prop} {ad : AD} (B : XB G A ad p l s m args meth c cX5_isJump 3 RX5 (some .boolean)) {r : Int32} {st' : XS} : ∀ (st : XS) (x0 : Nat) (x1 : Nat) (H : Heap) (locs : List Loc) (ls : Array Slot), f_X5_isJump st x0 x1 = some (r, st') → XW G A ad st H → va_S A s.heap H locs → lv_has ls 3 [(0, .ref (ad 1 x0)), (1, .ref (ad 1 x1))] → W p l e ({ frames := 2, cells := 0, slots := 0, locals := 43 } : Room) s m args below meth c H locs 0 0 (MQ below (QX G A ad (some (.int r)) st') args s 0 0 A) (F0 m 0 ls []) := by
  have ⟨⟨hx, hb, hr, hml, hown, hT, hlocks, hK⟩, hnt, hST, hA, hll⟩ := B
  intro st x0 x1 H locs ls h hM hS hl
  rw [f_X5_isJump] at h
  refine lv_aload_n hx hb dX5_isJump_0 rfl (lv_at hl 0 rfl) ?_
  obtain ⟨v1, h⟩ := gd_e h
  refine xw_get B.1 hM 1 x0 (xv_s (k := 1) (by decide) v1) (ci := 5) (N := 12) (fs := fSh ad st x0) (C := RX4) (T := TX4) (fun _ => rfl) rfl inX4 1 (by decide) wf_RX5_148 rfl (v := .ref (ad 2 x0)) rfl dX5_isJump_1 ?_
  obtain ⟨r2, t3, e4, h⟩ := bd_e h
  refine xw_callV B hM hS (xw_recv (xb_vk B) hM 2 x0 (Or.inl (xv_s (k := 2) (by decide) v1)) (fun gh => ⟨_, rfl⟩) rfl) [] (n := 0) (v := (some (.int r2))) (c_X0_members B.2.2.2.2 e4) wm_RX5_152 wi_yX0_members ws_yX0_members wn_RX0 wc_yX0_members rfl rfl (by decide +kernel) ⟨Nat.le_of_ble_eq_true rfl, Nat.le_of_ble_eq_true rfl⟩ ⟨Nat.le_refl 0, Nat.le_refl 0⟩ rfl hl.1 (Nat.le_of_ble_eq_true rfl) rfl dX5_isJump_4 (fun H locs hM hS => ?_)
  refine lv_istore_n (lv' := [(2, .int r2), (0, .ref (ad 1 x0)), (1, .ref (ad 1 x1))]) hx hb dX5_isJump_7 rfl hl (by decide) rfl (fun ls hl => ?_)
  refine lv_aload_n hx hb dX5_isJump_8 rfl (lv_at hl 1 rfl) ?_
  obtain ⟨v5, h⟩ := gd_e h
  refine xw_get B.1 hM 1 x0 (xv_s (k := 1) (by decide) v5) (ci := 5) (N := 12) (fs := fSh ad t3 x0) (C := RX4) (T := TX4) (fun _ => rfl) rfl inX4 3 (by decide) wf_RX5_382 rfl (v := .int (xF t3 1 x0 3)) rfl dX5_isJump_9 ?_
  refine lv_aload_n hx hb dX5_isJump_12 rfl (lv_at hl 2 rfl) ?_
  obtain ⟨v6, h⟩ := gd_e h
  refine xw_get B.1 hM 1 x1 (xv_s (k := 1) (by decide) v6) (ci := 5) (N := 12) (fs := fSh ad t3 x1) (C := RX4) (T := TX4) (fun _ => rfl) rfl inX4 3 (by decide) wf_RX5_382 rfl (v := .int (xF t3 1 x1 3)) rfl dX5_isJump_13 ?_
  refine lv_icmp_ne (tgt := 49) hx hb dX5_isJump_16 (by decide) (fun c7 => ?_) (fun c7 => ?_)
  · have h := bi_f c7 h
    exact w_X5_isJump_49 B _ _ _ _ h hM hS (lv_sub hl [] rfl)
  · have h := bi_t c7 h
    refine lv_aload_n hx hb dX5_isJump_19 rfl (lv_at hl 1 rfl) ?_
    refine xw_get B.1 hM 1 x0 (xv_s (k := 1) (by decide) v5) (ci := 5) (N := 12) (fs := fSh ad t3 x0) (C := RX4) (T := TX4) (fun _ => rfl) rfl inX4 4 (by decide) wf_RX5_385 rfl (v := .int (xF t3 1 x0 4)) rfl dX5_isJump_20 ?_
    refine lv_aload_n hx hb dX5_isJump_23 rfl (lv_at hl 2 rfl) ?_
    refine xw_get B.1 hM 1 x1 (xv_s (k := 1) (by decide) v6) (ci := 5) (N := 12) (fs := fSh ad t3 x1) (C := RX4) (T := TX4) (fun _ => rfl) rfl inX4 4 (by decide) wf_RX5_385 rfl (v := .int (xF t3 1 x1 4)) rfl dX5_isJump_24 ?_
    refine lv_icmp_ne (tgt := 49) hx hb dX5_isJump_27 (by decide) (fun c8 => ?_) (fun c8 => ?_)
    · have h := bi_f c8 h
      exact w_X5_isJump_49 B _ _ _ _ h hM hS (lv_sub hl [] rfl)
    · have h := bi_t c8 h
      refine lv_iload_n hx hb dX5_isJump_30 rfl (lv_at hl 0 rfl) ?_
      refine lv_if_eq (tgt := 49) hx hb dX5_isJump_31 (by decide) (fun c9 => ?_) (fun c9 => ?_)
      · have h := bi_t c9 h
        exact w_X5_isJump_49 B _ _ _ _ h hM hS (lv_sub hl [] rfl)
      · have h := bi_f c9 h
        refine lv_iload_n hx hb dX5_isJump_34 rfl (lv_at hl 0 rfl) ?_
        refine lv_aload_n hx hb dX5_isJump_35 rfl (lv_at hl 2 rfl) ?_
        refine xw_get B.1 hM 1 x1 (xv_s (k := 1) (by decide) v6) (ci := 5) (N := 12) (fs := fSh ad t3 x1) (C := RX4) (T := TX4) (fun _ => rfl) rfl inX4 1 (by decide) wf_RX5_148 rfl (v := .ref (ad 2 x1)) rfl dX5_isJump_36 ?_
        obtain ⟨r10, t11, e12, h⟩ := bd_e h
        refine xw_callV B hM hS (xw_recv (xb_vk B) hM 2 x1 (Or.inl (xv_s (k := 2) (by decide) v6)) (fun gh => ⟨_, rfl⟩) rfl) [] (n := 0) (v := (some (.int r10))) (c_X0_members B.2.2.2.2 e12) wm_RX5_152 wi_yX0_members ws_yX0_members wn_RX0 wc_yX0_members rfl rfl (by decide +kernel) ⟨Nat.le_of_ble_eq_true rfl, Nat.le_of_ble_eq_true rfl⟩ ⟨Nat.le_refl 0, Nat.le_refl 0⟩ rfl hl.1 (Nat.le_of_ble_eq_true rfl) rfl dX5_isJump_39 (fun H locs hM hS => ?_)
        refine lv_icmp_ne (tgt := 49) hx hb dX5_isJump_42 (by decide) (fun c13 => ?_) (fun c13 => ?_)
        · have h := bi_f c13 h
          exact w_X5_isJump_49 B _ _ _ _ h hM hS (lv_sub hl [] rfl)
        · have h := bi_t c13 h
          refine lv_iconst (v := 1) hx hb dX5_isJump_45 (by decide) ?_
          refine lv_goto (tgt := 50) hx hb dX5_isJump_46 (by decide) ?_
          exact w_X5_isJump_50 B _ _ _ _ _ h hM hS (lv_sub hl [] rfl)
theorem c_X5_isJump {l : Launch} (hll : l.stackTraces = false) {G : GG} {A : Nat → Prop} {ad : AD} {st : XS} {x0 : Nat} {x1 : Nat} {r : Int32} {st' : XS} (h : f_X5_isJump st x0 x1 = some (r, st')) : Met l yX5_isJump (Cond.code yX5_isJump cX5_isJump 3 (some .boolean) :: TG) ({ frames := 2, cells := 0, slots := 0, locals := 43 } : Room) (PX G A ad st [.ref (ad 1 x0), .ref (ad 1 x1)]) (QX G A ad (some (.int r)) st') 0 0 A :=
  xw_of (own := RX5) hll (by decide +kernel) rfl (Nat.le_of_ble_eq_true rfl) fun p e s m below meth c ls B hM hS hl => w_X5_isJump B _ _ _ _ _ _ h hM hS hl
set_option maxHeartbeats 4000000 in
set_option maxRecDepth 100000 in
theorem w_X5_areGazesUnmatched_102 {p : Program} {l : Launch} {e : Env} {s : State} {m : MethodId} {args : Array Value} {below : List Frame} {meth : Method} {c : Code} {G : GG} {A : Nat → Prop} {ad : AD} (B : XB G A ad p l s m args meth c cX5_areGazesUnmatched 7 RX5 (some .boolean)) {r : Int32} {st' : XS} : ∀ (st : XS) (y0 : Int32) (H : Heap) (locs : List Loc) (ls : Array Slot), f_X5_areGazesUnmatched_102 st y0 = some (r, st') → XW G A ad st H → va_S A s.heap H locs → lv_has ls 7 [] → W p l e ({ frames := 2, cells := 0, slots := 0, locals := 43 } : Room) s m args below meth c H locs 0 0 (MQ below (QX G A ad (some (.int r)) st') args s 0 0 A) (F0 m 102 ls [.int y0]) := by
  have ⟨⟨hx, hb, hr, hml, hown, hT, hlocks, hK⟩, hnt, hST, hA, hll⟩ := B
  intro st y0 H locs ls h hM hS hl
  rw [f_X5_areGazesUnmatched_102] at h
  obtain ⟨g1, h⟩ := gd_e h
  cases h
  exact xw_zret B hM hS (Nat.le_refl 0) (Nat.le_refl 0) g1 dX5_areGazesUnmatched_102
set_option maxHeartbeats 4000000 in
set_option maxRecDepth 100000 in
theorem w_X5_areGazesUnmatched_101 {p : Program} {l : Launch} {e : Env} {s : State} {m : MethodId} {args : Array Value} {below : List Frame} {meth : Method} {c : Code} {G : GG} {A : Nat → Prop} {ad : AD} (B : XB G A ad p l s m args meth c cX5_areGazesUnmatched 7 RX5 (some .boolean)) {r : Int32} {st' : XS} : ∀ (st : XS) (H : Heap) (locs : List Loc) (ls : Array Slot), f_X5_areGazesUnmatched_101 st = some (r, st') → XW G A ad st H → va_S A s.heap H locs → lv_has ls 7 [] → W p l e ({ frames := 2, cells := 0, slots := 0, locals := 43 } : Room) s m args below meth c H locs 0 0 (MQ below (QX G A ad (some (.int r)) st') args s 0 0 A) (F0 m 101 ls []) := by
  have ⟨⟨hx, hb, hr, hml, hown, hT, hlocks, hK⟩, hnt, hST, hA, hll⟩ := B
  intro st  H locs ls h hM hS hl
  rw [f_X5_areGazesUnmatched_101] at h
  refine lv_iconst (v := 0) hx hb dX5_areGazesUnmatched_101 (by decide) ?_
  exact w_X5_areGazesUnmatched_102 B _ _ _ _ _ h hM hS (lv_sub hl [] rfl)
set_option maxHeartbeats 4000000 in
set_option maxRecDepth 100000 in
theorem w_X5_areGazesUnmatched_97 {p : Program} {l : Launch} {e : Env} {s : State} {m : MethodId} {args : Array Value} {below : List Frame} {meth : Method} {c : Code} {G : GG} {A : Nat → Prop} {ad : AD} (B : XB G A ad p l s m args meth c cX5_areGazesUnmatched 7 RX5 (some .boolean)) {r : Int32} {st' : XS} : ∀ (st : XS) (H : Heap) (locs : List Loc) (ls : Array Slot), f_X5_areGazesUnmatched_97 st = some (r, st') → XW G A ad st H → va_S A s.heap H locs → lv_has ls 7 [] → W p l e ({ frames := 2, cells := 0, slots := 0, locals := 43 } : Room) s m args below meth c H locs 0 0 (MQ below (QX G A ad (some (.int r)) st') args s 0 0 A) (F0 m 97 ls []) := by
  have ⟨⟨hx, hb, hr, hml, hown, hT, hlocks, hK⟩, hnt, hST, hA, hll⟩ := B
  intro st  H locs ls h hM hS hl
  rw [f_X5_areGazesUnmatched_97] at h
  refine lv_iconst (v := 1) hx hb dX5_areGazesUnmatched_97 (by decide) ?_
  refine lv_goto (tgt := 102) hx hb dX5_areGazesUnmatched_98 (by decide) ?_
  exact w_X5_areGazesUnmatched_102 B _ _ _ _ _ h hM hS (lv_sub hl [] rfl)
set_option maxHeartbeats 4000000 in
set_option maxRecDepth 100000 in
theorem w_X5_areGazesUnmatched_76 {p : Program} {l : Launch} {e : Env} {s : State} {m : MethodId} {args : Array Value} {below : List Frame} {meth : Method} {c : Code} {G : GG} {A : Nat → Prop} {ad : AD} (B : XB G A ad p l s m args meth c cX5_areGazesUnmatched 7 RX5 (some .boolean)) {r : Int32} {st' : XS} : ∀ (st : XS) (x4 : Int32) (x5 : Int32) (y0 : Int32) (H : Heap) (locs : List Loc) (ls : Array Slot), f_X5_areGazesUnmatched_76 st x4 x5 y0 = some (r, st') → XW G A ad st H → va_S A s.heap H locs → lv_has ls 7 [(4, .int x4), (5, .int x5)] → W p l e ({ frames := 2, cells := 0, slots := 0, locals := 43 } : Room) s m args below meth c H locs 0 0 (MQ below (QX G A ad (some (.int r)) st') args s 0 0 A) (F0 m 76 ls [.int y0]) := by
  have ⟨⟨hx, hb, hr, hml, hown, hT, hlocks, hK⟩, hnt, hST, hA, hll⟩ := B
  intro st x4 x5 y0 H locs ls h hM hS hl
  rw [f_X5_areGazesUnmatched_76] at h
  refine lv_istore (lv' := [(6, .int y0), (4, .int x4), (5, .int x5)]) hx hb dX5_areGazesUnmatched_76 hl (by decide) rfl (fun ls hl => ?_)
  refine lv_iload hx hb dX5_areGazesUnmatched_78 (lv_at hl 0 rfl) ?_
  refine lv_if_ne (tgt := 101) hx hb dX5_areGazesUnmatched_80 (by decide) (fun c1 => ?_) (fun c1 => ?_)
  · have h := bi_f c1 h
    exact w_X5_areGazesUnmatched_101 B _ _ _ _ h hM hS (lv_sub hl [] rfl)
  · have h := bi_t c1 h
    refine lv_iload hx hb dX5_areGazesUnmatched_83 (lv_at hl 1 rfl) ?_
    refine lv_bipush (v := 99) hx hb dX5_areGazesUnmatched_85 (by decide) ?_
    refine lv_icmp_ne (tgt := 97) hx hb dX5_areGazesUnmatched_87 (by decide) (fun c2 => ?_) (fun c2 => ?_)
    · have h := bi_f c2 h
      exact w_X5_areGazesUnmatched_97 B _ _ _ _ h hM hS (lv_sub hl [] rfl)
    · have h := bi_t c2 h
      refine lv_iload hx hb dX5_areGazesUnmatched_90 (lv_at hl 2 rfl) ?_
      refine lv_bipush (v := 99) hx hb dX5_areGazesUnmatched_92 (by decide) ?_
      refine lv_icmp_eq (tgt := 101) hx hb dX5_areGazesUnmatched_94 (by decide) (fun c3 => ?_) (fun c3 => ?_)
      · have h := bi_t c3 h
        exact w_X5_areGazesUnmatched_101 B _ _ _ _ h hM hS (lv_sub hl [] rfl)
      · have h := bi_f c3 h
        exact w_X5_areGazesUnmatched_97 B _ _ _ _ h hM hS (lv_sub hl [] rfl)
set_option maxHeartbeats 4000000 in
set_option maxRecDepth 100000 in
theorem w_X5_areGazesUnmatched_75 {p : Program} {l : Launch} {e : Env} {s : State} {m : MethodId} {args : Array Value} {below : List Frame} {meth : Method} {c : Code} {G : GG} {A : Nat → Prop} {ad : AD} (B : XB G A ad p l s m args meth c cX5_areGazesUnmatched 7 RX5 (some .boolean)) {r : Int32} {st' : XS} : ∀ (st : XS) (x4 : Int32) (x5 : Int32) (H : Heap) (locs : List Loc) (ls : Array Slot), f_X5_areGazesUnmatched_75 st x4 x5 = some (r, st') → XW G A ad st H → va_S A s.heap H locs → lv_has ls 7 [(4, .int x4), (5, .int x5)] → W p l e ({ frames := 2, cells := 0, slots := 0, locals := 43 } : Room) s m args below meth c H locs 0 0 (MQ below (QX G A ad (some (.int r)) st') args s 0 0 A) (F0 m 75 ls []) := by
  have ⟨⟨hx, hb, hr, hml, hown, hT, hlocks, hK⟩, hnt, hST, hA, hll⟩ := B
  intro st x4 x5 H locs ls h hM hS hl
  rw [f_X5_areGazesUnmatched_75] at h
  refine lv_iconst (v := 0) hx hb dX5_areGazesUnmatched_75 (by decide) ?_
  exact w_X5_areGazesUnmatched_76 B _ _ _ _ _ _ _ h hM hS (lv_sub hl [0, 1] rfl)
set_option maxHeartbeats 4000000 in
set_option maxRecDepth 100000 in
theorem w_X5_areGazesUnmatched_71 {p : Program} {l : Launch} {e : Env} {s : State} {m : MethodId} {args : Array Value} {below : List Frame} {meth : Method} {c : Code} {G : GG} {A : Nat → Prop} {ad : AD} (B : XB G A ad p l s m args meth c cX5_areGazesUnmatched 7 RX5 (some .boolean)) {r : Int32} {st' : XS} : ∀ (st : XS) (x4 : Int32) (x5 : Int32) (H : Heap) (locs : List Loc) (ls : Array Slot), f_X5_areGazesUnmatched_71 st x4 x5 = some (r, st') → XW G A ad st H → va_S A s.heap H locs → lv_has ls 7 [(4, .int x4), (5, .int x5)] → W p l e ({ frames := 2, cells := 0, slots := 0, locals := 43 } : Room) s m args below meth c H locs 0 0 (MQ below (QX G A ad (some (.int r)) st') args s 0 0 A) (F0 m 71 ls []) := by
  have ⟨⟨hx, hb, hr, hml, hown, hT, hlocks, hK⟩, hnt, hST, hA, hll⟩ := B
  intro st x4 x5 H locs ls h hM hS hl
  rw [f_X5_areGazesUnmatched_71] at h
  refine lv_iconst (v := 1) hx hb dX5_areGazesUnmatched_71 (by decide) ?_
  refine lv_goto (tgt := 76) hx hb dX5_areGazesUnmatched_72 (by decide) ?_
  exact w_X5_areGazesUnmatched_76 B _ _ _ _ _ _ _ h hM hS (lv_sub hl [0, 1] rfl)
set_option maxHeartbeats 4000000 in
set_option maxRecDepth 100000 in
theorem w_X5_areGazesUnmatched_57 {p : Program} {l : Launch} {e : Env} {s : State} {m : MethodId} {args : Array Value} {below : List Frame} {meth : Method} {c : Code} {G : GG} {A : Nat → Prop} {ad : AD} (B : XB G A ad p l s m args meth c cX5_areGazesUnmatched 7 RX5 (some .boolean)) {r : Int32} {st' : XS} : ∀ (st : XS) (x4 : Int32) (x5 : Int32) (H : Heap) (locs : List Loc) (ls : Array Slot), f_X5_areGazesUnmatched_57 st x4 x5 = some (r, st') → XW G A ad st H → va_S A s.heap H locs → lv_has ls 7 [(4, .int x4), (5, .int x5)] → W p l e ({ frames := 2, cells := 0, slots := 0, locals := 43 } : Room) s m args below meth c H locs 0 0 (MQ below (QX G A ad (some (.int r)) st') args s 0 0 A) (F0 m 57 ls []) := by
  have ⟨⟨hx, hb, hr, hml, hown, hT, hlocks, hK⟩, hnt, hST, hA, hll⟩ := B
  intro st x4 x5 H locs ls h hM hS hl
  rw [f_X5_areGazesUnmatched_57] at h
  refine lv_iload hx hb dX5_areGazesUnmatched_57 (lv_at hl 0 rfl) ?_
  refine lv_bipush (v := 114) hx hb dX5_areGazesUnmatched_59 (by decide) ?_
  refine lv_icmp_ne (tgt := 75) hx hb dX5_areGazesUnmatched_61 (by decide) (fun c1 => ?_) (fun c1 => ?_)
  · have h := bi_f c1 h
    exact w_X5_areGazesUnmatched_75 B _ _ _ _ _ _ h hM hS (lv_sub hl [0, 1] rfl)
  · have h := bi_t c1 h
    refine lv_iload hx hb dX5_areGazesUnmatched_64 (lv_at hl 1 rfl) ?_
    refine lv_bipush (v := 108) hx hb dX5_areGazesUnmatched_66 (by decide) ?_
    refine lv_icmp_ne (tgt := 75) hx hb dX5_areGazesUnmatched_68 (by decide) (fun c2 => ?_) (fun c2 => ?_)
    · have h := bi_f c2 h
      exact w_X5_areGazesUnmatched_75 B _ _ _ _ _ _ h hM hS (lv_sub hl [0, 1] rfl)
    · have h := bi_t c2 h
      exact w_X5_areGazesUnmatched_71 B _ _ _ _ _ _ h hM hS (lv_sub hl [0, 1] rfl)
set_option maxHeartbeats 4000000 in
set_option maxRecDepth 100000 in
theorem w_X5_areGazesUnmatched_25 {p : Program} {l : Launch} {e : Env} {s : State} {m : MethodId} {args : Array Value} {below : List Frame} {meth : Method} {c : Code} {G : GG} {A : Nat → Prop} {ad : AD} (B : XB G A ad p l s m args meth c cX5_areGazesUnmatched 7 RX5 (some .boolean)) {r : Int32} {st' : XS} : ∀ (st : XS) (H : Heap) (locs : List Loc) (ls : Array Slot), f_X5_areGazesUnmatched_25 st = some (r, st') → XW G A ad st H → va_S A s.heap H locs → lv_has ls 7 [] → W p l e ({ frames := 2, cells := 0, slots := 0, locals := 43 } : Room) s m args below meth c H locs 0 0 (MQ below (QX G A ad (some (.int r)) st') args s 0 0 A) (F0 m 25 ls []) := by
  have ⟨⟨hx, hb, hr, hml, hown, hT, hlocks, hK⟩, hnt, hST, hA, hll⟩ := B
  intro st  H locs ls h hM hS hl
  rw [f_X5_areGazesUnmatched_25] at h
  refine lv_iconst (v := 0) hx hb dX5_areGazesUnmatched_25 (by decide) ?_
  cases h
  exact xw_zret B hM hS (Nat.le_refl 0) (Nat.le_refl 0) (by rfl) dX5_areGazesUnmatched_26
set_option maxHeartbeats 4000000 in
set_option maxRecDepth 100000 in
theorem w_X5_areGazesUnmatched {p : Program} {l : Launch} {e : Env} {s : State} {m : MethodId} {args : Array Value} {below : List Frame} {meth : Method} {c : Code} {G : GG} {A : Nat → Prop} {ad : AD} (B : XB G A ad p l s m args meth c cX5_areGazesUnmatched 7 RX5 (some .boolean)) {r : Int32} {st' : XS} : ∀ (st : XS) (x0 : Nat) (x1 : Nat) (H : Heap) (locs : List Loc) (ls : Array Slot), f_X5_areGazesUnmatched st x0 x1 = some (r, st') → XW G A ad st H → va_S A s.heap H locs → lv_has ls 7 [(0, .ref (ad 2 x0)), (1, .ref (ad 2 x1))] → W p l e ({ frames := 2, cells := 0, slots := 0, locals := 43 } : Room) s m args below meth c H locs 0 0 (MQ below (QX G A ad (some (.int r)) st') args s 0 0 A) (F0 m 0 ls []) := by
  have ⟨⟨hx, hb, hr, hml, hown, hT, hlocks, hK⟩, hnt, hST, hA, hll⟩ := B
  intro st x0 x1 H locs ls h hM hS hl
  rw [f_X5_areGazesUnmatched] at h
  refine lv_aload_n hx hb dX5_areGazesUnmatched_0 rfl (lv_at hl 0 rfl) ?_
  obtain ⟨v1, h⟩ := gd_e h
  obtain ⟨r2, t3, e4, h⟩ := bd_e h
  refine xw_callV B hM hS (xw_recv (xb_vk B) hM 2 x0 (Or.inl (xv_s (k := 2) (by decide) v1)) (fun gh => ⟨_, rfl⟩) rfl) [] (n := 0) (v := (some (.int r2))) (c_X0_onlyMember B.2.2.2.2 e4) wm_RX5_388 wi_yX0_onlyMember ws_yX0_onlyMember wn_RX0 wc_yX0_onlyMember rfl rfl (by decide +kernel) ⟨Nat.le_of_ble_eq_true rfl, Nat.le_of_ble_eq_true rfl⟩ ⟨Nat.le_refl 0, Nat.le_refl 0⟩ rfl hl.1 (Nat.le_of_ble_eq_true rfl) rfl dX5_areGazesUnmatched_1 (fun H locs hM hS => ?_)
  refine lv_istore_n (lv' := [(2, .int r2), (0, .ref (ad 2 x0)), (1, .ref (ad 2 x1))]) hx hb dX5_areGazesUnmatched_4 rfl hl (by decide) rfl (fun ls hl => ?_)
  refine lv_aload_n hx hb dX5_areGazesUnmatched_5 rfl (lv_at hl 2 rfl) ?_
  obtain ⟨v5, h⟩ := gd_e h
  obtain ⟨r6, t7, e8, h⟩ := bd_e h
  refine xw_callV B hM hS (xw_recv (xb_vk B) hM 2 x1 (Or.inl (xv_s (k := 2) (by decide) v5)) (fun gh => ⟨_, rfl⟩) rfl) [] (n := 0) (v := (some (.int r6))) (c_X0_onlyMember B.2.2.2.2 e8) wm_RX5_388 wi_yX0_onlyMember ws_yX0_onlyMember wn_RX0 wc_yX0_onlyMember rfl rfl (by decide +kernel) ⟨Nat.le_of_ble_eq_true rfl, Nat.le_of_ble_eq_true rfl⟩ ⟨Nat.le_refl 0, Nat.le_refl 0⟩ rfl hl.1 (Nat.le_of_ble_eq_true rfl) rfl dX5_areGazesUnmatched_6 (fun H locs hM hS => ?_)
  refine lv_istore_n (lv' := [(3, .int r6), (2, .int r2), (0, .ref (ad 2 x0)), (1, .ref (ad 2 x1))]) hx hb dX5_areGazesUnmatched_9 rfl hl (by decide) rfl (fun ls hl => ?_)
  refine lv_iload_n hx hb dX5_areGazesUnmatched_10 rfl (lv_at hl 1 rfl) ?_
  refine lv_iconst (v := (-1)) hx hb dX5_areGazesUnmatched_11 (by decide) ?_
  refine lv_icmp_eq (tgt := 25) hx hb dX5_areGazesUnmatched_12 (by decide) (fun c9 => ?_) (fun c9 => ?_)
  · have h := bi_t c9 h
    exact w_X5_areGazesUnmatched_25 B _ _ _ _ h hM hS (lv_sub hl [] rfl)
  · have h := bi_f c9 h
    refine lv_iload_n hx hb dX5_areGazesUnmatched_15 rfl (lv_at hl 0 rfl) ?_
    refine lv_iconst (v := (-1)) hx hb dX5_areGazesUnmatched_16 (by decide) ?_
    refine lv_icmp_eq (tgt := 25) hx hb dX5_areGazesUnmatched_17 (by decide) (fun c10 => ?_) (fun c10 => ?_)
    · have h := bi_t c10 h
      exact w_X5_areGazesUnmatched_25 B _ _ _ _ h hM hS (lv_sub hl [] rfl)
    · have h := bi_f c10 h
      refine lv_iload_n hx hb dX5_areGazesUnmatched_20 rfl (lv_at hl 1 rfl) ?_
      refine lv_iload_n hx hb dX5_areGazesUnmatched_21 rfl (lv_at hl 0 rfl) ?_
      refine lv_icmp_ne (tgt := 27) hx hb dX5_areGazesUnmatched_22 (by decide) (fun c11 => ?_) (fun c11 => ?_)
      · have h := bi_f c11 h
        refine lv_aload_n hx hb dX5_areGazesUnmatched_27 rfl (lv_at hl 2 rfl) ?_
        obtain ⟨v12, h⟩ := gd_e h
        refine xw_get B.1 hM 2 x0 (xv_s (k := 2) (by decide) v12) (ci := 1) (N := 4) (fs := fCa ad x0) (C := RX0) (T := TX0) (fun _ => rfl) rfl inX0 1 (by decide) wf_RX5_391 rfl (v := .ref (ad 5 x0)) rfl dX5_areGazesUnmatched_28 ?_
        refine lv_iload_n hx hb dX5_areGazesUnmatched_31 rfl (lv_at hl 1 rfl) ?_
        obtain ⟨g13, h⟩ := gd_e h
        refine xw_cald B.1 hM 1 x0 (by decide) v12 g13 dX5_areGazesUnmatched_32 ?_
        refine lv_istore (lv' := [(4, .int (xR t7 1 x0 r2.toNatClampNeg)), (3, .int r6), (2, .int r2), (0, .ref (ad 2 x0)), (1, .ref (ad 2 x1))]) hx hb dX5_areGazesUnmatched_33 hl (by decide) rfl (fun ls hl => ?_)
        refine lv_aload_n hx hb dX5_areGazesUnmatched_35 rfl (lv_at hl 4 rfl) ?_
        obtain ⟨v14, h⟩ := gd_e h
        refine xw_get B.1 hM 2 x1 (xv_s (k := 2) (by decide) v14) (ci := 1) (N := 4) (fs := fCa ad x1) (C := RX0) (T := TX0) (fun _ => rfl) rfl inX0 1 (by decide) wf_RX5_391 rfl (v := .ref (ad 5 x1)) rfl dX5_areGazesUnmatched_36 ?_
        refine lv_iload_n hx hb dX5_areGazesUnmatched_39 rfl (lv_at hl 1 rfl) ?_
        obtain ⟨g15, h⟩ := gd_e h
        refine xw_cald B.1 hM 1 x1 (by decide) v14 g15 dX5_areGazesUnmatched_40 ?_
        refine lv_istore (lv' := [(5, .int (xR t7 1 x1 r6.toNatClampNeg)), (4, .int (xR t7 1 x0 r2.toNatClampNeg)), (3, .int r6), (2, .int r2), (0, .ref (ad 2 x0)), (1, .ref (ad 2 x1))]) hx hb dX5_areGazesUnmatched_41 hl (by decide) rfl (fun ls hl => ?_)
        refine lv_iload hx hb dX5_areGazesUnmatched_43 (lv_at hl 1 rfl) ?_
        refine lv_bipush (v := 108) hx hb dX5_areGazesUnmatched_45 (by decide) ?_
        refine lv_icmp_ne (tgt := 57) hx hb dX5_areGazesUnmatched_47 (by decide) (fun c16 => ?_) (fun c16 => ?_)
        · have h := bi_f c16 h
          exact w_X5_areGazesUnmatched_57 B _ _ _ _ _ _ h hM hS (lv_sub hl [1, 0] rfl)
        · have h := bi_t c16 h
          refine lv_iload hx hb dX5_areGazesUnmatched_50 (lv_at hl 0 rfl) ?_
          refine lv_bipush (v := 114) hx hb dX5_areGazesUnmatched_52 (by decide) ?_
          refine lv_icmp_eq (tgt := 71) hx hb dX5_areGazesUnmatched_54 (by decide) (fun c17 => ?_) (fun c17 => ?_)
          · have h := bi_t c17 h
            exact w_X5_areGazesUnmatched_71 B _ _ _ _ _ _ h hM hS (lv_sub hl [1, 0] rfl)
          · have h := bi_f c17 h
            exact w_X5_areGazesUnmatched_57 B _ _ _ _ _ _ h hM hS (lv_sub hl [1, 0] rfl)
      · have h := bi_t c11 h
        exact w_X5_areGazesUnmatched_25 B _ _ _ _ h hM hS (lv_sub hl [] rfl)
theorem c_X5_areGazesUnmatched {l : Launch} (hll : l.stackTraces = false) {G : GG} {A : Nat → Prop} {ad : AD} {st : XS} {x0 : Nat} {x1 : Nat} {r : Int32} {st' : XS} (h : f_X5_areGazesUnmatched st x0 x1 = some (r, st')) : Met l yX5_areGazesUnmatched (Cond.code yX5_areGazesUnmatched cX5_areGazesUnmatched 7 (some .boolean) :: TG) ({ frames := 2, cells := 0, slots := 0, locals := 43 } : Room) (PX G A ad st [.ref (ad 2 x0), .ref (ad 2 x1)]) (QX G A ad (some (.int r)) st') 0 0 A :=
  xw_of (own := RX5) hll (by decide +kernel) rfl (Nat.le_of_ble_eq_true rfl) fun p e s m below meth c ls B hM hS hl => w_X5_areGazesUnmatched B _ _ _ _ _ _ h hM hS hl
set_option maxHeartbeats 4000000 in
set_option maxRecDepth 100000 in
theorem w_X5_isBackByTheSameEdge_28 {p : Program} {l : Launch} {e : Env} {s : State} {m : MethodId} {args : Array Value} {below : List Frame} {meth : Method} {c : Code} {G : GG} {A : Nat → Prop} {ad : AD} (B : XB G A ad p l s m args meth c cX5_isBackByTheSameEdge 4 RX5 (some .boolean)) {r : Int32} {st' : XS} : ∀ (st : XS) (y0 : Int32) (H : Heap) (locs : List Loc) (ls : Array Slot), f_X5_isBackByTheSameEdge_28 st y0 = some (r, st') → XW G A ad st H → va_S A s.heap H locs → lv_has ls 4 [] → W p l e ({ frames := 0, cells := 0, slots := 0, locals := 0 } : Room) s m args below meth c H locs 0 0 (MQ below (QX G A ad (some (.int r)) st') args s 0 0 A) (F0 m 28 ls [.int y0]) := by
  have ⟨⟨hx, hb, hr, hml, hown, hT, hlocks, hK⟩, hnt, hST, hA, hll⟩ := B
  intro st y0 H locs ls h hM hS hl
  rw [f_X5_isBackByTheSameEdge_28] at h
  obtain ⟨g1, h⟩ := gd_e h
  cases h
  exact xw_zret B hM hS (Nat.le_refl 0) (Nat.le_refl 0) g1 dX5_isBackByTheSameEdge_28
set_option maxHeartbeats 4000000 in
set_option maxRecDepth 100000 in
theorem w_X5_isBackByTheSameEdge_27 {p : Program} {l : Launch} {e : Env} {s : State} {m : MethodId} {args : Array Value} {below : List Frame} {meth : Method} {c : Code} {G : GG} {A : Nat → Prop} {ad : AD} (B : XB G A ad p l s m args meth c cX5_isBackByTheSameEdge 4 RX5 (some .boolean)) {r : Int32} {st' : XS} : ∀ (st : XS) (H : Heap) (locs : List Loc) (ls : Array Slot), f_X5_isBackByTheSameEdge_27 st = some (r, st') → XW G A ad st H → va_S A s.heap H locs → lv_has ls 4 [] → W p l e ({ frames := 0, cells := 0, slots := 0, locals := 0 } : Room) s m args below meth c H locs 0 0 (MQ below (QX G A ad (some (.int r)) st') args s 0 0 A) (F0 m 27 ls []) := by
  have ⟨⟨hx, hb, hr, hml, hown, hT, hlocks, hK⟩, hnt, hST, hA, hll⟩ := B
  intro st  H locs ls h hM hS hl
  rw [f_X5_isBackByTheSameEdge_27] at h
  refine lv_iconst (v := 0) hx hb dX5_isBackByTheSameEdge_27 (by decide) ?_
  exact w_X5_isBackByTheSameEdge_28 B _ _ _ _ _ h hM hS (lv_sub hl [] rfl)
set_option maxHeartbeats 4000000 in
set_option maxRecDepth 100000 in
theorem w_X5_isBackByTheSameEdge {p : Program} {l : Launch} {e : Env} {s : State} {m : MethodId} {args : Array Value} {below : List Frame} {meth : Method} {c : Code} {G : GG} {A : Nat → Prop} {ad : AD} (B : XB G A ad p l s m args meth c cX5_isBackByTheSameEdge 4 RX5 (some .boolean)) {r : Int32} {st' : XS} : ∀ (st : XS) (x0 : Nat) (x1 : Nat) (x2 : Int32) (H : Heap) (locs : List Loc) (ls : Array Slot), f_X5_isBackByTheSameEdge st x0 x1 x2 = some (r, st') → XW G A ad st H → va_S A s.heap H locs → lv_has ls 4 [(0, .ref (ad 2 x0)), (1, .ref (ad 2 x1)), (2, .int x2)] → W p l e ({ frames := 0, cells := 0, slots := 0, locals := 0 } : Room) s m args below meth c H locs 0 0 (MQ below (QX G A ad (some (.int r)) st') args s 0 0 A) (F0 m 0 ls []) := by
  have ⟨⟨hx, hb, hr, hml, hown, hT, hlocks, hK⟩, hnt, hST, hA, hll⟩ := B
  intro st x0 x1 x2 H locs ls h hM hS hl
  rw [f_X5_isBackByTheSameEdge] at h
  refine lv_aload_n hx hb dX5_isBackByTheSameEdge_0 rfl (lv_at hl 0 rfl) ?_
  obtain ⟨v1, h⟩ := gd_e h
  refine xw_get B.1 hM 2 x0 (xv_s (k := 2) (by decide) v1) (ci := 1) (N := 4) (fs := fCa ad x0) (C := RX0) (T := TX0) (fun _ => rfl) rfl inX0 3 (by decide) wf_RX5_174 rfl (v := .ref (ad 7 x0)) rfl dX5_isBackByTheSameEdge_1 ?_
  refine lv_iload_n hx hb dX5_isBackByTheSameEdge_4 rfl (lv_at hl 2 rfl) ?_
  obtain ⟨g2, h⟩ := gd_e h
  refine xw_cald B.1 hM 3 x0 (by decide) v1 g2 dX5_isBackByTheSameEdge_5 ?_
  refine lv_istore_n (lv' := [(3, .int (xR st 3 x0 x2.toNatClampNeg)), (0, .ref (ad 2 x0)), (1, .ref (ad 2 x1)), (2, .int x2)]) hx hb dX5_isBackByTheSameEdge_6 rfl hl (by decide) rfl (fun ls hl => ?_)
  refine lv_iload_n hx hb dX5_isBackByTheSameEdge_7 rfl (lv_at hl 0 rfl) ?_
  refine lv_bipush (v := 45) hx hb dX5_isBackByTheSameEdge_8 (by decide) ?_
  refine lv_icmp_eq (tgt := 27) hx hb dX5_isBackByTheSameEdge_10 (by decide) (fun c3 => ?_) (fun c3 => ?_)
  · have h := bi_t c3 h
    exact w_X5_isBackByTheSameEdge_27 B _ _ _ _ h hM hS (lv_sub hl [] rfl)
  · have h := bi_f c3 h
    refine lv_iload_n hx hb dX5_isBackByTheSameEdge_13 rfl (lv_at hl 0 rfl) ?_
    refine lv_aload_n hx hb dX5_isBackByTheSameEdge_14 rfl (lv_at hl 2 rfl) ?_
    obtain ⟨v4, h⟩ := gd_e h
    refine xw_get B.1 hM 2 x1 (xv_s (k := 2) (by decide) v4) (ci := 1) (N := 4) (fs := fCa ad x1) (C := RX0) (T := TX0) (fun _ => rfl) rfl inX0 2 (by decide) wf_RX5_166 rfl (v := .ref (ad 6 x1)) rfl dX5_isBackByTheSameEdge_15 ?_
    refine lv_iload_n hx hb dX5_isBackByTheSameEdge_18 rfl (lv_at hl 3 rfl) ?_
    obtain ⟨g5, h⟩ := gd_e h
    refine xw_cald B.1 hM 2 x1 (by decide) v4 g5 dX5_isBackByTheSameEdge_19 ?_
    refine lv_icmp_ne (tgt := 27) hx hb dX5_isBackByTheSameEdge_20 (by decide) (fun c6 => ?_) (fun c6 => ?_)
    · have h := bi_f c6 h
      exact w_X5_isBackByTheSameEdge_27 B _ _ _ _ h hM hS (lv_sub hl [] rfl)
    · have h := bi_t c6 h
      refine lv_iconst (v := 1) hx hb dX5_isBackByTheSameEdge_23 (by decide) ?_
      refine lv_goto (tgt := 28) hx hb dX5_isBackByTheSameEdge_24 (by decide) ?_
      exact w_X5_isBackByTheSameEdge_28 B _ _ _ _ _ h hM hS (lv_sub hl [] rfl)
theorem c_X5_isBackByTheSameEdge {l : Launch} (hll : l.stackTraces = false) {G : GG} {A : Nat → Prop} {ad : AD} {st : XS} {x0 : Nat} {x1 : Nat} {x2 : Int32} {r : Int32} {st' : XS} (h : f_X5_isBackByTheSameEdge st x0 x1 x2 = some (r, st')) : Met l yX5_isBackByTheSameEdge (Cond.code yX5_isBackByTheSameEdge cX5_isBackByTheSameEdge 4 (some .boolean) :: TG) ({ frames := 0, cells := 0, slots := 0, locals := 0 } : Room) (PX G A ad st [.ref (ad 2 x0), .ref (ad 2 x1), .int x2]) (QX G A ad (some (.int r)) st') 0 0 A :=
  xw_of (own := RX5) hll (by decide +kernel) rfl (Nat.le_of_ble_eq_true rfl) fun p e s m below meth c ls B hM hS hl => w_X5_isBackByTheSameEdge B _ _ _ _ _ _ _ h hM hS hl
set_option maxHeartbeats 4000000 in
set_option maxRecDepth 100000 in
theorem w_X5_isMisplaced_70 {p : Program} {l : Launch} {e : Env} {s : State} {m : MethodId} {args : Array Value} {below : List Frame} {meth : Method} {c : Code} {G : GG} {A : Nat → Prop} {ad : AD} (B : XB G A ad p l s m args meth c cX5_isMisplaced 5 RX5 (some .boolean)) {r : Int32} {st' : XS} : ∀ (st : XS) (y0 : Int32) (H : Heap) (locs : List Loc) (ls : Array Slot), f_X5_isMisplaced_70 st y0 = some (r, st') → XW G A ad st H → va_S A s.heap H locs → lv_has ls 5 [] → W p l e ({ frames := 0, cells := 0, slots := 0, locals := 0 } : Room) s m args below meth c H locs 0 0 (MQ below (QX G A ad (some (.int r)) st') args s 0 0 A) (F0 m 70 ls [.int y0]) := by
  have ⟨⟨hx, hb, hr, hml, hown, hT, hlocks, hK⟩, hnt, hST, hA, hll⟩ := B
  intro st y0 H locs ls h hM hS hl
  rw [f_X5_isMisplaced_70] at h
  obtain ⟨g1, h⟩ := gd_e h
  cases h
  exact xw_zret B hM hS (Nat.le_refl 0) (Nat.le_refl 0) g1 dX5_isMisplaced_70
set_option maxHeartbeats 4000000 in
set_option maxRecDepth 100000 in
theorem w_X5_isMisplaced_69 {p : Program} {l : Launch} {e : Env} {s : State} {m : MethodId} {args : Array Value} {below : List Frame} {meth : Method} {c : Code} {G : GG} {A : Nat → Prop} {ad : AD} (B : XB G A ad p l s m args meth c cX5_isMisplaced 5 RX5 (some .boolean)) {r : Int32} {st' : XS} : ∀ (st : XS) (H : Heap) (locs : List Loc) (ls : Array Slot), f_X5_isMisplaced_69 st = some (r, st') → XW G A ad st H → va_S A s.heap H locs → lv_has ls 5 [] → W p l e ({ frames := 0, cells := 0, slots := 0, locals := 0 } : Room) s m args below meth c H locs 0 0 (MQ below (QX G A ad (some (.int r)) st') args s 0 0 A) (F0 m 69 ls []) := by
  have ⟨⟨hx, hb, hr, hml, hown, hT, hlocks, hK⟩, hnt, hST, hA, hll⟩ := B
  intro st  H locs ls h hM hS hl
  rw [f_X5_isMisplaced_69] at h
  refine lv_iconst (v := 0) hx hb dX5_isMisplaced_69 (by decide) ?_
  exact w_X5_isMisplaced_70 B _ _ _ _ _ h hM hS (lv_sub hl [] rfl)
set_option maxHeartbeats 4000000 in
set_option maxRecDepth 100000 in
theorem w_X5_isMisplaced_65 {p : Program} {l : Launch} {e : Env} {s : State} {m : MethodId} {args : Array Value} {below : List Frame} {meth : Method} {c : Code} {G : GG} {A : Nat → Prop} {ad : AD} (B : XB G A ad p l s m args meth c cX5_isMisplaced 5 RX5 (some .boolean)) {r : Int32} {st' : XS} : ∀ (st : XS) (H : Heap) (locs : List Loc) (ls : Array Slot), f_X5_isMisplaced_65 st = some (r, st') → XW G A ad st H → va_S A s.heap H locs → lv_has ls 5 [] → W p l e ({ frames := 0, cells := 0, slots := 0, locals := 0 } : Room) s m args below meth c H locs 0 0 (MQ below (QX G A ad (some (.int r)) st') args s 0 0 A) (F0 m 65 ls []) := by
  have ⟨⟨hx, hb, hr, hml, hown, hT, hlocks, hK⟩, hnt, hST, hA, hll⟩ := B
  intro st  H locs ls h hM hS hl
  rw [f_X5_isMisplaced_65] at h
  refine lv_iconst (v := 1) hx hb dX5_isMisplaced_65 (by decide) ?_
  refine lv_goto (tgt := 70) hx hb dX5_isMisplaced_66 (by decide) ?_
  exact w_X5_isMisplaced_70 B _ _ _ _ _ h hM hS (lv_sub hl [] rfl)
set_option maxHeartbeats 4000000 in
set_option maxRecDepth 100000 in
theorem w_X5_isMisplaced_52 {p : Program} {l : Launch} {e : Env} {s : State} {m : MethodId} {args : Array Value} {below : List Frame} {meth : Method} {c : Code} {G : GG} {A : Nat → Prop} {ad : AD} (B : XB G A ad p l s m args meth c cX5_isMisplaced 5 RX5 (some .boolean)) {r : Int32} {st' : XS} : ∀ (st : XS) (x3 : Int32) (x4 : Int32) (H : Heap) (locs : List Loc) (ls : Array Slot), f_X5_isMisplaced_52 st x3 x4 = some (r, st') → XW G A ad st H → va_S A s.heap H locs → lv_has ls 5 [(3, .int x3), (4, .int x4)] → W p l e ({ frames := 0, cells := 0, slots := 0, locals := 0 } : Room) s m args below meth c H locs 0 0 (MQ below (QX G A ad (some (.int r)) st') args s 0 0 A) (F0 m 52 ls []) := by
  have ⟨⟨hx, hb, hr, hml, hown, hT, hlocks, hK⟩, hnt, hST, hA, hll⟩ := B
  intro st x3 x4 H locs ls h hM hS hl
  rw [f_X5_isMisplaced_52] at h
  refine lv_iload_n hx hb dX5_isMisplaced_52 rfl (lv_at hl 0 rfl) ?_
  refine lv_bipush (v := 114) hx hb dX5_isMisplaced_53 (by decide) ?_
  refine lv_icmp_ne (tgt := 69) hx hb dX5_isMisplaced_55 (by decide) (fun c1 => ?_) (fun c1 => ?_)
  · have h := bi_f c1 h
    exact w_X5_isMisplaced_69 B _ _ _ _ h hM hS (lv_sub hl [] rfl)
  · have h := bi_t c1 h
    refine lv_iload hx hb dX5_isMisplaced_58 (lv_at hl 1 rfl) ?_
    refine lv_bipush (v := 108) hx hb dX5_isMisplaced_60 (by decide) ?_
    refine lv_icmp_ne (tgt := 69) hx hb dX5_isMisplaced_62 (by decide) (fun c2 => ?_) (fun c2 => ?_)
    · have h := bi_f c2 h
      exact w_X5_isMisplaced_69 B _ _ _ _ h hM hS (lv_sub hl [] rfl)
    · have h := bi_t c2 h
      exact w_X5_isMisplaced_65 B _ _ _ _ h hM hS (lv_sub hl [] rfl)
set_option maxHeartbeats 4000000 in
set_option maxRecDepth 100000 in
theorem w_X5_isMisplaced_22 {p : Program} {l : Launch} {e : Env} {s : State} {m : MethodId} {args : Array Value} {below : List Frame} {meth : Method} {c : Code} {G : GG} {A : Nat → Prop} {ad : AD} (B : XB G A ad p l s m args meth c cX5_isMisplaced 5 RX5 (some .boolean)) {r : Int32} {st' : XS} : ∀ (st : XS) (H : Heap) (locs : List Loc) (ls : Array Slot), f_X5_isMisplaced_22 st = some (r, st') → XW G A ad st H → va_S A s.heap H locs → lv_has ls 5 [] → W p l e ({ frames := 0, cells := 0, slots := 0, locals := 0 } : Room) s m args below meth c H locs 0 0 (MQ below (QX G A ad (some (.int r)) st') args s 0 0 A) (F0 m 22 ls []) := by
  have ⟨⟨hx, hb, hr, hml, hown, hT, hlocks, hK⟩, hnt, hST, hA, hll⟩ := B
  intro st  H locs ls h hM hS hl
  rw [f_X5_isMisplaced_22] at h
  refine lv_iconst (v := 0) hx hb dX5_isMisplaced_22 (by decide) ?_
  cases h
  exact xw_zret B hM hS (Nat.le_refl 0) (Nat.le_refl 0) (by rfl) dX5_isMisplaced_23
set_option maxHeartbeats 4000000 in
set_option maxRecDepth 100000 in
theorem w_X5_isMisplaced {p : Program} {l : Launch} {e : Env} {s : State} {m : MethodId} {args : Array Value} {below : List Frame} {meth : Method} {c : Code} {G : GG} {A : Nat → Prop} {ad : AD} (B : XB G A ad p l s m args meth c cX5_isMisplaced 5 RX5 (some .boolean)) {r : Int32} {st' : XS} : ∀ (st : XS) (x0 : Nat) (x1 : Nat) (x2 : Int32) (H : Heap) (locs : List Loc) (ls : Array Slot), f_X5_isMisplaced st x0 x1 x2 = some (r, st') → XW G A ad st H → va_S A s.heap H locs → lv_has ls 5 [(0, .ref (ad 2 x0)), (1, .ref (ad 2 x1)), (2, .int x2)] → W p l e ({ frames := 0, cells := 0, slots := 0, locals := 0 } : Room) s m args below meth c H locs 0 0 (MQ below (QX G A ad (some (.int r)) st') args s 0 0 A) (F0 m 0 ls []) := by
  have ⟨⟨hx, hb, hr, hml, hown, hT, hlocks, hK⟩, hnt, hST, hA, hll⟩ := B
  intro st x0 x1 x2 H locs ls h hM hS hl
  rw [f_X5_isMisplaced] at h
  refine lv_aload_n hx hb dX5_isMisplaced_0 rfl (lv_at hl 0 rfl) ?_
  obtain ⟨v1, h⟩ := gd_e h
  refine xw_get B.1 hM 2 x0 (xv_s (k := 2) (by decide) v1) (ci := 1) (N := 4) (fs := fCa ad x0) (C := RX0) (T := TX0) (fun _ => rfl) rfl inX0 3 (by decide) wf_RX5_174 rfl (v := .ref (ad 7 x0)) rfl dX5_isMisplaced_1 ?_
  refine lv_iload_n hx hb dX5_isMisplaced_4 rfl (lv_at hl 2 rfl) ?_
  obtain ⟨g2, h⟩ := gd_e h
  refine xw_cald B.1 hM 3 x0 (by decide) v1 g2 dX5_isMisplaced_5 ?_
  refine lv_bipush (v := 45) hx hb dX5_isMisplaced_6 (by decide) ?_
  refine lv_icmp_ne (tgt := 22) hx hb dX5_isMisplaced_8 (by decide) (fun c3 => ?_) (fun c3 => ?_)
  · have h := bi_f c3 h
    exact w_X5_isMisplaced_22 B _ _ _ _ h hM hS (lv_sub hl [] rfl)
  · have h := bi_t c3 h
    refine lv_aload_n hx hb dX5_isMisplaced_11 rfl (lv_at hl 1 rfl) ?_
    obtain ⟨v4, h⟩ := gd_e h
    refine xw_get B.1 hM 2 x1 (xv_s (k := 2) (by decide) v4) (ci := 1) (N := 4) (fs := fCa ad x1) (C := RX0) (T := TX0) (fun _ => rfl) rfl inX0 2 (by decide) wf_RX5_166 rfl (v := .ref (ad 6 x1)) rfl dX5_isMisplaced_12 ?_
    refine lv_iload_n hx hb dX5_isMisplaced_15 rfl (lv_at hl 2 rfl) ?_
    obtain ⟨g5, h⟩ := gd_e h
    refine xw_cald B.1 hM 2 x1 (by decide) v4 g5 dX5_isMisplaced_16 ?_
    refine lv_bipush (v := 45) hx hb dX5_isMisplaced_17 (by decide) ?_
    refine lv_icmp_eq (tgt := 24) hx hb dX5_isMisplaced_19 (by decide) (fun c6 => ?_) (fun c6 => ?_)
    · have h := bi_t c6 h
      refine lv_aload_n hx hb dX5_isMisplaced_24 rfl (lv_at hl 0 rfl) ?_
      refine xw_get B.1 hM 2 x0 (xv_s (k := 2) (by decide) v1) (ci := 1) (N := 4) (fs := fCa ad x0) (C := RX0) (T := TX0) (fun _ => rfl) rfl inX0 0 (by decide) wf_RX5_394 rfl (v := .ref (ad 4 x0)) rfl dX5_isMisplaced_25 ?_
      refine lv_iload_n hx hb dX5_isMisplaced_28 rfl (lv_at hl 2 rfl) ?_
      obtain ⟨g7, h⟩ := gd_e h
      refine xw_cald B.1 hM 0 x0 (by decide) v1 g7 dX5_isMisplaced_29 ?_
      refine lv_istore_n (lv' := [(3, .int (xR st 0 x0 x2.toNatClampNeg)), (0, .ref (ad 2 x0)), (1, .ref (ad 2 x1)), (2, .int x2)]) hx hb dX5_isMisplaced_30 rfl hl (by decide) rfl (fun ls hl => ?_)
      refine lv_aload_n hx hb dX5_isMisplaced_31 rfl (lv_at hl 2 rfl) ?_
      refine xw_get B.1 hM 2 x1 (xv_s (k := 2) (by decide) v4) (ci := 1) (N := 4) (fs := fCa ad x1) (C := RX0) (T := TX0) (fun _ => rfl) rfl inX0 0 (by decide) wf_RX5_394 rfl (v := .ref (ad 4 x1)) rfl dX5_isMisplaced_32 ?_
      refine lv_iload_n hx hb dX5_isMisplaced_35 rfl (lv_at hl 3 rfl) ?_
      obtain ⟨g8, h⟩ := gd_e h
      refine xw_cald B.1 hM 0 x1 (by decide) v4 g8 dX5_isMisplaced_36 ?_
      refine lv_istore (lv' := [(4, .int (xR st 0 x1 x2.toNatClampNeg)), (3, .int (xR st 0 x0 x2.toNatClampNeg)), (0, .ref (ad 2 x0)), (1, .ref (ad 2 x1)), (2, .int x2)]) hx hb dX5_isMisplaced_37 hl (by decide) rfl (fun ls hl => ?_)
      refine lv_iload_n hx hb dX5_isMisplaced_39 rfl (lv_at hl 1 rfl) ?_
      refine lv_bipush (v := 108) hx hb dX5_isMisplaced_40 (by decide) ?_
      refine lv_icmp_ne (tgt := 52) hx hb dX5_isMisplaced_42 (by decide) (fun c9 => ?_) (fun c9 => ?_)
      · have h := bi_f c9 h
        exact w_X5_isMisplaced_52 B _ _ _ _ _ _ h hM hS (lv_sub hl [1, 0] rfl)
      · have h := bi_t c9 h
        refine lv_iload hx hb dX5_isMisplaced_45 (lv_at hl 0 rfl) ?_
        refine lv_bipush (v := 114) hx hb dX5_isMisplaced_47 (by decide) ?_
        refine lv_icmp_eq (tgt := 65) hx hb dX5_isMisplaced_49 (by decide) (fun c10 => ?_) (fun c10 => ?_)
        · have h := bi_t c10 h
          exact w_X5_isMisplaced_65 B _ _ _ _ h hM hS (lv_sub hl [] rfl)
        · have h := bi_f c10 h
          exact w_X5_isMisplaced_52 B _ _ _ _ _ _ h hM hS (lv_sub hl [1, 0] rfl)
    · have h := bi_f c6 h
      exact w_X5_isMisplaced_22 B _ _ _ _ h hM hS (lv_sub hl [] rfl)
theorem c_X5_isMisplaced {l : Launch} (hll : l.stackTraces = false) {G : GG} {A : Nat → Prop} {ad : AD} {st : XS} {x0 : Nat} {x1 : Nat} {x2 : Int32} {r : Int32} {st' : XS} (h : f_X5_isMisplaced st x0 x1 x2 = some (r, st')) : Met l yX5_isMisplaced (Cond.code yX5_isMisplaced cX5_isMisplaced 5 (some .boolean) :: TG) ({ frames := 0, cells := 0, slots := 0, locals := 0 } : Room) (PX G A ad st [.ref (ad 2 x0), .ref (ad 2 x1), .int x2]) (QX G A ad (some (.int r)) st') 0 0 A :=
  xw_of (own := RX5) hll (by decide +kernel) rfl (Nat.le_of_ble_eq_true rfl) fun p e s m below meth c ls B hM hS hl => w_X5_isMisplaced B _ _ _ _ _ _ _ h hM hS hl
set_option maxHeartbeats 4000000 in
set_option maxRecDepth 100000 in
theorem w_X5_faultBetween_72 {p : Program} {l : Launch} {e : Env} {s : State} {m : MethodId} {args : Array Value} {below : List Frame} {meth : Method} {c : Code} {G : GG} {A : Nat → Prop} {ad : AD} (B : XB G A ad p l s m args meth c cX5_faultBetween 3 RX5 (some .char)) {r : Int32} {st' : XS} : ∀ (n : Nat) (st : XS) (x0 : Nat) (x1 : Nat) (x2 : Int32) (H : Heap) (locs : List Loc) (ls : Array Slot), f_X5_faultBetween_72 n st x0 x1 x2 = some (r, st') → XW G A ad st H → va_S A s.heap H locs → lv_has ls 3 [(0, .ref (ad 1 x0)), (1, .ref (ad 1 x1)), (2, .int x2)] → W p l e ({ frames := 3, cells := 0, slots := 0, locals := 69 } : Room) s m args below meth c H locs 0 0 (MQ below (QX G A ad (some (.int r)) st') args s 0 0 A) (F0 m 72 ls []) := by
  have ⟨⟨hx, hb, hr, hml, hown, hT, hlocks, hK⟩, hnt, hST, hA, hll⟩ := B
  intro n
  induction n with
  | zero =>
    intro st x0 x1 x2 H locs ls h
    cases h
  | succ n ih =>
    intro st x0 x1 x2 H locs ls h hM hS hl
    rw [f_X5_faultBetween_72] at h
    refine lv_iload_n hx hb dX5_faultBetween_72 rfl (lv_at hl 2 rfl) ?_
    refine lv_iconst (v := 4) hx hb dX5_faultBetween_73 (by decide) ?_
    refine lv_icmp_ge (tgt := 101) hx hb dX5_faultBetween_74 (by decide) (fun c1 => ?_) (fun c1 => ?_)
    · have h := bi_t c1 h
      refine lv_bipush (v := 45) hx hb dX5_faultBetween_101 (by decide) ?_
      cases h
      exact xw_zret B hM hS (Nat.le_refl 0) (Nat.le_refl 0) (by rfl) dX5_faultBetween_103
    · have h := bi_f c1 h
      refine lv_aload_n hx hb dX5_faultBetween_77 rfl (lv_at hl 0 rfl) ?_
      obtain ⟨v2, h⟩ := gd_e h
      refine xw_get B.1 hM 1 x0 (xv_s (k := 1) (by decide) v2) (ci := 5) (N := 12) (fs := fSh ad st x0) (C := RX4) (T := TX4) (fun _ => rfl) rfl inX4 1 (by decide) wf_RX5_148 rfl (v := .ref (ad 2 x0)) rfl dX5_faultBetween_78 ?_
      refine lv_aload_n hx hb dX5_faultBetween_81 rfl (lv_at hl 1 rfl) ?_
      obtain ⟨v3, h⟩ := gd_e h
      refine xw_get B.1 hM 1 x1 (xv_s (k := 1) (by decide) v3) (ci := 5) (N := 12) (fs := fSh ad st x1) (C := RX4) (T := TX4) (fun _ => rfl) rfl inX4 1 (by decide) wf_RX5_148 rfl (v := .ref (ad 2 x1)) rfl dX5_faultBetween_82 ?_
      refine lv_iload_n hx hb dX5_faultBetween_85 rfl (lv_at hl 2 rfl) ?_
      obtain ⟨r4, t5, e6, h⟩ := bd_e h
      refine xw_callS B hM hS [.ref (ad 2 x0), .ref (ad 2 x1), .int x2] (n := 3) (v := (some (.int r4))) (c_X5_isMisplaced B.2.2.2.2 e6) wm_RX5_379 wt_yX5_isMisplaced wn_RX5 wc_yX5_isMisplaced rfl rfl (by decide +kernel) ⟨Nat.le_of_ble_eq_true rfl, Nat.le_of_ble_eq_true rfl⟩ ⟨Nat.le_refl 0, Nat.le_refl 0⟩ rfl hl.1 (Nat.le_of_ble_eq_true rfl) rfl dX5_faultBetween_86 (fun H locs hM hS => ?_)
      refine lv_if_eq (tgt := 95) hx hb dX5_faultBetween_89 (by decide) (fun c7 => ?_) (fun c7 => ?_)
      · have h := bi_t c7 h
        refine lv_iinc (v := (x2 + 1)) (lv' := [(2, .int (x2 + 1)), (0, .ref (ad 1 x0)), (1, .ref (ad 1 x1))]) hx hb dX5_faultBetween_95 hl (k := 2) rfl rfl (by decide) rfl (fun ls hl => ?_)
        refine lv_goto (tgt := 72) hx hb dX5_faultBetween_98 (by decide) ?_
        exact ih _ _ _ _ _ _ _ h hM hS (lv_sub hl [1, 2, 0] rfl)
      · have h := bi_f c7 h
        refine lv_bipush (v := 109) hx hb dX5_faultBetween_92 (by decide) ?_
        cases h
        exact xw_zret B hM hS (Nat.le_refl 0) (Nat.le_refl 0) (by rfl) dX5_faultBetween_94
set_option maxHeartbeats 4000000 in
set_option maxRecDepth 100000 in
theorem w_X5_faultBetween_41 {p : Program} {l : Launch} {e : Env} {s : State} {m : MethodId} {args : Array Value} {below : List Frame} {meth : Method} {c : Code} {G : GG} {A : Nat → Prop} {ad : AD} (B : XB G A ad p l s m args meth c cX5_faultBetween 3 RX5 (some .char)) {r : Int32} {st' : XS} : ∀ (n : Nat) (st : XS) (x0 : Nat) (x1 : Nat) (x2 : Int32) (H : Heap) (locs : List Loc) (ls : Array Slot), f_X5_faultBetween_41 n st x0 x1 x2 = some (r, st') → XW G A ad st H → va_S A s.heap H locs → lv_has ls 3 [(0, .ref (ad 1 x0)), (1, .ref (ad 1 x1)), (2, .int x2)] → W p l e ({ frames := 3, cells := 0, slots := 0, locals := 69 } : Room) s m args below meth c H locs 0 0 (MQ below (QX G A ad (some (.int r)) st') args s 0 0 A) (F0 m 41 ls []) := by
  have ⟨⟨hx, hb, hr, hml, hown, hT, hlocks, hK⟩, hnt, hST, hA, hll⟩ := B
  intro n
  induction n with
  | zero =>
    intro st x0 x1 x2 H locs ls h
    cases h
  | succ n ih =>
    intro st x0 x1 x2 H locs ls h hM hS hl
    rw [f_X5_faultBetween_41] at h
    refine lv_iload_n hx hb dX5_faultBetween_41 rfl (lv_at hl 2 rfl) ?_
    refine lv_iconst (v := 4) hx hb dX5_faultBetween_42 (by decide) ?_
    refine lv_icmp_ge (tgt := 70) hx hb dX5_faultBetween_43 (by decide) (fun c1 => ?_) (fun c1 => ?_)
    · have h := bi_t c1 h
      refine lv_iconst (v := 0) hx hb dX5_faultBetween_70 (by decide) ?_
      refine lv_istore_n (lv' := [(2, .int 0), (0, .ref (ad 1 x0)), (1, .ref (ad 1 x1))]) hx hb dX5_faultBetween_71 rfl hl (by decide) rfl (fun ls hl => ?_)
      exact w_X5_faultBetween_72 B FU _ _ _ _ _ _ _ h hM hS (lv_sub hl [1, 2, 0] rfl)
    · have h := bi_f c1 h
      refine lv_aload_n hx hb dX5_faultBetween_46 rfl (lv_at hl 0 rfl) ?_
      obtain ⟨v2, h⟩ := gd_e h
      refine xw_get B.1 hM 1 x0 (xv_s (k := 1) (by decide) v2) (ci := 5) (N := 12) (fs := fSh ad st x0) (C := RX4) (T := TX4) (fun _ => rfl) rfl inX4 1 (by decide) wf_RX5_148 rfl (v := .ref (ad 2 x0)) rfl dX5_faultBetween_47 ?_
      refine lv_aload_n hx hb dX5_faultBetween_50 rfl (lv_at hl 1 rfl) ?_
      obtain ⟨v3, h⟩ := gd_e h
      refine xw_get B.1 hM 1 x1 (xv_s (k := 1) (by decide) v3) (ci := 5) (N := 12) (fs := fSh ad st x1) (C := RX4) (T := TX4) (fun _ => rfl) rfl inX4 1 (by decide) wf_RX5_148 rfl (v := .ref (ad 2 x1)) rfl dX5_faultBetween_51 ?_
      refine lv_iload_n hx hb dX5_faultBetween_54 rfl (lv_at hl 2 rfl) ?_
      obtain ⟨r4, t5, e6, h⟩ := bd_e h
      refine xw_callS B hM hS [.ref (ad 2 x0), .ref (ad 2 x1), .int x2] (n := 3) (v := (some (.int r4))) (c_X5_isBackByTheSameEdge B.2.2.2.2 e6) wm_RX5_375 wt_yX5_isBackByTheSameEdge wn_RX5 wc_yX5_isBackByTheSameEdge rfl rfl (by decide +kernel) ⟨Nat.le_of_ble_eq_true rfl, Nat.le_of_ble_eq_true rfl⟩ ⟨Nat.le_refl 0, Nat.le_refl 0⟩ rfl hl.1 (Nat.le_of_ble_eq_true rfl) rfl dX5_faultBetween_55 (fun H locs hM hS => ?_)
      refine lv_if_eq (tgt := 64) hx hb dX5_faultBetween_58 (by decide) (fun c7 => ?_) (fun c7 => ?_)
      · have h := bi_t c7 h
        refine lv_iinc (v := (x2 + 1)) (lv' := [(2, .int (x2 + 1)), (0, .ref (ad 1 x0)), (1, .ref (ad 1 x1))]) hx hb dX5_faultBetween_64 hl (k := 2) rfl rfl (by decide) rfl (fun ls hl => ?_)
        refine lv_goto (tgt := 41) hx hb dX5_faultBetween_67 (by decide) ?_
        exact ih _ _ _ _ _ _ _ h hM hS (lv_sub hl [1, 2, 0] rfl)
      · have h := bi_f c7 h
        refine lv_bipush (v := 101) hx hb dX5_faultBetween_61 (by decide) ?_
        cases h
        exact xw_zret B hM hS (Nat.le_refl 0) (Nat.le_refl 0) (by rfl) dX5_faultBetween_63
set_option maxHeartbeats 4000000 in
set_option maxRecDepth 100000 in
theorem w_X5_faultBetween {p : Program} {l : Launch} {e : Env} {s : State} {m : MethodId} {args : Array Value} {below : List Frame} {meth : Method} {c : Code} {G : GG} {A : Nat → Prop} {ad : AD} (B : XB G A ad p l s m args meth c cX5_faultBetween 3 RX5 (some .char)) {r : Int32} {st' : XS} : ∀ (st : XS) (x0 : Nat) (x1 : Nat) (H : Heap) (locs : List Loc) (ls : Array Slot), f_X5_faultBetween st x0 x1 = some (r, st') → XW G A ad st H → va_S A s.heap H locs → lv_has ls 3 [(0, .ref (ad 1 x0)), (1, .ref (ad 1 x1))] → W p l e ({ frames := 3, cells := 0, slots := 0, locals := 69 } : Room) s m args below meth c H locs 0 0 (MQ below (QX G A ad (some (.int r)) st') args s 0 0 A) (F0 m 0 ls []) := by
  have ⟨⟨hx, hb, hr, hml, hown, hT, hlocks, hK⟩, hnt, hST, hA, hll⟩ := B
  intro st x0 x1 H locs ls h hM hS hl
  rw [f_X5_faultBetween] at h
  refine lv_aload_n hx hb dX5_faultBetween_0 rfl (lv_at hl 0 rfl) ?_
  refine lv_aload_n hx hb dX5_faultBetween_1 rfl (lv_at hl 1 rfl) ?_
  obtain ⟨r1, t2, e3, h⟩ := bd_e h
  refine xw_callS B hM hS [.ref (ad 1 x0), .ref (ad 1 x1)] (n := 2) (v := (some (.int r1))) (c_X5_isAcrossLine B.2.2.2.2 e3) wm_RX5_365 wt_yX5_isAcrossLine wn_RX5 wc_yX5_isAcrossLine rfl rfl (by decide +kernel) ⟨Nat.le_of_ble_eq_true rfl, Nat.le_of_ble_eq_true rfl⟩ ⟨Nat.le_refl 0, Nat.le_refl 0⟩ rfl hl.1 (Nat.le_of_ble_eq_true rfl) rfl dX5_faultBetween_2 (fun H locs hM hS => ?_)
  refine lv_if_eq (tgt := 11) hx hb dX5_faultBetween_5 (by decide) (fun c4 => ?_) (fun c4 => ?_)
  · have h := bi_t c4 h
    refine lv_aload_n hx hb dX5_faultBetween_11 rfl (lv_at hl 0 rfl) ?_
    refine lv_aload_n hx hb dX5_faultBetween_12 rfl (lv_at hl 1 rfl) ?_
    obtain ⟨r5, t6, e7, h⟩ := bd_e h
    refine xw_callS B hM hS [.ref (ad 1 x0), .ref (ad 1 x1)] (n := 2) (v := (some (.int r5))) (c_X5_isJump B.2.2.2.2 e7) wm_RX5_368 wt_yX5_isJump wn_RX5 wc_yX5_isJump rfl rfl (by decide +kernel) ⟨Nat.le_of_ble_eq_true rfl, Nat.le_of_ble_eq_true rfl⟩ ⟨Nat.le_refl 0, Nat.le_refl 0⟩ rfl hl.1 (Nat.le_of_ble_eq_true rfl) rfl dX5_faultBetween_13 (fun H locs hM hS => ?_)
    refine lv_if_eq (tgt := 22) hx hb dX5_faultBetween_16 (by decide) (fun c8 => ?_) (fun c8 => ?_)
    · have h := bi_t c8 h
      refine lv_aload_n hx hb dX5_faultBetween_22 rfl (lv_at hl 0 rfl) ?_
      obtain ⟨v9, h⟩ := gd_e h
      refine xw_get B.1 hM 1 x0 (xv_s (k := 1) (by decide) v9) (ci := 5) (N := 12) (fs := fSh ad t6 x0) (C := RX4) (T := TX4) (fun _ => rfl) rfl inX4 1 (by decide) wf_RX5_148 rfl (v := .ref (ad 2 x0)) rfl dX5_faultBetween_23 ?_
      refine lv_aload_n hx hb dX5_faultBetween_26 rfl (lv_at hl 1 rfl) ?_
      obtain ⟨v10, h⟩ := gd_e h
      refine xw_get B.1 hM 1 x1 (xv_s (k := 1) (by decide) v10) (ci := 5) (N := 12) (fs := fSh ad t6 x1) (C := RX4) (T := TX4) (fun _ => rfl) rfl inX4 1 (by decide) wf_RX5_148 rfl (v := .ref (ad 2 x1)) rfl dX5_faultBetween_27 ?_
      obtain ⟨r11, t12, e13, h⟩ := bd_e h
      refine xw_callS B hM hS [.ref (ad 2 x0), .ref (ad 2 x1)] (n := 2) (v := (some (.int r11))) (c_X5_areGazesUnmatched B.2.2.2.2 e13) wm_RX5_371 wt_yX5_areGazesUnmatched wn_RX5 wc_yX5_areGazesUnmatched rfl rfl (by decide +kernel) ⟨Nat.le_of_ble_eq_true rfl, Nat.le_of_ble_eq_true rfl⟩ ⟨Nat.le_refl 0, Nat.le_refl 0⟩ rfl hl.1 (Nat.le_of_ble_eq_true rfl) rfl dX5_faultBetween_30 (fun H locs hM hS => ?_)
      refine lv_if_eq (tgt := 39) hx hb dX5_faultBetween_33 (by decide) (fun c14 => ?_) (fun c14 => ?_)
      · have h := bi_t c14 h
        refine lv_iconst (v := 0) hx hb dX5_faultBetween_39 (by decide) ?_
        refine lv_istore_n (lv' := [(2, .int 0), (0, .ref (ad 1 x0)), (1, .ref (ad 1 x1))]) hx hb dX5_faultBetween_40 rfl hl (by decide) rfl (fun ls hl => ?_)
        exact w_X5_faultBetween_41 B FU _ _ _ _ _ _ _ h hM hS (lv_sub hl [1, 2, 0] rfl)
      · have h := bi_f c14 h
        refine lv_bipush (v := 103) hx hb dX5_faultBetween_36 (by decide) ?_
        cases h
        exact xw_zret B hM hS (Nat.le_refl 0) (Nat.le_refl 0) (by rfl) dX5_faultBetween_38
    · have h := bi_f c8 h
      refine lv_bipush (v := 106) hx hb dX5_faultBetween_19 (by decide) ?_
      cases h
      exact xw_zret B hM hS (Nat.le_refl 0) (Nat.le_refl 0) (by rfl) dX5_faultBetween_21
  · have h := bi_f c4 h
    refine lv_bipush (v := 120) hx hb dX5_faultBetween_8 (by decide) ?_
    cases h
    exact xw_zret B hM hS (Nat.le_refl 0) (Nat.le_refl 0) (by rfl) dX5_faultBetween_10
theorem c_X5_faultBetween {l : Launch} (hll : l.stackTraces = false) {G : GG} {A : Nat → Prop} {ad : AD} {st : XS} {x0 : Nat} {x1 : Nat} {r : Int32} {st' : XS} (h : f_X5_faultBetween st x0 x1 = some (r, st')) : Met l yX5_faultBetween (Cond.code yX5_faultBetween cX5_faultBetween 3 (some .char) :: TG) ({ frames := 3, cells := 0, slots := 0, locals := 69 } : Room) (PX G A ad st [.ref (ad 1 x0), .ref (ad 1 x1)]) (QX G A ad (some (.int r)) st') 0 0 A :=
  xw_of (own := RX5) hll (by decide +kernel) rfl (Nat.le_of_ble_eq_true rfl) fun p e s m below meth c ls B hM hS hl => w_X5_faultBetween B _ _ _ _ _ _ h hM hS hl
set_option maxHeartbeats 4000000 in
set_option maxRecDepth 100000 in
theorem w_X2_goodEndingWith_66 {p : Program} {l : Launch} {e : Env} {s : State} {m : MethodId} {args : Array Value} {below : List Frame} {meth : Method} {c : Code} {G : GG} {A : Nat → Prop} {ad : AD} (B : XB G A ad p l s m args meth c cX2_goodEndingWith 6 RX2 (some .int)) {r : Int32} {st' : XS} {k27 : XS → Int32 → Int32 → Int32 → Int32 → Option (Int32 × XS)} (hk27 : ∀ (st : XS) (x1 : Int32) (x3 : Int32) (x4 : Int32) (x5 : Int32) (H : Heap) (locs : List Loc) (ls : Array Slot), k27 st x1 x3 x4 x5 = some (r, st') → XW G A ad st H → va_S A s.heap H locs → lv_has ls 6 [(0, .ref (ad 9 0)), (1, .int x1), (3, .int x3), (4, .int x4), (5, .int x5)] → W p l e ({ frames := 1, cells := 0, slots := 0, locals := 21 } : Room) s m args below meth c H locs 0 0 (MQ below (QX G A ad (some (.int r)) st') args s 0 0 A) (F0 m 27 ls [])) : ∀ (st : XS) (x1 : Int32) (x3 : Int32) (x4 : Int32) (x5 : Int32) (H : Heap) (locs : List Loc) (ls : Array Slot), f_X2_goodEndingWith_66 k27 st x1 x3 x4 x5 = some (r, st') → XW G A ad st H → va_S A s.heap H locs → lv_has ls 6 [(0, .ref (ad 9 0)), (1, .int x1), (3, .int x3), (4, .int x4), (5, .int x5)] → W p l e ({ frames := 1, cells := 0, slots := 0, locals := 21 } : Room) s m args below meth c H locs 0 0 (MQ below (QX G A ad (some (.int r)) st') args s 0 0 A) (F0 m 66 ls []) := by
  have ⟨⟨hx, hb, hr, hml, hown, hT, hlocks, hK⟩, hnt, hST, hA, hll⟩ := B
  intro st x1 x3 x4 x5 H locs ls h hM hS hl
  rw [f_X2_goodEndingWith_66] at h
  refine lv_iinc (v := (x5 + 1)) (lv' := [(5, .int (x5 + 1)), (0, .ref (ad 9 0)), (1, .int x1), (3, .int x3), (4, .int x4)]) hx hb dX2_goodEndingWith_66 hl (k := 4) rfl rfl (by decide) rfl (fun ls hl => ?_)
  refine lv_goto (tgt := 27) hx hb dX2_goodEndingWith_69 (by decide) ?_
  exact hk27 _ _ _ _ _ _ _ _ h hM hS (lv_sub hl [1, 2, 3, 4, 0] rfl)
set_option maxHeartbeats 4000000 in
set_option maxRecDepth 100000 in
theorem w_X2_goodEndingWith_27 {p : Program} {l : Launch} {e : Env} {s : State} {m : MethodId} {args : Array Value} {below : List Frame} {meth : Method} {c : Code} {G : GG} {A : Nat → Prop} {ad : AD} (B : XB G A ad p l s m args meth c cX2_goodEndingWith 6 RX2 (some .int)) {r : Int32} {st' : XS} : ∀ (n : Nat) (st : XS) (x1 : Int32) (x3 : Int32) (x4 : Int32) (x5 : Int32) (H : Heap) (locs : List Loc) (ls : Array Slot), f_X2_goodEndingWith_27 n st x1 x3 x4 x5 = some (r, st') → XW G A ad st H → va_S A s.heap H locs → lv_has ls 6 [(0, .ref (ad 9 0)), (1, .int x1), (3, .int x3), (4, .int x4), (5, .int x5)] → W p l e ({ frames := 1, cells := 0, slots := 0, locals := 21 } : Room) s m args below meth c H locs 0 0 (MQ below (QX G A ad (some (.int r)) st') args s 0 0 A) (F0 m 27 ls []) := by
  have ⟨⟨hx, hb, hr, hml, hown, hT, hlocks, hK⟩, hnt, hST, hA, hll⟩ := B
  intro n
  induction n with
  | zero =>
    intro st x1 x3 x4 x5 H locs ls h
    cases h
  | succ n ih =>
    intro st x1 x3 x4 x5 H locs ls h hM hS hl
    rw [f_X2_goodEndingWith_27] at h
    refine lv_iload hx hb dX2_goodEndingWith_27 (lv_at hl 4 rfl) ?_
    refine lv_aload_n hx hb dX2_goodEndingWith_29 rfl (lv_at hl 0 rfl) ?_
    refine xw_get B.1 hM 9 0 (xv_o (k := 9) (by decide)) (ci := 3) (N := 4) (fs := fOr ad st) (C := RX2) (T := TX2) (fun _ => rfl) rfl inX2 3 (by decide) wf_RX2_34 rfl (v := .int (xF st 4 0 3)) rfl dX2_goodEndingWith_30 ?_
    refine lv_icmp_ge (tgt := 72) hx hb dX2_goodEndingWith_33 (by decide) (fun c1 => ?_) (fun c1 => ?_)
    · have h := bi_t c1 h
      refine lv_iload hx hb dX2_goodEndingWith_72 (lv_at hl 3 rfl) ?_
      cases h
      exact xw_iret B hM hS (Nat.le_refl 0) (Nat.le_refl 0) dX2_goodEndingWith_74
    · have h := bi_f c1 h
      refine lv_aload_n hx hb dX2_goodEndingWith_36 rfl (lv_at hl 0 rfl) ?_
      refine xw_get B.1 hM 9 0 (xv_o (k := 9) (by decide)) (ci := 3) (N := 4) (fs := fOr ad st) (C := RX2) (T := TX2) (fun _ => rfl) rfl inX2 0 (by decide) wf_RX2_9 rfl (v := .ref (ad 10 0)) rfl dX2_goodEndingWith_37 ?_
      refine lv_iload hx hb dX2_goodEndingWith_40 (lv_at hl 4 rfl) ?_
      refine lv_iload_n hx hb dX2_goodEndingWith_42 rfl (lv_at hl 1 rfl) ?_
      obtain ⟨r2, t3, e4, h⟩ := bd_e h
      refine xw_callS B hM hS [.int x5, .int x1] (n := 2) (v := (some (.int r2))) (c_X2_cell B.2.2.2.2 e4) wm_RX2_38 wt_yX2_cell wn_RX2 wc_yX2_cell rfl rfl (by decide +kernel) ⟨Nat.le_of_ble_eq_true rfl, Nat.le_of_ble_eq_true rfl⟩ ⟨Nat.le_refl 0, Nat.le_refl 0⟩ rfl hl.1 (Nat.le_of_ble_eq_true rfl) rfl dX2_goodEndingWith_43 (fun H locs hM hS => ?_)
      obtain ⟨g5, h⟩ := gd_e h
      refine xw_zald B.1 hM g5 dX2_goodEndingWith_46 ?_
      refine lv_if_ne (tgt := 66) hx hb dX2_goodEndingWith_47 (by decide) (fun c6 => ?_) (fun c6 => ?_)
      · have h := bi_f c6 h
        exact w_X2_goodEndingWith_66 B ih _ _ _ _ _ _ _ _ h hM hS (lv_sub hl [0, 1, 2, 3, 4] rfl)
      · have h := bi_t c6 h
        refine lv_iload hx hb dX2_goodEndingWith_50 (lv_at hl 3 rfl) ?_
        refine lv_aload_n hx hb dX2_goodEndingWith_52 rfl (lv_at hl 0 rfl) ?_
        refine xw_get B.1 hM 9 0 (xv_o (k := 9) (by decide)) (ci := 3) (N := 4) (fs := fOr ad t3) (C := RX2) (T := TX2) (fun _ => rfl) rfl inX2 1 (by decide) wf_RX2_15 rfl (v := .ref (ad 11 0)) rfl dX2_goodEndingWith_53 ?_
        refine lv_iload_n hx hb dX2_goodEndingWith_56 rfl (lv_at hl 2 rfl) ?_
        refine lv_iload hx hb dX2_goodEndingWith_57 (lv_at hl 4 rfl) ?_
        obtain ⟨r7, t8, e9, h⟩ := bd_e h
        refine xw_callS B hM hS [.int x3, .int x5] (n := 2) (v := (some (.int r7))) (c_X2_cell B.2.2.2.2 e9) wm_RX2_38 wt_yX2_cell wn_RX2 wc_yX2_cell rfl rfl (by decide +kernel) ⟨Nat.le_of_ble_eq_true rfl, Nat.le_of_ble_eq_true rfl⟩ ⟨Nat.le_refl 0, Nat.le_refl 0⟩ rfl hl.1 (Nat.le_of_ble_eq_true rfl) rfl dX2_goodEndingWith_59 (fun H locs hM hS => ?_)
        obtain ⟨g10, h⟩ := gd_e h
        refine xw_iald B.1 hM 11 (Or.inl rfl) g10 dX2_goodEndingWith_62 ?_
        refine lv_iadd hx hb dX2_goodEndingWith_63 ?_
        refine lv_istore (lv' := [(4, .int (x4 + (xR t8 5 0 r7.toNatClampNeg))), (0, .ref (ad 9 0)), (1, .int x1), (3, .int x3), (5, .int x5)]) hx hb dX2_goodEndingWith_64 hl (by decide) rfl (fun ls hl => ?_)
        exact w_X2_goodEndingWith_66 B ih _ _ _ _ _ _ _ _ h hM hS (lv_sub hl [1, 2, 3, 0, 4] rfl)
set_option maxHeartbeats 4000000 in
set_option maxRecDepth 100000 in
theorem w_X2_goodEndingWith {p : Program} {l : Launch} {e : Env} {s : State} {m : MethodId} {args : Array Value} {below : List Frame} {meth : Method} {c : Code} {G : GG} {A : Nat → Prop} {ad : AD} (B : XB G A ad p l s m args meth c cX2_goodEndingWith 6 RX2 (some .int)) {r : Int32} {st' : XS} : ∀ (st : XS) (x1 : Int32) (x2 : Int32) (H : Heap) (locs : List Loc) (ls : Array Slot), f_X2_goodEndingWith st x1 x2 = some (r, st') → XW G A ad st H → va_S A s.heap H locs → lv_has ls 6 [(0, .ref (ad 9 0)), (1, .int x1), (2, .int x2)] → W p l e ({ frames := 1, cells := 0, slots := 0, locals := 21 } : Room) s m args below meth c H locs 0 0 (MQ below (QX G A ad (some (.int r)) st') args s 0 0 A) (F0 m 0 ls []) := by
  have ⟨⟨hx, hb, hr, hml, hown, hT, hlocks, hK⟩, hnt, hST, hA, hll⟩ := B
  intro st x1 x2 H locs ls h hM hS hl
  rw [f_X2_goodEndingWith] at h
  refine lv_iload_n hx hb dX2_goodEndingWith_0 rfl (lv_at hl 2 rfl) ?_
  refine lv_iconst (v := 1) hx hb dX2_goodEndingWith_1 (by decide) ?_
  refine lv_iload_n hx hb dX2_goodEndingWith_2 rfl (lv_at hl 1 rfl) ?_
  refine lv_ishl hx hb dX2_goodEndingWith_3 ?_
  refine lv_iconst (v := (-1)) hx hb dX2_goodEndingWith_4 (by decide) ?_
  refine lv_ixor hx hb dX2_goodEndingWith_5 ?_
  refine lv_iand hx hb dX2_goodEndingWith_6 ?_
  refine lv_istore_n (lv' := [(3, .int (x2 &&& ((1 <<< (x1 &&& 31)) ^^^ (-1)))), (0, .ref (ad 9 0)), (1, .int x1), (2, .int x2)]) hx hb dX2_goodEndingWith_7 rfl hl (by decide) rfl (fun ls hl => ?_)
  refine lv_iload_n hx hb dX2_goodEndingWith_8 rfl (lv_at hl 0 rfl) ?_
  refine lv_iload_n hx hb dX2_goodEndingWith_9 rfl (lv_at hl 3 rfl) ?_
  refine lv_icmp_ne (tgt := 15) hx hb dX2_goodEndingWith_10 (by decide) (fun c1 => ?_) (fun c1 => ?_)
  · have h := bi_f c1 h
    refine lv_iload_n hx hb dX2_goodEndingWith_15 rfl (lv_at hl 0 rfl) ?_
    refine lv_if_ne (tgt := 21) hx hb dX2_goodEndingWith_16 (by decide) (fun c2 => ?_) (fun c2 => ?_)
    · have h := bi_f c2 h
      refine lv_iconst (v := 0) hx hb dX2_goodEndingWith_21 (by decide) ?_
      refine lv_istore (lv' := [(4, .int 0), (3, .int (x2 &&& ((1 <<< (x1 &&& 31)) ^^^ (-1)))), (0, .ref (ad 9 0)), (1, .int x1), (2, .int x2)]) hx hb dX2_goodEndingWith_22 hl (by decide) rfl (fun ls hl => ?_)
      refine lv_iconst (v := 0) hx hb dX2_goodEndingWith_24 (by decide) ?_
      refine lv_istore (lv' := [(5, .int 0), (4, .int 0), (3, .int (x2 &&& ((1 <<< (x1 &&& 31)) ^^^ (-1)))), (0, .ref (ad 9 0)), (1, .int x1), (2, .int x2)]) hx hb dX2_goodEndingWith_25 hl (by decide) rfl (fun ls hl => ?_)
      exact w_X2_goodEndingWith_27 B FU _ _ _ _ _ _ _ _ h hM hS (lv_sub hl [3, 4, 2, 1, 0] rfl)
    · have h := bi_t c2 h
      refine lv_iconst (v := 1) hx hb dX2_goodEndingWith_19 (by decide) ?_
      cases h
      exact xw_iret B hM hS (Nat.le_refl 0) (Nat.le_refl 0) dX2_goodEndingWith_20
  · have h := bi_t c1 h
    refine lv_iconst (v := 0) hx hb dX2_goodEndingWith_13 (by decide) ?_
    cases h
    exact xw_iret B hM hS (Nat.le_refl 0) (Nat.le_refl 0) dX2_goodEndingWith_14
theorem c_X2_goodEndingWith {l : Launch} (hll : l.stackTraces = false) {G : GG} {A : Nat → Prop} {ad : AD} {st : XS} {x1 : Int32} {x2 : Int32} {r : Int32} {st' : XS} (h : f_X2_goodEndingWith st x1 x2 = some (r, st')) : Met l yX2_goodEndingWith (Cond.code yX2_goodEndingWith cX2_goodEndingWith 6 (some .int) :: TG) ({ frames := 1, cells := 0, slots := 0, locals := 21 } : Room) (PX G A ad st [.ref (ad 9 0), .int x1, .int x2]) (QX G A ad (some (.int r)) st') 0 0 A :=
  xw_of (own := RX2) hll (by decide +kernel) rfl (Nat.le_of_ble_eq_true rfl) fun p e s m below meth c ls B hM hS hl => w_X2_goodEndingWith B _ _ _ _ _ _ h hM hS hl
set_option maxHeartbeats 4000000 in
set_option maxRecDepth 100000 in
theorem w_X2_leastEndingWith_59 {p : Program} {l : Launch} {e : Env} {s : State} {m : MethodId} {args : Array Value} {below : List Frame} {meth : Method} {c : Code} {G : GG} {A : Nat → Prop} {ad : AD} (B : XB G A ad p l s m args meth c cX2_leastEndingWith 7 RX2 (some .int)) {r : Int32} {st' : XS} {k31 : XS → Int32 → Int32 → Int32 → Int32 → Option (Int32 × XS)} (hk31 : ∀ (st : XS) (x1 : Int32) (x3 : Int32) (x4 : Int32) (x5 : Int32) (H : Heap) (locs : List Loc) (ls : Array Slot), k31 st x1 x3 x4 x5 = some (r, st') → XW G A ad st H → va_S A s.heap H locs → lv_has ls 7 [(0, .ref (ad 9 0)), (1, .int x1), (3, .int x3), (4, .int x4), (5, .int x5)] → W p l e ({ frames := 1, cells := 0, slots := 0, locals := 30 } : Room) s m args below meth c H locs 0 0 (MQ below (QX G A ad (some (.int r)) st') args s 0 0 A) (F0 m 31 ls [])) : ∀ (st : XS) (x1 : Int32) (x3 : Int32) (x4 : Int32) (x5 : Int32) (y0 : Int32) (H : Heap) (locs : List Loc) (ls : Array Slot), f_X2_leastEndingWith_59 k31 st x1 x3 x4 x5 y0 = some (r, st') → XW G A ad st H → va_S A s.heap H locs → lv_has ls 7 [(0, .ref (ad 9 0)), (1, .int x1), (3, .int x3), (4, .int x4), (5, .int x5)] → W p l e ({ frames := 1, cells := 0, slots := 0, locals := 30 } : Room) s m args below meth c H locs 0 0 (MQ below (QX G A ad (some (.int r)) st') args s 0 0 A) (F0 m 59 ls [.int y0]) := by
  have ⟨⟨hx, hb, hr, hml, hown, hT, hlocks, hK⟩, hnt, hST, hA, hll⟩ := B
  intro st x1 x3 x4 x5 y0 H locs ls h hM hS hl
  rw [f_X2_leastEndingWith_59] at h
  refine lv_istore (lv' := [(6, .int y0), (0, .ref (ad 9 0)), (1, .int x1), (3, .int x3), (4, .int x4), (5, .int x5)]) hx hb dX2_leastEndingWith_59 hl (by decide) rfl (fun ls hl => ?_)
  refine lv_iload hx hb dX2_leastEndingWith_61 (lv_at hl 4 rfl) ?_
  refine lv_aload_n hx hb dX2_leastEndingWith_63 rfl (lv_at hl 1 rfl) ?_
  refine xw_get B.1 hM 9 0 (xv_o (k := 9) (by decide)) (ci := 3) (N := 4) (fs := fOr ad st) (C := RX2) (T := TX2) (fun _ => rfl) rfl inX2 2 (by decide) wf_RX2_19 rfl (v := .ref (ad 12 0)) rfl dX2_leastEndingWith_64 ?_
  refine lv_iload_n hx hb dX2_leastEndingWith_67 rfl (lv_at hl 3 rfl) ?_
  refine lv_iload hx hb dX2_leastEndingWith_68 (lv_at hl 5 rfl) ?_
  obtain ⟨r1, t2, e3, h⟩ := bd_e h
  refine xw_callS B hM hS [.int x3, .int x5] (n := 2) (v := (some (.int r1))) (c_X2_cell B.2.2.2.2 e3) wm_RX2_38 wt_yX2_cell wn_RX2 wc_yX2_cell rfl rfl (by decide +kernel) ⟨Nat.le_of_ble_eq_true rfl, Nat.le_of_ble_eq_true rfl⟩ ⟨Nat.le_refl 0, Nat.le_refl 0⟩ rfl hl.1 (Nat.le_of_ble_eq_true rfl) rfl dX2_leastEndingWith_70 (fun H locs hM hS => ?_)
  obtain ⟨g4, h⟩ := gd_e h
  refine xw_iald B.1 hM 12 (Or.inr rfl) g4 dX2_leastEndingWith_73 ?_
  refine lv_iload hx hb dX2_leastEndingWith_74 (lv_at hl 0 rfl) ?_
  refine lv_iadd hx hb dX2_leastEndingWith_76 ?_
  refine va_mmin hx hb (hml.trans hl.1.symm) hown (hT _ wm_RX2_28) (hT _ wt_yJ9_min_7cf53) (hT _ wn_RJ9) (hT _ wc_yJ9_min_7cf53) (Nat.le_of_ble_eq_true rfl) (Nat.le_of_ble_eq_true rfl) (Nat.le_refl 0) (Nat.le_refl 0) dX2_leastEndingWith_77 ?_
  refine lv_istore (lv' := [(4, .int (if ((xR t2 6 0 r1.toNatClampNeg) + y0) < x4 then ((xR t2 6 0 r1.toNatClampNeg) + y0) else x4)), (6, .int y0), (0, .ref (ad 9 0)), (1, .int x1), (3, .int x3), (5, .int x5)]) hx hb dX2_leastEndingWith_80 hl (by decide) rfl (fun ls hl => ?_)
  refine lv_iinc (v := (x5 + 1)) (lv' := [(5, .int (x5 + 1)), (4, .int (if ((xR t2 6 0 r1.toNatClampNeg) + y0) < x4 then ((xR t2 6 0 r1.toNatClampNeg) + y0) else x4)), (6, .int y0), (0, .ref (ad 9 0)), (1, .int x1), (3, .int x3)]) hx hb dX2_leastEndingWith_82 hl (k := 5) rfl rfl (by decide) rfl (fun ls hl => ?_)
  refine lv_goto (tgt := 31) hx hb dX2_leastEndingWith_85 (by decide) ?_
  exact hk31 _ _ _ _ _ _ _ _ h hM hS (lv_sub hl [3, 4, 5, 1, 0] rfl)
set_option maxHeartbeats 4000000 in
set_option maxRecDepth 100000 in
theorem w_X2_leastEndingWith_31 {p : Program} {l : Launch} {e : Env} {s : State} {m : MethodId} {args : Array Value} {below : List Frame} {meth : Method} {c : Code} {G : GG} {A : Nat → Prop} {ad : AD} (B : XB G A ad p l s m args meth c cX2_leastEndingWith 7 RX2 (some .int)) {r : Int32} {st' : XS} : ∀ (n : Nat) (st : XS) (x1 : Int32) (x3 : Int32) (x4 : Int32) (x5 : Int32) (H : Heap) (locs : List Loc) (ls : Array Slot), f_X2_leastEndingWith_31 n st x1 x3 x4 x5 = some (r, st') → XW G A ad st H → va_S A s.heap H locs → lv_has ls 7 [(0, .ref (ad 9 0)), (1, .int x1), (3, .int x3), (4, .int x4), (5, .int x5)] → W p l e ({ frames := 1, cells := 0, slots := 0, locals := 30 } : Room) s m args below meth c H locs 0 0 (MQ below (QX G A ad (some (.int r)) st') args s 0 0 A) (F0 m 31 ls []) := by
  have ⟨⟨hx, hb, hr, hml, hown, hT, hlocks, hK⟩, hnt, hST, hA, hll⟩ := B
  intro n
  induction n with
  | zero =>
    intro st x1 x3 x4 x5 H locs ls h
    cases h
  | succ n ih =>
    intro st x1 x3 x4 x5 H locs ls h hM hS hl
    rw [f_X2_leastEndingWith_31] at h
    refine lv_iload hx hb dX2_leastEndingWith_31 (lv_at hl 4 rfl) ?_
    refine lv_aload_n hx hb dX2_leastEndingWith_33 rfl (lv_at hl 0 rfl) ?_
    refine xw_get B.1 hM 9 0 (xv_o (k := 9) (by decide)) (ci := 3) (N := 4) (fs := fOr ad st) (C := RX2) (T := TX2) (fun _ => rfl) rfl inX2 3 (by decide) wf_RX2_34 rfl (v := .int (xF st 4 0 3)) rfl dX2_leastEndingWith_34 ?_
    refine lv_icmp_ge (tgt := 88) hx hb dX2_leastEndingWith_37 (by decide) (fun c1 => ?_) (fun c1 => ?_)
    · have h := bi_t c1 h
      refine lv_iload hx hb dX2_leastEndingWith_88 (lv_at hl 3 rfl) ?_
      cases h
      exact xw_iret B hM hS (Nat.le_refl 0) (Nat.le_refl 0) dX2_leastEndingWith_90
    · have h := bi_f c1 h
      refine lv_aload_n hx hb dX2_leastEndingWith_40 rfl (lv_at hl 0 rfl) ?_
      refine xw_get B.1 hM 9 0 (xv_o (k := 9) (by decide)) (ci := 3) (N := 4) (fs := fOr ad st) (C := RX2) (T := TX2) (fun _ => rfl) rfl inX2 0 (by decide) wf_RX2_9 rfl (v := .ref (ad 10 0)) rfl dX2_leastEndingWith_41 ?_
      refine lv_iload hx hb dX2_leastEndingWith_44 (lv_at hl 4 rfl) ?_
      refine lv_iload_n hx hb dX2_leastEndingWith_46 rfl (lv_at hl 1 rfl) ?_
      obtain ⟨r2, t3, e4, h⟩ := bd_e h
      refine xw_callS B hM hS [.int x5, .int x1] (n := 2) (v := (some (.int r2))) (c_X2_cell B.2.2.2.2 e4) wm_RX2_38 wt_yX2_cell wn_RX2 wc_yX2_cell rfl rfl (by decide +kernel) ⟨Nat.le_of_ble_eq_true rfl, Nat.le_of_ble_eq_true rfl⟩ ⟨Nat.le_refl 0, Nat.le_refl 0⟩ rfl hl.1 (Nat.le_of_ble_eq_true rfl) rfl dX2_leastEndingWith_47 (fun H locs hM hS => ?_)
      obtain ⟨g5, h⟩ := gd_e h
      refine xw_zald B.1 hM g5 dX2_leastEndingWith_50 ?_
      refine lv_if_eq (tgt := 58) hx hb dX2_leastEndingWith_51 (by decide) (fun c6 => ?_) (fun c6 => ?_)
      · have h := bi_t c6 h
        refine lv_iconst (v := 0) hx hb dX2_leastEndingWith_58 (by decide) ?_
        exact w_X2_leastEndingWith_59 B ih _ _ _ _ _ _ _ _ _ h hM hS (lv_sub hl [0, 1, 2, 3, 4] rfl)
      · have h := bi_f c6 h
        refine lv_iconst (v := 1) hx hb dX2_leastEndingWith_54 (by decide) ?_
        refine lv_goto (tgt := 59) hx hb dX2_leastEndingWith_55 (by decide) ?_
        exact w_X2_leastEndingWith_59 B ih _ _ _ _ _ _ _ _ _ h hM hS (lv_sub hl [0, 1, 2, 3, 4] rfl)
set_option maxHeartbeats 4000000 in
set_option maxRecDepth 100000 in
theorem w_X2_leastEndingWith {p : Program} {l : Launch} {e : Env} {s : State} {m : MethodId} {args : Array Value} {below : List Frame} {meth : Method} {c : Code} {G : GG} {A : Nat → Prop} {ad : AD} (B : XB G A ad p l s m args meth c cX2_leastEndingWith 7 RX2 (some .int)) {r : Int32} {st' : XS} : ∀ (st : XS) (x1 : Int32) (x2 : Int32) (H : Heap) (locs : List Loc) (ls : Array Slot), f_X2_leastEndingWith st x1 x2 = some (r, st') → XW G A ad st H → va_S A s.heap H locs → lv_has ls 7 [(0, .ref (ad 9 0)), (1, .int x1), (2, .int x2)] → W p l e ({ frames := 1, cells := 0, slots := 0, locals := 30 } : Room) s m args below meth c H locs 0 0 (MQ below (QX G A ad (some (.int r)) st') args s 0 0 A) (F0 m 0 ls []) := by
  have ⟨⟨hx, hb, hr, hml, hown, hT, hlocks, hK⟩, hnt, hST, hA, hll⟩ := B
  intro st x1 x2 H locs ls h hM hS hl
  rw [f_X2_leastEndingWith] at h
  refine lv_iload_n hx hb dX2_leastEndingWith_0 rfl (lv_at hl 2 rfl) ?_
  refine lv_iconst (v := 1) hx hb dX2_leastEndingWith_1 (by decide) ?_
  refine lv_iload_n hx hb dX2_leastEndingWith_2 rfl (lv_at hl 1 rfl) ?_
  refine lv_ishl hx hb dX2_leastEndingWith_3 ?_
  refine lv_iconst (v := (-1)) hx hb dX2_leastEndingWith_4 (by decide) ?_
  refine lv_ixor hx hb dX2_leastEndingWith_5 ?_
  refine lv_iand hx hb dX2_leastEndingWith_6 ?_
  refine lv_istore_n (lv' := [(3, .int (x2 &&& ((1 <<< (x1 &&& 31)) ^^^ (-1)))), (0, .ref (ad 9 0)), (1, .int x1), (2, .int x2)]) hx hb dX2_leastEndingWith_7 rfl hl (by decide) rfl (fun ls hl => ?_)
  refine lv_iload_n hx hb dX2_leastEndingWith_8 rfl (lv_at hl 0 rfl) ?_
  refine lv_iload_n hx hb dX2_leastEndingWith_9 rfl (lv_at hl 3 rfl) ?_
  refine lv_icmp_ne (tgt := 17) hx hb dX2_leastEndingWith_10 (by decide) (fun c1 => ?_) (fun c1 => ?_)
  · have h := bi_f c1 h
    refine lv_iload_n hx hb dX2_leastEndingWith_17 rfl (lv_at hl 0 rfl) ?_
    refine lv_if_ne (tgt := 23) hx hb dX2_leastEndingWith_18 (by decide) (fun c2 => ?_) (fun c2 => ?_)
    · have h := bi_f c2 h
      refine lv_sipush (v := 1000) hx hb dX2_leastEndingWith_23 (by decide) ?_
      refine lv_istore (lv' := [(4, .int 1000), (3, .int (x2 &&& ((1 <<< (x1 &&& 31)) ^^^ (-1)))), (0, .ref (ad 9 0)), (1, .int x1), (2, .int x2)]) hx hb dX2_leastEndingWith_26 hl (by decide) rfl (fun ls hl => ?_)
      refine lv_iconst (v := 0) hx hb dX2_leastEndingWith_28 (by decide) ?_
      refine lv_istore (lv' := [(5, .int 0), (4, .int 1000), (3, .int (x2 &&& ((1 <<< (x1 &&& 31)) ^^^ (-1)))), (0, .ref (ad 9 0)), (1, .int x1), (2, .int x2)]) hx hb dX2_leastEndingWith_29 hl (by decide) rfl (fun ls hl => ?_)
      exact w_X2_leastEndingWith_31 B FU _ _ _ _ _ _ _ _ h hM hS (lv_sub hl [3, 4, 2, 1, 0] rfl)
    · have h := bi_t c2 h
      refine lv_iconst (v := 0) hx hb dX2_leastEndingWith_21 (by decide) ?_
      cases h
      exact xw_iret B hM hS (Nat.le_refl 0) (Nat.le_refl 0) dX2_leastEndingWith_22
  · have h := bi_t c1 h
    refine lv_sipush (v := 1000) hx hb dX2_leastEndingWith_13 (by decide) ?_
    cases h
    exact xw_iret B hM hS (Nat.le_refl 0) (Nat.le_refl 0) dX2_leastEndingWith_16
theorem c_X2_leastEndingWith {l : Launch} (hll : l.stackTraces = false) {G : GG} {A : Nat → Prop} {ad : AD} {st : XS} {x1 : Int32} {x2 : Int32} {r : Int32} {st' : XS} (h : f_X2_leastEndingWith st x1 x2 = some (r, st')) : Met l yX2_leastEndingWith (Cond.code yX2_leastEndingWith cX2_leastEndingWith 7 (some .int) :: TG) ({ frames := 1, cells := 0, slots := 0, locals := 30 } : Room) (PX G A ad st [.ref (ad 9 0), .int x1, .int x2]) (QX G A ad (some (.int r)) st') 0 0 A :=
  xw_of (own := RX2) hll (by decide +kernel) rfl (Nat.le_of_ble_eq_true rfl) fun p e s m below meth c ls B hM hS hl => w_X2_leastEndingWith B _ _ _ _ _ _ h hM hS hl
set_option maxHeartbeats 4000000 in
set_option maxRecDepth 100000 in
theorem w_X2_layOut_98 {p : Program} {l : Launch} {e : Env} {s : State} {m : MethodId} {args : Array Value} {below : List Frame} {meth : Method} {c : Code} {G : GG} {A : Nat → Prop} {ad : AD} (B : XB G A ad p l s m args meth c cX2_layOut 4 RX2 none) {r : Unit} {st' : XS} {k86 : XS → Int32 → Option (Unit × XS)} (hk86 : ∀ (st : XS) (x2 : Int32) (H : Heap) (locs : List Loc) (ls : Array Slot), k86 st x2 = some (r, st') → XW G A ad st H → va_S A s.heap H locs → lv_has ls 4 [(0, .ref (ad 9 0)), (2, .int x2)] → W p l e ({ frames := 4, cells := 0, slots := 0, locals := 91 } : Room) s m args below meth c H locs 0 0 (MQ below (QX G A ad none st') args s 0 0 A) (F0 m 86 ls [])) : ∀ (n : Nat) (st : XS) (x2 : Int32) (x3 : Int32) (H : Heap) (locs : List Loc) (ls : Array Slot), f_X2_layOut_98 k86 n st x2 x3 = some (r, st') → XW G A ad st H → va_S A s.heap H locs → lv_has ls 4 [(0, .ref (ad 9 0)), (2, .int x2), (3, .int x3)] → W p l e ({ frames := 4, cells := 0, slots := 0, locals := 91 } : Room) s m args below meth c H locs 0 0 (MQ below (QX G A ad none st') args s 0 0 A) (F0 m 98 ls []) := by
  have ⟨⟨hx, hb, hr, hml, hown, hT, hlocks, hK⟩, hnt, hST, hA, hll⟩ := B
  intro n
  induction n with
  | zero =>
    intro st x2 x3 H locs ls h
    cases h
  | succ n ih =>
    intro st x2 x3 H locs ls h hM hS hl
    rw [f_X2_layOut_98] at h
    refine lv_iload_n hx hb dX2_layOut_98 rfl (lv_at hl 2 rfl) ?_
    refine lv_aload_n hx hb dX2_layOut_99 rfl (lv_at hl 0 rfl) ?_
    refine xw_get B.1 hM 9 0 (xv_o (k := 9) (by decide)) (ci := 3) (N := 4) (fs := fOr ad st) (C := RX2) (T := TX2) (fun _ => rfl) rfl inX2 3 (by decide) wf_RX2_34 rfl (v := .int (xF st 4 0 3)) rfl dX2_layOut_100 ?_
    refine lv_icmp_ge (tgt := 144) hx hb dX2_layOut_103 (by decide) (fun c1 => ?_) (fun c1 => ?_)
    · have h := bi_t c1 h
      refine lv_iinc (v := (x2 + 1)) (lv' := [(2, .int (x2 + 1)), (0, .ref (ad 9 0)), (3, .int x3)]) hx hb dX2_layOut_144 hl (k := 1) rfl rfl (by decide) rfl (fun ls hl => ?_)
      refine lv_goto (tgt := 86) hx hb dX2_layOut_147 (by decide) ?_
      exact hk86 _ _ _ _ _ h hM hS (lv_sub hl [1, 0] rfl)
    · have h := bi_f c1 h
      refine lv_aload_n hx hb dX2_layOut_106 rfl (lv_at hl 0 rfl) ?_
      refine xw_get B.1 hM 9 0 (xv_o (k := 9) (by decide)) (ci := 3) (N := 4) (fs := fOr ad st) (C := RX2) (T := TX2) (fun _ => rfl) rfl inX2 1 (by decide) wf_RX2_15 rfl (v := .ref (ad 11 0)) rfl dX2_layOut_107 ?_
      refine lv_iload_n hx hb dX2_layOut_110 rfl (lv_at hl 1 rfl) ?_
      refine lv_iload_n hx hb dX2_layOut_111 rfl (lv_at hl 2 rfl) ?_
      obtain ⟨r2, t3, e4, h⟩ := bd_e h
      refine xw_callS B hM hS [.int x2, .int x3] (n := 2) (v := (some (.int r2))) (c_X2_cell B.2.2.2.2 e4) wm_RX2_38 wt_yX2_cell wn_RX2 wc_yX2_cell rfl rfl (by decide +kernel) ⟨Nat.le_of_ble_eq_true rfl, Nat.le_of_ble_eq_true rfl⟩ ⟨Nat.le_refl 0, Nat.le_refl 0⟩ rfl hl.1 (Nat.le_of_ble_eq_true rfl) rfl dX2_layOut_112 (fun H locs hM hS => ?_)
      refine lv_aload_n hx hb dX2_layOut_115 rfl (lv_at hl 0 rfl) ?_
      refine lv_iload_n hx hb dX2_layOut_116 rfl (lv_at hl 2 rfl) ?_
      refine lv_iload_n hx hb dX2_layOut_117 rfl (lv_at hl 1 rfl) ?_
      obtain ⟨r5, t6, e7, h⟩ := bd_e h
      refine xw_callV B hM hS (xw_recv (xb_vk B) hM 9 0 (Or.inl (xv_o (k := 9) (by decide))) (fun gh => ⟨_, rfl⟩) rfl) [.int x3, .int x2] (n := 2) (v := (some (.int r5))) (c_X2_goodEndingWith B.2.2.2.2 e7) wm_RX2_51 wi_yX2_goodEndingWith ws_yX2_goodEndingWith wn_RX2 wc_yX2_goodEndingWith rfl rfl (by decide +kernel) ⟨Nat.le_of_ble_eq_true rfl, Nat.le_of_ble_eq_true rfl⟩ ⟨Nat.le_refl 0, Nat.le_refl 0⟩ rfl hl.1 (Nat.le_of_ble_eq_true rfl) rfl dX2_layOut_118 (fun H locs hM hS => ?_)
      obtain ⟨g8, h⟩ := gd_e h
      refine xw_iast B.1 hM hS 11 (Or.inl rfl) g8 dX2_layOut_121 (fun H locs hM hS => ?_)
      refine lv_aload_n hx hb dX2_layOut_122 rfl (lv_at hl 0 rfl) ?_
      refine xw_get B.1 hM 9 0 (xv_o (k := 9) (by decide)) (ci := 3) (N := 4) (fs := fOr ad (sR t6 5 0 r2.toNatClampNeg r5)) (C := RX2) (T := TX2) (fun _ => rfl) rfl inX2 2 (by decide) wf_RX2_19 rfl (v := .ref (ad 12 0)) rfl dX2_layOut_123 ?_
      refine lv_iload_n hx hb dX2_layOut_126 rfl (lv_at hl 1 rfl) ?_
      refine lv_iload_n hx hb dX2_layOut_127 rfl (lv_at hl 2 rfl) ?_
      obtain ⟨r9, t10, e11, h⟩ := bd_e h
      refine xw_callS B hM hS [.int x2, .int x3] (n := 2) (v := (some (.int r9))) (c_X2_cell B.2.2.2.2 e11) wm_RX2_38 wt_yX2_cell wn_RX2 wc_yX2_cell rfl rfl (by decide +kernel) ⟨Nat.le_of_ble_eq_true rfl, Nat.le_of_ble_eq_true rfl⟩ ⟨Nat.le_refl 0, Nat.le_refl 0⟩ rfl hl.1 (Nat.le_of_ble_eq_true rfl) rfl dX2_layOut_128 (fun H locs hM hS => ?_)
      refine lv_aload_n hx hb dX2_layOut_131 rfl (lv_at hl 0 rfl) ?_
      refine lv_iload_n hx hb dX2_layOut_132 rfl (lv_at hl 2 rfl) ?_
      refine lv_iload_n hx hb dX2_layOut_133 rfl (lv_at hl 1 rfl) ?_
      obtain ⟨r12, t13, e14, h⟩ := bd_e h
      refine xw_callV B hM hS (xw_recv (xb_vk B) hM 9 0 (Or.inl (xv_o (k := 9) (by decide))) (fun gh => ⟨_, rfl⟩) rfl) [.int x3, .int x2] (n := 2) (v := (some (.int r12))) (c_X2_leastEndingWith B.2.2.2.2 e14) wm_RX2_54 wi_yX2_leastEndingWith ws_yX2_leastEndingWith wn_RX2 wc_yX2_leastEndingWith rfl rfl (by decide +kernel) ⟨Nat.le_of_ble_eq_true rfl, Nat.le_of_ble_eq_true rfl⟩ ⟨Nat.le_refl 0, Nat.le_refl 0⟩ rfl hl.1 (Nat.le_of_ble_eq_true rfl) rfl dX2_layOut_134 (fun H locs hM hS => ?_)
      obtain ⟨g15, h⟩ := gd_e h
      refine xw_iast B.1 hM hS 12 (Or.inr rfl) g15 dX2_layOut_137 (fun H locs hM hS => ?_)
      refine lv_iinc (v := (x3 + 1)) (lv' := [(3, .int (x3 + 1)), (0, .ref (ad 9 0)), (2, .int x2)]) hx hb dX2_layOut_138 hl (k := 2) rfl rfl (by decide) rfl (fun ls hl => ?_)
      refine lv_goto (tgt := 98) hx hb dX2_layOut_141 (by decide) ?_
      exact ih _ _ _ _ _ _ h hM hS (lv_sub hl [1, 2, 0] rfl)
set_option maxHeartbeats 4000000 in
set_option maxRecDepth 100000 in
theorem w_X2_layOut_86 {p : Program} {l : Launch} {e : Env} {s : State} {m : MethodId} {args : Array Value} {below : List Frame} {meth : Method} {c : Code} {G : GG} {A : Nat → Prop} {ad : AD} (B : XB G A ad p l s m args meth c cX2_layOut 4 RX2 none) {r : Unit} {st' : XS} : ∀ (n : Nat) (st : XS) (x2 : Int32) (H : Heap) (locs : List Loc) (ls : Array Slot), f_X2_layOut_86 n st x2 = some (r, st') → XW G A ad st H → va_S A s.heap H locs → lv_has ls 4 [(0, .ref (ad 9 0)), (2, .int x2)] → W p l e ({ frames := 4, cells := 0, slots := 0, locals := 91 } : Room) s m args below meth c H locs 0 0 (MQ below (QX G A ad none st') args s 0 0 A) (F0 m 86 ls []) := by
  have ⟨⟨hx, hb, hr, hml, hown, hT, hlocks, hK⟩, hnt, hST, hA, hll⟩ := B
  intro n
  induction n with
  | zero =>
    intro st x2 H locs ls h
    cases h
  | succ n ih =>
    intro st x2 H locs ls h hM hS hl
    rw [f_X2_layOut_86] at h
    refine lv_iload_n hx hb dX2_layOut_86 rfl (lv_at hl 1 rfl) ?_
    refine lv_iconst (v := 1) hx hb dX2_layOut_87 (by decide) ?_
    refine lv_aload_n hx hb dX2_layOut_88 rfl (lv_at hl 0 rfl) ?_
    refine xw_get B.1 hM 9 0 (xv_o (k := 9) (by decide)) (ci := 3) (N := 4) (fs := fOr ad st) (C := RX2) (T := TX2) (fun _ => rfl) rfl inX2 3 (by decide) wf_RX2_34 rfl (v := .int (xF st 4 0 3)) rfl dX2_layOut_89 ?_
    refine lv_ishl hx hb dX2_layOut_92 ?_
    refine lv_icmp_ge (tgt := 150) hx hb dX2_layOut_93 (by decide) (fun c1 => ?_) (fun c1 => ?_)
    · have h := bi_t c1 h
      cases h
      exact xw_vret B hM hS (Nat.le_refl 0) (Nat.le_refl 0) dX2_layOut_150
    · have h := bi_f c1 h
      refine lv_iconst (v := 0) hx hb dX2_layOut_96 (by decide) ?_
      refine lv_istore_n (lv' := [(3, .int 0), (0, .ref (ad 9 0)), (2, .int x2)]) hx hb dX2_layOut_97 rfl hl (by decide) rfl (fun ls hl => ?_)
      exact w_X2_layOut_98 B ih FU _ _ _ _ _ _ h hM hS (lv_sub hl [1, 2, 0] rfl)
set_option maxHeartbeats 4000000 in
set_option maxRecDepth 100000 in
theorem w_X2_layOut_71 {p : Program} {l : Launch} {e : Env} {s : State} {m : MethodId} {args : Array Value} {below : List Frame} {meth : Method} {c : Code} {G : GG} {A : Nat → Prop} {ad : AD} (B : XB G A ad p l s m args meth c cX2_layOut 4 RX2 none) {r : Unit} {st' : XS} {k15 : XS → Int32 → Option (Unit × XS)} {k25 : XS → Int32 → Int32 → Option (Unit × XS)} (hk15 : ∀ (st : XS) (x2 : Int32) (H : Heap) (locs : List Loc) (ls : Array Slot), k15 st x2 = some (r, st') → XW G A ad st H → va_S A s.heap H locs → lv_has ls 4 [(0, .ref (ad 9 0)), (1, .ref (ad 13 1)), (2, .int x2)] → W p l e ({ frames := 4, cells := 0, slots := 0, locals := 91 } : Room) s m args below meth c H locs 0 0 (MQ below (QX G A ad none st') args s 0 0 A) (F0 m 15 ls [])) (hk25 : ∀ (st : XS) (x2 : Int32) (x3 : Int32) (H : Heap) (locs : List Loc) (ls : Array Slot), k25 st x2 x3 = some (r, st') → XW G A ad st H → va_S A s.heap H locs → lv_has ls 4 [(0, .ref (ad 9 0)), (1, .ref (ad 13 1)), (2, .int x2), (3, .int x3)] → W p l e ({ frames := 4, cells := 0, slots := 0, locals := 91 } : Room) s m args below meth c H locs 0 0 (MQ below (QX G A ad none st') args s 0 0 A) (F0 m 25 ls [])) : ∀ (st : XS) (x2 : Int32) (x3 : Int32) (y1 : Int32) (y2 : Int32) (H : Heap) (locs : List Loc) (ls : Array Slot), f_X2_layOut_71 k15 k25 st x2 x3 y1 y2 = some (r, st') → XW G A ad st H → va_S A s.heap H locs → lv_has ls 4 [(0, .ref (ad 9 0)), (1, .ref (ad 13 1)), (2, .int x2), (3, .int x3)] → W p l e ({ frames := 4, cells := 0, slots := 0, locals := 91 } : Room) s m args below meth c H locs 0 0 (MQ below (QX G A ad none st') args s 0 0 A) (F0 m 71 ls [.int y2, .int y1, .ref (ad 10 0)]) := by
  have ⟨⟨hx, hb, hr, hml, hown, hT, hlocks, hK⟩, hnt, hST, hA, hll⟩ := B
  intro st x2 x3 y1 y2 H locs ls h hM hS hl
  rw [f_X2_layOut_71] at h
  obtain ⟨g1, h⟩ := gd_e h
  refine xw_zast B.1 hM hS g1 dX2_layOut_71 (fun H locs hM hS => ?_)
  refine lv_iinc (v := (x3 + 1)) (lv' := [(3, .int (x3 + 1)), (0, .ref (ad 9 0)), (1, .ref (ad 13 1)), (2, .int x2)]) hx hb dX2_layOut_72 hl (k := 3) rfl rfl (by decide) rfl (fun ls hl => ?_)
  refine lv_goto (tgt := 25) hx hb dX2_layOut_75 (by decide) ?_
  exact hk25 _ _ _ _ _ _ h hM hS (lv_sub hl [1, 2, 3, 0] rfl)
set_option maxHeartbeats 4000000 in
set_option maxRecDepth 100000 in
theorem w_X2_layOut_25 {p : Program} {l : Launch} {e : Env} {s : State} {m : MethodId} {args : Array Value} {below : List Frame} {meth : Method} {c : Code} {G : GG} {A : Nat → Prop} {ad : AD} (B : XB G A ad p l s m args meth c cX2_layOut 4 RX2 none) {r : Unit} {st' : XS} {k15 : XS → Int32 → Option (Unit × XS)} (hk15 : ∀ (st : XS) (x2 : Int32) (H : Heap) (locs : List Loc) (ls : Array Slot), k15 st x2 = some (r, st') → XW G A ad st H → va_S A s.heap H locs → lv_has ls 4 [(0, .ref (ad 9 0)), (1, .ref (ad 13 1)), (2, .int x2)] → W p l e ({ frames := 4, cells := 0, slots := 0, locals := 91 } : Room) s m args below meth c H locs 0 0 (MQ below (QX G A ad none st') args s 0 0 A) (F0 m 15 ls [])) : ∀ (n : Nat) (st : XS) (x2 : Int32) (x3 : Int32) (H : Heap) (locs : List Loc) (ls : Array Slot), f_X2_layOut_25 k15 n st x2 x3 = some (r, st') → XW G A ad st H → va_S A s.heap H locs → lv_has ls 4 [(0, .ref (ad 9 0)), (1, .ref (ad 13 1)), (2, .int x2), (3, .int x3)] → W p l e ({ frames := 4, cells := 0, slots := 0, locals := 91 } : Room) s m args below meth c H locs 0 0 (MQ below (QX G A ad none st') args s 0 0 A) (F0 m 25 ls []) := by
  have ⟨⟨hx, hb, hr, hml, hown, hT, hlocks, hK⟩, hnt, hST, hA, hll⟩ := B
  intro n
  induction n with
  | zero =>
    intro st x2 x3 H locs ls h
    cases h
  | succ n ih =>
    intro st x2 x3 H locs ls h hM hS hl
    rw [f_X2_layOut_25] at h
    refine lv_iload_n hx hb dX2_layOut_25 rfl (lv_at hl 3 rfl) ?_
    refine lv_aload_n hx hb dX2_layOut_26 rfl (lv_at hl 0 rfl) ?_
    refine xw_get B.1 hM 9 0 (xv_o (k := 9) (by decide)) (ci := 3) (N := 4) (fs := fOr ad st) (C := RX2) (T := TX2) (fun _ => rfl) rfl inX2 3 (by decide) wf_RX2_34 rfl (v := .int (xF st 4 0 3)) rfl dX2_layOut_27 ?_
    refine lv_icmp_ge (tgt := 78) hx hb dX2_layOut_30 (by decide) (fun c1 => ?_) (fun c1 => ?_)
    · have h := bi_t c1 h
      refine lv_iinc (v := (x2 + 1)) (lv' := [(2, .int (x2 + 1)), (0, .ref (ad 9 0)), (1, .ref (ad 13 1)), (3, .int x3)]) hx hb dX2_layOut_78 hl (k := 2) rfl rfl (by decide) rfl (fun ls hl => ?_)
      refine lv_goto (tgt := 15) hx hb dX2_layOut_81 (by decide) ?_
      exact hk15 _ _ _ _ _ h hM hS (lv_sub hl [1, 2, 0] rfl)
    · have h := bi_f c1 h
      refine lv_aload_n hx hb dX2_layOut_33 rfl (lv_at hl 0 rfl) ?_
      refine xw_get B.1 hM 9 0 (xv_o (k := 9) (by decide)) (ci := 3) (N := 4) (fs := fOr ad st) (C := RX2) (T := TX2) (fun _ => rfl) rfl inX2 0 (by decide) wf_RX2_9 rfl (v := .ref (ad 10 0)) rfl dX2_layOut_34 ?_
      refine lv_iload_n hx hb dX2_layOut_37 rfl (lv_at hl 2 rfl) ?_
      refine lv_iload_n hx hb dX2_layOut_38 rfl (lv_at hl 3 rfl) ?_
      obtain ⟨r2, t3, e4, h⟩ := bd_e h
      refine xw_callS B hM hS [.int x2, .int x3] (n := 2) (v := (some (.int r2))) (c_X2_cell B.2.2.2.2 e4) wm_RX2_38 wt_yX2_cell wn_RX2 wc_yX2_cell rfl rfl (by decide +kernel) ⟨Nat.le_of_ble_eq_true rfl, Nat.le_of_ble_eq_true rfl⟩ ⟨Nat.le_refl 0, Nat.le_refl 0⟩ rfl hl.1 (Nat.le_of_ble_eq_true rfl) rfl dX2_layOut_39 (fun H locs hM hS => ?_)
      refine lv_aload_n hx hb dX2_layOut_42 rfl (lv_at hl 1 rfl) ?_
      refine lv_iload_n hx hb dX2_layOut_43 rfl (lv_at hl 2 rfl) ?_
      obtain ⟨g5, h⟩ := gd_e h
      refine xw_lget B hM hS 1 (by decide) wm_RX2_41 g5 ⟨Nat.le_of_ble_eq_true rfl, Nat.le_of_ble_eq_true rfl⟩ ⟨Nat.le_refl 0, Nat.le_refl 0⟩ hl.1 (Nat.le_of_ble_eq_true rfl) dX2_layOut_44 ?_
      obtain ⟨v6, h⟩ := gd_e h
      refine xw_castShot B.1 hM v6 wk_RX2_45 dX2_layOut_47 ?_
      refine lv_aload_n hx hb dX2_layOut_50 rfl (lv_at hl 1 rfl) ?_
      refine lv_iload_n hx hb dX2_layOut_51 rfl (lv_at hl 3 rfl) ?_
      obtain ⟨g7, h⟩ := gd_e h
      refine xw_lget B hM hS 1 (by decide) wm_RX2_41 g7 ⟨Nat.le_of_ble_eq_true rfl, Nat.le_of_ble_eq_true rfl⟩ ⟨Nat.le_refl 0, Nat.le_refl 0⟩ hl.1 (Nat.le_of_ble_eq_true rfl) dX2_layOut_52 ?_
      obtain ⟨v8, h⟩ := gd_e h
      refine xw_castShot B.1 hM v8 wk_RX2_45 dX2_layOut_55 ?_
      obtain ⟨r9, t10, e11, h⟩ := bd_e h
      refine xw_callSN B hM hS [.ref (ad 1 ((xL t3 1).getD x2.toNatClampNeg 0)), .ref (ad 1 ((xL t3 1).getD x3.toNatClampNeg 0))] (n := 2) (v := (some (.int r9))) (c_X5_faultBetween B.2.2.2.2 e11) (host := "ThumbnailRow") (by decide +kernel) wt_yX5_faultBetween wn_RX5 wc_yX5_faultBetween rfl rfl (by decide +kernel) ⟨Nat.le_of_ble_eq_true rfl, Nat.le_of_ble_eq_true rfl⟩ ⟨Nat.le_refl 0, Nat.le_refl 0⟩ rfl hl.1 (Nat.le_of_ble_eq_true rfl) rfl dX2_layOut_58 (fun H locs hM hS => ?_)
      refine lv_bipush (v := 45) hx hb dX2_layOut_61 (by decide) ?_
      refine lv_icmp_eq (tgt := 70) hx hb dX2_layOut_63 (by decide) (fun c12 => ?_) (fun c12 => ?_)
      · have h := bi_t c12 h
        refine lv_iconst (v := 0) hx hb dX2_layOut_70 (by decide) ?_
        exact w_X2_layOut_71 B hk15 ih _ _ _ _ _ _ _ _ h hM hS (lv_sub hl [0, 1, 2, 3] rfl)
      · have h := bi_f c12 h
        refine lv_iconst (v := 1) hx hb dX2_layOut_66 (by decide) ?_
        refine lv_goto (tgt := 71) hx hb dX2_layOut_67 (by decide) ?_
        exact w_X2_layOut_71 B hk15 ih _ _ _ _ _ _ _ _ h hM hS (lv_sub hl [0, 1, 2, 3] rfl)
set_option maxHeartbeats 4000000 in
set_option maxRecDepth 100000 in
theorem w_X2_layOut_15 {p : Program} {l : Launch} {e : Env} {s : State} {m : MethodId} {args : Array Value} {below : List Frame} {meth : Method} {c : Code} {G : GG} {A : Nat → Prop} {ad : AD} (B : XB G A ad p l s m args meth c cX2_layOut 4 RX2 none) {r : Unit} {st' : XS} : ∀ (n : Nat) (st : XS) (x2 : Int32) (H : Heap) (locs : List Loc) (ls : Array Slot), f_X2_layOut_15 n st x2 = some (r, st') → XW G A ad st H → va_S A s.heap H locs → lv_has ls 4 [(0, .ref (ad 9 0)), (1, .ref (ad 13 1)), (2, .int x2)] → W p l e ({ frames := 4, cells := 0, slots := 0, locals := 91 } : Room) s m args below meth c H locs 0 0 (MQ below (QX G A ad none st') args s 0 0 A) (F0 m 15 ls []) := by
  have ⟨⟨hx, hb, hr, hml, hown, hT, hlocks, hK⟩, hnt, hST, hA, hll⟩ := B
  intro n
  induction n with
  | zero =>
    intro st x2 H locs ls h
    cases h
  | succ n ih =>
    intro st x2 H locs ls h hM hS hl
    rw [f_X2_layOut_15] at h
    refine lv_iload_n hx hb dX2_layOut_15 rfl (lv_at hl 2 rfl) ?_
    refine lv_aload_n hx hb dX2_layOut_16 rfl (lv_at hl 0 rfl) ?_
    refine xw_get B.1 hM 9 0 (xv_o (k := 9) (by decide)) (ci := 3) (N := 4) (fs := fOr ad st) (C := RX2) (T := TX2) (fun _ => rfl) rfl inX2 3 (by decide) wf_RX2_34 rfl (v := .int (xF st 4 0 3)) rfl dX2_layOut_17 ?_
    refine lv_icmp_ge (tgt := 84) hx hb dX2_layOut_20 (by decide) (fun c1 => ?_) (fun c1 => ?_)
    · have h := bi_t c1 h
      refine lv_iconst (v := 1) hx hb dX2_layOut_84 (by decide) ?_
      refine lv_istore_n (lv' := [(2, .int 1), (0, .ref (ad 9 0)), (1, .ref (ad 13 1))]) hx hb dX2_layOut_85 rfl hl (by decide) rfl (fun ls hl => ?_)
      exact w_X2_layOut_86 B FU _ _ _ _ _ h hM hS (lv_sub hl [1, 0] rfl)
    · have h := bi_f c1 h
      refine lv_iconst (v := 0) hx hb dX2_layOut_23 (by decide) ?_
      refine lv_istore_n (lv' := [(3, .int 0), (0, .ref (ad 9 0)), (1, .ref (ad 13 1)), (2, .int x2)]) hx hb dX2_layOut_24 rfl hl (by decide) rfl (fun ls hl => ?_)
      exact w_X2_layOut_25 B ih FU _ _ _ _ _ _ h hM hS (lv_sub hl [1, 2, 3, 0] rfl)
set_option maxHeartbeats 4000000 in
set_option maxRecDepth 100000 in
theorem w_X2_layOut {p : Program} {l : Launch} {e : Env} {s : State} {m : MethodId} {args : Array Value} {below : List Frame} {meth : Method} {c : Code} {G : GG} {A : Nat → Prop} {ad : AD} (B : XB G A ad p l s m args meth c cX2_layOut 4 RX2 none) {r : Unit} {st' : XS} : ∀ (st : XS) (H : Heap) (locs : List Loc) (ls : Array Slot), f_X2_layOut st = some (r, st') → XW G A ad st H → va_S A s.heap H locs → lv_has ls 4 [(0, .ref (ad 9 0)), (1, .ref (ad 13 1))] → W p l e ({ frames := 4, cells := 0, slots := 0, locals := 91 } : Room) s m args below meth c H locs 0 0 (MQ below (QX G A ad none st') args s 0 0 A) (F0 m 0 ls []) := by
  have ⟨⟨hx, hb, hr, hml, hown, hT, hlocks, hK⟩, hnt, hST, hA, hll⟩ := B
  intro st  H locs ls h hM hS hl
  rw [f_X2_layOut] at h
  refine lv_aload_n hx hb dX2_layOut_0 rfl (lv_at hl 0 rfl) ?_
  refine lv_aload_n hx hb dX2_layOut_1 rfl (lv_at hl 1 rfl) ?_
  refine xw_size B hM hS 1 (by decide) wm_RX2_22 ⟨Nat.le_of_ble_eq_true rfl, Nat.le_of_ble_eq_true rfl⟩ ⟨Nat.le_refl 0, Nat.le_refl 0⟩ hl.1 (Nat.le_of_ble_eq_true rfl) dX2_layOut_2 ?_
  refine lv_bipush (v := 6) hx hb dX2_layOut_5 (by decide) ?_
  refine va_mmin hx hb (hml.trans hl.1.symm) hown (hT _ wm_RX2_28) (hT _ wt_yJ9_min_7cf53) (hT _ wn_RJ9) (hT _ wc_yJ9_min_7cf53) (Nat.le_of_ble_eq_true rfl) (Nat.le_of_ble_eq_true rfl) (Nat.le_refl 0) (Nat.le_refl 0) dX2_layOut_7 ?_
  refine xw_putF B.1 hM hS 9 0 4 (Or.inr (Or.inr (Or.inr (Or.inr ⟨rfl, rfl, rfl⟩)))) (xv_o (k := 9) (by decide)) (ci := 3) (N := 4) (fs := fOr ad st) (C := RX2) (T := TX2) (fun _ => rfl) rfl inX2 tyX2_ok nmX2 3 (by decide) wf_RX2_34 rfl rfl rfl rfl (Nat.le_of_ble_eq_true rfl) (fun _ => by simp [enX, fOr, sF, xF, xU]) dX2_layOut_10 (fun H locs hM hS => ?_)
  refine lv_iconst (v := 0) hx hb dX2_layOut_13 (by decide) ?_
  refine lv_istore_n (lv' := [(2, .int 0), (0, .ref (ad 9 0)), (1, .ref (ad 13 1))]) hx hb dX2_layOut_14 rfl hl (by decide) rfl (fun ls hl => ?_)
  exact w_X2_layOut_15 B FU _ _ _ _ _ h hM hS (lv_sub hl [1, 2, 0] rfl)
theorem c_X2_layOut {l : Launch} (hll : l.stackTraces = false) {G : GG} {A : Nat → Prop} {ad : AD} {st : XS} {r : Unit} {st' : XS} (h : f_X2_layOut st = some (r, st')) : Met l yX2_layOut (Cond.code yX2_layOut cX2_layOut 4 none :: TG) ({ frames := 4, cells := 0, slots := 0, locals := 91 } : Room) (PX G A ad st [.ref (ad 9 0), .ref (ad 13 1)]) (QX G A ad none st') 0 0 A :=
  xw_of (own := RX2) hll (by decide +kernel) rfl (Nat.le_of_ble_eq_true rfl) fun p e s m below meth c ls B hM hS hl => w_X2_layOut B _ _ _ _ h hM hS hl
set_option maxHeartbeats 4000000 in
set_option maxRecDepth 100000 in
theorem w_X2_allGood_13 {p : Program} {l : Launch} {e : Env} {s : State} {m : MethodId} {args : Array Value} {below : List Frame} {meth : Method} {c : Code} {G : GG} {A : Nat → Prop} {ad : AD} (B : XB G A ad p l s m args meth c cX2_allGood 4 RX2 (some .int)) {r : Int32} {st' : XS} : ∀ (n : Nat) (st : XS) (x1 : Int32) (x2 : Int32) (x3 : Int32) (H : Heap) (locs : List Loc) (ls : Array Slot), f_X2_allGood_13 n st x1 x2 x3 = some (r, st') → XW G A ad st H → va_S A s.heap H locs → lv_has ls 4 [(0, .ref (ad 9 0)), (1, .int x1), (2, .int x2), (3, .int x3)] → W p l e ({ frames := 1, cells := 0, slots := 0, locals := 21 } : Room) s m args below meth c H locs 0 0 (MQ below (QX G A ad (some (.int r)) st') args s 0 0 A) (F0 m 13 ls []) := by
  have ⟨⟨hx, hb, hr, hml, hown, hT, hlocks, hK⟩, hnt, hST, hA, hll⟩ := B
  intro n
  induction n with
  | zero =>
    intro st x1 x2 x3 H locs ls h
    cases h
  | succ n ih =>
    intro st x1 x2 x3 H locs ls h hM hS hl
    rw [f_X2_allGood_13] at h
    refine lv_iload_n hx hb dX2_allGood_13 rfl (lv_at hl 3 rfl) ?_
    refine lv_aload_n hx hb dX2_allGood_14 rfl (lv_at hl 0 rfl) ?_
    refine xw_get B.1 hM 9 0 (xv_o (k := 9) (by decide)) (ci := 3) (N := 4) (fs := fOr ad st) (C := RX2) (T := TX2) (fun _ => rfl) rfl inX2 3 (by decide) wf_RX2_34 rfl (v := .int (xF st 4 0 3)) rfl dX2_allGood_15 ?_
    refine lv_icmp_ge (tgt := 40) hx hb dX2_allGood_18 (by decide) (fun c1 => ?_) (fun c1 => ?_)
    · have h := bi_t c1 h
      refine lv_iload_n hx hb dX2_allGood_40 rfl (lv_at hl 2 rfl) ?_
      cases h
      exact xw_iret B hM hS (Nat.le_refl 0) (Nat.le_refl 0) dX2_allGood_41
    · have h := bi_f c1 h
      refine lv_iload_n hx hb dX2_allGood_21 rfl (lv_at hl 2 rfl) ?_
      refine lv_aload_n hx hb dX2_allGood_22 rfl (lv_at hl 0 rfl) ?_
      refine xw_get B.1 hM 9 0 (xv_o (k := 9) (by decide)) (ci := 3) (N := 4) (fs := fOr ad st) (C := RX2) (T := TX2) (fun _ => rfl) rfl inX2 1 (by decide) wf_RX2_15 rfl (v := .ref (ad 11 0)) rfl dX2_allGood_23 ?_
      refine lv_iload_n hx hb dX2_allGood_26 rfl (lv_at hl 1 rfl) ?_
      refine lv_iload_n hx hb dX2_allGood_27 rfl (lv_at hl 3 rfl) ?_
      obtain ⟨r2, t3, e4, h⟩ := bd_e h
      refine xw_callS B hM hS [.int x1, .int x3] (n := 2) (v := (some (.int r2))) (c_X2_cell B.2.2.2.2 e4) wm_RX2_38 wt_yX2_cell wn_RX2 wc_yX2_cell rfl rfl (by decide +kernel) ⟨Nat.le_of_ble_eq_true rfl, Nat.le_of_ble_eq_true rfl⟩ ⟨Nat.le_refl 0, Nat.le_refl 0⟩ rfl hl.1 (Nat.le_of_ble_eq_true rfl) rfl dX2_allGood_28 (fun H locs hM hS => ?_)
      obtain ⟨g5, h⟩ := gd_e h
      refine xw_iald B.1 hM 11 (Or.inl rfl) g5 dX2_allGood_31 ?_
      refine lv_iadd hx hb dX2_allGood_32 ?_
      refine lv_istore_n (lv' := [(2, .int (x2 + (xR t3 5 0 r2.toNatClampNeg))), (0, .ref (ad 9 0)), (1, .int x1), (3, .int x3)]) hx hb dX2_allGood_33 rfl hl (by decide) rfl (fun ls hl => ?_)
      refine lv_iinc (v := (x3 + 1)) (lv' := [(3, .int (x3 + 1)), (2, .int (x2 + (xR t3 5 0 r2.toNatClampNeg))), (0, .ref (ad 9 0)), (1, .int x1)]) hx hb dX2_allGood_34 hl (k := 3) rfl rfl (by decide) rfl (fun ls hl => ?_)
      refine lv_goto (tgt := 13) hx hb dX2_allGood_37 (by decide) ?_
      exact ih _ _ _ _ _ _ _ h hM hS (lv_sub hl [2, 3, 1, 0] rfl)
set_option maxHeartbeats 4000000 in
set_option maxRecDepth 100000 in
theorem w_X2_allGood {p : Program} {l : Launch} {e : Env} {s : State} {m : MethodId} {args : Array Value} {below : List Frame} {meth : Method} {c : Code} {G : GG} {A : Nat → Prop} {ad : AD} (B : XB G A ad p l s m args meth c cX2_allGood 4 RX2 (some .int)) {r : Int32} {st' : XS} : ∀ (st : XS) (H : Heap) (locs : List Loc) (ls : Array Slot), f_X2_allGood st = some (r, st') → XW G A ad st H → va_S A s.heap H locs → lv_has ls 4 [(0, .ref (ad 9 0))] → W p l e ({ frames := 1, cells := 0, slots := 0, locals := 21 } : Room) s m args below meth c H locs 0 0 (MQ below (QX G A ad (some (.int r)) st') args s 0 0 A) (F0 m 0 ls []) := by
  have ⟨⟨hx, hb, hr, hml, hown, hT, hlocks, hK⟩, hnt, hST, hA, hll⟩ := B
  intro st  H locs ls h hM hS hl
  rw [f_X2_allGood] at h
  refine lv_iconst (v := 1) hx hb dX2_allGood_0 (by decide) ?_
  refine lv_aload_n hx hb dX2_allGood_1 rfl (lv_at hl 0 rfl) ?_
  refine xw_get B.1 hM 9 0 (xv_o (k := 9) (by decide)) (ci := 3) (N := 4) (fs := fOr ad st) (C := RX2) (T := TX2) (fun _ => rfl) rfl inX2 3 (by decide) wf_RX2_34 rfl (v := .int (xF st 4 0 3)) rfl dX2_allGood_2 ?_
  refine lv_ishl hx hb dX2_allGood_5 ?_
  refine lv_iconst (v := 1) hx hb dX2_allGood_6 (by decide) ?_
  refine lv_isub hx hb dX2_allGood_7 ?_
  refine lv_istore_n (lv' := [(1, .int ((1 <<< ((xF st 4 0 3) &&& 31)) - 1)), (0, .ref (ad 9 0))]) hx hb dX2_allGood_8 rfl hl (by decide) rfl (fun ls hl => ?_)
  refine lv_iconst (v := 0) hx hb dX2_allGood_9 (by decide) ?_
  refine lv_istore_n (lv' := [(2, .int 0), (1, .int ((1 <<< ((xF st 4 0 3) &&& 31)) - 1)), (0, .ref (ad 9 0))]) hx hb dX2_allGood_10 rfl hl (by decide) rfl (fun ls hl => ?_)
  refine lv_iconst (v := 0) hx hb dX2_allGood_11 (by decide) ?_
  refine lv_istore_n (lv' := [(3, .int 0), (2, .int 0), (1, .int ((1 <<< ((xF st 4 0 3) &&& 31)) - 1)), (0, .ref (ad 9 0))]) hx hb dX2_allGood_12 rfl hl (by decide) rfl (fun ls hl => ?_)
  exact w_X2_allGood_13 B FU _ _ _ _ _ _ _ h hM hS (lv_sub hl [3, 2, 1, 0] rfl)
theorem c_X2_allGood {l : Launch} (hll : l.stackTraces = false) {G : GG} {A : Nat → Prop} {ad : AD} {st : XS} {r : Int32} {st' : XS} (h : f_X2_allGood st = some (r, st')) : Met l yX2_allGood (Cond.code yX2_allGood cX2_allGood 4 (some .int) :: TG) ({ frames := 1, cells := 0, slots := 0, locals := 21 } : Room) (PX G A ad st [.ref (ad 9 0)]) (QX G A ad (some (.int r)) st') 0 0 A :=
  xw_of (own := RX2) hll (by decide +kernel) rfl (Nat.le_of_ble_eq_true rfl) fun p e s m below meth c ls B hM hS hl => w_X2_allGood B _ _ _ _ h hM hS hl
set_option maxHeartbeats 4000000 in
set_option maxRecDepth 100000 in
theorem w_X2_leastWrong_15 {p : Program} {l : Launch} {e : Env} {s : State} {m : MethodId} {args : Array Value} {below : List Frame} {meth : Method} {c : Code} {G : GG} {A : Nat → Prop} {ad : AD} (B : XB G A ad p l s m args meth c cX2_leastWrong 4 RX2 (some .int)) {r : Int32} {st' : XS} : ∀ (n : Nat) (st : XS) (x1 : Int32) (x2 : Int32) (x3 : Int32) (H : Heap) (locs : List Loc) (ls : Array Slot), f_X2_leastWrong_15 n st x1 x2 x3 = some (r, st') → XW G A ad st H → va_S A s.heap H locs → lv_has ls 4 [(0, .ref (ad 9 0)), (1, .int x1), (2, .int x2), (3, .int x3)] → W p l e ({ frames := 1, cells := 0, slots := 0, locals := 30 } : Room) s m args below meth c H locs 0 0 (MQ below (QX G A ad (some (.int r)) st') args s 0 0 A) (F0 m 15 ls []) := by
  have ⟨⟨hx, hb, hr, hml, hown, hT, hlocks, hK⟩, hnt, hST, hA, hll⟩ := B
  intro n
  induction n with
  | zero =>
    intro st x1 x2 x3 H locs ls h
    cases h
  | succ n ih =>
    intro st x1 x2 x3 H locs ls h hM hS hl
    rw [f_X2_leastWrong_15] at h
    refine lv_iload_n hx hb dX2_leastWrong_15 rfl (lv_at hl 3 rfl) ?_
    refine lv_aload_n hx hb dX2_leastWrong_16 rfl (lv_at hl 0 rfl) ?_
    refine xw_get B.1 hM 9 0 (xv_o (k := 9) (by decide)) (ci := 3) (N := 4) (fs := fOr ad st) (C := RX2) (T := TX2) (fun _ => rfl) rfl inX2 3 (by decide) wf_RX2_34 rfl (v := .int (xF st 4 0 3)) rfl dX2_leastWrong_17 ?_
    refine lv_icmp_ge (tgt := 44) hx hb dX2_leastWrong_20 (by decide) (fun c1 => ?_) (fun c1 => ?_)
    · have h := bi_t c1 h
      refine lv_iload_n hx hb dX2_leastWrong_44 rfl (lv_at hl 2 rfl) ?_
      cases h
      exact xw_iret B hM hS (Nat.le_refl 0) (Nat.le_refl 0) dX2_leastWrong_45
    · have h := bi_f c1 h
      refine lv_iload_n hx hb dX2_leastWrong_23 rfl (lv_at hl 2 rfl) ?_
      refine lv_aload_n hx hb dX2_leastWrong_24 rfl (lv_at hl 0 rfl) ?_
      refine xw_get B.1 hM 9 0 (xv_o (k := 9) (by decide)) (ci := 3) (N := 4) (fs := fOr ad st) (C := RX2) (T := TX2) (fun _ => rfl) rfl inX2 2 (by decide) wf_RX2_19 rfl (v := .ref (ad 12 0)) rfl dX2_leastWrong_25 ?_
      refine lv_iload_n hx hb dX2_leastWrong_28 rfl (lv_at hl 1 rfl) ?_
      refine lv_iload_n hx hb dX2_leastWrong_29 rfl (lv_at hl 3 rfl) ?_
      obtain ⟨r2, t3, e4, h⟩ := bd_e h
      refine xw_callS B hM hS [.int x1, .int x3] (n := 2) (v := (some (.int r2))) (c_X2_cell B.2.2.2.2 e4) wm_RX2_38 wt_yX2_cell wn_RX2 wc_yX2_cell rfl rfl (by decide +kernel) ⟨Nat.le_of_ble_eq_true rfl, Nat.le_of_ble_eq_true rfl⟩ ⟨Nat.le_refl 0, Nat.le_refl 0⟩ rfl hl.1 (Nat.le_of_ble_eq_true rfl) rfl dX2_leastWrong_30 (fun H locs hM hS => ?_)
      obtain ⟨g5, h⟩ := gd_e h
      refine xw_iald B.1 hM 12 (Or.inr rfl) g5 dX2_leastWrong_33 ?_
      refine va_mmin hx hb (hml.trans hl.1.symm) hown (hT _ wm_RX2_28) (hT _ wt_yJ9_min_7cf53) (hT _ wn_RJ9) (hT _ wc_yJ9_min_7cf53) (Nat.le_of_ble_eq_true rfl) (Nat.le_of_ble_eq_true rfl) (Nat.le_refl 0) (Nat.le_refl 0) dX2_leastWrong_34 ?_
      refine lv_istore_n (lv' := [(2, .int (if (xR t3 6 0 r2.toNatClampNeg) < x2 then (xR t3 6 0 r2.toNatClampNeg) else x2)), (0, .ref (ad 9 0)), (1, .int x1), (3, .int x3)]) hx hb dX2_leastWrong_37 rfl hl (by decide) rfl (fun ls hl => ?_)
      refine lv_iinc (v := (x3 + 1)) (lv' := [(3, .int (x3 + 1)), (2, .int (if (xR t3 6 0 r2.toNatClampNeg) < x2 then (xR t3 6 0 r2.toNatClampNeg) else x2)), (0, .ref (ad 9 0)), (1, .int x1)]) hx hb dX2_leastWrong_38 hl (k := 3) rfl rfl (by decide) rfl (fun ls hl => ?_)
      refine lv_goto (tgt := 15) hx hb dX2_leastWrong_41 (by decide) ?_
      exact ih _ _ _ _ _ _ _ h hM hS (lv_sub hl [2, 3, 1, 0] rfl)
set_option maxHeartbeats 4000000 in
set_option maxRecDepth 100000 in
theorem w_X2_leastWrong {p : Program} {l : Launch} {e : Env} {s : State} {m : MethodId} {args : Array Value} {below : List Frame} {meth : Method} {c : Code} {G : GG} {A : Nat → Prop} {ad : AD} (B : XB G A ad p l s m args meth c cX2_leastWrong 4 RX2 (some .int)) {r : Int32} {st' : XS} : ∀ (st : XS) (H : Heap) (locs : List Loc) (ls : Array Slot), f_X2_leastWrong st = some (r, st') → XW G A ad st H → va_S A s.heap H locs → lv_has ls 4 [(0, .ref (ad 9 0))] → W p l e ({ frames := 1, cells := 0, slots := 0, locals := 30 } : Room) s m args below meth c H locs 0 0 (MQ below (QX G A ad (some (.int r)) st') args s 0 0 A) (F0 m 0 ls []) := by
  have ⟨⟨hx, hb, hr, hml, hown, hT, hlocks, hK⟩, hnt, hST, hA, hll⟩ := B
  intro st  H locs ls h hM hS hl
  rw [f_X2_leastWrong] at h
  refine lv_iconst (v := 1) hx hb dX2_leastWrong_0 (by decide) ?_
  refine lv_aload_n hx hb dX2_leastWrong_1 rfl (lv_at hl 0 rfl) ?_
  refine xw_get B.1 hM 9 0 (xv_o (k := 9) (by decide)) (ci := 3) (N := 4) (fs := fOr ad st) (C := RX2) (T := TX2) (fun _ => rfl) rfl inX2 3 (by decide) wf_RX2_34 rfl (v := .int (xF st 4 0 3)) rfl dX2_leastWrong_2 ?_
  refine lv_ishl hx hb dX2_leastWrong_5 ?_
  refine lv_iconst (v := 1) hx hb dX2_leastWrong_6 (by decide) ?_
  refine lv_isub hx hb dX2_leastWrong_7 ?_
  refine lv_istore_n (lv' := [(1, .int ((1 <<< ((xF st 4 0 3) &&& 31)) - 1)), (0, .ref (ad 9 0))]) hx hb dX2_leastWrong_8 rfl hl (by decide) rfl (fun ls hl => ?_)
  refine lv_sipush (v := 1000) hx hb dX2_leastWrong_9 (by decide) ?_
  refine lv_istore_n (lv' := [(2, .int 1000), (1, .int ((1 <<< ((xF st 4 0 3) &&& 31)) - 1)), (0, .ref (ad 9 0))]) hx hb dX2_leastWrong_12 rfl hl (by decide) rfl (fun ls hl => ?_)
  refine lv_iconst (v := 0) hx hb dX2_leastWrong_13 (by decide) ?_
  refine lv_istore_n (lv' := [(3, .int 0), (2, .int 1000), (1, .int ((1 <<< ((xF st 4 0 3) &&& 31)) - 1)), (0, .ref (ad 9 0))]) hx hb dX2_leastWrong_14 rfl hl (by decide) rfl (fun ls hl => ?_)
  exact w_X2_leastWrong_15 B FU _ _ _ _ _ _ _ h hM hS (lv_sub hl [3, 2, 1, 0] rfl)
theorem c_X2_leastWrong {l : Launch} (hll : l.stackTraces = false) {G : GG} {A : Nat → Prop} {ad : AD} {st : XS} {r : Int32} {st' : XS} (h : f_X2_leastWrong st = some (r, st')) : Met l yX2_leastWrong (Cond.code yX2_leastWrong cX2_leastWrong 4 (some .int) :: TG) ({ frames := 1, cells := 0, slots := 0, locals := 30 } : Room) (PX G A ad st [.ref (ad 9 0)]) (QX G A ad (some (.int r)) st') 0 0 A :=
  xw_of (own := RX2) hll (by decide +kernel) rfl (Nat.le_of_ble_eq_true rfl) fun p e s m below meth c ls B hM hS hl => w_X2_leastWrong B _ _ _ _ h hM hS hl
set_option maxHeartbeats 4000000 in
set_option maxRecDepth 100000 in
theorem w_X3_grant {p : Program} {l : Launch} {e : Env} {s : State} {m : MethodId} {args : Array Value} {below : List Frame} {meth : Method} {c : Code} {G : GG} {A : Nat → Prop} {ad : AD} (B : XB G A ad p l s m args meth c cX3_grant 4 RX3 none) {r : Unit} {st' : XS} : ∀ (st : XS) (x0 : Nat) (x1 : Int32) (x2 : Nat) (x3 : Nat) (H : Heap) (locs : List Loc) (ls : Array Slot), f_X3_grant st x0 x1 x2 x3 = some (r, st') → XW G A ad st H → va_S A s.heap H locs → lv_has ls 4 [(0, .ref (ad 3 x0)), (1, .int x1), (2, .ref (ad 1 x2)), (3, .ref (ad 1 x3))] → W p l e ({ frames := 0, cells := 0, slots := 0, locals := 0 } : Room) s m args below meth c H locs 0 0 (MQ below (QX G A ad none st') args s 0 0 A) (F0 m 0 ls []) := by
  have ⟨⟨hx, hb, hr, hml, hown, hT, hlocks, hK⟩, hnt, hST, hA, hll⟩ := B
  intro st x0 x1 x2 x3 H locs ls h hM hS hl
  rw [f_X3_grant] at h
  refine lv_aload_n hx hb dX3_grant_0 rfl (lv_at hl 0 rfl) ?_
  refine lv_iload_n hx hb dX3_grant_1 rfl (lv_at hl 1 rfl) ?_
  obtain ⟨v1, h⟩ := gd_e h
  obtain ⟨g2, h⟩ := gd_e h
  refine xw_putF B.1 hM hS 3 x0 2 (Or.inr (Or.inr (Or.inl ⟨rfl, rfl⟩))) (xv_s (k := 3) (by decide) v1) (ci := 4) (N := 4) (fs := fPa st x0) (C := RX3) (T := TX3) (fun _ => rfl) rfl inX3 tyX3_ok nmX3 0 (by decide) wf_RX3_9 rfl rfl g2.1 g2.2 (Nat.le_of_ble_eq_true rfl) (fun _ => by simp [enX, fPa, sF, xF, xU]) dX3_grant_2 (fun H locs hM hS => ?_)
  refine lv_aload_n hx hb dX3_grant_5 rfl (lv_at hl 0 rfl) ?_
  refine lv_aload_n hx hb dX3_grant_6 rfl (lv_at hl 2 rfl) ?_
  obtain ⟨v3, h⟩ := gd_e h
  refine xw_get B.1 hM 1 x2 (xv_s (k := 1) (by decide) v3) (ci := 5) (N := 12) (fs := fSh ad (sF st 2 x0 0 x1) x2) (C := RX4) (T := TX4) (fun _ => rfl) rfl inX4 6 (by decide) wf_RX3_15 rfl (v := .int (xF (sF st 2 x0 0 x1) 1 x2 6)) rfl dX3_grant_7 ?_
  refine xw_putF B.1 hM hS 3 x0 2 (Or.inr (Or.inr (Or.inl ⟨rfl, rfl⟩))) (xv_s (k := 3) (by decide) v1) (ci := 4) (N := 4) (fs := fPa (sF st 2 x0 0 x1) x0) (C := RX3) (T := TX3) (fun _ => rfl) rfl inX3 tyX3_ok nmX3 1 (by decide) wf_RX3_21 rfl rfl rfl rfl (Nat.le_of_ble_eq_true rfl) (fun _ => by simp [enX, fPa, sF, xF, xU]) dX3_grant_10 (fun H locs hM hS => ?_)
  refine lv_aload_n hx hb dX3_grant_13 rfl (lv_at hl 0 rfl) ?_
  refine lv_aload_n hx hb dX3_grant_14 rfl (lv_at hl 3 rfl) ?_
  obtain ⟨v4, h⟩ := gd_e h
  refine xw_get B.1 hM 1 x3 (xv_s (k := 1) (by decide) v4) (ci := 5) (N := 12) (fs := fSh ad (sF (sF st 2 x0 0 x1) 2 x0 1 (xF (sF st 2 x0 0 x1) 1 x2 6)) x3) (C := RX4) (T := TX4) (fun _ => rfl) rfl inX4 0 (by decide) wf_RX3_22 rfl (v := .int (nI x3)) rfl dX3_grant_15 ?_
  refine xw_putF B.1 hM hS 3 x0 2 (Or.inr (Or.inr (Or.inl ⟨rfl, rfl⟩))) (xv_s (k := 3) (by decide) v1) (ci := 4) (N := 4) (fs := fPa (sF (sF st 2 x0 0 x1) 2 x0 1 (xF (sF st 2 x0 0 x1) 1 x2 6)) x0) (C := RX3) (T := TX3) (fun _ => rfl) rfl inX3 tyX3_ok nmX3 2 (by decide) wf_RX3_25 rfl rfl rfl rfl (Nat.le_of_ble_eq_true rfl) (fun _ => by simp [enX, fPa, sF, xF, xU]) dX3_grant_18 (fun H locs hM hS => ?_)
  refine lv_aload_n hx hb dX3_grant_21 rfl (lv_at hl 0 rfl) ?_
  refine lv_aload_n hx hb dX3_grant_22 rfl (lv_at hl 3 rfl) ?_
  refine xw_get B.1 hM 1 x3 (xv_s (k := 1) (by decide) v4) (ci := 5) (N := 12) (fs := fSh ad (sF (sF (sF st 2 x0 0 x1) 2 x0 1 (xF (sF st 2 x0 0 x1) 1 x2 6)) 2 x0 2 (nI x3)) x3) (C := RX4) (T := TX4) (fun _ => rfl) rfl inX4 6 (by decide) wf_RX3_15 rfl (v := .int (xF (sF (sF (sF st 2 x0 0 x1) 2 x0 1 (xF (sF st 2 x0 0 x1) 1 x2 6)) 2 x0 2 (nI x3)) 1 x3 6)) rfl dX3_grant_23 ?_
  refine xw_putF B.1 hM hS 3 x0 2 (Or.inr (Or.inr (Or.inl ⟨rfl, rfl⟩))) (xv_s (k := 3) (by decide) v1) (ci := 4) (N := 4) (fs := fPa (sF (sF (sF st 2 x0 0 x1) 2 x0 1 (xF (sF st 2 x0 0 x1) 1 x2 6)) 2 x0 2 (nI x3)) x0) (C := RX3) (T := TX3) (fun _ => rfl) rfl inX3 tyX3_ok nmX3 3 (by decide) wf_RX3_28 rfl rfl rfl rfl (Nat.le_of_ble_eq_true rfl) (fun _ => by simp [enX, fPa, sF, xF, xU]) dX3_grant_26 (fun H locs hM hS => ?_)
  cases h
  exact xw_vret B hM hS (Nat.le_refl 0) (Nat.le_refl 0) dX3_grant_29
theorem c_X3_grant {l : Launch} (hll : l.stackTraces = false) {G : GG} {A : Nat → Prop} {ad : AD} {st : XS} {x0 : Nat} {x1 : Int32} {x2 : Nat} {x3 : Nat} {r : Unit} {st' : XS} (h : f_X3_grant st x0 x1 x2 x3 = some (r, st')) : Met l yX3_grant (Cond.code yX3_grant cX3_grant 4 none :: TG) ({ frames := 0, cells := 0, slots := 0, locals := 0 } : Room) (PX G A ad st [.ref (ad 3 x0), .int x1, .ref (ad 1 x2), .ref (ad 1 x3)]) (QX G A ad none st') 0 0 A :=
  xw_of (own := RX3) hll (by decide +kernel) rfl (Nat.le_of_ble_eq_true rfl) fun p e s m below meth c ls B hM hS hl => w_X3_grant B _ _ _ _ _ _ _ _ h hM hS hl
set_option maxHeartbeats 4000000 in
set_option maxRecDepth 100000 in
theorem w_X3_holds_38 {p : Program} {l : Launch} {e : Env} {s : State} {m : MethodId} {args : Array Value} {below : List Frame} {meth : Method} {c : Code} {G : GG} {A : Nat → Prop} {ad : AD} (B : XB G A ad p l s m args meth c cX3_holds 3 RX3 (some .boolean)) {r : Int32} {st' : XS} : ∀ (st : XS) (y0 : Int32) (H : Heap) (locs : List Loc) (ls : Array Slot), f_X3_holds_38 st y0 = some (r, st') → XW G A ad st H → va_S A s.heap H locs → lv_has ls 3 [] → W p l e ({ frames := 0, cells := 0, slots := 0, locals := 0 } : Room) s m args below meth c H locs 0 0 (MQ below (QX G A ad (some (.int r)) st') args s 0 0 A) (F0 m 38 ls [.int y0]) := by
  have ⟨⟨hx, hb, hr, hml, hown, hT, hlocks, hK⟩, hnt, hST, hA, hll⟩ := B
  intro st y0 H locs ls h hM hS hl
  rw [f_X3_holds_38] at h
  obtain ⟨g1, h⟩ := gd_e h
  cases h
  exact xw_zret B hM hS (Nat.le_refl 0) (Nat.le_refl 0) g1 dX3_holds_38
set_option maxHeartbeats 4000000 in
set_option maxRecDepth 100000 in
theorem w_X3_holds_37 {p : Program} {l : Launch} {e : Env} {s : State} {m : MethodId} {args : Array Value} {below : List Frame} {meth : Method} {c : Code} {G : GG} {A : Nat → Prop} {ad : AD} (B : XB G A ad p l s m args meth c cX3_holds 3 RX3 (some .boolean)) {r : Int32} {st' : XS} : ∀ (st : XS) (H : Heap) (locs : List Loc) (ls : Array Slot), f_X3_holds_37 st = some (r, st') → XW G A ad st H → va_S A s.heap H locs → lv_has ls 3 [] → W p l e ({ frames := 0, cells := 0, slots := 0, locals := 0 } : Room) s m args below meth c H locs 0 0 (MQ below (QX G A ad (some (.int r)) st') args s 0 0 A) (F0 m 37 ls []) := by
  have ⟨⟨hx, hb, hr, hml, hown, hT, hlocks, hK⟩, hnt, hST, hA, hll⟩ := B
  intro st  H locs ls h hM hS hl
  rw [f_X3_holds_37] at h
  refine lv_iconst (v := 0) hx hb dX3_holds_37 (by decide) ?_
  exact w_X3_holds_38 B _ _ _ _ _ h hM hS (lv_sub hl [] rfl)
set_option maxHeartbeats 4000000 in
set_option maxRecDepth 100000 in
theorem w_X3_holds {p : Program} {l : Launch} {e : Env} {s : State} {m : MethodId} {args : Array Value} {below : List Frame} {meth : Method} {c : Code} {G : GG} {A : Nat → Prop} {ad : AD} (B : XB G A ad p l s m args meth c cX3_holds 3 RX3 (some .boolean)) {r : Int32} {st' : XS} : ∀ (st : XS) (x0 : Nat) (x1 : Nat) (x2 : Nat) (H : Heap) (locs : List Loc) (ls : Array Slot), f_X3_holds st x0 x1 x2 = some (r, st') → XW G A ad st H → va_S A s.heap H locs → lv_has ls 3 [(0, .ref (ad 3 x0)), (1, .ref (ad 1 x1)), (2, .ref (ad 1 x2))] → W p l e ({ frames := 0, cells := 0, slots := 0, locals := 0 } : Room) s m args below meth c H locs 0 0 (MQ below (QX G A ad (some (.int r)) st') args s 0 0 A) (F0 m 0 ls []) := by
  have ⟨⟨hx, hb, hr, hml, hown, hT, hlocks, hK⟩, hnt, hST, hA, hll⟩ := B
  intro st x0 x1 x2 H locs ls h hM hS hl
  rw [f_X3_holds] at h
  refine lv_aload_n hx hb dX3_holds_0 rfl (lv_at hl 0 rfl) ?_
  obtain ⟨v1, h⟩ := gd_e h
  refine xw_get B.1 hM 3 x0 (xv_s (k := 3) (by decide) v1) (ci := 4) (N := 4) (fs := fPa st x0) (C := RX3) (T := TX3) (fun _ => rfl) rfl inX3 1 (by decide) wf_RX3_21 rfl (v := .int (xF st 2 x0 1)) rfl dX3_holds_1 ?_
  refine lv_aload_n hx hb dX3_holds_4 rfl (lv_at hl 1 rfl) ?_
  obtain ⟨v2, h⟩ := gd_e h
  refine xw_get B.1 hM 1 x1 (xv_s (k := 1) (by decide) v2) (ci := 5) (N := 12) (fs := fSh ad st x1) (C := RX4) (T := TX4) (fun _ => rfl) rfl inX4 6 (by decide) wf_RX3_15 rfl (v := .int (xF st 1 x1 6)) rfl dX3_holds_5 ?_
  refine lv_icmp_ne (tgt := 37) hx hb dX3_holds_8 (by decide) (fun c3 => ?_) (fun c3 => ?_)
  · have h := bi_f c3 h
    exact w_X3_holds_37 B _ _ _ _ h hM hS (lv_sub hl [] rfl)
  · have h := bi_t c3 h
    refine lv_aload_n hx hb dX3_holds_11 rfl (lv_at hl 0 rfl) ?_
    refine xw_get B.1 hM 3 x0 (xv_s (k := 3) (by decide) v1) (ci := 4) (N := 4) (fs := fPa st x0) (C := RX3) (T := TX3) (fun _ => rfl) rfl inX3 2 (by decide) wf_RX3_25 rfl (v := .int (xF st 2 x0 2)) rfl dX3_holds_12 ?_
    refine lv_aload_n hx hb dX3_holds_15 rfl (lv_at hl 2 rfl) ?_
    obtain ⟨v4, h⟩ := gd_e h
    refine xw_get B.1 hM 1 x2 (xv_s (k := 1) (by decide) v4) (ci := 5) (N := 12) (fs := fSh ad st x2) (C := RX4) (T := TX4) (fun _ => rfl) rfl inX4 0 (by decide) wf_RX3_22 rfl (v := .int (nI x2)) rfl dX3_holds_16 ?_
    refine lv_icmp_ne (tgt := 37) hx hb dX3_holds_19 (by decide) (fun c5 => ?_) (fun c5 => ?_)
    · have h := bi_f c5 h
      exact w_X3_holds_37 B _ _ _ _ h hM hS (lv_sub hl [] rfl)
    · have h := bi_t c5 h
      refine lv_aload_n hx hb dX3_holds_22 rfl (lv_at hl 0 rfl) ?_
      refine xw_get B.1 hM 3 x0 (xv_s (k := 3) (by decide) v1) (ci := 4) (N := 4) (fs := fPa st x0) (C := RX3) (T := TX3) (fun _ => rfl) rfl inX3 3 (by decide) wf_RX3_28 rfl (v := .int (xF st 2 x0 3)) rfl dX3_holds_23 ?_
      refine lv_aload_n hx hb dX3_holds_26 rfl (lv_at hl 2 rfl) ?_
      refine xw_get B.1 hM 1 x2 (xv_s (k := 1) (by decide) v4) (ci := 5) (N := 12) (fs := fSh ad st x2) (C := RX4) (T := TX4) (fun _ => rfl) rfl inX4 6 (by decide) wf_RX3_15 rfl (v := .int (xF st 1 x2 6)) rfl dX3_holds_27 ?_
      refine lv_icmp_ne (tgt := 37) hx hb dX3_holds_30 (by decide) (fun c6 => ?_) (fun c6 => ?_)
      · have h := bi_f c6 h
        exact w_X3_holds_37 B _ _ _ _ h hM hS (lv_sub hl [] rfl)
      · have h := bi_t c6 h
        refine lv_iconst (v := 1) hx hb dX3_holds_33 (by decide) ?_
        refine lv_goto (tgt := 38) hx hb dX3_holds_34 (by decide) ?_
        exact w_X3_holds_38 B _ _ _ _ _ h hM hS (lv_sub hl [] rfl)
theorem c_X3_holds {l : Launch} (hll : l.stackTraces = false) {G : GG} {A : Nat → Prop} {ad : AD} {st : XS} {x0 : Nat} {x1 : Nat} {x2 : Nat} {r : Int32} {st' : XS} (h : f_X3_holds st x0 x1 x2 = some (r, st')) : Met l yX3_holds (Cond.code yX3_holds cX3_holds 3 (some .boolean) :: TG) ({ frames := 0, cells := 0, slots := 0, locals := 0 } : Room) (PX G A ad st [.ref (ad 3 x0), .ref (ad 1 x1), .ref (ad 1 x2)]) (QX G A ad (some (.int r)) st') 0 0 A :=
  xw_of (own := RX3) hll (by decide +kernel) rfl (Nat.le_of_ble_eq_true rfl) fun p e s m below meth c ls B hM hS hl => w_X3_holds B _ _ _ _ _ _ _ h hM hS hl
set_option maxHeartbeats 4000000 in
set_option maxRecDepth 100000 in
theorem w_X4_film_36 {p : Program} {l : Launch} {e : Env} {s : State} {m : MethodId} {args : Array Value} {below : List Frame} {meth : Method} {c : Code} {G : GG} {A : Nat → Prop} {ad : AD} (B : XB G A ad p l s m args meth c cX4_film 3 RX4 none) {r : Unit} {st' : XS} : ∀ (st : XS) (H : Heap) (locs : List Loc) (ls : Array Slot), f_X4_film_36 st = some (r, st') → XW G A ad st H → va_S A s.heap H locs → lv_has ls 3 [] → W p l e ({ frames := 0, cells := 0, slots := 0, locals := 0 } : Room) s m args below meth c H locs 0 0 (MQ below (QX G A ad none st') args s 0 0 A) (F0 m 36 ls []) := by
  have ⟨⟨hx, hb, hr, hml, hown, hT, hlocks, hK⟩, hnt, hST, hA, hll⟩ := B
  intro st  H locs ls h hM hS hl
  rw [f_X4_film_36] at h
  cases h
  exact xw_vret B hM hS (Nat.le_refl 0) (Nat.le_refl 0) dX4_film_36
set_option maxHeartbeats 4000000 in
set_option maxRecDepth 100000 in
theorem w_X4_film_16 {p : Program} {l : Launch} {e : Env} {s : State} {m : MethodId} {args : Array Value} {below : List Frame} {meth : Method} {c : Code} {G : GG} {A : Nat → Prop} {ad : AD} (B : XB G A ad p l s m args meth c cX4_film 3 RX4 none) {r : Unit} {st' : XS} : ∀ (st : XS) (x0 : Nat) (x1 : Int32) (x2 : Int32) (H : Heap) (locs : List Loc) (ls : Array Slot), f_X4_film_16 st x0 x1 x2 = some (r, st') → XW G A ad st H → va_S A s.heap H locs → lv_has ls 3 [(0, .ref (ad 1 x0)), (1, .int x1), (2, .int x2)] → W p l e ({ frames := 0, cells := 0, slots := 0, locals := 0 } : Room) s m args below meth c H locs 0 0 (MQ below (QX G A ad none st') args s 0 0 A) (F0 m 16 ls []) := by
  have ⟨⟨hx, hb, hr, hml, hown, hT, hlocks, hK⟩, hnt, hST, hA, hll⟩ := B
  intro st x0 x1 x2 H locs ls h hM hS hl
  rw [f_X4_film_16] at h
  refine lv_aload_n hx hb dX4_film_16 rfl (lv_at hl 0 rfl) ?_
  refine lv_iload_n hx hb dX4_film_17 rfl (lv_at hl 1 rfl) ?_
  obtain ⟨v1, h⟩ := gd_e h
  obtain ⟨g2, h⟩ := gd_e h
  refine xw_putF B.1 hM hS 1 x0 1 (Or.inr (Or.inl ⟨rfl, rfl⟩)) (xv_s (k := 1) (by decide) v1) (ci := 5) (N := 12) (fs := fSh ad st x0) (C := RX4) (T := TX4) (fun _ => rfl) rfl inX4 tyX4_ok nmX4 3 (by decide) wf_RX4_39 rfl rfl g2.1 g2.2 (Nat.le_of_ble_eq_true rfl) (fun _ => by simp [enX, fSh, sF, xF, xU]) dX4_film_18 (fun H locs hM hS => ?_)
  refine lv_aload_n hx hb dX4_film_21 rfl (lv_at hl 0 rfl) ?_
  refine lv_iload_n hx hb dX4_film_22 rfl (lv_at hl 2 rfl) ?_
  refine xw_putF B.1 hM hS 1 x0 1 (Or.inr (Or.inl ⟨rfl, rfl⟩)) (xv_s (k := 1) (by decide) v1) (ci := 5) (N := 12) (fs := fSh ad (sF st 1 x0 3 x1) x0) (C := RX4) (T := TX4) (fun _ => rfl) rfl inX4 tyX4_ok nmX4 4 (by decide) wf_RX4_42 rfl rfl rfl rfl (Nat.le_of_ble_eq_true rfl) (fun _ => by simp [enX, fSh, sF, xF, xU]) dX4_film_23 (fun H locs hM hS => ?_)
  refine lv_aload_n hx hb dX4_film_26 rfl (lv_at hl 0 rfl) ?_
  refine lv_dup hx hb dX4_film_27 rfl ?_
  refine xw_get B.1 hM 1 x0 (xv_s (k := 1) (by decide) v1) (ci := 5) (N := 12) (fs := fSh ad (sF (sF st 1 x0 3 x1) 1 x0 4 x2) x0) (C := RX4) (T := TX4) (fun _ => rfl) rfl inX4 6 (by decide) wf_RX4_48 rfl (v := .int (xF (sF (sF st 1 x0 3 x1) 1 x0 4 x2) 1 x0 6)) rfl dX4_film_28 ?_
  refine lv_iconst (v := 1) hx hb dX4_film_31 (by decide) ?_
  refine lv_iadd hx hb dX4_film_32 ?_
  refine xw_putF B.1 hM hS 1 x0 1 (Or.inr (Or.inl ⟨rfl, rfl⟩)) (xv_s (k := 1) (by decide) v1) (ci := 5) (N := 12) (fs := fSh ad (sF (sF st 1 x0 3 x1) 1 x0 4 x2) x0) (C := RX4) (T := TX4) (fun _ => rfl) rfl inX4 tyX4_ok nmX4 6 (by decide) wf_RX4_48 rfl rfl rfl rfl (Nat.le_of_ble_eq_true rfl) (fun _ => by simp [enX, fSh, sF, xF, xU]) dX4_film_33 (fun H locs hM hS => ?_)
  exact w_X4_film_36 B _ _ _ _ h hM hS (lv_sub hl [] rfl)
set_option maxHeartbeats 4000000 in
set_option maxRecDepth 100000 in
theorem w_X4_film {p : Program} {l : Launch} {e : Env} {s : State} {m : MethodId} {args : Array Value} {below : List Frame} {meth : Method} {c : Code} {G : GG} {A : Nat → Prop} {ad : AD} (B : XB G A ad p l s m args meth c cX4_film 3 RX4 none) {r : Unit} {st' : XS} : ∀ (st : XS) (x0 : Nat) (x1 : Int32) (x2 : Int32) (H : Heap) (locs : List Loc) (ls : Array Slot), f_X4_film st x0 x1 x2 = some (r, st') → XW G A ad st H → va_S A s.heap H locs → lv_has ls 3 [(0, .ref (ad 1 x0)), (1, .int x1), (2, .int x2)] → W p l e ({ frames := 0, cells := 0, slots := 0, locals := 0 } : Room) s m args below meth c H locs 0 0 (MQ below (QX G A ad none st') args s 0 0 A) (F0 m 0 ls []) := by
  have ⟨⟨hx, hb, hr, hml, hown, hT, hlocks, hK⟩, hnt, hST, hA, hll⟩ := B
  intro st x0 x1 x2 H locs ls h hM hS hl
  rw [f_X4_film] at h
  refine lv_aload_n hx hb dX4_film_0 rfl (lv_at hl 0 rfl) ?_
  obtain ⟨v1, h⟩ := gd_e h
  refine xw_get B.1 hM 1 x0 (xv_s (k := 1) (by decide) v1) (ci := 5) (N := 12) (fs := fSh ad st x0) (C := RX4) (T := TX4) (fun _ => rfl) rfl inX4 3 (by decide) wf_RX4_39 rfl (v := .int (xF st 1 x0 3)) rfl dX4_film_1 ?_
  refine lv_iload_n hx hb dX4_film_4 rfl (lv_at hl 1 rfl) ?_
  refine lv_icmp_ne (tgt := 16) hx hb dX4_film_5 (by decide) (fun c2 => ?_) (fun c2 => ?_)
  · have h := bi_f c2 h
    exact w_X4_film_16 B _ _ _ _ _ _ _ h hM hS (lv_sub hl [0, 1, 2] rfl)
  · have h := bi_t c2 h
    refine lv_aload_n hx hb dX4_film_8 rfl (lv_at hl 0 rfl) ?_
    refine xw_get B.1 hM 1 x0 (xv_s (k := 1) (by decide) v1) (ci := 5) (N := 12) (fs := fSh ad st x0) (C := RX4) (T := TX4) (fun _ => rfl) rfl inX4 4 (by decide) wf_RX4_42 rfl (v := .int (xF st 1 x0 4)) rfl dX4_film_9 ?_
    refine lv_iload_n hx hb dX4_film_12 rfl (lv_at hl 2 rfl) ?_
    refine lv_icmp_eq (tgt := 36) hx hb dX4_film_13 (by decide) (fun c3 => ?_) (fun c3 => ?_)
    · have h := bi_t c3 h
      exact w_X4_film_36 B _ _ _ _ h hM hS (lv_sub hl [] rfl)
    · have h := bi_f c3 h
      exact w_X4_film_16 B _ _ _ _ _ _ _ h hM hS (lv_sub hl [0, 1, 2] rfl)
theorem c_X4_film {l : Launch} (hll : l.stackTraces = false) {G : GG} {A : Nat → Prop} {ad : AD} {st : XS} {x0 : Nat} {x1 : Int32} {x2 : Int32} {r : Unit} {st' : XS} (h : f_X4_film st x0 x1 x2 = some (r, st')) : Met l yX4_film (Cond.code yX4_film cX4_film 3 none :: TG) ({ frames := 0, cells := 0, slots := 0, locals := 0 } : Room) (PX G A ad st [.ref (ad 1 x0), .int x1, .int x2]) (QX G A ad none st') 0 0 A :=
  xw_of (own := RX4) hll (by decide +kernel) rfl (Nat.le_of_ble_eq_true rfl) fun p e s m below meth c ls B hM hS hl => w_X4_film B _ _ _ _ _ _ _ h hM hS hl
set_option maxHeartbeats 4000000 in
set_option maxRecDepth 100000 in
theorem w_X4_changeLength_25 {p : Program} {l : Launch} {e : Env} {s : State} {m : MethodId} {args : Array Value} {below : List Frame} {meth : Method} {c : Code} {G : GG} {A : Nat → Prop} {ad : AD} (B : XB G A ad p l s m args meth c cX4_changeLength 3 RX4 (some .int)) {r : Int32} {st' : XS} : ∀ (st : XS) (x2 : Int32) (H : Heap) (locs : List Loc) (ls : Array Slot), f_X4_changeLength_25 st x2 = some (r, st') → XW G A ad st H → va_S A s.heap H locs → lv_has ls 3 [(2, .int x2)] → W p l e ({ frames := 0, cells := 0, slots := 0, locals := 0 } : Room) s m args below meth c H locs 0 0 (MQ below (QX G A ad (some (.int r)) st') args s 0 0 A) (F0 m 25 ls []) := by
  have ⟨⟨hx, hb, hr, hml, hown, hT, hlocks, hK⟩, hnt, hST, hA, hll⟩ := B
  intro st x2 H locs ls h hM hS hl
  rw [f_X4_changeLength_25] at h
  refine lv_iload_n hx hb dX4_changeLength_25 rfl (lv_at hl 0 rfl) ?_
  cases h
  exact xw_iret B hM hS (Nat.le_refl 0) (Nat.le_refl 0) dX4_changeLength_26
set_option maxHeartbeats 4000000 in
set_option maxRecDepth 100000 in
theorem w_X4_changeLength {p : Program} {l : Launch} {e : Env} {s : State} {m : MethodId} {args : Array Value} {below : List Frame} {meth : Method} {c : Code} {G : GG} {A : Nat → Prop} {ad : AD} (B : XB G A ad p l s m args meth c cX4_changeLength 3 RX4 (some .int)) {r : Int32} {st' : XS} : ∀ (st : XS) (x0 : Nat) (x1 : Int32) (H : Heap) (locs : List Loc) (ls : Array Slot), f_X4_changeLength st x0 x1 = some (r, st') → XW G A ad st H → va_S A s.heap H locs → lv_has ls 3 [(0, .ref (ad 1 x0)), (1, .int x1)] → W p l e ({ frames := 0, cells := 0, slots := 0, locals := 0 } : Room) s m args below meth c H locs 0 0 (MQ below (QX G A ad (some (.int r)) st') args s 0 0 A) (F0 m 0 ls []) := by
  have ⟨⟨hx, hb, hr, hml, hown, hT, hlocks, hK⟩, hnt, hST, hA, hll⟩ := B
  intro st x0 x1 H locs ls h hM hS hl
  rw [f_X4_changeLength] at h
  refine lv_aload_n hx hb dX4_changeLength_0 rfl (lv_at hl 0 rfl) ?_
  obtain ⟨v1, h⟩ := gd_e h
  refine xw_get B.1 hM 1 x0 (xv_s (k := 1) (by decide) v1) (ci := 5) (N := 12) (fs := fSh ad st x0) (C := RX4) (T := TX4) (fun _ => rfl) rfl inX4 5 (by decide) wf_RX4_45 rfl (v := .int (xF st 1 x0 5)) rfl dX4_changeLength_1 ?_
  refine lv_istore_n (lv' := [(2, .int (xF st 1 x0 5)), (0, .ref (ad 1 x0)), (1, .int x1)]) hx hb dX4_changeLength_4 rfl hl (by decide) rfl (fun ls hl => ?_)
  refine lv_iload_n hx hb dX4_changeLength_5 rfl (lv_at hl 0 rfl) ?_
  refine lv_iload_n hx hb dX4_changeLength_6 rfl (lv_at hl 2 rfl) ?_
  refine lv_icmp_eq (tgt := 25) hx hb dX4_changeLength_7 (by decide) (fun c2 => ?_) (fun c2 => ?_)
  · have h := bi_t c2 h
    exact w_X4_changeLength_25 B _ _ _ _ _ h hM hS (lv_sub hl [0] rfl)
  · have h := bi_f c2 h
    refine lv_aload_n hx hb dX4_changeLength_10 rfl (lv_at hl 1 rfl) ?_
    refine lv_iload_n hx hb dX4_changeLength_11 rfl (lv_at hl 2 rfl) ?_
    refine xw_putF B.1 hM hS 1 x0 1 (Or.inr (Or.inl ⟨rfl, rfl⟩)) (xv_s (k := 1) (by decide) v1) (ci := 5) (N := 12) (fs := fSh ad st x0) (C := RX4) (T := TX4) (fun _ => rfl) rfl inX4 tyX4_ok nmX4 5 (by decide) wf_RX4_45 rfl rfl rfl rfl (Nat.le_of_ble_eq_true rfl) (fun _ => by simp [enX, fSh, sF, xF, xU]) dX4_changeLength_12 (fun H locs hM hS => ?_)
    refine lv_aload_n hx hb dX4_changeLength_15 rfl (lv_at hl 1 rfl) ?_
    refine lv_dup hx hb dX4_changeLength_16 rfl ?_
    refine xw_get B.1 hM 1 x0 (xv_s (k := 1) (by decide) v1) (ci := 5) (N := 12) (fs := fSh ad (sF st 1 x0 5 x1) x0) (C := RX4) (T := TX4) (fun _ => rfl) rfl inX4 6 (by decide) wf_RX4_48 rfl (v := .int (xF (sF st 1 x0 5 x1) 1 x0 6)) rfl dX4_changeLength_17 ?_
    refine lv_iconst (v := 1) hx hb dX4_changeLength_20 (by decide) ?_
    refine lv_iadd hx hb dX4_changeLength_21 ?_
    refine xw_putF B.1 hM hS 1 x0 1 (Or.inr (Or.inl ⟨rfl, rfl⟩)) (xv_s (k := 1) (by decide) v1) (ci := 5) (N := 12) (fs := fSh ad (sF st 1 x0 5 x1) x0) (C := RX4) (T := TX4) (fun _ => rfl) rfl inX4 tyX4_ok nmX4 6 (by decide) wf_RX4_48 rfl rfl rfl rfl (Nat.le_of_ble_eq_true rfl) (fun _ => by simp [enX, fSh, sF, xF, xU]) dX4_changeLength_22 (fun H locs hM hS => ?_)
    exact w_X4_changeLength_25 B _ _ _ _ _ h hM hS (lv_sub hl [0] rfl)
theorem c_X4_changeLength {l : Launch} (hll : l.stackTraces = false) {G : GG} {A : Nat → Prop} {ad : AD} {st : XS} {x0 : Nat} {x1 : Int32} {r : Int32} {st' : XS} (h : f_X4_changeLength st x0 x1 = some (r, st')) : Met l yX4_changeLength (Cond.code yX4_changeLength cX4_changeLength 3 (some .int) :: TG) ({ frames := 0, cells := 0, slots := 0, locals := 0 } : Room) (PX G A ad st [.ref (ad 1 x0), .int x1]) (QX G A ad (some (.int r)) st') 0 0 A :=
  xw_of (own := RX4) hll (by decide +kernel) rfl (Nat.le_of_ble_eq_true rfl) fun p e s m below meth c ls B hM hS hl => w_X4_changeLength B _ _ _ _ _ _ h hM hS hl
set_option maxHeartbeats 4000000 in
set_option maxRecDepth 100000 in
theorem w_X4_putIn_56 {p : Program} {l : Launch} {e : Env} {s : State} {m : MethodId} {args : Array Value} {below : List Frame} {meth : Method} {c : Code} {G : GG} {A : Nat → Prop} {ad : AD} (B : XB G A ad p l s m args meth c cX4_putIn 4 RX4 none) {r : Unit} {st' : XS} : ∀ (st : XS) (H : Heap) (locs : List Loc) (ls : Array Slot), f_X4_putIn_56 st = some (r, st') → XW G A ad st H → va_S A s.heap H locs → lv_has ls 4 [] → W p l e ({ frames := 0, cells := 0, slots := 0, locals := 0 } : Room) s m args below meth c H locs 0 0 (MQ below (QX G A ad none st') args s 0 0 A) (F0 m 56 ls []) := by
  have ⟨⟨hx, hb, hr, hml, hown, hT, hlocks, hK⟩, hnt, hST, hA, hll⟩ := B
  intro st  H locs ls h hM hS hl
  rw [f_X4_putIn_56] at h
  cases h
  exact xw_vret B hM hS (Nat.le_refl 0) (Nat.le_refl 0) dX4_putIn_56
set_option maxHeartbeats 4000000 in
set_option maxRecDepth 100000 in
theorem w_X4_putIn_26 {p : Program} {l : Launch} {e : Env} {s : State} {m : MethodId} {args : Array Value} {below : List Frame} {meth : Method} {c : Code} {G : GG} {A : Nat → Prop} {ad : AD} (B : XB G A ad p l s m args meth c cX4_putIn 4 RX4 none) {r : Unit} {st' : XS} : ∀ (st : XS) (x0 : Nat) (x1 : Int32) (x2 : Int32) (x3 : Int32) (H : Heap) (locs : List Loc) (ls : Array Slot), f_X4_putIn_26 st x0 x1 x2 x3 = some (r, st') → XW G A ad st H → va_S A s.heap H locs → lv_has ls 4 [(0, .ref (ad 1 x0)), (1, .int x1), (2, .int x2), (3, .int x3)] → W p l e ({ frames := 0, cells := 0, slots := 0, locals := 0 } : Room) s m args below meth c H locs 0 0 (MQ below (QX G A ad none st') args s 0 0 A) (F0 m 26 ls []) := by
  have ⟨⟨hx, hb, hr, hml, hown, hT, hlocks, hK⟩, hnt, hST, hA, hll⟩ := B
  intro st x0 x1 x2 x3 H locs ls h hM hS hl
  rw [f_X4_putIn_26] at h
  refine lv_aload_n hx hb dX4_putIn_26 rfl (lv_at hl 0 rfl) ?_
  obtain ⟨v1, h⟩ := gd_e h
  refine xw_get B.1 hM 1 x0 (xv_s (k := 1) (by decide) v1) (ci := 5) (N := 12) (fs := fSh ad st x0) (C := RX4) (T := TX4) (fun _ => rfl) rfl inX4 1 (by decide) wf_RX4_12 rfl (v := .ref (ad 2 x0)) rfl dX4_putIn_27 ?_
  refine xw_get B.1 hM 2 x0 (xv_s (k := 2) (by decide) v1) (ci := 1) (N := 4) (fs := fCa ad x0) (C := RX0) (T := TX0) (fun _ => rfl) rfl inX0 0 (by decide) wf_RX4_51 rfl (v := .ref (ad 4 x0)) rfl dX4_putIn_30 ?_
  refine lv_iload_n hx hb dX4_putIn_33 rfl (lv_at hl 1 rfl) ?_
  refine lv_iload_n hx hb dX4_putIn_34 rfl (lv_at hl 2 rfl) ?_
  obtain ⟨g2, h⟩ := gd_e h
  refine xw_cast B.1 hM hS 0 x0 (by decide) v1 g2 dX4_putIn_35 (fun H locs hM hS => ?_)
  refine lv_aload_n hx hb dX4_putIn_36 rfl (lv_at hl 0 rfl) ?_
  refine xw_get B.1 hM 1 x0 (xv_s (k := 1) (by decide) v1) (ci := 5) (N := 12) (fs := fSh ad (sR st 0 x0 x1.toNatClampNeg (vp_nar .char x2)) x0) (C := RX4) (T := TX4) (fun _ => rfl) rfl inX4 1 (by decide) wf_RX4_12 rfl (v := .ref (ad 2 x0)) rfl dX4_putIn_37 ?_
  refine xw_get B.1 hM 2 x0 (xv_s (k := 2) (by decide) v1) (ci := 1) (N := 4) (fs := fCa ad x0) (C := RX0) (T := TX0) (fun _ => rfl) rfl inX0 1 (by decide) wf_RX4_55 rfl (v := .ref (ad 5 x0)) rfl dX4_putIn_40 ?_
  refine lv_iload_n hx hb dX4_putIn_43 rfl (lv_at hl 1 rfl) ?_
  refine lv_iload_n hx hb dX4_putIn_44 rfl (lv_at hl 3 rfl) ?_
  obtain ⟨g3, h⟩ := gd_e h
  refine xw_cast B.1 hM hS 1 x0 (by decide) v1 g3 dX4_putIn_45 (fun H locs hM hS => ?_)
  refine lv_aload_n hx hb dX4_putIn_46 rfl (lv_at hl 0 rfl) ?_
  refine lv_dup hx hb dX4_putIn_47 rfl ?_
  refine xw_get B.1 hM 1 x0 (xv_s (k := 1) (by decide) v1) (ci := 5) (N := 12) (fs := fSh ad (sR (sR st 0 x0 x1.toNatClampNeg (vp_nar .char x2)) 1 x0 x1.toNatClampNeg (vp_nar .char x3)) x0) (C := RX4) (T := TX4) (fun _ => rfl) rfl inX4 6 (by decide) wf_RX4_48 rfl (v := .int (xF (sR (sR st 0 x0 x1.toNatClampNeg (vp_nar .char x2)) 1 x0 x1.toNatClampNeg (vp_nar .char x3)) 1 x0 6)) rfl dX4_putIn_48 ?_
  refine lv_iconst (v := 1) hx hb dX4_putIn_51 (by decide) ?_
  refine lv_iadd hx hb dX4_putIn_52 ?_
  refine xw_putF B.1 hM hS 1 x0 1 (Or.inr (Or.inl ⟨rfl, rfl⟩)) (xv_s (k := 1) (by decide) v1) (ci := 5) (N := 12) (fs := fSh ad (sR (sR st 0 x0 x1.toNatClampNeg (vp_nar .char x2)) 1 x0 x1.toNatClampNeg (vp_nar .char x3)) x0) (C := RX4) (T := TX4) (fun _ => rfl) rfl inX4 tyX4_ok nmX4 6 (by decide) wf_RX4_48 rfl rfl rfl rfl (Nat.le_of_ble_eq_true rfl) (fun _ => by simp [enX, fSh, sF, xF, xU]) dX4_putIn_53 (fun H locs hM hS => ?_)
  exact w_X4_putIn_56 B _ _ _ _ h hM hS (lv_sub hl [] rfl)
set_option maxHeartbeats 4000000 in
set_option maxRecDepth 100000 in
theorem w_X4_putIn {p : Program} {l : Launch} {e : Env} {s : State} {m : MethodId} {args : Array Value} {below : List Frame} {meth : Method} {c : Code} {G : GG} {A : Nat → Prop} {ad : AD} (B : XB G A ad p l s m args meth c cX4_putIn 4 RX4 none) {r : Unit} {st' : XS} : ∀ (st : XS) (x0 : Nat) (x1 : Int32) (x2 : Int32) (x3 : Int32) (H : Heap) (locs : List Loc) (ls : Array Slot), f_X4_putIn st x0 x1 x2 x3 = some (r, st') → XW G A ad st H → va_S A s.heap H locs → lv_has ls 4 [(0, .ref (ad 1 x0)), (1, .int x1), (2, .int x2), (3, .int x3)] → W p l e ({ frames := 0, cells := 0, slots := 0, locals := 0 } : Room) s m args below meth c H locs 0 0 (MQ below (QX G A ad none st') args s 0 0 A) (F0 m 0 ls []) := by
  have ⟨⟨hx, hb, hr, hml, hown, hT, hlocks, hK⟩, hnt, hST, hA, hll⟩ := B
  intro st x0 x1 x2 x3 H locs ls h hM hS hl
  rw [f_X4_putIn] at h
  refine lv_aload_n hx hb dX4_putIn_0 rfl (lv_at hl 0 rfl) ?_
  obtain ⟨v1, h⟩ := gd_e h
  refine xw_get B.1 hM 1 x0 (xv_s (k := 1) (by decide) v1) (ci := 5) (N := 12) (fs := fSh ad st x0) (C := RX4) (T := TX4) (fun _ => rfl) rfl inX4 1 (by decide) wf_RX4_12 rfl (v := .ref (ad 2 x0)) rfl dX4_putIn_1 ?_
  refine xw_get B.1 hM 2 x0 (xv_s (k := 2) (by decide) v1) (ci := 1) (N := 4) (fs := fCa ad x0) (C := RX0) (T := TX0) (fun _ => rfl) rfl inX0 0 (by decide) wf_RX4_51 rfl (v := .ref (ad 4 x0)) rfl dX4_putIn_4 ?_
  refine lv_iload_n hx hb dX4_putIn_7 rfl (lv_at hl 1 rfl) ?_
  obtain ⟨g2, h⟩ := gd_e h
  refine xw_cald B.1 hM 0 x0 (by decide) v1 g2 dX4_putIn_8 ?_
  refine lv_iload_n hx hb dX4_putIn_9 rfl (lv_at hl 2 rfl) ?_
  refine lv_icmp_ne (tgt := 26) hx hb dX4_putIn_10 (by decide) (fun c3 => ?_) (fun c3 => ?_)
  · have h := bi_f c3 h
    exact w_X4_putIn_26 B _ _ _ _ _ _ _ _ h hM hS (lv_sub hl [0, 1, 2, 3] rfl)
  · have h := bi_t c3 h
    refine lv_aload_n hx hb dX4_putIn_13 rfl (lv_at hl 0 rfl) ?_
    refine xw_get B.1 hM 1 x0 (xv_s (k := 1) (by decide) v1) (ci := 5) (N := 12) (fs := fSh ad st x0) (C := RX4) (T := TX4) (fun _ => rfl) rfl inX4 1 (by decide) wf_RX4_12 rfl (v := .ref (ad 2 x0)) rfl dX4_putIn_14 ?_
    refine xw_get B.1 hM 2 x0 (xv_s (k := 2) (by decide) v1) (ci := 1) (N := 4) (fs := fCa ad x0) (C := RX0) (T := TX0) (fun _ => rfl) rfl inX0 1 (by decide) wf_RX4_55 rfl (v := .ref (ad 5 x0)) rfl dX4_putIn_17 ?_
    refine lv_iload_n hx hb dX4_putIn_20 rfl (lv_at hl 1 rfl) ?_
    obtain ⟨g4, h⟩ := gd_e h
    refine xw_cald B.1 hM 1 x0 (by decide) v1 g4 dX4_putIn_21 ?_
    refine lv_iload_n hx hb dX4_putIn_22 rfl (lv_at hl 3 rfl) ?_
    refine lv_icmp_eq (tgt := 56) hx hb dX4_putIn_23 (by decide) (fun c5 => ?_) (fun c5 => ?_)
    · have h := bi_t c5 h
      exact w_X4_putIn_56 B _ _ _ _ h hM hS (lv_sub hl [] rfl)
    · have h := bi_f c5 h
      exact w_X4_putIn_26 B _ _ _ _ _ _ _ _ h hM hS (lv_sub hl [0, 1, 2, 3] rfl)
theorem c_X4_putIn {l : Launch} (hll : l.stackTraces = false) {G : GG} {A : Nat → Prop} {ad : AD} {st : XS} {x0 : Nat} {x1 : Int32} {x2 : Int32} {x3 : Int32} {r : Unit} {st' : XS} (h : f_X4_putIn st x0 x1 x2 x3 = some (r, st')) : Met l yX4_putIn (Cond.code yX4_putIn cX4_putIn 4 none :: TG) ({ frames := 0, cells := 0, slots := 0, locals := 0 } : Room) (PX G A ad st [.ref (ad 1 x0), .int x1, .int x2, .int x3]) (QX G A ad none st') 0 0 A :=
  xw_of (own := RX4) hll (by decide +kernel) rfl (Nat.le_of_ble_eq_true rfl) fun p e s m below meth c ls B hM hS hl => w_X4_putIn B _ _ _ _ _ _ _ _ h hM hS hl
