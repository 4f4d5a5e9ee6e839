set_option maxHeartbeats 4000000 in
set_option maxRecDepth 100000 in
theorem w_X5_orders {p : Program} {l : Launch} {e : Env} {s : State} {m : MethodId} {args : Array Value} {below : List Frame} {meth : Method} {c : Code} {G : GG} {A : Nat → Prop} {ad : AD} (B : XB G A ad p l s m args meth c cX5_orders 1 RX5 (some .int)) {r : (Nat ⊕ Int32)} {st' : XS} : ∀ (cells slots : Nat) (st : XS) (H : Heap) (locs : List Loc) (ls : Array Slot), cells + 1 ≤ 1 → slots + 6 ≤ 6 → f_X5_orders st = some (r, st') → XW G A ad st H → va_S A s.heap H locs → lv_has ls 1 [(0, .ref (ad 0 0))] → W p l e ({ frames := 7, cells := 1, slots := 6, locals := 120 } : Room) s m args below meth c H locs cells slots (vx_MQ below (QXr G A ad (ovw (fun x => some (.int x)) r) st') (QXx G A ad (ovw (fun x => some (.int x)) r) st') args s 1 6 A) (F0 m 0 ls []) := by
  have ⟨⟨hx, hb, hr, hml, hown, hT, hlocks, hK⟩, hnt, hST, hA, hll⟩ := B
  intro cells slots st  H locs ls hc hs h hM hS hl
  rw [f_X5_orders] at h
  refine lv_aload_n hx hb dX5_orders_0 rfl (lv_at hl 0 rfl) ?_
  rcases bdx_e h with ⟨k4, t2, e3, h⟩ | ⟨r1, t2, e3, h⟩
  · cases h
    exact xx_goV B hM hS (xw_recv (xb_vk B) hM 0 0 (Or.inl xv_0) (fun gh => ⟨_, rfl⟩) rfl) [] (n := 0) (c_X5_checkShortReel B.2.2.2.2 e3) wm_RX5_286 wi_yX5_checkShortReel ws_yX5_checkShortReel wn_RX5 wc_yX5_checkShortReel rfl rfl (by decide +kernel) ⟨Nat.le_of_ble_eq_true rfl, Nat.le_of_ble_eq_true rfl⟩ ⟨(by show _ ≤ 1; omega), (by show _ ≤ 6; omega)⟩ rfl hl.1 (Nat.le_of_ble_eq_true rfl) rfl dX5_orders_1 (by omega) (by omega) rfl
  · refine xx_callV B hM hS (xw_recv (xb_vk B) hM 0 0 (Or.inl xv_0) (fun gh => ⟨_, rfl⟩) rfl) [] (n := 0) (v := none) (c_X5_checkShortReel B.2.2.2.2 e3) wm_RX5_286 wi_yX5_checkShortReel ws_yX5_checkShortReel wn_RX5 wc_yX5_checkShortReel rfl rfl (by decide +kernel) ⟨Nat.le_of_ble_eq_true rfl, Nat.le_of_ble_eq_true rfl⟩ ⟨(by show _ ≤ 1; omega), (by show _ ≤ 6; omega)⟩ rfl hl.1 (Nat.le_of_ble_eq_true rfl) rfl dX5_orders_1 (fun H locs hM hS => ?_)
    refine lv_aload_n hx hb dX5_orders_4 rfl (lv_at hl 0 rfl) ?_
    refine xw_get B.1 hM 0 0 xv_0 (ci := 6) (N := 6) (fs := fTR ad t2) (C := RX5) (T := TX5) (fun _ => rfl) rfl inX5 3 (by decide) wf_RX5_25 rfl (v := .ref (ad 9 0)) rfl dX5_orders_5 ?_
    refine lv_aload_n hx hb dX5_orders_8 rfl (lv_at hl 0 rfl) ?_
    refine xw_get B.1 hM 0 0 xv_0 (ci := 6) (N := 6) (fs := fTR ad t2) (C := RX5) (T := TX5) (fun _ => rfl) rfl inX5 1 (by decide) wf_RX5_16 rfl (v := .ref (ad 13 1)) rfl dX5_orders_9 ?_
    obtain ⟨r5, t6, e7, h⟩ := bd_e h
    refine xw_callV B hM hS (xw_recv (xb_vk B) hM 9 0 (Or.inl (xv_o (k := 9) (by decide))) (fun gh => ⟨_, rfl⟩) rfl) [.ref (ad 13 1)] (n := 1) (v := none) (c_X2_layOut B.2.2.2.2 e7) wm_RX5_289 wi_yX2_layOut ws_yX2_layOut wn_RX2 wc_yX2_layOut rfl rfl (by decide +kernel) ⟨Nat.le_of_ble_eq_true rfl, Nat.le_of_ble_eq_true rfl⟩ ⟨(by show _ ≤ 1; omega), (by show _ ≤ 6; omega)⟩ rfl hl.1 (Nat.le_of_ble_eq_true rfl) rfl dX5_orders_12 (fun H locs hM hS => ?_)
    refine lv_aload_n hx hb dX5_orders_15 rfl (lv_at hl 0 rfl) ?_
    refine xw_get B.1 hM 0 0 xv_0 (ci := 6) (N := 6) (fs := fTR ad t6) (C := RX5) (T := TX5) (fun _ => rfl) rfl inX5 3 (by decide) wf_RX5_25 rfl (v := .ref (ad 9 0)) rfl dX5_orders_16 ?_
    obtain ⟨r8, t9, e10, h⟩ := bd_e h
    refine xw_callV B hM hS (xw_recv (xb_vk B) hM 9 0 (Or.inl (xv_o (k := 9) (by decide))) (fun gh => ⟨_, rfl⟩) rfl) [] (n := 0) (v := (some (.int r8))) (c_X2_allGood B.2.2.2.2 e10) wm_RX5_293 wi_yX2_allGood ws_yX2_allGood wn_RX2 wc_yX2_allGood rfl rfl (by decide +kernel) ⟨Nat.le_of_ble_eq_true rfl, Nat.le_of_ble_eq_true rfl⟩ ⟨(by show _ ≤ 1; omega), (by show _ ≤ 6; omega)⟩ rfl hl.1 (Nat.le_of_ble_eq_true rfl) rfl dX5_orders_19 (fun H locs hM hS => ?_)
    cases h
    exact xx_iret B hM hS (by omega) (by omega) dX5_orders_22 rfl
theorem c_X5_orders {l : Launch} (hll : l.stackTraces = false) {G : GG} {A : Nat → Prop} {ad : AD} {st : XS} {r : (Nat ⊕ Int32)} {st' : XS} (h : f_X5_orders st = some (r, st')) : vx_Met l yX5_orders (Cond.code yX5_orders cX5_orders 1 (some .int) :: TG) ({ frames := 7, cells := 1, slots := 6, locals := 120 } : Room) (PX G A ad st [.ref (ad 0 0)]) (QXr G A ad (ovw (fun x => some (.int x)) r) st') (QXx G A ad (ovw (fun x => some (.int x)) r) st') 1 6 A :=
  xx_of (own := RX5) hll (by decide +kernel) rfl (Nat.le_of_ble_eq_true rfl) fun p e s m below meth c ls B hM hS hl => w_X5_orders B _ _ _ _ _ _ (Nat.le_of_ble_eq_true rfl) (Nat.le_of_ble_eq_true rfl) h hM hS hl
set_option maxHeartbeats 4000000 in
set_option maxRecDepth 100000 in
theorem w_X5_best {p : Program} {l : Launch} {e : Env} {s : State} {m : MethodId} {args : Array Value} {below : List Frame} {meth : Method} {c : Code} {G : GG} {A : Nat → Prop} {ad : AD} (B : XB G A ad p l s m args meth c cX5_best 1 RX5 (some .int)) {r : (Nat ⊕ Int32)} {st' : XS} : ∀ (cells slots : Nat) (st : XS) (H : Heap) (locs : List Loc) (ls : Array Slot), cells + 1 ≤ 1 → slots + 6 ≤ 6 → f_X5_best st = some (r, st') → XW G A ad st H → va_S A s.heap H locs → lv_has ls 1 [(0, .ref (ad 0 0))] → W p l e ({ frames := 7, cells := 1, slots := 6, locals := 120 } : Room) s m args below meth c H locs cells slots (vx_MQ below (QXr G A ad (ovw (fun x => some (.int x)) r) st') (QXx G A ad (ovw (fun x => some (.int x)) r) st') args s 1 6 A) (F0 m 0 ls []) := by
  have ⟨⟨hx, hb, hr, hml, hown, hT, hlocks, hK⟩, hnt, hST, hA, hll⟩ := B
  intro cells slots st  H locs ls hc hs h hM hS hl
  rw [f_X5_best] at h
  refine lv_aload_n hx hb dX5_best_0 rfl (lv_at hl 0 rfl) ?_
  rcases bdx_e h with ⟨k4, t2, e3, h⟩ | ⟨r1, t2, e3, h⟩
  · cases h
    exact xx_goV B hM hS (xw_recv (xb_vk B) hM 0 0 (Or.inl xv_0) (fun gh => ⟨_, rfl⟩) rfl) [] (n := 0) (c_X5_checkShortReel B.2.2.2.2 e3) wm_RX5_286 wi_yX5_checkShortReel ws_yX5_checkShortReel wn_RX5 wc_yX5_checkShortReel rfl rfl (by decide +kernel) ⟨Nat.le_of_ble_eq_true rfl, Nat.le_of_ble_eq_true rfl⟩ ⟨(by show _ ≤ 1; omega), (by show _ ≤ 6; omega)⟩ rfl hl.1 (Nat.le_of_ble_eq_true rfl) rfl dX5_best_1 (by omega) (by omega) rfl
  · refine xx_callV B hM hS (xw_recv (xb_vk B) hM 0 0 (Or.inl xv_0) (fun gh => ⟨_, rfl⟩) rfl) [] (n := 0) (v := none) (c_X5_checkShortReel B.2.2.2.2 e3) wm_RX5_286 wi_yX5_checkShortReel ws_yX5_checkShortReel wn_RX5 wc_yX5_checkShortReel rfl rfl (by decide +kernel) ⟨Nat.le_of_ble_eq_true rfl, Nat.le_of_ble_eq_true rfl⟩ ⟨(by show _ ≤ 1; omega), (by show _ ≤ 6; omega)⟩ rfl hl.1 (Nat.le_of_ble_eq_true rfl) rfl dX5_best_1 (fun H locs hM hS => ?_)
    refine lv_aload_n hx hb dX5_best_4 rfl (lv_at hl 0 rfl) ?_
    refine xw_get B.1 hM 0 0 xv_0 (ci := 6) (N := 6) (fs := fTR ad t2) (C := RX5) (T := TX5) (fun _ => rfl) rfl inX5 3 (by decide) wf_RX5_25 rfl (v := .ref (ad 9 0)) rfl dX5_best_5 ?_
    refine lv_aload_n hx hb dX5_best_8 rfl (lv_at hl 0 rfl) ?_
    refine xw_get B.1 hM 0 0 xv_0 (ci := 6) (N := 6) (fs := fTR ad t2) (C := RX5) (T := TX5) (fun _ => rfl) rfl inX5 1 (by decide) wf_RX5_16 rfl (v := .ref (ad 13 1)) rfl dX5_best_9 ?_
    obtain ⟨r5, t6, e7, h⟩ := bd_e h
    refine xw_callV B hM hS (xw_recv (xb_vk B) hM 9 0 (Or.inl (xv_o (k := 9) (by decide))) (fun gh => ⟨_, rfl⟩) rfl) [.ref (ad 13 1)] (n := 1) (v := none) (c_X2_layOut B.2.2.2.2 e7) wm_RX5_289 wi_yX2_layOut ws_yX2_layOut wn_RX2 wc_yX2_layOut rfl rfl (by decide +kernel) ⟨Nat.le_of_ble_eq_true rfl, Nat.le_of_ble_eq_true rfl⟩ ⟨(by show _ ≤ 1; omega), (by show _ ≤ 6; omega)⟩ rfl hl.1 (Nat.le_of_ble_eq_true rfl) rfl dX5_best_12 (fun H locs hM hS => ?_)
    refine lv_aload_n hx hb dX5_best_15 rfl (lv_at hl 0 rfl) ?_
    refine xw_get B.1 hM 0 0 xv_0 (ci := 6) (N := 6) (fs := fTR ad t6) (C := RX5) (T := TX5) (fun _ => rfl) rfl inX5 3 (by decide) wf_RX5_25 rfl (v := .ref (ad 9 0)) rfl dX5_best_16 ?_
    obtain ⟨r8, t9, e10, h⟩ := bd_e h
    refine xw_callV B hM hS (xw_recv (xb_vk B) hM 9 0 (Or.inl (xv_o (k := 9) (by decide))) (fun gh => ⟨_, rfl⟩) rfl) [] (n := 0) (v := (some (.int r8))) (c_X2_leastWrong B.2.2.2.2 e10) wm_RX5_296 wi_yX2_leastWrong ws_yX2_leastWrong wn_RX2 wc_yX2_leastWrong rfl rfl (by decide +kernel) ⟨Nat.le_of_ble_eq_true rfl, Nat.le_of_ble_eq_true rfl⟩ ⟨(by show _ ≤ 1; omega), (by show _ ≤ 6; omega)⟩ rfl hl.1 (Nat.le_of_ble_eq_true rfl) rfl dX5_best_19 (fun H locs hM hS => ?_)
    cases h
    exact xx_iret B hM hS (by omega) (by omega) dX5_best_22 rfl
theorem c_X5_best {l : Launch} (hll : l.stackTraces = false) {G : GG} {A : Nat → Prop} {ad : AD} {st : XS} {r : (Nat ⊕ Int32)} {st' : XS} (h : f_X5_best st = some (r, st')) : vx_Met l yX5_best (Cond.code yX5_best cX5_best 1 (some .int) :: TG) ({ frames := 7, cells := 1, slots := 6, locals := 120 } : Room) (PX G A ad st [.ref (ad 0 0)]) (QXr G A ad (ovw (fun x => some (.int x)) r) st') (QXx G A ad (ovw (fun x => some (.int x)) r) st') 1 6 A :=
  xx_of (own := RX5) hll (by decide +kernel) rfl (Nat.le_of_ble_eq_true rfl) fun p e s m below meth c ls B hM hS hl => w_X5_best B _ _ _ _ _ _ (Nat.le_of_ble_eq_true rfl) (Nat.le_of_ble_eq_true rfl) h hM hS hl
set_option maxHeartbeats 4000000 in
set_option maxRecDepth 100000 in
theorem w_X5_checksum_77 {p : Program} {l : Launch} {e : Env} {s : State} {m : MethodId} {args : Array Value} {below : List Frame} {meth : Method} {c : Code} {G : GG} {A : Nat → Prop} {ad : AD} (B : XB G A ad p l s m args meth c cX5_checksum 5 RX5 (some .long)) {r : Int64} {st' : XS} : ∀ (n : Nat) (st : XS) (x1 : Int64) (x3 : Int32) (H : Heap) (locs : List Loc) (ls : Array Slot), f_X5_checksum_77 n st x1 x3 = some (r, st') → XW G A ad st H → va_S A s.heap H locs → lv_has ls 5 [(0, .ref (ad 0 0)), (1, .long x1), (3, .int x3)] → W p l e ({ frames := 3, cells := 0, slots := 0, locals := 64 } : Room) s m args below meth c H locs 0 0 (MQ below (QX G A ad (some (.long r)) st') args s 0 0 A) (F0 m 77 ls []) := by
  have ⟨⟨hx, hb, hr, hml, hown, hT, hlocks, hK⟩, hnt, hST, hA, hll⟩ := B
  intro n
  induction n with
  | zero =>
    intro st x1 x3 H locs ls h
    cases h
  | succ n ih =>
    intro st x1 x3 H locs ls h hM hS hl
    rw [f_X5_checksum_77] at h
    refine lv_iload_n hx hb dX5_checksum_77 rfl (lv_at hl 2 rfl) ?_
    refine lv_aload_n hx hb dX5_checksum_78 rfl (lv_at hl 0 rfl) ?_
    refine xw_get B.1 hM 0 0 xv_0 (ci := 6) (N := 6) (fs := fTR ad st) (C := RX5) (T := TX5) (fun _ => rfl) rfl inX5 2 (by decide) wf_RX5_19 rfl (v := .ref (ad 13 2)) rfl dX5_checksum_79 ?_
    refine xw_size B hM hS 2 (by decide) wm_RX5_37 ⟨Nat.le_of_ble_eq_true rfl, Nat.le_of_ble_eq_true rfl⟩ ⟨Nat.le_refl 0, Nat.le_refl 0⟩ hl.1 (Nat.le_of_ble_eq_true rfl) dX5_checksum_82 ?_
    refine lv_icmp_ge (tgt := 116) hx hb dX5_checksum_85 (by decide) (fun c1 => ?_) (fun c1 => ?_)
    · have h := bi_t c1 h
      refine lv_lload_n hx hb dX5_checksum_116 rfl (lv_at hl 1 rfl) ?_
      cases h
      exact xw_lret B hM hS (Nat.le_refl 0) (Nat.le_refl 0) dX5_checksum_117
    · have h := bi_f c1 h
      refine lv_ldc2 (v := 31) hx hb hown (hT _ wq_RX5_301) dX5_checksum_88 ?_
      refine lv_lload_n hx hb dX5_checksum_91 rfl (lv_at hl 1 rfl) ?_
      refine lv_lmul hx hb dX5_checksum_92 ?_
      refine lv_aload_n hx hb dX5_checksum_93 rfl (lv_at hl 0 rfl) ?_
      refine xw_get B.1 hM 0 0 xv_0 (ci := 6) (N := 6) (fs := fTR ad st) (C := RX5) (T := TX5) (fun _ => rfl) rfl inX5 2 (by decide) wf_RX5_19 rfl (v := .ref (ad 13 2)) rfl dX5_checksum_94 ?_
      refine lv_iload_n hx hb dX5_checksum_97 rfl (lv_at hl 2 rfl) ?_
      obtain ⟨g2, h⟩ := gd_e h
      refine xw_lget B hM hS 2 (by decide) wm_RX5_116 g2 ⟨Nat.le_of_ble_eq_true rfl, Nat.le_of_ble_eq_true rfl⟩ ⟨Nat.le_refl 0, Nat.le_refl 0⟩ hl.1 (Nat.le_of_ble_eq_true rfl) dX5_checksum_98 ?_
      obtain ⟨v3, h⟩ := gd_e h
      refine xw_castNote B.1 hM v3 wk_RX5_245 dX5_checksum_101 ?_
      obtain ⟨r4, t5, e6, h⟩ := bd_e h
      refine xw_callV B hM hS (xw_recv (xb_vk B) hM 8 ((xL st 2).getD x3.toNatClampNeg 0) (Or.inl (xv_n v3)) (fun gh => ⟨_, rfl⟩) rfl) [] (n := 0) (v := (some (.int r4))) (c_X1_kind B.2.2.2.2 e6) wm_RX5_253 wi_yX1_kind ws_yX1_kind wn_RX1 wc_yX1_kind rfl rfl (by decide +kernel) ⟨Nat.le_of_ble_eq_true rfl, Nat.le_of_ble_eq_true rfl⟩ ⟨Nat.le_refl 0, Nat.le_refl 0⟩ rfl hl.1 (Nat.le_of_ble_eq_true rfl) rfl dX5_checksum_104 (fun H locs hM hS => ?_)
      refine lv_i2l hx hb dX5_checksum_107 rfl ?_
      refine lv_ladd hx hb dX5_checksum_108 ?_
      refine lv_lstore_n (lv' := [(1, .long ((31 * x1) + (Int32.toInt64 r4))), (0, .ref (ad 0 0)), (3, .int x3)]) hx hb dX5_checksum_109 rfl hl (by decide) rfl (fun ls hl => ?_)
      refine lv_iinc (v := (x3 + 1)) (lv' := [(3, .int (x3 + 1)), (1, .long ((31 * x1) + (Int32.toInt64 r4))), (0, .ref (ad 0 0))]) hx hb dX5_checksum_110 hl (k := 2) rfl rfl (by decide) rfl (fun ls hl => ?_)
      refine lv_goto (tgt := 77) hx hb dX5_checksum_113 (by decide) ?_
      exact ih _ _ _ _ _ _ h hM hS (lv_sub hl [2, 1, 0] rfl)
set_option maxHeartbeats 4000000 in
set_option maxRecDepth 100000 in
theorem w_X5_checksum_6 {p : Program} {l : Launch} {e : Env} {s : State} {m : MethodId} {args : Array Value} {below : List Frame} {meth : Method} {c : Code} {G : GG} {A : Nat → Prop} {ad : AD} (B : XB G A ad p l s m args meth c cX5_checksum 5 RX5 (some .long)) {r : Int64} {st' : XS} : ∀ (n : Nat) (st : XS) (x1 : Int64) (x3 : Int32) (H : Heap) (locs : List Loc) (ls : Array Slot), f_X5_checksum_6 n st x1 x3 = some (r, st') → XW G A ad st H → va_S A s.heap H locs → lv_has ls 5 [(0, .ref (ad 0 0)), (1, .long x1), (3, .int x3)] → W p l e ({ frames := 3, cells := 0, slots := 0, locals := 64 } : Room) s m args below meth c H locs 0 0 (MQ below (QX G A ad (some (.long r)) st') args s 0 0 A) (F0 m 6 ls []) := by
  have ⟨⟨hx, hb, hr, hml, hown, hT, hlocks, hK⟩, hnt, hST, hA, hll⟩ := B
  intro n
  induction n with
  | zero =>
    intro st x1 x3 H locs ls h
    cases h
  | succ n ih =>
    intro st x1 x3 H locs ls h hM hS hl
    rw [f_X5_checksum_6] at h
    refine lv_iload_n hx hb dX5_checksum_6 rfl (lv_at hl 2 rfl) ?_
    refine lv_aload_n hx hb dX5_checksum_7 rfl (lv_at hl 0 rfl) ?_
    refine xw_get B.1 hM 0 0 xv_0 (ci := 6) (N := 6) (fs := fTR ad st) (C := RX5) (T := TX5) (fun _ => rfl) rfl inX5 1 (by decide) wf_RX5_16 rfl (v := .ref (ad 13 1)) rfl dX5_checksum_8 ?_
    refine xw_size B hM hS 1 (by decide) wm_RX5_37 ⟨Nat.le_of_ble_eq_true rfl, Nat.le_of_ble_eq_true rfl⟩ ⟨Nat.le_refl 0, Nat.le_refl 0⟩ hl.1 (Nat.le_of_ble_eq_true rfl) dX5_checksum_11 ?_
    refine lv_icmp_ge (tgt := 75) hx hb dX5_checksum_14 (by decide) (fun c1 => ?_) (fun c1 => ?_)
    · have h := bi_t c1 h
      refine lv_iconst (v := 0) hx hb dX5_checksum_75 (by decide) ?_
      refine lv_istore_n (lv' := [(3, .int 0), (0, .ref (ad 0 0)), (1, .long x1)]) hx hb dX5_checksum_76 rfl hl (by decide) rfl (fun ls hl => ?_)
      exact w_X5_checksum_77 B FU _ _ _ _ _ _ h hM hS (lv_sub hl [1, 2, 0] rfl)
    · have h := bi_f c1 h
      refine lv_aload_n hx hb dX5_checksum_17 rfl (lv_at hl 0 rfl) ?_
      refine xw_get B.1 hM 0 0 xv_0 (ci := 6) (N := 6) (fs := fTR ad st) (C := RX5) (T := TX5) (fun _ => rfl) rfl inX5 1 (by decide) wf_RX5_16 rfl (v := .ref (ad 13 1)) rfl dX5_checksum_18 ?_
      refine lv_iload_n hx hb dX5_checksum_21 rfl (lv_at hl 2 rfl) ?_
      obtain ⟨g2, h⟩ := gd_e h
      refine xw_lget B hM hS 1 (by decide) wm_RX5_116 g2 ⟨Nat.le_of_ble_eq_true rfl, Nat.le_of_ble_eq_true rfl⟩ ⟨Nat.le_refl 0, Nat.le_refl 0⟩ hl.1 (Nat.le_of_ble_eq_true rfl) dX5_checksum_22 ?_
      obtain ⟨v3, h⟩ := gd_e h
      refine xw_castShot B.1 hM v3 wk_RX5_70 dX5_checksum_25 ?_
      refine lv_astore (lv' := [(4, .ref (ad 1 ((xL st 1).getD x3.toNatClampNeg 0))), (0, .ref (ad 0 0)), (1, .long x1), (3, .int x3)]) hx hb dX5_checksum_28 hl (by decide) rfl (fun ls hl => ?_)
      refine lv_ldc2 (v := 31) hx hb hown (hT _ wq_RX5_301) dX5_checksum_30 ?_
      refine lv_lload_n hx hb dX5_checksum_33 rfl (lv_at hl 2 rfl) ?_
      refine lv_lmul hx hb dX5_checksum_34 ?_
      refine lv_aload hx hb dX5_checksum_35 (lv_at hl 0 rfl) ?_
      refine xw_get B.1 hM 1 ((xL st 1).getD x3.toNatClampNeg 0) (xv_s (k := 1) (by decide) v3) (ci := 5) (N := 12) (fs := fSh ad st ((xL st 1).getD x3.toNatClampNeg 0)) (C := RX4) (T := TX4) (fun _ => rfl) rfl inX4 0 (by decide) wf_RX5_90 rfl (v := .int (nI ((xL st 1).getD x3.toNatClampNeg 0))) rfl dX5_checksum_37 ?_
      refine lv_i2l hx hb dX5_checksum_40 rfl ?_
      refine lv_ladd hx hb dX5_checksum_41 ?_
      refine lv_lstore_n (lv' := [(1, .long ((31 * x1) + (Int32.toInt64 (nI ((xL st 1).getD x3.toNatClampNeg 0))))), (4, .ref (ad 1 ((xL st 1).getD x3.toNatClampNeg 0))), (0, .ref (ad 0 0)), (3, .int x3)]) hx hb dX5_checksum_42 rfl hl (by decide) rfl (fun ls hl => ?_)
      refine lv_ldc2 (v := 31) hx hb hown (hT _ wq_RX5_301) dX5_checksum_43 ?_
      refine lv_lload_n hx hb dX5_checksum_46 rfl (lv_at hl 0 rfl) ?_
      refine lv_lmul hx hb dX5_checksum_47 ?_
      refine lv_aload hx hb dX5_checksum_48 (lv_at hl 1 rfl) ?_
      refine xw_get B.1 hM 1 ((xL st 1).getD x3.toNatClampNeg 0) (xv_s (k := 1) (by decide) v3) (ci := 5) (N := 12) (fs := fSh ad st ((xL st 1).getD x3.toNatClampNeg 0)) (C := RX4) (T := TX4) (fun _ => rfl) rfl inX4 5 (by decide) wf_RX5_187 rfl (v := .int (xF st 1 ((xL st 1).getD x3.toNatClampNeg 0) 5)) rfl dX5_checksum_50 ?_
      refine lv_i2l hx hb dX5_checksum_53 rfl ?_
      refine lv_ladd hx hb dX5_checksum_54 ?_
      refine lv_lstore_n (lv' := [(1, .long ((31 * ((31 * x1) + (Int32.toInt64 (nI ((xL st 1).getD x3.toNatClampNeg 0))))) + (Int32.toInt64 (xF st 1 ((xL st 1).getD x3.toNatClampNeg 0) 5)))), (4, .ref (ad 1 ((xL st 1).getD x3.toNatClampNeg 0))), (0, .ref (ad 0 0)), (3, .int x3)]) hx hb dX5_checksum_55 rfl hl (by decide) rfl (fun ls hl => ?_)
      refine lv_ldc2 (v := 31) hx hb hown (hT _ wq_RX5_301) dX5_checksum_56 ?_
      refine lv_lload_n hx hb dX5_checksum_59 rfl (lv_at hl 0 rfl) ?_
      refine lv_lmul hx hb dX5_checksum_60 ?_
      refine lv_aload hx hb dX5_checksum_61 (lv_at hl 1 rfl) ?_
      refine xw_get B.1 hM 1 ((xL st 1).getD x3.toNatClampNeg 0) (xv_s (k := 1) (by decide) v3) (ci := 5) (N := 12) (fs := fSh ad st ((xL st 1).getD x3.toNatClampNeg 0)) (C := RX4) (T := TX4) (fun _ => rfl) rfl inX4 6 (by decide) wf_RX5_105 rfl (v := .int (xF st 1 ((xL st 1).getD x3.toNatClampNeg 0) 6)) rfl dX5_checksum_63 ?_
      refine lv_i2l hx hb dX5_checksum_66 rfl ?_
      refine lv_ladd hx hb dX5_checksum_67 ?_
      refine lv_lstore_n (lv' := [(1, .long ((31 * ((31 * ((31 * x1) + (Int32.toInt64 (nI ((xL st 1).getD x3.toNatClampNeg 0))))) + (Int32.toInt64 (xF st 1 ((xL st 1).getD x3.toNatClampNeg 0) 5)))) + (Int32.toInt64 (xF st 1 ((xL st 1).getD x3.toNatClampNeg 0) 6)))), (4, .ref (ad 1 ((xL st 1).getD x3.toNatClampNeg 0))), (0, .ref (ad 0 0)), (3, .int x3)]) hx hb dX5_checksum_68 rfl hl (by decide) rfl (fun ls hl => ?_)
      refine lv_iinc (v := (x3 + 1)) (lv' := [(3, .int (x3 + 1)), (1, .long ((31 * ((31 * ((31 * x1) + (Int32.toInt64 (nI ((xL st 1).getD x3.toNatClampNeg 0))))) + (Int32.toInt64 (xF st 1 ((xL st 1).getD x3.toNatClampNeg 0) 5)))) + (Int32.toInt64 (xF st 1 ((xL st 1).getD x3.toNatClampNeg 0) 6)))), (4, .ref (ad 1 ((xL st 1).getD x3.toNatClampNeg 0))), (0, .ref (ad 0 0))]) hx hb dX5_checksum_69 hl (k := 3) rfl rfl (by decide) rfl (fun ls hl => ?_)
      refine lv_goto (tgt := 6) hx hb dX5_checksum_72 (by decide) ?_
      exact ih _ _ _ _ _ _ h hM hS (lv_sub hl [3, 1, 0] rfl)
set_option maxHeartbeats 4000000 in
set_option maxRecDepth 100000 in
theorem w_X5_checksum {p : Program} {l : Launch} {e : Env} {s : State} {m : MethodId} {args : Array Value} {below : List Frame} {meth : Method} {c : Code} {G : GG} {A : Nat → Prop} {ad : AD} (B : XB G A ad p l s m args meth c cX5_checksum 5 RX5 (some .long)) {r : Int64} {st' : XS} : ∀ (st : XS) (H : Heap) (locs : List Loc) (ls : Array Slot), f_X5_checksum st = some (r, st') → XW G A ad st H → va_S A s.heap H locs → lv_has ls 5 [(0, .ref (ad 0 0))] → W p l e ({ frames := 3, cells := 0, slots := 0, locals := 64 } : Room) s m args below meth c H locs 0 0 (MQ below (QX G A ad (some (.long r)) st') args s 0 0 A) (F0 m 0 ls []) := by
  have ⟨⟨hx, hb, hr, hml, hown, hT, hlocks, hK⟩, hnt, hST, hA, hll⟩ := B
  intro st  H locs ls h hM hS hl
  rw [f_X5_checksum] at h
  refine lv_ldc2 (v := 7) hx hb hown (hT _ wq_RX5_299) dX5_checksum_0 ?_
  refine lv_lstore_n (lv' := [(1, .long 7), (0, .ref (ad 0 0))]) hx hb dX5_checksum_3 rfl hl (by decide) rfl (fun ls hl => ?_)
  refine lv_iconst (v := 0) hx hb dX5_checksum_4 (by decide) ?_
  refine lv_istore_n (lv' := [(3, .int 0), (1, .long 7), (0, .ref (ad 0 0))]) hx hb dX5_checksum_5 rfl hl (by decide) rfl (fun ls hl => ?_)
  exact w_X5_checksum_6 B FU _ _ _ _ _ _ h hM hS (lv_sub hl [2, 1, 0] rfl)
theorem c_X5_checksum {l : Launch} (hll : l.stackTraces = false) {G : GG} {A : Nat → Prop} {ad : AD} {st : XS} {r : Int64} {st' : XS} (h : f_X5_checksum st = some (r, st')) : Met l yX5_checksum (Cond.code yX5_checksum cX5_checksum 5 (some .long) :: TG) ({ frames := 3, cells := 0, slots := 0, locals := 64 } : Room) (PX G A ad st [.ref (ad 0 0)]) (QX G A ad (some (.long r)) st') 0 0 A :=
  xw_of (own := RX5) hll (by decide +kernel) rfl (Nat.le_of_ble_eq_true rfl) fun p e s m below meth c ls B hM hS hl => w_X5_checksum B _ _ _ _ h hM hS hl
set_option maxHeartbeats 4000000 in
set_option maxRecDepth 100000 in
theorem w_X5_brokenShare {p : Program} {l : Launch} {e : Env} {s : State} {m : MethodId} {args : Array Value} {below : List Frame} {meth : Method} {c : Code} {G : GG} {A : Nat → Prop} {ad : AD} (B : XB G A ad p l s m args meth c cX5_brokenShare 2 RX5 (some .float)) {r : (Nat ⊕ UInt32)} {st' : XS} : ∀ (cells slots : Nat) (st : XS) (H : Heap) (locs : List Loc) (ls : Array Slot), cells + 1 ≤ 1 → slots + 6 ≤ 6 → f_X5_brokenShare st = some (r, st') → XW G A ad st H → va_S A s.heap H locs → lv_has ls 2 [(0, .ref (ad 0 0))] → W p l e ({ frames := 6, cells := 1, slots := 6, locals := 135 } : Room) s m args below meth c H locs cells slots (vx_MQ below (QXr G A ad (ovw (fun x => some (.float x)) r) st') (QXx G A ad (ovw (fun x => some (.float x)) r) st') args s 1 6 A) (F0 m 0 ls []) := by
  have ⟨⟨hx, hb, hr, hml, hown, hT, hlocks, hK⟩, hnt, hST, hA, hll⟩ := B
  intro cells slots st  H locs ls hc hs h hM hS hl
  rw [f_X5_brokenShare] at h
  refine lv_aload_n hx hb dX5_brokenShare_0 rfl (lv_at hl 0 rfl) ?_
  refine xw_get B.1 hM 0 0 xv_0 (ci := 6) (N := 6) (fs := fTR ad st) (C := RX5) (T := TX5) (fun _ => rfl) rfl inX5 1 (by decide) wf_RX5_16 rfl (v := .ref (ad 13 1)) rfl dX5_brokenShare_1 ?_
  refine xw_size B hM hS 1 (by decide) wm_RX5_37 ⟨Nat.le_of_ble_eq_true rfl, Nat.le_of_ble_eq_true rfl⟩ ⟨(by show _ ≤ 1; omega), (by show _ ≤ 6; omega)⟩ hl.1 (Nat.le_of_ble_eq_true rfl) dX5_brokenShare_4 ?_
  refine lv_iconst (v := 1) hx hb dX5_brokenShare_7 (by decide) ?_
  refine lv_isub hx hb dX5_brokenShare_8 ?_
  refine lv_istore_n (lv' := [(1, .int ((nI (xL st 1).length) - 1)), (0, .ref (ad 0 0))]) hx hb dX5_brokenShare_9 rfl hl (by decide) rfl (fun ls hl => ?_)
  refine lv_iload_n hx hb dX5_brokenShare_10 rfl (lv_at hl 0 rfl) ?_
  refine lv_iconst (v := 1) hx hb dX5_brokenShare_11 (by decide) ?_
  refine lv_icmp_ge (tgt := 26) hx hb dX5_brokenShare_12 (by decide) (fun c1 => ?_) (fun c1 => ?_)
  · have h := bi_t c1 h
    refine lv_aload_n hx hb dX5_brokenShare_26 rfl (lv_at hl 1 rfl) ?_
    obtain ⟨r2, t3, e4, h⟩ := bd_e h
    refine xw_callV B hM hS (xw_recv (xb_vk B) hM 0 0 (Or.inl xv_0) (fun gh => ⟨_, rfl⟩) rfl) [] (n := 0) (v := (some (.int r2))) (c_X5_brokenCuts B.2.2.2.2 e4) wm_RX5_225 wi_yX5_brokenCuts ws_yX5_brokenCuts wn_RX5 wc_yX5_brokenCuts rfl rfl (by decide +kernel) ⟨Nat.le_of_ble_eq_true rfl, Nat.le_of_ble_eq_true rfl⟩ ⟨(by show _ ≤ 1; omega), (by show _ ≤ 6; omega)⟩ rfl hl.1 (Nat.le_of_ble_eq_true rfl) rfl dX5_brokenShare_27 (fun H locs hM hS => ?_)
    refine lv_i2f hx hb dX5_brokenShare_30 ?_
    refine lv_iload_n hx hb dX5_brokenShare_31 rfl (lv_at hl 0 rfl) ?_
    refine lv_i2f hx hb dX5_brokenShare_32 ?_
    obtain ⟨g5, h⟩ := gd_e h
    refine lv_fdiv hx hb dX5_brokenShare_33 g5 ?_
    cases h
    exact xx_fret B hM hS (by omega) (by omega) dX5_brokenShare_34 rfl
  · have h := bi_f c1 h
    cases h
    exact xw_throwN (is := 303) (text := "no cuts") B hM hS (by decide +kernel) hl.1 ⟨⟨dX5_brokenShare_15, dX5_brokenShare_18⟩, Or.inr ⟨dX5_brokenShare_19, dX5_brokenShare_22, dX5_brokenShare_25⟩⟩ (Nat.le_of_ble_eq_true rfl) (Nat.le_of_ble_eq_true rfl) (by show _ ≤ 1; omega) (by show _ ≤ 6; omega) (by omega) (by omega) rfl
theorem c_X5_brokenShare {l : Launch} (hll : l.stackTraces = false) {G : GG} {A : Nat → Prop} {ad : AD} {st : XS} {r : (Nat ⊕ UInt32)} {st' : XS} (h : f_X5_brokenShare st = some (r, st')) : vx_Met l yX5_brokenShare (Cond.code yX5_brokenShare cX5_brokenShare 2 (some .float) :: TG) ({ frames := 6, cells := 1, slots := 6, locals := 135 } : Room) (PX G A ad st [.ref (ad 0 0)]) (QXr G A ad (ovw (fun x => some (.float x)) r) st') (QXx G A ad (ovw (fun x => some (.float x)) r) st') 1 6 A :=
  xx_of (own := RX5) hll (by decide +kernel) rfl (Nat.le_of_ble_eq_true rfl) fun p e s m below meth c ls B hM hS hl => w_X5_brokenShare B _ _ _ _ _ _ (Nat.le_of_ble_eq_true rfl) (Nat.le_of_ble_eq_true rfl) h hM hS hl
set_option maxHeartbeats 4000000 in
set_option maxRecDepth 100000 in
theorem w_X5_meanLength {p : Program} {l : Launch} {e : Env} {s : State} {m : MethodId} {args : Array Value} {below : List Frame} {meth : Method} {c : Code} {G : GG} {A : Nat → Prop} {ad : AD} (B : XB G A ad p l s m args meth c cX5_meanLength 2 RX5 (some .double)) {r : (Nat ⊕ UInt64)} {st' : XS} : ∀ (cells slots : Nat) (st : XS) (H : Heap) (locs : List Loc) (ls : Array Slot), cells + 1 ≤ 1 → slots + 6 ≤ 6 → f_X5_meanLength st = some (r, st') → XW G A ad st H → va_S A s.heap H locs → lv_has ls 2 [(0, .ref (ad 0 0))] → W p l e ({ frames := 6, cells := 1, slots := 6, locals := 100 } : Room) s m args below meth c H locs cells slots (vx_MQ below (QXr G A ad (ovw (fun x => some (.double x)) r) st') (QXx G A ad (ovw (fun x => some (.double x)) r) st') args s 1 6 A) (F0 m 0 ls []) := by
  have ⟨⟨hx, hb, hr, hml, hown, hT, hlocks, hK⟩, hnt, hST, hA, hll⟩ := B
  intro cells slots st  H locs ls hc hs h hM hS hl
  rw [f_X5_meanLength] at h
  refine lv_aload_n hx hb dX5_meanLength_0 rfl (lv_at hl 0 rfl) ?_
  refine xw_get B.1 hM 0 0 xv_0 (ci := 6) (N := 6) (fs := fTR ad st) (C := RX5) (T := TX5) (fun _ => rfl) rfl inX5 1 (by decide) wf_RX5_16 rfl (v := .ref (ad 13 1)) rfl dX5_meanLength_1 ?_
  refine xw_size B hM hS 1 (by decide) wm_RX5_37 ⟨Nat.le_of_ble_eq_true rfl, Nat.le_of_ble_eq_true rfl⟩ ⟨(by show _ ≤ 1; omega), (by show _ ≤ 6; omega)⟩ hl.1 (Nat.le_of_ble_eq_true rfl) dX5_meanLength_4 ?_
  refine lv_istore_n (lv' := [(1, .int (nI (xL st 1).length)), (0, .ref (ad 0 0))]) hx hb dX5_meanLength_7 rfl hl (by decide) rfl (fun ls hl => ?_)
  refine lv_iload_n hx hb dX5_meanLength_8 rfl (lv_at hl 0 rfl) ?_
  refine lv_iconst (v := 1) hx hb dX5_meanLength_9 (by decide) ?_
  refine lv_icmp_ge (tgt := 24) hx hb dX5_meanLength_10 (by decide) (fun c1 => ?_) (fun c1 => ?_)
  · have h := bi_t c1 h
    refine lv_aload_n hx hb dX5_meanLength_24 rfl (lv_at hl 1 rfl) ?_
    refine lv_iload_n hx hb dX5_meanLength_25 rfl (lv_at hl 0 rfl) ?_
    obtain ⟨r2, t3, e4, h⟩ := bd_e h
    refine xw_callV B hM hS (xw_recv (xb_vk B) hM 0 0 (Or.inl xv_0) (fun gh => ⟨_, rfl⟩) rfl) [.int (nI (xL st 1).length)] (n := 1) (v := (some (.int r2))) (c_X5_beginOf B.2.2.2.2 e4) wm_RX5_177 wi_yX5_beginOf ws_yX5_beginOf wn_RX5 wc_yX5_beginOf rfl rfl (by decide +kernel) ⟨Nat.le_of_ble_eq_true rfl, Nat.le_of_ble_eq_true rfl⟩ ⟨(by show _ ≤ 1; omega), (by show _ ≤ 6; omega)⟩ rfl hl.1 (Nat.le_of_ble_eq_true rfl) rfl dX5_meanLength_26 (fun H locs hM hS => ?_)
    refine lv_i2d hx hb dX5_meanLength_29 ?_
    refine lv_iload_n hx hb dX5_meanLength_30 rfl (lv_at hl 0 rfl) ?_
    refine lv_i2d hx hb dX5_meanLength_31 ?_
    obtain ⟨g5, h⟩ := gd_e h
    refine lv_ddiv hx hb dX5_meanLength_32 g5 ?_
    cases h
    exact xx_dret B hM hS (by omega) (by omega) dX5_meanLength_33 rfl
  · have h := bi_f c1 h
    cases h
    exact xw_throwN (is := 305) (text := "no shots") B hM hS (by decide +kernel) hl.1 ⟨⟨dX5_meanLength_13, dX5_meanLength_16⟩, Or.inr ⟨dX5_meanLength_17, dX5_meanLength_20, dX5_meanLength_23⟩⟩ (Nat.le_of_ble_eq_true rfl) (Nat.le_of_ble_eq_true rfl) (by show _ ≤ 1; omega) (by show _ ≤ 6; omega) (by omega) (by omega) rfl
theorem c_X5_meanLength {l : Launch} (hll : l.stackTraces = false) {G : GG} {A : Nat → Prop} {ad : AD} {st : XS} {r : (Nat ⊕ UInt64)} {st' : XS} (h : f_X5_meanLength st = some (r, st')) : vx_Met l yX5_meanLength (Cond.code yX5_meanLength cX5_meanLength 2 (some .double) :: TG) ({ frames := 6, cells := 1, slots := 6, locals := 100 } : Room) (PX G A ad st [.ref (ad 0 0)]) (QXr G A ad (ovw (fun x => some (.double x)) r) st') (QXx G A ad (ovw (fun x => some (.double x)) r) st') 1 6 A :=
  xx_of (own := RX5) hll (by decide +kernel) rfl (Nat.le_of_ble_eq_true rfl) fun p e s m below meth c ls B hM hS hl => w_X5_meanLength B _ _ _ _ _ _ (Nat.le_of_ble_eq_true rfl) (Nat.le_of_ble_eq_true rfl) h hM hS hl
set_option maxHeartbeats 4000000 in
set_option maxRecDepth 100000 in
theorem w_X5_areNamesUnlike_66 {p : Program} {l : Launch} {e : Env} {s : State} {m : MethodId} {args : Array Value} {below : List Frame} {meth : Method} {c : Code} {G : GG} {A : Nat → Prop} {ad : AD} (B : XB G A ad p l s m args meth c cX5_areNamesUnlike 3 RX5 (some .boolean)) {r : Int32} {st' : XS} {k2 : XS → Int32 → Option (Int32 × XS)} {k15 : XS → Int32 → Int32 → Option (Int32 × XS)} (hk2 : ∀ (st : XS) (x1 : Int32) (H : Heap) (locs : List Loc) (ls : Array Slot), k2 st x1 = some (r, st') → XW G A ad st H → va_S A s.heap H locs → lv_has ls 3 [(0, .ref (ad 0 0)), (1, .int x1)] → W p l e ({ frames := 4, cells := 0, slots := 0, locals := 85 } : Room) s m args below meth c H locs 0 0 (MQ below (QX G A ad (some (.int r)) st') args s 0 0 A) (F0 m 2 ls [])) (hk15 : ∀ (st : XS) (x1 : Int32) (x2 : Int32) (H : Heap) (locs : List Loc) (ls : Array Slot), k15 st x1 x2 = some (r, st') → XW G A ad st H → va_S A s.heap H locs → lv_has ls 3 [(0, .ref (ad 0 0)), (1, .int x1), (2, .int x2)] → W p l e ({ frames := 4, cells := 0, slots := 0, locals := 85 } : Room) s m args below meth c H locs 0 0 (MQ below (QX G A ad (some (.int r)) st') args s 0 0 A) (F0 m 15 ls [])) : ∀ (st : XS) (x1 : Int32) (x2 : Int32) (H : Heap) (locs : List Loc) (ls : Array Slot), f_X5_areNamesUnlike_66 k2 k15 st x1 x2 = some (r, st') → XW G A ad st H → va_S A s.heap H locs → lv_has ls 3 [(0, .ref (ad 0 0)), (1, .int x1), (2, .int x2)] → W p l e ({ frames := 4, cells := 0, slots := 0, locals := 85 } : Room) s m args below meth c H locs 0 0 (MQ below (QX G A ad (some (.int r)) st') args s 0 0 A) (F0 m 66 ls []) := by
  have ⟨⟨hx, hb, hr, hml, hown, hT, hlocks, hK⟩, hnt, hST, hA, hll⟩ := B
  intro st x1 x2 H locs ls h hM hS hl
  rw [f_X5_areNamesUnlike_66] at h
  refine lv_iinc (v := (x2 + 1)) (lv' := [(2, .int (x2 + 1)), (0, .ref (ad 0 0)), (1, .int x1)]) hx hb dX5_areNamesUnlike_66 hl (k := 2) rfl rfl (by decide) rfl (fun ls hl => ?_)
  refine lv_goto (tgt := 15) hx hb dX5_areNamesUnlike_69 (by decide) ?_
  exact hk15 _ _ _ _ _ _ h hM hS (lv_sub hl [1, 2, 0] rfl)
set_option maxHeartbeats 4000000 in
set_option maxRecDepth 100000 in
theorem w_X5_areNamesUnlike_15 {p : Program} {l : Launch} {e : Env} {s : State} {m : MethodId} {args : Array Value} {below : List Frame} {meth : Method} {c : Code} {G : GG} {A : Nat → Prop} {ad : AD} (B : XB G A ad p l s m args meth c cX5_areNamesUnlike 3 RX5 (some .boolean)) {r : Int32} {st' : XS} {k2 : XS → Int32 → Option (Int32 × XS)} (hk2 : ∀ (st : XS) (x1 : Int32) (H : Heap) (locs : List Loc) (ls : Array Slot), k2 st x1 = some (r, st') → XW G A ad st H → va_S A s.heap H locs → lv_has ls 3 [(0, .ref (ad 0 0)), (1, .int x1)] → W p l e ({ frames := 4, cells := 0, slots := 0, locals := 85 } : Room) s m args below meth c H locs 0 0 (MQ below (QX G A ad (some (.int r)) st') args s 0 0 A) (F0 m 2 ls [])) : ∀ (n : Nat) (st : XS) (x1 : Int32) (x2 : Int32) (H : Heap) (locs : List Loc) (ls : Array Slot), f_X5_areNamesUnlike_15 k2 n st x1 x2 = some (r, st') → XW G A ad st H → va_S A s.heap H locs → lv_has ls 3 [(0, .ref (ad 0 0)), (1, .int x1), (2, .int x2)] → W p l e ({ frames := 4, cells := 0, slots := 0, locals := 85 } : Room) s m args below meth c H locs 0 0 (MQ below (QX G A ad (some (.int r)) st') args s 0 0 A) (F0 m 15 ls []) := by
  have ⟨⟨hx, hb, hr, hml, hown, hT, hlocks, hK⟩, hnt, hST, hA, hll⟩ := B
  intro n
  induction n with
  | zero =>
    intro st x1 x2 H locs ls h
    cases h
  | succ n ih =>
    intro st x1 x2 H locs ls h hM hS hl
    rw [f_X5_areNamesUnlike_15] at h
    refine lv_iload_n hx hb dX5_areNamesUnlike_15 rfl (lv_at hl 2 rfl) ?_
    refine lv_iload_n hx hb dX5_areNamesUnlike_16 rfl (lv_at hl 1 rfl) ?_
    refine lv_icmp_ge (tgt := 72) hx hb dX5_areNamesUnlike_17 (by decide) (fun c1 => ?_) (fun c1 => ?_)
    · have h := bi_t c1 h
      refine lv_iinc (v := (x1 + 1)) (lv' := [(1, .int (x1 + 1)), (0, .ref (ad 0 0)), (2, .int x2)]) hx hb dX5_areNamesUnlike_72 hl (k := 1) rfl rfl (by decide) rfl (fun ls hl => ?_)
      refine lv_goto (tgt := 2) hx hb dX5_areNamesUnlike_75 (by decide) ?_
      exact hk2 _ _ _ _ _ h hM hS (lv_sub hl [1, 0] rfl)
    · have h := bi_f c1 h
      refine lv_aload_n hx hb dX5_areNamesUnlike_20 rfl (lv_at hl 0 rfl) ?_
      refine lv_iload_n hx hb dX5_areNamesUnlike_21 rfl (lv_at hl 1 rfl) ?_
      obtain ⟨r2, t3, e4, h⟩ := bd_e h
      refine xw_callV B hM hS (xw_recv (xb_vk B) hM 0 0 (Or.inl xv_0) (fun gh => ⟨_, rfl⟩) rfl) [.int x1] (n := 1) (v := (some (.int r2))) (c_X5_nameNumberAt B.2.2.2.2 e4) wm_RX5_190 wi_yX5_nameNumberAt ws_yX5_nameNumberAt wn_RX5 wc_yX5_nameNumberAt rfl rfl (by decide +kernel) ⟨Nat.le_of_ble_eq_true rfl, Nat.le_of_ble_eq_true rfl⟩ ⟨Nat.le_refl 0, Nat.le_refl 0⟩ rfl hl.1 (Nat.le_of_ble_eq_true rfl) rfl dX5_areNamesUnlike_22 (fun H locs hM hS => ?_)
      refine lv_aload_n hx hb dX5_areNamesUnlike_25 rfl (lv_at hl 0 rfl) ?_
      refine lv_iload_n hx hb dX5_areNamesUnlike_26 rfl (lv_at hl 2 rfl) ?_
      obtain ⟨r5, t6, e7, h⟩ := bd_e h
      refine xw_callV B hM hS (xw_recv (xb_vk B) hM 0 0 (Or.inl xv_0) (fun gh => ⟨_, rfl⟩) rfl) [.int x2] (n := 1) (v := (some (.int r5))) (c_X5_nameNumberAt B.2.2.2.2 e7) wm_RX5_190 wi_yX5_nameNumberAt ws_yX5_nameNumberAt wn_RX5 wc_yX5_nameNumberAt rfl rfl (by decide +kernel) ⟨Nat.le_of_ble_eq_true rfl, Nat.le_of_ble_eq_true rfl⟩ ⟨Nat.le_refl 0, Nat.le_refl 0⟩ rfl hl.1 (Nat.le_of_ble_eq_true rfl) rfl dX5_areNamesUnlike_27 (fun H locs hM hS => ?_)
      refine lv_icmp_ne (tgt := 66) hx hb dX5_areNamesUnlike_30 (by decide) (fun c8 => ?_) (fun c8 => ?_)
      · have h := bi_f c8 h
        exact w_X5_areNamesUnlike_66 B hk2 ih _ _ _ _ _ _ h hM hS (lv_sub hl [0, 1, 2] rfl)
      · have h := bi_t c8 h
        refine lv_aload_n hx hb dX5_areNamesUnlike_33 rfl (lv_at hl 0 rfl) ?_
        refine xw_get B.1 hM 0 0 xv_0 (ci := 6) (N := 6) (fs := fTR ad t6) (C := RX5) (T := TX5) (fun _ => rfl) rfl inX5 1 (by decide) wf_RX5_16 rfl (v := .ref (ad 13 1)) rfl dX5_areNamesUnlike_34 ?_
        refine lv_iload_n hx hb dX5_areNamesUnlike_37 rfl (lv_at hl 1 rfl) ?_
        obtain ⟨g9, h⟩ := gd_e h
        refine xw_lget B hM hS 1 (by decide) wm_RX5_116 g9 ⟨Nat.le_of_ble_eq_true rfl, Nat.le_of_ble_eq_true rfl⟩ ⟨Nat.le_refl 0, Nat.le_refl 0⟩ hl.1 (Nat.le_of_ble_eq_true rfl) dX5_areNamesUnlike_38 ?_
        obtain ⟨v10, h⟩ := gd_e h
        refine xw_castShot B.1 hM v10 wk_RX5_70 dX5_areNamesUnlike_41 ?_
        refine xw_get B.1 hM 1 ((xL t6 1).getD x1.toNatClampNeg 0) (xv_s (k := 1) (by decide) v10) (ci := 5) (N := 12) (fs := fSh ad t6 ((xL t6 1).getD x1.toNatClampNeg 0)) (C := RX4) (T := TX4) (fun _ => rfl) rfl inX4 8 (by decide) wf_RX5_79 rfl (v := .int (xF t6 1 ((xL t6 1).getD x1.toNatClampNeg 0) 8)) rfl dX5_areNamesUnlike_44 ?_
        refine lv_aload_n hx hb dX5_areNamesUnlike_47 rfl (lv_at hl 0 rfl) ?_
        refine xw_get B.1 hM 0 0 xv_0 (ci := 6) (N := 6) (fs := fTR ad t6) (C := RX5) (T := TX5) (fun _ => rfl) rfl inX5 1 (by decide) wf_RX5_16 rfl (v := .ref (ad 13 1)) rfl dX5_areNamesUnlike_48 ?_
        refine lv_iload_n hx hb dX5_areNamesUnlike_51 rfl (lv_at hl 2 rfl) ?_
        obtain ⟨g11, h⟩ := gd_e h
        refine xw_lget B hM hS 1 (by decide) wm_RX5_116 g11 ⟨Nat.le_of_ble_eq_true rfl, Nat.le_of_ble_eq_true rfl⟩ ⟨Nat.le_refl 0, Nat.le_refl 0⟩ hl.1 (Nat.le_of_ble_eq_true rfl) dX5_areNamesUnlike_52 ?_
        obtain ⟨v12, h⟩ := gd_e h
        refine xw_castShot B.1 hM v12 wk_RX5_70 dX5_areNamesUnlike_55 ?_
        refine xw_get B.1 hM 1 ((xL t6 1).getD x2.toNatClampNeg 0) (xv_s (k := 1) (by decide) v12) (ci := 5) (N := 12) (fs := fSh ad t6 ((xL t6 1).getD x2.toNatClampNeg 0)) (C := RX4) (T := TX4) (fun _ => rfl) rfl inX4 8 (by decide) wf_RX5_79 rfl (v := .int (xF t6 1 ((xL t6 1).getD x2.toNatClampNeg 0) 8)) rfl dX5_areNamesUnlike_58 ?_
        refine lv_icmp_ne (tgt := 66) hx hb dX5_areNamesUnlike_61 (by decide) (fun c13 => ?_) (fun c13 => ?_)
        · have h := bi_f c13 h
          exact w_X5_areNamesUnlike_66 B hk2 ih _ _ _ _ _ _ h hM hS (lv_sub hl [0, 1, 2] rfl)
        · have h := bi_t c13 h
          refine lv_iconst (v := 0) hx hb dX5_areNamesUnlike_64 (by decide) ?_
          cases h
          exact xw_zret B hM hS (Nat.le_refl 0) (Nat.le_refl 0) (by rfl) dX5_areNamesUnlike_65
set_option maxHeartbeats 4000000 in
set_option maxRecDepth 100000 in
theorem w_X5_areNamesUnlike_2 {p : Program} {l : Launch} {e : Env} {s : State} {m : MethodId} {args : Array Value} {below : List Frame} {meth : Method} {c : Code} {G : GG} {A : Nat → Prop} {ad : AD} (B : XB G A ad p l s m args meth c cX5_areNamesUnlike 3 RX5 (some .boolean)) {r : Int32} {st' : XS} : ∀ (n : Nat) (st : XS) (x1 : Int32) (H : Heap) (locs : List Loc) (ls : Array Slot), f_X5_areNamesUnlike_2 n st x1 = some (r, st') → XW G A ad st H → va_S A s.heap H locs → lv_has ls 3 [(0, .ref (ad 0 0)), (1, .int x1)] → W p l e ({ frames := 4, cells := 0, slots := 0, locals := 85 } : Room) s m args below meth c H locs 0 0 (MQ below (QX G A ad (some (.int r)) st') args s 0 0 A) (F0 m 2 ls []) := by
  have ⟨⟨hx, hb, hr, hml, hown, hT, hlocks, hK⟩, hnt, hST, hA, hll⟩ := B
  intro n
  induction n with
  | zero =>
    intro st x1 H locs ls h
    cases h
  | succ n ih =>
    intro st x1 H locs ls h hM hS hl
    rw [f_X5_areNamesUnlike_2] at h
    refine lv_iload_n hx hb dX5_areNamesUnlike_2 rfl (lv_at hl 1 rfl) ?_
    refine lv_aload_n hx hb dX5_areNamesUnlike_3 rfl (lv_at hl 0 rfl) ?_
    refine xw_get B.1 hM 0 0 xv_0 (ci := 6) (N := 6) (fs := fTR ad st) (C := RX5) (T := TX5) (fun _ => rfl) rfl inX5 1 (by decide) wf_RX5_16 rfl (v := .ref (ad 13 1)) rfl dX5_areNamesUnlike_4 ?_
    refine xw_size B hM hS 1 (by decide) wm_RX5_37 ⟨Nat.le_of_ble_eq_true rfl, Nat.le_of_ble_eq_true rfl⟩ ⟨Nat.le_refl 0, Nat.le_refl 0⟩ hl.1 (Nat.le_of_ble_eq_true rfl) dX5_areNamesUnlike_7 ?_
    refine lv_icmp_ge (tgt := 78) hx hb dX5_areNamesUnlike_10 (by decide) (fun c1 => ?_) (fun c1 => ?_)
    · have h := bi_t c1 h
      refine lv_iconst (v := 1) hx hb dX5_areNamesUnlike_78 (by decide) ?_
      cases h
      exact xw_zret B hM hS (Nat.le_refl 0) (Nat.le_refl 0) (by rfl) dX5_areNamesUnlike_79
    · have h := bi_f c1 h
      refine lv_iconst (v := 0) hx hb dX5_areNamesUnlike_13 (by decide) ?_
      refine lv_istore_n (lv' := [(2, .int 0), (0, .ref (ad 0 0)), (1, .int x1)]) hx hb dX5_areNamesUnlike_14 rfl hl (by decide) rfl (fun ls hl => ?_)
      exact w_X5_areNamesUnlike_15 B ih FU _ _ _ _ _ _ h hM hS (lv_sub hl [1, 2, 0] rfl)
set_option maxHeartbeats 4000000 in
set_option maxRecDepth 100000 in
theorem w_X5_areNamesUnlike {p : Program} {l : Launch} {e : Env} {s : State} {m : MethodId} {args : Array Value} {below : List Frame} {meth : Method} {c : Code} {G : GG} {A : Nat → Prop} {ad : AD} (B : XB G A ad p l s m args meth c cX5_areNamesUnlike 3 RX5 (some .boolean)) {r : Int32} {st' : XS} : ∀ (st : XS) (H : Heap) (locs : List Loc) (ls : Array Slot), f_X5_areNamesUnlike st = some (r, st') → XW G A ad st H → va_S A s.heap H locs → lv_has ls 3 [(0, .ref (ad 0 0))] → W p l e ({ frames := 4, cells := 0, slots := 0, locals := 85 } : Room) s m args below meth c H locs 0 0 (MQ below (QX G A ad (some (.int r)) st') args s 0 0 A) (F0 m 0 ls []) := by
  have ⟨⟨hx, hb, hr, hml, hown, hT, hlocks, hK⟩, hnt, hST, hA, hll⟩ := B
  intro st  H locs ls h hM hS hl
  rw [f_X5_areNamesUnlike] at h
  refine lv_iconst (v := 0) hx hb dX5_areNamesUnlike_0 (by decide) ?_
  refine lv_istore_n (lv' := [(1, .int 0), (0, .ref (ad 0 0))]) hx hb dX5_areNamesUnlike_1 rfl hl (by decide) rfl (fun ls hl => ?_)
  exact w_X5_areNamesUnlike_2 B FU _ _ _ _ _ h hM hS (lv_sub hl [1, 0] rfl)
theorem c_X5_areNamesUnlike {l : Launch} (hll : l.stackTraces = false) {G : GG} {A : Nat → Prop} {ad : AD} {st : XS} {r : Int32} {st' : XS} (h : f_X5_areNamesUnlike st = some (r, st')) : Met l yX5_areNamesUnlike (Cond.code yX5_areNamesUnlike cX5_areNamesUnlike 3 (some .boolean) :: TG) ({ frames := 4, cells := 0, slots := 0, locals := 85 } : Room) (PX G A ad st [.ref (ad 0 0)]) (QX G A ad (some (.int r)) st') 0 0 A :=
  xw_of (own := RX5) hll (by decide +kernel) rfl (Nat.le_of_ble_eq_true rfl) fun p e s m below meth c ls B hM hS hl => w_X5_areNamesUnlike B _ _ _ _ h hM hS hl
set_option maxHeartbeats 4000000 in
set_option maxRecDepth 100000 in
theorem w_X5_isEachSeenAtItsBegin_2 {p : Program} {l : Launch} {e : Env} {s : State} {m : MethodId} {args : Array Value} {below : List Frame} {meth : Method} {c : Code} {G : GG} {A : Nat → Prop} {ad : AD} (B : XB G A ad p l s m args meth c cX5_isEachSeenAtItsBegin 2 RX5 (some .boolean)) {r : Int32} {st' : XS} : ∀ (n : Nat) (st : XS) (x1 : Int32) (H : Heap) (locs : List Loc) (ls : Array Slot), f_X5_isEachSeenAtItsBegin_2 n st x1 = some (r, st') → XW G A ad st H → va_S A s.heap H locs → lv_has ls 2 [(0, .ref (ad 0 0)), (1, .int x1)] → W p l e ({ frames := 4, cells := 0, slots := 0, locals := 87 } : Room) s m args below meth c H locs 0 0 (MQ below (QX G A ad (some (.int r)) st') args s 0 0 A) (F0 m 2 ls []) := by
  have ⟨⟨hx, hb, hr, hml, hown, hT, hlocks, hK⟩, hnt, hST, hA, hll⟩ := B
  intro n
  induction n with
  | zero =>
    intro st x1 H locs ls h
    cases h
  | succ n ih =>
    intro st x1 H locs ls h hM hS hl
    rw [f_X5_isEachSeenAtItsBegin_2] at h
    refine lv_iload_n hx hb dX5_isEachSeenAtItsBegin_2 rfl (lv_at hl 1 rfl) ?_
    refine lv_aload_n hx hb dX5_isEachSeenAtItsBegin_3 rfl (lv_at hl 0 rfl) ?_
    refine xw_get B.1 hM 0 0 xv_0 (ci := 6) (N := 6) (fs := fTR ad st) (C := RX5) (T := TX5) (fun _ => rfl) rfl inX5 1 (by decide) wf_RX5_16 rfl (v := .ref (ad 13 1)) rfl dX5_isEachSeenAtItsBegin_4 ?_
    refine xw_size B hM hS 1 (by decide) wm_RX5_37 ⟨Nat.le_of_ble_eq_true rfl, Nat.le_of_ble_eq_true rfl⟩ ⟨Nat.le_refl 0, Nat.le_refl 0⟩ hl.1 (Nat.le_of_ble_eq_true rfl) dX5_isEachSeenAtItsBegin_7 ?_
    refine lv_icmp_ge (tgt := 47) hx hb dX5_isEachSeenAtItsBegin_10 (by decide) (fun c1 => ?_) (fun c1 => ?_)
    · have h := bi_t c1 h
      refine lv_iconst (v := 1) hx hb dX5_isEachSeenAtItsBegin_47 (by decide) ?_
      cases h
      exact xw_zret B hM hS (Nat.le_refl 0) (Nat.le_refl 0) (by rfl) dX5_isEachSeenAtItsBegin_48
    · have h := bi_f c1 h
      refine lv_aload_n hx hb dX5_isEachSeenAtItsBegin_13 rfl (lv_at hl 0 rfl) ?_
      refine lv_aload_n hx hb dX5_isEachSeenAtItsBegin_14 rfl (lv_at hl 0 rfl) ?_
      refine lv_iload_n hx hb dX5_isEachSeenAtItsBegin_15 rfl (lv_at hl 1 rfl) ?_
      obtain ⟨r2, t3, e4, h⟩ := bd_e h
      refine xw_callV B hM hS (xw_recv (xb_vk B) hM 0 0 (Or.inl xv_0) (fun gh => ⟨_, rfl⟩) rfl) [.int x1] (n := 1) (v := (some (.int r2))) (c_X5_beginOf B.2.2.2.2 e4) wm_RX5_177 wi_yX5_beginOf ws_yX5_beginOf wn_RX5 wc_yX5_beginOf rfl rfl (by decide +kernel) ⟨Nat.le_of_ble_eq_true rfl, Nat.le_of_ble_eq_true rfl⟩ ⟨Nat.le_refl 0, Nat.le_refl 0⟩ rfl hl.1 (Nat.le_of_ble_eq_true rfl) rfl dX5_isEachSeenAtItsBegin_16 (fun H locs hM hS => ?_)
      obtain ⟨r5, t6, e7, h⟩ := bd_e h
      refine xw_callV B hM hS (xw_recv (xb_vk B) hM 0 0 (Or.inl xv_0) (fun gh => ⟨_, rfl⟩) rfl) [.int r2] (n := 1) (v := (some (.int r5))) (c_X5_indexSeen B.2.2.2.2 e7) wm_RX5_180 wi_yX5_indexSeen ws_yX5_indexSeen wn_RX5 wc_yX5_indexSeen rfl rfl (by decide +kernel) ⟨Nat.le_of_ble_eq_true rfl, Nat.le_of_ble_eq_true rfl⟩ ⟨Nat.le_refl 0, Nat.le_refl 0⟩ rfl hl.1 (Nat.le_of_ble_eq_true rfl) rfl dX5_isEachSeenAtItsBegin_19 (fun H locs hM hS => ?_)
      refine lv_aload_n hx hb dX5_isEachSeenAtItsBegin_22 rfl (lv_at hl 0 rfl) ?_
      refine xw_get B.1 hM 0 0 xv_0 (ci := 6) (N := 6) (fs := fTR ad t6) (C := RX5) (T := TX5) (fun _ => rfl) rfl inX5 1 (by decide) wf_RX5_16 rfl (v := .ref (ad 13 1)) rfl dX5_isEachSeenAtItsBegin_23 ?_
      refine lv_iload_n hx hb dX5_isEachSeenAtItsBegin_26 rfl (lv_at hl 1 rfl) ?_
      obtain ⟨g8, h⟩ := gd_e h
      refine xw_lget B hM hS 1 (by decide) wm_RX5_116 g8 ⟨Nat.le_of_ble_eq_true rfl, Nat.le_of_ble_eq_true rfl⟩ ⟨Nat.le_refl 0, Nat.le_refl 0⟩ hl.1 (Nat.le_of_ble_eq_true rfl) dX5_isEachSeenAtItsBegin_27 ?_
      obtain ⟨v9, h⟩ := gd_e h
      refine xw_castShot B.1 hM v9 wk_RX5_70 dX5_isEachSeenAtItsBegin_30 ?_
      refine xw_get B.1 hM 1 ((xL t6 1).getD x1.toNatClampNeg 0) (xv_s (k := 1) (by decide) v9) (ci := 5) (N := 12) (fs := fSh ad t6 ((xL t6 1).getD x1.toNatClampNeg 0)) (C := RX4) (T := TX4) (fun _ => rfl) rfl inX4 0 (by decide) wf_RX5_90 rfl (v := .int (nI ((xL t6 1).getD x1.toNatClampNeg 0))) rfl dX5_isEachSeenAtItsBegin_33 ?_
      refine lv_icmp_eq (tgt := 41) hx hb dX5_isEachSeenAtItsBegin_36 (by decide) (fun c10 => ?_) (fun c10 => ?_)
      · have h := bi_t c10 h
        refine lv_iinc (v := (x1 + 1)) (lv' := [(1, .int (x1 + 1)), (0, .ref (ad 0 0))]) hx hb dX5_isEachSeenAtItsBegin_41 hl (k := 1) rfl rfl (by decide) rfl (fun ls hl => ?_)
        refine lv_goto (tgt := 2) hx hb dX5_isEachSeenAtItsBegin_44 (by decide) ?_
        exact ih _ _ _ _ _ h hM hS (lv_sub hl [1, 0] rfl)
      · have h := bi_f c10 h
        refine lv_iconst (v := 0) hx hb dX5_isEachSeenAtItsBegin_39 (by decide) ?_
        cases h
        exact xw_zret B hM hS (Nat.le_refl 0) (Nat.le_refl 0) (by rfl) dX5_isEachSeenAtItsBegin_40
set_option maxHeartbeats 4000000 in
set_option maxRecDepth 100000 in
theorem w_X5_isEachSeenAtItsBegin {p : Program} {l : Launch} {e : Env} {s : State} {m : MethodId} {args : Array Value} {below : List Frame} {meth : Method} {c : Code} {G : GG} {A : Nat → Prop} {ad : AD} (B : XB G A ad p l s m args meth c cX5_isEachSeenAtItsBegin 2 RX5 (some .boolean)) {r : Int32} {st' : XS} : ∀ (st : XS) (H : Heap) (locs : List Loc) (ls : Array Slot), f_X5_isEachSeenAtItsBegin st = some (r, st') → XW G A ad st H → va_S A s.heap H locs → lv_has ls 2 [(0, .ref (ad 0 0))] → W p l e ({ frames := 4, cells := 0, slots := 0, locals := 87 } : Room) s m args below meth c H locs 0 0 (MQ below (QX G A ad (some (.int r)) st') args s 0 0 A) (F0 m 0 ls []) := by
  have ⟨⟨hx, hb, hr, hml, hown, hT, hlocks, hK⟩, hnt, hST, hA, hll⟩ := B
  intro st  H locs ls h hM hS hl
  rw [f_X5_isEachSeenAtItsBegin] at h
  refine lv_iconst (v := 0) hx hb dX5_isEachSeenAtItsBegin_0 (by decide) ?_
  refine lv_istore_n (lv' := [(1, .int 0), (0, .ref (ad 0 0))]) hx hb dX5_isEachSeenAtItsBegin_1 rfl hl (by decide) rfl (fun ls hl => ?_)
  exact w_X5_isEachSeenAtItsBegin_2 B FU _ _ _ _ _ h hM hS (lv_sub hl [1, 0] rfl)
theorem c_X5_isEachSeenAtItsBegin {l : Launch} (hll : l.stackTraces = false) {G : GG} {A : Nat → Prop} {ad : AD} {st : XS} {r : Int32} {st' : XS} (h : f_X5_isEachSeenAtItsBegin st = some (r, st')) : Met l yX5_isEachSeenAtItsBegin (Cond.code yX5_isEachSeenAtItsBegin cX5_isEachSeenAtItsBegin 2 (some .boolean) :: TG) ({ frames := 4, cells := 0, slots := 0, locals := 87 } : Room) (PX G A ad st [.ref (ad 0 0)]) (QX G A ad (some (.int r)) st') 0 0 A :=
  xw_of (own := RX5) hll (by decide +kernel) rfl (Nat.le_of_ble_eq_true rfl) fun p e s m below meth c ls B hM hS hl => w_X5_isEachSeenAtItsBegin B _ _ _ _ h hM hS hl
set_option maxHeartbeats 4000000 in
set_option maxRecDepth 100000 in
theorem w_X5_doNotesSumUp_42 {p : Program} {l : Launch} {e : Env} {s : State} {m : MethodId} {args : Array Value} {below : List Frame} {meth : Method} {c : Code} {G : GG} {A : Nat → Prop} {ad : AD} (B : XB G A ad p l s m args meth c cX5_doNotesSumUp 1 RX5 (some .boolean)) {r : Int32} {st' : XS} : ∀ (st : XS) (y0 : Int32) (H : Heap) (locs : List Loc) (ls : Array Slot), f_X5_doNotesSumUp_42 st y0 = some (r, st') → XW G A ad st H → va_S A s.heap H locs → lv_has ls 1 [] → W p l e ({ frames := 4, cells := 0, slots := 0, locals := 87 } : Room) s m args below meth c H locs 0 0 (MQ below (QX G A ad (some (.int r)) st') args s 0 0 A) (F0 m 42 ls [.int y0]) := by
  have ⟨⟨hx, hb, hr, hml, hown, hT, hlocks, hK⟩, hnt, hST, hA, hll⟩ := B
  intro st y0 H locs ls h hM hS hl
  rw [f_X5_doNotesSumUp_42] at h
  obtain ⟨g1, h⟩ := gd_e h
  cases h
  exact xw_zret B hM hS (Nat.le_refl 0) (Nat.le_refl 0) g1 dX5_doNotesSumUp_42
set_option maxHeartbeats 4000000 in
set_option maxRecDepth 100000 in
theorem w_X5_doNotesSumUp {p : Program} {l : Launch} {e : Env} {s : State} {m : MethodId} {args : Array Value} {below : List Frame} {meth : Method} {c : Code} {G : GG} {A : Nat → Prop} {ad : AD} (B : XB G A ad p l s m args meth c cX5_doNotesSumUp 1 RX5 (some .boolean)) {r : Int32} {st' : XS} : ∀ (st : XS) (H : Heap) (locs : List Loc) (ls : Array Slot), f_X5_doNotesSumUp st = some (r, st') → XW G A ad st H → va_S A s.heap H locs → lv_has ls 1 [(0, .ref (ad 0 0))] → W p l e ({ frames := 4, cells := 0, slots := 0, locals := 87 } : Room) s m args below meth c H locs 0 0 (MQ below (QX G A ad (some (.int r)) st') args s 0 0 A) (F0 m 0 ls []) := by
  have ⟨⟨hx, hb, hr, hml, hown, hT, hlocks, hK⟩, hnt, hST, hA, hll⟩ := B
  intro st  H locs ls h hM hS hl
  rw [f_X5_doNotesSumUp] at h
  refine lv_aload_n hx hb dX5_doNotesSumUp_0 rfl (lv_at hl 0 rfl) ?_
  refine lv_bipush (v := 111) hx hb dX5_doNotesSumUp_1 (by decide) ?_
  obtain ⟨r1, t2, e3, h⟩ := bd_e h
  refine xw_callV B hM hS (xw_recv (xb_vk B) hM 0 0 (Or.inl xv_0) (fun gh => ⟨_, rfl⟩) rfl) [.int 111] (n := 1) (v := (some (.int r1))) (c_X5_notesOf B.2.2.2.2 e3) wm_RX5_269 wi_yX5_notesOf ws_yX5_notesOf wn_RX5 wc_yX5_notesOf rfl rfl (by decide +kernel) ⟨Nat.le_of_ble_eq_true rfl, Nat.le_of_ble_eq_true rfl⟩ ⟨Nat.le_refl 0, Nat.le_refl 0⟩ rfl hl.1 (Nat.le_of_ble_eq_true rfl) rfl dX5_doNotesSumUp_3 (fun H locs hM hS => ?_)
  refine lv_aload_n hx hb dX5_doNotesSumUp_6 rfl (lv_at hl 0 rfl) ?_
  refine lv_bipush (v := 100) hx hb dX5_doNotesSumUp_7 (by decide) ?_
  obtain ⟨r4, t5, e6, h⟩ := bd_e h
  refine xw_callV B hM hS (xw_recv (xb_vk B) hM 0 0 (Or.inl xv_0) (fun gh => ⟨_, rfl⟩) rfl) [.int 100] (n := 1) (v := (some (.int r4))) (c_X5_notesOf B.2.2.2.2 e6) wm_RX5_269 wi_yX5_notesOf ws_yX5_notesOf wn_RX5 wc_yX5_notesOf rfl rfl (by decide +kernel) ⟨Nat.le_of_ble_eq_true rfl, Nat.le_of_ble_eq_true rfl⟩ ⟨Nat.le_refl 0, Nat.le_refl 0⟩ rfl hl.1 (Nat.le_of_ble_eq_true rfl) rfl dX5_doNotesSumUp_9 (fun H locs hM hS => ?_)
  refine lv_iadd hx hb dX5_doNotesSumUp_12 ?_
  refine lv_aload_n hx hb dX5_doNotesSumUp_13 rfl (lv_at hl 0 rfl) ?_
  refine lv_bipush (v := 114) hx hb dX5_doNotesSumUp_14 (by decide) ?_
  obtain ⟨r7, t8, e9, h⟩ := bd_e h
  refine xw_callV B hM hS (xw_recv (xb_vk B) hM 0 0 (Or.inl xv_0) (fun gh => ⟨_, rfl⟩) rfl) [.int 114] (n := 1) (v := (some (.int r7))) (c_X5_notesOf B.2.2.2.2 e9) wm_RX5_269 wi_yX5_notesOf ws_yX5_notesOf wn_RX5 wc_yX5_notesOf rfl rfl (by decide +kernel) ⟨Nat.le_of_ble_eq_true rfl, Nat.le_of_ble_eq_true rfl⟩ ⟨Nat.le_refl 0, Nat.le_refl 0⟩ rfl hl.1 (Nat.le_of_ble_eq_true rfl) rfl dX5_doNotesSumUp_16 (fun H locs hM hS => ?_)
  refine lv_iadd hx hb dX5_doNotesSumUp_19 ?_
  refine lv_aload_n hx hb dX5_doNotesSumUp_20 rfl (lv_at hl 0 rfl) ?_
  refine lv_bipush (v := 115) hx hb dX5_doNotesSumUp_21 (by decide) ?_
  obtain ⟨r10, t11, e12, h⟩ := bd_e h
  refine xw_callV B hM hS (xw_recv (xb_vk B) hM 0 0 (Or.inl xv_0) (fun gh => ⟨_, rfl⟩) rfl) [.int 115] (n := 1) (v := (some (.int r10))) (c_X5_notesOf B.2.2.2.2 e12) wm_RX5_269 wi_yX5_notesOf ws_yX5_notesOf wn_RX5 wc_yX5_notesOf rfl rfl (by decide +kernel) ⟨Nat.le_of_ble_eq_true rfl, Nat.le_of_ble_eq_true rfl⟩ ⟨Nat.le_refl 0, Nat.le_refl 0⟩ rfl hl.1 (Nat.le_of_ble_eq_true rfl) rfl dX5_doNotesSumUp_23 (fun H locs hM hS => ?_)
  refine lv_iadd hx hb dX5_doNotesSumUp_26 ?_
  refine lv_aload_n hx hb dX5_doNotesSumUp_27 rfl (lv_at hl 0 rfl) ?_
  refine xw_get B.1 hM 0 0 xv_0 (ci := 6) (N := 6) (fs := fTR ad t11) (C := RX5) (T := TX5) (fun _ => rfl) rfl inX5 2 (by decide) wf_RX5_19 rfl (v := .ref (ad 13 2)) rfl dX5_doNotesSumUp_28 ?_
  refine xw_size B hM hS 2 (by decide) wm_RX5_37 ⟨Nat.le_of_ble_eq_true rfl, Nat.le_of_ble_eq_true rfl⟩ ⟨Nat.le_refl 0, Nat.le_refl 0⟩ hl.1 (Nat.le_of_ble_eq_true rfl) dX5_doNotesSumUp_31 ?_
  refine lv_icmp_ne (tgt := 41) hx hb dX5_doNotesSumUp_34 (by decide) (fun c13 => ?_) (fun c13 => ?_)
  · have h := bi_f c13 h
    refine lv_iconst (v := 0) hx hb dX5_doNotesSumUp_41 (by decide) ?_
    exact w_X5_doNotesSumUp_42 B _ _ _ _ _ h hM hS (lv_sub hl [] rfl)
  · have h := bi_t c13 h
    refine lv_iconst (v := 1) hx hb dX5_doNotesSumUp_37 (by decide) ?_
    refine lv_goto (tgt := 42) hx hb dX5_doNotesSumUp_38 (by decide) ?_
    exact w_X5_doNotesSumUp_42 B _ _ _ _ _ h hM hS (lv_sub hl [] rfl)
theorem c_X5_doNotesSumUp {l : Launch} (hll : l.stackTraces = false) {G : GG} {A : Nat → Prop} {ad : AD} {st : XS} {r : Int32} {st' : XS} (h : f_X5_doNotesSumUp st = some (r, st')) : Met l yX5_doNotesSumUp (Cond.code yX5_doNotesSumUp cX5_doNotesSumUp 1 (some .boolean) :: TG) ({ frames := 4, cells := 0, slots := 0, locals := 87 } : Room) (PX G A ad st [.ref (ad 0 0)]) (QX G A ad (some (.int r)) st') 0 0 A :=
  xw_of (own := RX5) hll (by decide +kernel) rfl (Nat.le_of_ble_eq_true rfl) fun p e s m below meth c ls B hM hS hl => w_X5_doNotesSumUp B _ _ _ _ h hM hS hl
set_option maxHeartbeats 4000000 in
set_option maxRecDepth 100000 in
theorem w_X5_areEdgesOfMembers_2 {p : Program} {l : Launch} {e : Env} {s : State} {m : MethodId} {args : Array Value} {below : List Frame} {meth : Method} {c : Code} {G : GG} {A : Nat → Prop} {ad : AD} (B : XB G A ad p l s m args meth c cX5_areEdgesOfMembers 2 RX5 (some .boolean)) {r : Int32} {st' : XS} : ∀ (n : Nat) (st : XS) (x1 : Int32) (H : Heap) (locs : List Loc) (ls : Array Slot), f_X5_areEdgesOfMembers_2 n st x1 = some (r, st') → XW G A ad st H → va_S A s.heap H locs → lv_has ls 2 [(0, .ref (ad 0 0)), (1, .int x1)] → W p l e ({ frames := 3, cells := 0, slots := 0, locals := 64 } : Room) s m args below meth c H locs 0 0 (MQ below (QX G A ad (some (.int r)) st') args s 0 0 A) (F0 m 2 ls []) := by
  have ⟨⟨hx, hb, hr, hml, hown, hT, hlocks, hK⟩, hnt, hST, hA, hll⟩ := B
  intro n
  induction n with
  | zero =>
    intro st x1 H locs ls h
    cases h
  | succ n ih =>
    intro st x1 H locs ls h hM hS hl
    rw [f_X5_areEdgesOfMembers_2] at h
    refine lv_iload_n hx hb dX5_areEdgesOfMembers_2 rfl (lv_at hl 1 rfl) ?_
    refine lv_aload_n hx hb dX5_areEdgesOfMembers_3 rfl (lv_at hl 0 rfl) ?_
    refine xw_get B.1 hM 0 0 xv_0 (ci := 6) (N := 6) (fs := fTR ad st) (C := RX5) (T := TX5) (fun _ => rfl) rfl inX5 0 (by decide) wf_RX5_10 rfl (v := .ref (ad 13 0)) rfl dX5_areEdgesOfMembers_4 ?_
    refine xw_size B hM hS 0 (by decide) wm_RX5_37 ⟨Nat.le_of_ble_eq_true rfl, Nat.le_of_ble_eq_true rfl⟩ ⟨Nat.le_refl 0, Nat.le_refl 0⟩ hl.1 (Nat.le_of_ble_eq_true rfl) dX5_areEdgesOfMembers_7 ?_
    refine lv_icmp_ge (tgt := 41) hx hb dX5_areEdgesOfMembers_10 (by decide) (fun c1 => ?_) (fun c1 => ?_)
    · have h := bi_t c1 h
      refine lv_iconst (v := 1) hx hb dX5_areEdgesOfMembers_41 (by decide) ?_
      cases h
      exact xw_zret B hM hS (Nat.le_refl 0) (Nat.le_refl 0) (by rfl) dX5_areEdgesOfMembers_42
    · have h := bi_f c1 h
      refine lv_aload_n hx hb dX5_areEdgesOfMembers_13 rfl (lv_at hl 0 rfl) ?_
      refine xw_get B.1 hM 0 0 xv_0 (ci := 6) (N := 6) (fs := fTR ad st) (C := RX5) (T := TX5) (fun _ => rfl) rfl inX5 0 (by decide) wf_RX5_10 rfl (v := .ref (ad 13 0)) rfl dX5_areEdgesOfMembers_14 ?_
      refine lv_iload_n hx hb dX5_areEdgesOfMembers_17 rfl (lv_at hl 1 rfl) ?_
      obtain ⟨g2, h⟩ := gd_e h
      refine xw_lget B hM hS 0 (by decide) wm_RX5_116 g2 ⟨Nat.le_of_ble_eq_true rfl, Nat.le_of_ble_eq_true rfl⟩ ⟨Nat.le_refl 0, Nat.le_refl 0⟩ hl.1 (Nat.le_of_ble_eq_true rfl) dX5_areEdgesOfMembers_18 ?_
      obtain ⟨v3, h⟩ := gd_e h
      refine xw_castShot B.1 hM v3 wk_RX5_70 dX5_areEdgesOfMembers_21 ?_
      refine xw_get B.1 hM 1 ((xL st 0).getD x1.toNatClampNeg 0) (xv_s (k := 1) (by decide) v3) (ci := 5) (N := 12) (fs := fSh ad st ((xL st 0).getD x1.toNatClampNeg 0)) (C := RX4) (T := TX4) (fun _ => rfl) rfl inX4 1 (by decide) wf_RX5_148 rfl (v := .ref (ad 2 ((xL st 0).getD x1.toNatClampNeg 0))) rfl dX5_areEdgesOfMembers_24 ?_
      obtain ⟨r4, t5, e6, h⟩ := bd_e h
      refine xw_callV B hM hS (xw_recv (xb_vk B) hM 2 ((xL st 0).getD x1.toNatClampNeg 0) (Or.inl (xv_s (k := 2) (by decide) v3)) (fun gh => ⟨_, rfl⟩) rfl) [] (n := 0) (v := (some (.int r4))) (c_X0_areEdgesOfThoseIn B.2.2.2.2 e6) wm_RX5_397 wi_yX0_areEdgesOfThoseIn ws_yX0_areEdgesOfThoseIn wn_RX0 wc_yX0_areEdgesOfThoseIn rfl rfl (by decide +kernel) ⟨Nat.le_of_ble_eq_true rfl, Nat.le_of_ble_eq_true rfl⟩ ⟨Nat.le_refl 0, Nat.le_refl 0⟩ rfl hl.1 (Nat.le_of_ble_eq_true rfl) rfl dX5_areEdgesOfMembers_27 (fun H locs hM hS => ?_)
      refine lv_if_ne (tgt := 35) hx hb dX5_areEdgesOfMembers_30 (by decide) (fun c7 => ?_) (fun c7 => ?_)
      · have h := bi_f c7 h
        refine lv_iinc (v := (x1 + 1)) (lv' := [(1, .int (x1 + 1)), (0, .ref (ad 0 0))]) hx hb dX5_areEdgesOfMembers_35 hl (k := 1) rfl rfl (by decide) rfl (fun ls hl => ?_)
        refine lv_goto (tgt := 2) hx hb dX5_areEdgesOfMembers_38 (by decide) ?_
        exact ih _ _ _ _ _ h hM hS (lv_sub hl [1, 0] rfl)
      · have h := bi_t c7 h
        refine lv_iconst (v := 0) hx hb dX5_areEdgesOfMembers_33 (by decide) ?_
        cases h
        exact xw_zret B hM hS (Nat.le_refl 0) (Nat.le_refl 0) (by rfl) dX5_areEdgesOfMembers_34
set_option maxHeartbeats 4000000 in
set_option maxRecDepth 100000 in
theorem w_X5_areEdgesOfMembers {p : Program} {l : Launch} {e : Env} {s : State} {m : MethodId} {args : Array Value} {below : List Frame} {meth : Method} {c : Code} {G : GG} {A : Nat → Prop} {ad : AD} (B : XB G A ad p l s m args meth c cX5_areEdgesOfMembers 2 RX5 (some .boolean)) {r : Int32} {st' : XS} : ∀ (st : XS) (H : Heap) (locs : List Loc) (ls : Array Slot), f_X5_areEdgesOfMembers st = some (r, st') → XW G A ad st H → va_S A s.heap H locs → lv_has ls 2 [(0, .ref (ad 0 0))] → W p l e ({ frames := 3, cells := 0, slots := 0, locals := 64 } : Room) s m args below meth c H locs 0 0 (MQ below (QX G A ad (some (.int r)) st') args s 0 0 A) (F0 m 0 ls []) := by
  have ⟨⟨hx, hb, hr, hml, hown, hT, hlocks, hK⟩, hnt, hST, hA, hll⟩ := B
  intro st  H locs ls h hM hS hl
  rw [f_X5_areEdgesOfMembers] at h
  refine lv_iconst (v := 0) hx hb dX5_areEdgesOfMembers_0 (by decide) ?_
  refine lv_istore_n (lv' := [(1, .int 0), (0, .ref (ad 0 0))]) hx hb dX5_areEdgesOfMembers_1 rfl hl (by decide) rfl (fun ls hl => ?_)
  exact w_X5_areEdgesOfMembers_2 B FU _ _ _ _ _ h hM hS (lv_sub hl [1, 0] rfl)
theorem c_X5_areEdgesOfMembers {l : Launch} (hll : l.stackTraces = false) {G : GG} {A : Nat → Prop} {ad : AD} {st : XS} {r : Int32} {st' : XS} (h : f_X5_areEdgesOfMembers st = some (r, st')) : Met l yX5_areEdgesOfMembers (Cond.code yX5_areEdgesOfMembers cX5_areEdgesOfMembers 2 (some .boolean) :: TG) ({ frames := 3, cells := 0, slots := 0, locals := 64 } : Room) (PX G A ad st [.ref (ad 0 0)]) (QX G A ad (some (.int r)) st') 0 0 A :=
  xw_of (own := RX5) hll (by decide +kernel) rfl (Nat.le_of_ble_eq_true rfl) fun p e s m below meth c ls B hM hS hl => w_X5_areEdgesOfMembers B _ _ _ _ h hM hS hl
set_option maxHeartbeats 4000000 in
set_option maxRecDepth 100000 in
theorem w_X5_isSound_33 {p : Program} {l : Launch} {e : Env} {s : State} {m : MethodId} {args : Array Value} {below : List Frame} {meth : Method} {c : Code} {G : GG} {A : Nat → Prop} {ad : AD} (B : XB G A ad p l s m args meth c cX5_isSound 1 RX5 (some .boolean)) {r : Int32} {st' : XS} : ∀ (st : XS) (y0 : Int32) (H : Heap) (locs : List Loc) (ls : Array Slot), f_X5_isSound_33 st y0 = some (r, st') → XW G A ad st H → va_S A s.heap H locs → lv_has ls 1 [] → W p l e ({ frames := 5, cells := 0, slots := 0, locals := 108 } : Room) s m args below meth c H locs 0 0 (MQ below (QX G A ad (some (.int r)) st') args s 0 0 A) (F0 m 33 ls [.int y0]) := by
  have ⟨⟨hx, hb, hr, hml, hown, hT, hlocks, hK⟩, hnt, hST, hA, hll⟩ := B
  intro st y0 H locs ls h hM hS hl
  rw [f_X5_isSound_33] at h
  obtain ⟨g1, h⟩ := gd_e h
  cases h
  exact xw_zret B hM hS (Nat.le_refl 0) (Nat.le_refl 0) g1 dX5_isSound_33
set_option maxHeartbeats 4000000 in
set_option maxRecDepth 100000 in
theorem w_X5_isSound_32 {p : Program} {l : Launch} {e : Env} {s : State} {m : MethodId} {args : Array Value} {below : List Frame} {meth : Method} {c : Code} {G : GG} {A : Nat → Prop} {ad : AD} (B : XB G A ad p l s m args meth c cX5_isSound 1 RX5 (some .boolean)) {r : Int32} {st' : XS} : ∀ (st : XS) (H : Heap) (locs : List Loc) (ls : Array Slot), f_X5_isSound_32 st = some (r, st') → XW G A ad st H → va_S A s.heap H locs → lv_has ls 1 [] → W p l e ({ frames := 5, cells := 0, slots := 0, locals := 108 } : Room) s m args below meth c H locs 0 0 (MQ below (QX G A ad (some (.int r)) st') args s 0 0 A) (F0 m 32 ls []) := by
  have ⟨⟨hx, hb, hr, hml, hown, hT, hlocks, hK⟩, hnt, hST, hA, hll⟩ := B
  intro st  H locs ls h hM hS hl
  rw [f_X5_isSound_32] at h
  refine lv_iconst (v := 0) hx hb dX5_isSound_32 (by decide) ?_
  exact w_X5_isSound_33 B _ _ _ _ _ h hM hS (lv_sub hl [] rfl)
set_option maxHeartbeats 4000000 in
set_option maxRecDepth 100000 in
theorem w_X5_isSound {p : Program} {l : Launch} {e : Env} {s : State} {m : MethodId} {args : Array Value} {below : List Frame} {meth : Method} {c : Code} {G : GG} {A : Nat → Prop} {ad : AD} (B : XB G A ad p l s m args meth c cX5_isSound 1 RX5 (some .boolean)) {r : Int32} {st' : XS} : ∀ (st : XS) (H : Heap) (locs : List Loc) (ls : Array Slot), f_X5_isSound st = some (r, st') → XW G A ad st H → va_S A s.heap H locs → lv_has ls 1 [(0, .ref (ad 0 0))] → W p l e ({ frames := 5, cells := 0, slots := 0, locals := 108 } : Room) s m args below meth c H locs 0 0 (MQ below (QX G A ad (some (.int r)) st') args s 0 0 A) (F0 m 0 ls []) := by
  have ⟨⟨hx, hb, hr, hml, hown, hT, hlocks, hK⟩, hnt, hST, hA, hll⟩ := B
  intro st  H locs ls h hM hS hl
  rw [f_X5_isSound] at h
  refine lv_aload_n hx hb dX5_isSound_0 rfl (lv_at hl 0 rfl) ?_
  obtain ⟨r1, t2, e3, h⟩ := bd_e h
  refine xw_callV B hM hS (xw_recv (xb_vk B) hM 0 0 (Or.inl xv_0) (fun gh => ⟨_, rfl⟩) rfl) [] (n := 0) (v := (some (.int r1))) (c_X5_areNamesUnlike B.2.2.2.2 e3) wm_RX5_307 wi_yX5_areNamesUnlike ws_yX5_areNamesUnlike wn_RX5 wc_yX5_areNamesUnlike rfl rfl (by decide +kernel) ⟨Nat.le_of_ble_eq_true rfl, Nat.le_of_ble_eq_true rfl⟩ ⟨Nat.le_refl 0, Nat.le_refl 0⟩ rfl hl.1 (Nat.le_of_ble_eq_true rfl) rfl dX5_isSound_1 (fun H locs hM hS => ?_)
  refine lv_if_eq (tgt := 32) hx hb dX5_isSound_4 (by decide) (fun c4 => ?_) (fun c4 => ?_)
  · have h := bi_t c4 h
    exact w_X5_isSound_32 B _ _ _ _ h hM hS (lv_sub hl [] rfl)
  · have h := bi_f c4 h
    refine lv_aload_n hx hb dX5_isSound_7 rfl (lv_at hl 0 rfl) ?_
    obtain ⟨r5, t6, e7, h⟩ := bd_e h
    refine xw_callV B hM hS (xw_recv (xb_vk B) hM 0 0 (Or.inl xv_0) (fun gh => ⟨_, rfl⟩) rfl) [] (n := 0) (v := (some (.int r5))) (c_X5_isEachSeenAtItsBegin B.2.2.2.2 e7) wm_RX5_311 wi_yX5_isEachSeenAtItsBegin ws_yX5_isEachSeenAtItsBegin wn_RX5 wc_yX5_isEachSeenAtItsBegin rfl rfl (by decide +kernel) ⟨Nat.le_of_ble_eq_true rfl, Nat.le_of_ble_eq_true rfl⟩ ⟨Nat.le_refl 0, Nat.le_refl 0⟩ rfl hl.1 (Nat.le_of_ble_eq_true rfl) rfl dX5_isSound_8 (fun H locs hM hS => ?_)
    refine lv_if_eq (tgt := 32) hx hb dX5_isSound_11 (by decide) (fun c8 => ?_) (fun c8 => ?_)
    · have h := bi_t c8 h
      exact w_X5_isSound_32 B _ _ _ _ h hM hS (lv_sub hl [] rfl)
    · have h := bi_f c8 h
      refine lv_aload_n hx hb dX5_isSound_14 rfl (lv_at hl 0 rfl) ?_
      obtain ⟨r9, t10, e11, h⟩ := bd_e h
      refine xw_callV B hM hS (xw_recv (xb_vk B) hM 0 0 (Or.inl xv_0) (fun gh => ⟨_, rfl⟩) rfl) [] (n := 0) (v := (some (.int r9))) (c_X5_doNotesSumUp B.2.2.2.2 e11) wm_RX5_314 wi_yX5_doNotesSumUp ws_yX5_doNotesSumUp wn_RX5 wc_yX5_doNotesSumUp rfl rfl (by decide +kernel) ⟨Nat.le_of_ble_eq_true rfl, Nat.le_of_ble_eq_true rfl⟩ ⟨Nat.le_refl 0, Nat.le_refl 0⟩ rfl hl.1 (Nat.le_of_ble_eq_true rfl) rfl dX5_isSound_15 (fun H locs hM hS => ?_)
      refine lv_if_eq (tgt := 32) hx hb dX5_isSound_18 (by decide) (fun c12 => ?_) (fun c12 => ?_)
      · have h := bi_t c12 h
        exact w_X5_isSound_32 B _ _ _ _ h hM hS (lv_sub hl [] rfl)
      · have h := bi_f c12 h
        refine lv_aload_n hx hb dX5_isSound_21 rfl (lv_at hl 0 rfl) ?_
        obtain ⟨r13, t14, e15, h⟩ := bd_e h
        refine xw_callV B hM hS (xw_recv (xb_vk B) hM 0 0 (Or.inl xv_0) (fun gh => ⟨_, rfl⟩) rfl) [] (n := 0) (v := (some (.int r13))) (c_X5_areEdgesOfMembers B.2.2.2.2 e15) wm_RX5_317 wi_yX5_areEdgesOfMembers ws_yX5_areEdgesOfMembers wn_RX5 wc_yX5_areEdgesOfMembers rfl rfl (by decide +kernel) ⟨Nat.le_of_ble_eq_true rfl, Nat.le_of_ble_eq_true rfl⟩ ⟨Nat.le_refl 0, Nat.le_refl 0⟩ rfl hl.1 (Nat.le_of_ble_eq_true rfl) rfl dX5_isSound_22 (fun H locs hM hS => ?_)
        refine lv_if_eq (tgt := 32) hx hb dX5_isSound_25 (by decide) (fun c16 => ?_) (fun c16 => ?_)
        · have h := bi_t c16 h
          exact w_X5_isSound_32 B _ _ _ _ h hM hS (lv_sub hl [] rfl)
        · have h := bi_f c16 h
          refine lv_iconst (v := 1) hx hb dX5_isSound_28 (by decide) ?_
          refine lv_goto (tgt := 33) hx hb dX5_isSound_29 (by decide) ?_
          exact w_X5_isSound_33 B _ _ _ _ _ h hM hS (lv_sub hl [] rfl)
theorem c_X5_isSound {l : Launch} (hll : l.stackTraces = false) {G : GG} {A : Nat → Prop} {ad : AD} {st : XS} {r : Int32} {st' : XS} (h : f_X5_isSound st = some (r, st')) : Met l yX5_isSound (Cond.code yX5_isSound cX5_isSound 1 (some .boolean) :: TG) ({ frames := 5, cells := 0, slots := 0, locals := 108 } : Room) (PX G A ad st [.ref (ad 0 0)]) (QX G A ad (some (.int r)) st') 0 0 A :=
  xw_of (own := RX5) hll (by decide +kernel) rfl (Nat.le_of_ble_eq_true rfl) fun p e s m below meth c ls B hM hS hl => w_X5_isSound B _ _ _ _ h hM hS hl
set_option maxHeartbeats 4000000 in
set_option maxRecDepth 100000 in
theorem w_X5_numberBehind_36 {p : Program} {l : Launch} {e : Env} {s : State} {m : MethodId} {args : Array Value} {below : List Frame} {meth : Method} {c : Code} {G : GG} {A : Nat → Prop} {ad : AD} (B : XB G A ad p l s m args meth c cX5_numberBehind 2 RX5 (some .int)) {r : Int32} {st' : XS} : ∀ (st : XS) (y0 : Int32) (H : Heap) (locs : List Loc) (ls : Array Slot), f_X5_numberBehind_36 st y0 = some (r, st') → XW G A ad st H → va_S A s.heap H locs → lv_has ls 2 [] → W p l e ({ frames := 3, cells := 0, slots := 0, locals := 64 } : Room) s m args below meth c H locs 0 0 (MQ below (QX G A ad (some (.int r)) st') args s 0 0 A) (F0 m 36 ls [.int y0]) := by
  have ⟨⟨hx, hb, hr, hml, hown, hT, hlocks, hK⟩, hnt, hST, hA, hll⟩ := B
  intro st y0 H locs ls h hM hS hl
  rw [f_X5_numberBehind_36] at h
  cases h
  exact xw_iret B hM hS (Nat.le_refl 0) (Nat.le_refl 0) dX5_numberBehind_36
set_option maxHeartbeats 4000000 in
set_option maxRecDepth 100000 in
theorem w_X5_numberBehind_16 {p : Program} {l : Launch} {e : Env} {s : State} {m : MethodId} {args : Array Value} {below : List Frame} {meth : Method} {c : Code} {G : GG} {A : Nat → Prop} {ad : AD} (B : XB G A ad p l s m args meth c cX5_numberBehind 2 RX5 (some .int)) {r : Int32} {st' : XS} : ∀ (st : XS) (H : Heap) (locs : List Loc) (ls : Array Slot), f_X5_numberBehind_16 st = some (r, st') → XW G A ad st H → va_S A s.heap H locs → lv_has ls 2 [] → W p l e ({ frames := 3, cells := 0, slots := 0, locals := 64 } : Room) s m args below meth c H locs 0 0 (MQ below (QX G A ad (some (.int r)) st') args s 0 0 A) (F0 m 16 ls []) := by
  have ⟨⟨hx, hb, hr, hml, hown, hT, hlocks, hK⟩, hnt, hST, hA, hll⟩ := B
  intro st  H locs ls h hM hS hl
  rw [f_X5_numberBehind_16] at h
  refine lv_iconst (v := 0) hx hb dX5_numberBehind_16 (by decide) ?_
  refine lv_goto (tgt := 36) hx hb dX5_numberBehind_17 (by decide) ?_
  exact w_X5_numberBehind_36 B _ _ _ _ _ h hM hS (lv_sub hl [] rfl)
set_option maxHeartbeats 4000000 in
set_option maxRecDepth 100000 in
theorem w_X5_numberBehind {p : Program} {l : Launch} {e : Env} {s : State} {m : MethodId} {args : Array Value} {below : List Frame} {meth : Method} {c : Code} {G : GG} {A : Nat → Prop} {ad : AD} (B : XB G A ad p l s m args meth c cX5_numberBehind 2 RX5 (some .int)) {r : Int32} {st' : XS} : ∀ (st : XS) (x1 : Int32) (H : Heap) (locs : List Loc) (ls : Array Slot), f_X5_numberBehind st x1 = some (r, st') → XW G A ad st H → va_S A s.heap H locs → lv_has ls 2 [(0, .ref (ad 0 0)), (1, .int x1)] → W p l e ({ frames := 3, cells := 0, slots := 0, locals := 64 } : Room) s m args below meth c H locs 0 0 (MQ below (QX G A ad (some (.int r)) st') args s 0 0 A) (F0 m 0 ls []) := by
  have ⟨⟨hx, hb, hr, hml, hown, hT, hlocks, hK⟩, hnt, hST, hA, hll⟩ := B
  intro st x1 H locs ls h hM hS hl
  rw [f_X5_numberBehind] at h
  refine lv_iload_n hx hb dX5_numberBehind_0 rfl (lv_at hl 1 rfl) ?_
  refine lv_iconst (v := 1) hx hb dX5_numberBehind_1 (by decide) ?_
  refine lv_icmp_lt (tgt := 16) hx hb dX5_numberBehind_2 (by decide) (fun c1 => ?_) (fun c1 => ?_)
  · have h := bi_t c1 h
    exact w_X5_numberBehind_16 B _ _ _ _ h hM hS (lv_sub hl [] rfl)
  · have h := bi_f c1 h
    refine lv_iload_n hx hb dX5_numberBehind_5 rfl (lv_at hl 1 rfl) ?_
    refine lv_aload_n hx hb dX5_numberBehind_6 rfl (lv_at hl 0 rfl) ?_
    refine xw_get B.1 hM 0 0 xv_0 (ci := 6) (N := 6) (fs := fTR ad st) (C := RX5) (T := TX5) (fun _ => rfl) rfl inX5 1 (by decide) wf_RX5_16 rfl (v := .ref (ad 13 1)) rfl dX5_numberBehind_7 ?_
    refine xw_size B hM hS 1 (by decide) wm_RX5_37 ⟨Nat.le_of_ble_eq_true rfl, Nat.le_of_ble_eq_true rfl⟩ ⟨Nat.le_refl 0, Nat.le_refl 0⟩ hl.1 (Nat.le_of_ble_eq_true rfl) dX5_numberBehind_10 ?_
    refine lv_icmp_le (tgt := 20) hx hb dX5_numberBehind_13 (by decide) (fun c2 => ?_) (fun c2 => ?_)
    · have h := bi_t c2 h
      refine lv_aload_n hx hb dX5_numberBehind_20 rfl (lv_at hl 0 rfl) ?_
      refine xw_get B.1 hM 0 0 xv_0 (ci := 6) (N := 6) (fs := fTR ad st) (C := RX5) (T := TX5) (fun _ => rfl) rfl inX5 1 (by decide) wf_RX5_16 rfl (v := .ref (ad 13 1)) rfl dX5_numberBehind_21 ?_
      refine lv_iload_n hx hb dX5_numberBehind_24 rfl (lv_at hl 1 rfl) ?_
      refine lv_iconst (v := 1) hx hb dX5_numberBehind_25 (by decide) ?_
      refine lv_isub hx hb dX5_numberBehind_26 ?_
      obtain ⟨g3, h⟩ := gd_e h
      refine xw_lget B hM hS 1 (by decide) wm_RX5_116 g3 ⟨Nat.le_of_ble_eq_true rfl, Nat.le_of_ble_eq_true rfl⟩ ⟨Nat.le_refl 0, Nat.le_refl 0⟩ hl.1 (Nat.le_of_ble_eq_true rfl) dX5_numberBehind_27 ?_
      obtain ⟨v4, h⟩ := gd_e h
      refine xw_castShot B.1 hM v4 wk_RX5_70 dX5_numberBehind_30 ?_
      refine xw_get B.1 hM 1 ((xL st 1).getD (x1 - 1).toNatClampNeg 0) (xv_s (k := 1) (by decide) v4) (ci := 5) (N := 12) (fs := fSh ad st ((xL st 1).getD (x1 - 1).toNatClampNeg 0)) (C := RX4) (T := TX4) (fun _ => rfl) rfl inX4 7 (by decide) wf_RX5_75 rfl (v := .int (xF st 1 ((xL st 1).getD (x1 - 1).toNatClampNeg 0) 7)) rfl dX5_numberBehind_33 ?_
      exact w_X5_numberBehind_36 B _ _ _ _ _ h hM hS (lv_sub hl [] rfl)
    · have h := bi_f c2 h
      exact w_X5_numberBehind_16 B _ _ _ _ h hM hS (lv_sub hl [] rfl)
theorem c_X5_numberBehind {l : Launch} (hll : l.stackTraces = false) {G : GG} {A : Nat → Prop} {ad : AD} {st : XS} {x1 : Int32} {r : Int32} {st' : XS} (h : f_X5_numberBehind st x1 = some (r, st')) : Met l yX5_numberBehind (Cond.code yX5_numberBehind cX5_numberBehind 2 (some .int) :: TG) ({ frames := 3, cells := 0, slots := 0, locals := 64 } : Room) (PX G A ad st [.ref (ad 0 0), .int x1]) (QX G A ad (some (.int r)) st') 0 0 A :=
  xw_of (own := RX5) hll (by decide +kernel) rfl (Nat.le_of_ble_eq_true rfl) fun p e s m below meth c ls B hM hS hl => w_X5_numberBehind B _ _ _ _ _ h hM hS hl
set_option maxHeartbeats 4000000 in
set_option maxRecDepth 100000 in
theorem w_X5_isNameTaken_46 {p : Program} {l : Launch} {e : Env} {s : State} {m : MethodId} {args : Array Value} {below : List Frame} {meth : Method} {c : Code} {G : GG} {A : Nat → Prop} {ad : AD} (B : XB G A ad p l s m args meth c cX5_isNameTaken 5 RX5 (some .boolean)) {r : Int32} {st' : XS} {k2 : XS → Int32 → Int32 → Int32 → Option (Int32 × XS)} (hk2 : ∀ (st : XS) (x1 : Int32) (x2 : Int32) (x3 : Int32) (H : Heap) (locs : List Loc) (ls : Array Slot), k2 st x1 x2 x3 = some (r, st') → XW G A ad st H → va_S A s.heap H locs → lv_has ls 5 [(0, .ref (ad 0 0)), (1, .int x1), (2, .int x2), (3, .int x3)] → W p l e ({ frames := 3, cells := 0, slots := 0, locals := 64 } : Room) s m args below meth c H locs 0 0 (MQ below (QX G A ad (some (.int r)) st') args s 0 0 A) (F0 m 2 ls [])) : ∀ (st : XS) (x1 : Int32) (x2 : Int32) (x3 : Int32) (H : Heap) (locs : List Loc) (ls : Array Slot), f_X5_isNameTaken_46 k2 st x1 x2 x3 = some (r, st') → XW G A ad st H → va_S A s.heap H locs → lv_has ls 5 [(0, .ref (ad 0 0)), (1, .int x1), (2, .int x2), (3, .int x3)] → W p l e ({ frames := 3, cells := 0, slots := 0, locals := 64 } : Room) s m args below meth c H locs 0 0 (MQ below (QX G A ad (some (.int r)) st') args s 0 0 A) (F0 m 46 ls []) := by
  have ⟨⟨hx, hb, hr, hml, hown, hT, hlocks, hK⟩, hnt, hST, hA, hll⟩ := B
  intro st x1 x2 x3 H locs ls h hM hS hl
  rw [f_X5_isNameTaken_46] at h
  refine lv_iinc (v := (x3 + 1)) (lv' := [(3, .int (x3 + 1)), (0, .ref (ad 0 0)), (1, .int x1), (2, .int x2)]) hx hb dX5_isNameTaken_46 hl (k := 3) rfl rfl (by decide) rfl (fun ls hl => ?_)
  refine lv_goto (tgt := 2) hx hb dX5_isNameTaken_49 (by decide) ?_
  exact hk2 _ _ _ _ _ _ _ h hM hS (lv_sub hl [1, 2, 3, 0] rfl)
set_option maxHeartbeats 4000000 in
set_option maxRecDepth 100000 in
theorem w_X5_isNameTaken_2 {p : Program} {l : Launch} {e : Env} {s : State} {m : MethodId} {args : Array Value} {below : List Frame} {meth : Method} {c : Code} {G : GG} {A : Nat → Prop} {ad : AD} (B : XB G A ad p l s m args meth c cX5_isNameTaken 5 RX5 (some .boolean)) {r : Int32} {st' : XS} : ∀ (n : Nat) (st : XS) (x1 : Int32) (x2 : Int32) (x3 : Int32) (H : Heap) (locs : List Loc) (ls : Array Slot), f_X5_isNameTaken_2 n st x1 x2 x3 = some (r, st') → XW G A ad st H → va_S A s.heap H locs → lv_has ls 5 [(0, .ref (ad 0 0)), (1, .int x1), (2, .int x2), (3, .int x3)] → W p l e ({ frames := 3, cells := 0, slots := 0, locals := 64 } : Room) s m args below meth c H locs 0 0 (MQ below (QX G A ad (some (.int r)) st') args s 0 0 A) (F0 m 2 ls []) := by
  have ⟨⟨hx, hb, hr, hml, hown, hT, hlocks, hK⟩, hnt, hST, hA, hll⟩ := B
  intro n
  induction n with
  | zero =>
    intro st x1 x2 x3 H locs ls h
    cases h
  | succ n ih =>
    intro st x1 x2 x3 H locs ls h hM hS hl
    rw [f_X5_isNameTaken_2] at h
    refine lv_iload_n hx hb dX5_isNameTaken_2 rfl (lv_at hl 3 rfl) ?_
    refine lv_aload_n hx hb dX5_isNameTaken_3 rfl (lv_at hl 0 rfl) ?_
    refine xw_get B.1 hM 0 0 xv_0 (ci := 6) (N := 6) (fs := fTR ad st) (C := RX5) (T := TX5) (fun _ => rfl) rfl inX5 0 (by decide) wf_RX5_10 rfl (v := .ref (ad 13 0)) rfl dX5_isNameTaken_4 ?_
    refine xw_size B hM hS 0 (by decide) wm_RX5_37 ⟨Nat.le_of_ble_eq_true rfl, Nat.le_of_ble_eq_true rfl⟩ ⟨Nat.le_refl 0, Nat.le_refl 0⟩ hl.1 (Nat.le_of_ble_eq_true rfl) dX5_isNameTaken_7 ?_
    refine lv_icmp_ge (tgt := 52) hx hb dX5_isNameTaken_10 (by decide) (fun c1 => ?_) (fun c1 => ?_)
    · have h := bi_t c1 h
      refine lv_iconst (v := 0) hx hb dX5_isNameTaken_52 (by decide) ?_
      cases h
      exact xw_zret B hM hS (Nat.le_refl 0) (Nat.le_refl 0) (by rfl) dX5_isNameTaken_53
    · have h := bi_f c1 h
      refine lv_aload_n hx hb dX5_isNameTaken_13 rfl (lv_at hl 0 rfl) ?_
      refine xw_get B.1 hM 0 0 xv_0 (ci := 6) (N := 6) (fs := fTR ad st) (C := RX5) (T := TX5) (fun _ => rfl) rfl inX5 0 (by decide) wf_RX5_10 rfl (v := .ref (ad 13 0)) rfl dX5_isNameTaken_14 ?_
      refine lv_iload_n hx hb dX5_isNameTaken_17 rfl (lv_at hl 3 rfl) ?_
      obtain ⟨g2, h⟩ := gd_e h
      refine xw_lget B hM hS 0 (by decide) wm_RX5_116 g2 ⟨Nat.le_of_ble_eq_true rfl, Nat.le_of_ble_eq_true rfl⟩ ⟨Nat.le_refl 0, Nat.le_refl 0⟩ hl.1 (Nat.le_of_ble_eq_true rfl) dX5_isNameTaken_18 ?_
      obtain ⟨v3, h⟩ := gd_e h
      refine xw_castShot B.1 hM v3 wk_RX5_70 dX5_isNameTaken_21 ?_
      refine lv_astore (lv' := [(4, .ref (ad 1 ((xL st 0).getD x3.toNatClampNeg 0))), (0, .ref (ad 0 0)), (1, .int x1), (2, .int x2), (3, .int x3)]) hx hb dX5_isNameTaken_24 hl (by decide) rfl (fun ls hl => ?_)
      refine lv_aload hx hb dX5_isNameTaken_26 (lv_at hl 0 rfl) ?_
      refine xw_get B.1 hM 1 ((xL st 0).getD x3.toNatClampNeg 0) (xv_s (k := 1) (by decide) v3) (ci := 5) (N := 12) (fs := fSh ad st ((xL st 0).getD x3.toNatClampNeg 0)) (C := RX4) (T := TX4) (fun _ => rfl) rfl inX4 7 (by decide) wf_RX5_75 rfl (v := .int (xF st 1 ((xL st 0).getD x3.toNatClampNeg 0) 7)) rfl dX5_isNameTaken_28 ?_
      refine lv_iload_n hx hb dX5_isNameTaken_31 rfl (lv_at hl 2 rfl) ?_
      refine lv_icmp_ne (tgt := 46) hx hb dX5_isNameTaken_32 (by decide) (fun c4 => ?_) (fun c4 => ?_)
      · have h := bi_f c4 h
        exact w_X5_isNameTaken_46 B ih _ _ _ _ _ _ _ h hM hS (lv_sub hl [1, 2, 3, 4] rfl)
      · have h := bi_t c4 h
        refine lv_aload hx hb dX5_isNameTaken_35 (lv_at hl 0 rfl) ?_
        refine xw_get B.1 hM 1 ((xL st 0).getD x3.toNatClampNeg 0) (xv_s (k := 1) (by decide) v3) (ci := 5) (N := 12) (fs := fSh ad st ((xL st 0).getD x3.toNatClampNeg 0)) (C := RX4) (T := TX4) (fun _ => rfl) rfl inX4 8 (by decide) wf_RX5_79 rfl (v := .int (xF st 1 ((xL st 0).getD x3.toNatClampNeg 0) 8)) rfl dX5_isNameTaken_37 ?_
        refine lv_iload_n hx hb dX5_isNameTaken_40 rfl (lv_at hl 3 rfl) ?_
        refine lv_icmp_ne (tgt := 46) hx hb dX5_isNameTaken_41 (by decide) (fun c5 => ?_) (fun c5 => ?_)
        · have h := bi_f c5 h
          exact w_X5_isNameTaken_46 B ih _ _ _ _ _ _ _ h hM hS (lv_sub hl [1, 2, 3, 4] rfl)
        · have h := bi_t c5 h
          refine lv_iconst (v := 1) hx hb dX5_isNameTaken_44 (by decide) ?_
          cases h
          exact xw_zret B hM hS (Nat.le_refl 0) (Nat.le_refl 0) (by rfl) dX5_isNameTaken_45
set_option maxHeartbeats 4000000 in
set_option maxRecDepth 100000 in
theorem w_X5_isNameTaken {p : Program} {l : Launch} {e : Env} {s : State} {m : MethodId} {args : Array Value} {below : List Frame} {meth : Method} {c : Code} {G : GG} {A : Nat → Prop} {ad : AD} (B : XB G A ad p l s m args meth c cX5_isNameTaken 5 RX5 (some .boolean)) {r : Int32} {st' : XS} : ∀ (st : XS) (x1 : Int32) (x2 : Int32) (H : Heap) (locs : List Loc) (ls : Array Slot), f_X5_isNameTaken st x1 x2 = some (r, st') → XW G A ad st H → va_S A s.heap H locs → lv_has ls 5 [(0, .ref (ad 0 0)), (1, .int x1), (2, .int x2)] → W p l e ({ frames := 3, cells := 0, slots := 0, locals := 64 } : Room) s m args below meth c H locs 0 0 (MQ below (QX G A ad (some (.int r)) st') args s 0 0 A) (F0 m 0 ls []) := by
  have ⟨⟨hx, hb, hr, hml, hown, hT, hlocks, hK⟩, hnt, hST, hA, hll⟩ := B
  intro st x1 x2 H locs ls h hM hS hl
  rw [f_X5_isNameTaken] at h
  refine lv_iconst (v := 0) hx hb dX5_isNameTaken_0 (by decide) ?_
  refine lv_istore_n (lv' := [(3, .int 0), (0, .ref (ad 0 0)), (1, .int x1), (2, .int x2)]) hx hb dX5_isNameTaken_1 rfl hl (by decide) rfl (fun ls hl => ?_)
  exact w_X5_isNameTaken_2 B FU _ _ _ _ _ _ _ h hM hS (lv_sub hl [1, 2, 3, 0] rfl)
theorem c_X5_isNameTaken {l : Launch} (hll : l.stackTraces = false) {G : GG} {A : Nat → Prop} {ad : AD} {st : XS} {x1 : Int32} {x2 : Int32} {r : Int32} {st' : XS} (h : f_X5_isNameTaken st x1 x2 = some (r, st')) : Met l yX5_isNameTaken (Cond.code yX5_isNameTaken cX5_isNameTaken 5 (some .boolean) :: TG) ({ frames := 3, cells := 0, slots := 0, locals := 64 } : Room) (PX G A ad st [.ref (ad 0 0), .int x1, .int x2]) (QX G A ad (some (.int r)) st') 0 0 A :=
  xw_of (own := RX5) hll (by decide +kernel) rfl (Nat.le_of_ble_eq_true rfl) fun p e s m below meth c ls B hM hS hl => w_X5_isNameTaken B _ _ _ _ _ _ h hM hS hl
set_option maxHeartbeats 4000000 in
set_option maxRecDepth 100000 in
theorem w_X5_freeLetter_3 {p : Program} {l : Launch} {e : Env} {s : State} {m : MethodId} {args : Array Value} {below : List Frame} {meth : Method} {c : Code} {G : GG} {A : Nat → Prop} {ad : AD} (B : XB G A ad p l s m args meth c cX5_freeLetter 3 RX5 (some .char)) {r : Int32} {st' : XS} : ∀ (n : Nat) (st : XS) (x1 : Int32) (x2 : Int32) (H : Heap) (locs : List Loc) (ls : Array Slot), f_X5_freeLetter_3 n st x1 x2 = some (r, st') → XW G A ad st H → va_S A s.heap H locs → lv_has ls 3 [(0, .ref (ad 0 0)), (1, .int x1), (2, .int x2)] → W p l e ({ frames := 4, cells := 0, slots := 0, locals := 88 } : Room) s m args below meth c H locs 0 0 (MQ below (QX G A ad (some (.int r)) st') args s 0 0 A) (F0 m 3 ls []) := by
  have ⟨⟨hx, hb, hr, hml, hown, hT, hlocks, hK⟩, hnt, hST, hA, hll⟩ := B
  intro n
  induction n with
  | zero =>
    intro st x1 x2 H locs ls h
    cases h
  | succ n ih =>
    intro st x1 x2 H locs ls h hM hS hl
    rw [f_X5_freeLetter_3] at h
    refine lv_iload_n hx hb dX5_freeLetter_3 rfl (lv_at hl 2 rfl) ?_
    refine lv_bipush (v := 70) hx hb dX5_freeLetter_4 (by decide) ?_
    refine lv_icmp_gt (tgt := 28) hx hb dX5_freeLetter_6 (by decide) (fun c1 => ?_) (fun c1 => ?_)
    · have h := bi_t c1 h
      refine lv_bipush (v := 45) hx hb dX5_freeLetter_28 (by decide) ?_
      cases h
      exact xw_zret B hM hS (Nat.le_refl 0) (Nat.le_refl 0) (by rfl) dX5_freeLetter_30
    · have h := bi_f c1 h
      refine lv_aload_n hx hb dX5_freeLetter_9 rfl (lv_at hl 0 rfl) ?_
      refine lv_iload_n hx hb dX5_freeLetter_10 rfl (lv_at hl 1 rfl) ?_
      refine lv_iload_n hx hb dX5_freeLetter_11 rfl (lv_at hl 2 rfl) ?_
      obtain ⟨r2, t3, e4, h⟩ := bd_e h
      refine xw_callV B hM hS (xw_recv (xb_vk B) hM 0 0 (Or.inl xv_0) (fun gh => ⟨_, rfl⟩) rfl) [.int x1, .int x2] (n := 2) (v := (some (.int r2))) (c_X5_isNameTaken B.2.2.2.2 e4) wm_RX5_358 wi_yX5_isNameTaken ws_yX5_isNameTaken wn_RX5 wc_yX5_isNameTaken rfl rfl (by decide +kernel) ⟨Nat.le_of_ble_eq_true rfl, Nat.le_of_ble_eq_true rfl⟩ ⟨Nat.le_refl 0, Nat.le_refl 0⟩ rfl hl.1 (Nat.le_of_ble_eq_true rfl) rfl dX5_freeLetter_12 (fun H locs hM hS => ?_)
      refine lv_if_ne (tgt := 20) hx hb dX5_freeLetter_15 (by decide) (fun c5 => ?_) (fun c5 => ?_)
      · have h := bi_f c5 h
        refine lv_iload_n hx hb dX5_freeLetter_20 rfl (lv_at hl 2 rfl) ?_
        refine lv_iconst (v := 1) hx hb dX5_freeLetter_21 (by decide) ?_
        refine lv_iadd hx hb dX5_freeLetter_22 ?_
        refine lv_i2c hx hb dX5_freeLetter_23 rfl ?_
        refine lv_istore_n (lv' := [(2, .int ((Int32.toUInt32 (x2 + 1) % 65536).toInt32)), (0, .ref (ad 0 0)), (1, .int x1)]) hx hb dX5_freeLetter_24 rfl hl (by decide) rfl (fun ls hl => ?_)
        refine lv_goto (tgt := 3) hx hb dX5_freeLetter_25 (by decide) ?_
        exact ih _ _ _ _ _ _ h hM hS (lv_sub hl [1, 2, 0] rfl)
      · have h := bi_t c5 h
        refine lv_iload_n hx hb dX5_freeLetter_18 rfl (lv_at hl 2 rfl) ?_
        obtain ⟨g6, h⟩ := gd_e h
        cases h
        exact xw_zret B hM hS (Nat.le_refl 0) (Nat.le_refl 0) g6 dX5_freeLetter_19
set_option maxHeartbeats 4000000 in
set_option maxRecDepth 100000 in
theorem w_X5_freeLetter {p : Program} {l : Launch} {e : Env} {s : State} {m : MethodId} {args : Array Value} {below : List Frame} {meth : Method} {c : Code} {G : GG} {A : Nat → Prop} {ad : AD} (B : XB G A ad p l s m args meth c cX5_freeLetter 3 RX5 (some .char)) {r : Int32} {st' : XS} : ∀ (st : XS) (x1 : Int32) (H : Heap) (locs : List Loc) (ls : Array Slot), f_X5_freeLetter st x1 = some (r, st') → XW G A ad st H → va_S A s.heap H locs → lv_has ls 3 [(0, .ref (ad 0 0)), (1, .int x1)] → W p l e ({ frames := 4, cells := 0, slots := 0, locals := 88 } : Room) s m args below meth c H locs 0 0 (MQ below (QX G A ad (some (.int r)) st') args s 0 0 A) (F0 m 0 ls []) := by
  have ⟨⟨hx, hb, hr, hml, hown, hT, hlocks, hK⟩, hnt, hST, hA, hll⟩ := B
  intro st x1 H locs ls h hM hS hl
  rw [f_X5_freeLetter] at h
  refine lv_bipush (v := 65) hx hb dX5_freeLetter_0 (by decide) ?_
  refine lv_istore_n (lv' := [(2, .int 65), (0, .ref (ad 0 0)), (1, .int x1)]) hx hb dX5_freeLetter_2 rfl hl (by decide) rfl (fun ls hl => ?_)
  exact w_X5_freeLetter_3 B FU _ _ _ _ _ _ h hM hS (lv_sub hl [1, 2, 0] rfl)
theorem c_X5_freeLetter {l : Launch} (hll : l.stackTraces = false) {G : GG} {A : Nat → Prop} {ad : AD} {st : XS} {x1 : Int32} {r : Int32} {st' : XS} (h : f_X5_freeLetter st x1 = some (r, st')) : Met l yX5_freeLetter (Cond.code yX5_freeLetter cX5_freeLetter 3 (some .char) :: TG) ({ frames := 4, cells := 0, slots := 0, locals := 88 } : Room) (PX G A ad st [.ref (ad 0 0), .int x1]) (QX G A ad (some (.int r)) st') 0 0 A :=
  xw_of (own := RX5) hll (by decide +kernel) rfl (Nat.le_of_ble_eq_true rfl) fun p e s m below meth c ls B hM hS hl => w_X5_freeLetter B _ _ _ _ _ h hM hS hl
