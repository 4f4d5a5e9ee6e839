/-! shot and note up to their ends, walked by program. -/
noncomputable def f_X5_shot_99 (st : XS) (x1 : Int32) (x2 : Int32) (x3 : Int32) (x4 : Int32) (x5 : Int32) (x6 : Int32) : Option ((Nat ⊕ Int32) × XS) := bi ((nI (xL st 0).length) < 24) (f_X5_shot_121 st x1 x2 x3 x4 x5 x6) (some (.inl 2, st))
noncomputable def f_X5_shot_73 (st : XS) (x1 : Int32) (x2 : Int32) (x3 : Int32) (x4 : Int32) (x5 : Int32) (y0 : Int32) : Option ((Nat ⊕ Int32) × XS) := bi ((xF st 0 0 4) = 0) (f_X5_shot_99 st x1 x2 x3 x4 x5 y0) (bi (y0 = 45) (some (.inl 1, st)) (f_X5_shot_99 st x1 x2 x3 x4 x5 y0))
noncomputable def f_X5_shot_53 (st : XS) (x1 : Int32) (x2 : Int32) (x3 : Int32) (x4 : Int32) (y0 : Int32) : Option ((Nat ⊕ Int32) × XS) := bi ((xF st 0 0 4) = 0) (f_X5_shot_73 st x1 x2 x3 x4 y0 45) (bd (f_X5_freeLetter st y0) (fun r2 t3 => f_X5_shot_73 t3 x1 x2 x3 x4 y0 r2))
noncomputable def f_X5_shot_26 (st : XS) : Option ((Nat ⊕ Int32) × XS) := some (.inl 0, st)
noncomputable def f_X5_shot (st : XS) (x1 : Int32) (x2 : Int32) (x3 : Int32) (x4 : Int32) : Option ((Nat ⊕ Int32) × XS) := bdx (f_X5_checkCamera st x1 x2) (fun r1 t2 => bdx (f_X5_checkLength t2 x3) (fun r5 t6 => bi (x4 < 0) (f_X5_shot_26 t6) (bi (x4 ≤ (nI (xL t6 1).length)) (bi ((xF t6 0 0 4) = 0) (f_X5_shot_53 t6 x1 x2 x3 x4 (-1)) (bd (f_X5_numberBehind t6 x4) (fun r12 t13 => f_X5_shot_53 t13 x1 x2 x3 x4 r12))) (f_X5_shot_26 t6))))
noncomputable def f_X5_note (st : XS) (x1 : Int32) : Option ((Nat ⊕ Int32) × XS) := bdx (f_X5_madeShot st x1) (fun r1 t2 => bdx (f_X5_checkInReel t2 r1) (fun r5 t6 => bi ((nI (xL t6 2).length) < 40) (f_X5_note_33 t6 r1) (some (.inl 2, t6))))
set_option maxHeartbeats 4000000 in
set_option maxRecDepth 100000 in
theorem w_X5_shot_99 {p : Program} {l : Launch} {e : Env} {s : State} {m : MethodId} {args : Array Value} {below : List Frame} {meth : Method} {c : Code} {G : GG} {A : Nat → Prop} {ad : AD} (B : XB G A ad p l s m args meth c cX5_shot 8 RX5 (some .int)) {r : (Nat ⊕ Int32)} {st' : XS} : ∀ (cells slots : Nat) (st : XS) (x1 : Int32) (x2 : Int32) (x3 : Int32) (x4 : Int32) (x5 : Int32) (x6 : Int32) (H : Heap) (locs : List Loc) (ls : Array Slot), cells + 9 ≤ 11 → slots + 236 ≤ 248 → f_X5_shot_99 st x1 x2 x3 x4 x5 x6 = some (r, st') → XW G A ad st H → va_S A s.heap H locs → lv_has ls 8 [(0, .ref (ad 0 0)), (1, .int x1), (2, .int x2), (3, .int x3), (4, .int x4), (5, .int x5), (6, .int x6)] → W p l e ({ frames := 8, cells := 11, slots := 248, locals := 400 } : Room) s m args below meth c H locs cells slots (vx_MQ below (QEr G A ad (ovw (fun x => some (.int x)) r) st') (QEx G A ad (ovw (fun x => some (.int x)) r) st') args s 11 248 A) (F0 m 99 ls []) := by
  have ⟨⟨hx, hb, hr, hml, hown, hT, hlocks, hK⟩, hnt, hST, hA, hll⟩ := B
  intro cells slots st x1 x2 x3 x4 x5 x6 H locs ls hc hs h hM hS hl
  rw [f_X5_shot_99] at h
  refine lv_aload_n hx hb dX5_shot_99 rfl (lv_at hl 0 rfl) ?_
  refine xw_get B.1 hM 0 0 xv_0 (ci := 6) (N := 6) (fs := fTR ad st) (C := RX5) (T := TX5) (fun _ => rfl) rfl inX5 0 (by decide) wf_RX5_10 rfl (v := .ref (ad 13 0)) rfl dX5_shot_100 ?_
  refine xw_size B hM hS 0 (by decide) wm_RX5_37 ⟨Nat.le_of_ble_eq_true rfl, Nat.le_of_ble_eq_true rfl⟩ ⟨(by show _ ≤ 11; omega), (by show _ ≤ 248; omega)⟩ hl.1 (Nat.le_of_ble_eq_true rfl) dX5_shot_103 ?_
  refine lv_bipush (v := 24) hx hb dX5_shot_106 (by decide) ?_
  refine lv_icmp_lt (tgt := 121) hx hb dX5_shot_108 (by decide) (fun c1 => ?_) (fun c1 => ?_)
  · have h := bi_t c1 h
    exact w_X5_shot_121 B _ _ _ _ _ _ _ _ _ _ _ _ (by omega) (by omega) h hM hS (lv_sub hl [0, 1, 2, 3, 4, 5, 6] rfl)
  · have h := bi_f c1 h
    cases h
    exact xe_mono <| xw_throw (k := 2) (ik := 65) (ic := 69) (is := 67) (text := "all shots were made") B hM hS wk_RX5_65 wn_java_lang_IllegalStateException at_2 an_2 ag_2 (by decide +kernel) (by decide +kernel) hl.1 ⟨⟨dX5_shot_111, dX5_shot_114⟩, Or.inl ⟨dX5_shot_115, dX5_shot_117, dX5_shot_120⟩⟩ (Nat.le_of_ble_eq_true rfl) (Nat.le_of_ble_eq_true rfl) (by show _ ≤ 11; omega) (by show _ ≤ 248; omega) (by omega) (by omega) rfl
set_option maxHeartbeats 4000000 in
set_option maxRecDepth 100000 in
theorem w_X5_shot_73 {p : Program} {l : Launch} {e : Env} {s : State} {m : MethodId} {args : Array Value} {below : List Frame} {meth : Method} {c : Code} {G : GG} {A : Nat → Prop} {ad : AD} (B : XB G A ad p l s m args meth c cX5_shot 8 RX5 (some .int)) {r : (Nat ⊕ Int32)} {st' : XS} : ∀ (cells slots : Nat) (st : XS) (x1 : Int32) (x2 : Int32) (x3 : Int32) (x4 : Int32) (x5 : Int32) (y0 : Int32) (H : Heap) (locs : List Loc) (ls : Array Slot), cells + 9 ≤ 11 → slots + 236 ≤ 248 → f_X5_shot_73 st x1 x2 x3 x4 x5 y0 = some (r, st') → XW G A ad st H → va_S A s.heap H locs → lv_has ls 8 [(0, .ref (ad 0 0)), (1, .int x1), (2, .int x2), (3, .int x3), (4, .int x4), (5, .int x5)] → W p l e ({ frames := 8, cells := 11, slots := 248, locals := 400 } : Room) s m args below meth c H locs cells slots (vx_MQ below (QEr G A ad (ovw (fun x => some (.int x)) r) st') (QEx G A ad (ovw (fun x => some (.int x)) r) st') args s 11 248 A) (F0 m 73 ls [.int y0]) := by
  have ⟨⟨hx, hb, hr, hml, hown, hT, hlocks, hK⟩, hnt, hST, hA, hll⟩ := B
  intro cells slots st x1 x2 x3 x4 x5 y0 H locs ls hc hs h hM hS hl
  rw [f_X5_shot_73] at h
  refine lv_istore (lv' := [(6, .int y0), (0, .ref (ad 0 0)), (1, .int x1), (2, .int x2), (3, .int x3), (4, .int x4), (5, .int x5)]) hx hb dX5_shot_73 hl (by decide) rfl (fun ls hl => ?_)
  refine lv_aload_n hx hb dX5_shot_75 rfl (lv_at hl 1 rfl) ?_
  refine xw_get B.1 hM 0 0 xv_0 (ci := 6) (N := 6) (fs := fTR ad st) (C := RX5) (T := TX5) (fun _ => rfl) rfl inX5 4 (by decide) wf_RX5_48 rfl (v := .int (xF st 0 0 4)) rfl dX5_shot_76 ?_
  refine lv_if_eq (tgt := 99) hx hb dX5_shot_79 (by decide) (fun c1 => ?_) (fun c1 => ?_)
  · have h := bi_t c1 h
    exact w_X5_shot_99 B _ _ _ _ _ _ _ _ _ _ _ _ (by omega) (by omega) h hM hS (lv_sub hl [1, 2, 3, 4, 5, 6, 0] rfl)
  · have h := bi_f c1 h
    refine lv_iload hx hb dX5_shot_82 (lv_at hl 0 rfl) ?_
    refine lv_bipush (v := 45) hx hb dX5_shot_84 (by decide) ?_
    refine lv_icmp_ne (tgt := 99) hx hb dX5_shot_86 (by decide) (fun c2 => ?_) (fun c2 => ?_)
    · have h := bi_f c2 h
      exact w_X5_shot_99 B _ _ _ _ _ _ _ _ _ _ _ _ (by omega) (by omega) h hM hS (lv_sub hl [1, 2, 3, 4, 5, 6, 0] rfl)
    · have h := bi_t c2 h
      cases h
      exact xe_mono <| xw_throw (k := 1) (ik := 60) (ic := 64) (is := 62) (text := "all letters are used") B hM hS wk_RX5_60 wn_java_lang_UnsupportedOperationException at_1 an_1 ag_1 (by decide +kernel) (by decide +kernel) hl.1 ⟨⟨dX5_shot_89, dX5_shot_92⟩, Or.inl ⟨dX5_shot_93, dX5_shot_95, dX5_shot_98⟩⟩ (Nat.le_of_ble_eq_true rfl) (Nat.le_of_ble_eq_true rfl) (by show _ ≤ 11; omega) (by show _ ≤ 248; omega) (by omega) (by omega) rfl
set_option maxHeartbeats 4000000 in
set_option maxRecDepth 100000 in
theorem w_X5_shot_53 {p : Program} {l : Launch} {e : Env} {s : State} {m : MethodId} {args : Array Value} {below : List Frame} {meth : Method} {c : Code} {G : GG} {A : Nat → Prop} {ad : AD} (B : XB G A ad p l s m args meth c cX5_shot 8 RX5 (some .int)) {r : (Nat ⊕ Int32)} {st' : XS} : ∀ (cells slots : Nat) (st : XS) (x1 : Int32) (x2 : Int32) (x3 : Int32) (x4 : Int32) (y0 : Int32) (H : Heap) (locs : List Loc) (ls : Array Slot), cells + 9 ≤ 11 → slots + 236 ≤ 248 → f_X5_shot_53 st x1 x2 x3 x4 y0 = some (r, st') → XW G A ad st H → va_S A s.heap H locs → lv_has ls 8 [(0, .ref (ad 0 0)), (1, .int x1), (2, .int x2), (3, .int x3), (4, .int x4)] → W p l e ({ frames := 8, cells := 11, slots := 248, locals := 400 } : Room) s m args below meth c H locs cells slots (vx_MQ below (QEr G A ad (ovw (fun x => some (.int x)) r) st') (QEx G A ad (ovw (fun x => some (.int x)) r) st') args s 11 248 A) (F0 m 53 ls [.int y0]) := by
  have ⟨⟨hx, hb, hr, hml, hown, hT, hlocks, hK⟩, hnt, hST, hA, hll⟩ := B
  intro cells slots st x1 x2 x3 x4 y0 H locs ls hc hs h hM hS hl
  rw [f_X5_shot_53] at h
  refine lv_istore (lv' := [(5, .int y0), (0, .ref (ad 0 0)), (1, .int x1), (2, .int x2), (3, .int x3), (4, .int x4)]) hx hb dX5_shot_53 hl (by decide) rfl (fun ls hl => ?_)
  refine lv_aload_n hx hb dX5_shot_55 rfl (lv_at hl 1 rfl) ?_
  refine xw_get B.1 hM 0 0 xv_0 (ci := 6) (N := 6) (fs := fTR ad st) (C := RX5) (T := TX5) (fun _ => rfl) rfl inX5 4 (by decide) wf_RX5_48 rfl (v := .int (xF st 0 0 4)) rfl dX5_shot_56 ?_
  refine lv_if_eq (tgt := 71) hx hb dX5_shot_59 (by decide) (fun c1 => ?_) (fun c1 => ?_)
  · have h := bi_t c1 h
    refine lv_bipush (v := 45) hx hb dX5_shot_71 (by decide) ?_
    exact w_X5_shot_73 B _ _ _ _ _ _ _ _ _ _ _ _ (by omega) (by omega) h hM hS (lv_sub hl [1, 2, 3, 4, 5, 0] rfl)
  · have h := bi_f c1 h
    refine lv_aload_n hx hb dX5_shot_62 rfl (lv_at hl 1 rfl) ?_
    refine lv_iload hx hb dX5_shot_63 (lv_at hl 0 rfl) ?_
    obtain ⟨r2, t3, e4, h⟩ := bd_e h
    refine xw_callV B hM hS (xw_recv (xb_vk B) hM 0 0 (Or.inl xv_0) (fun gh => ⟨_, rfl⟩) rfl) [.int y0] (n := 1) (v := (some (.int r2))) (c_X5_freeLetter B.2.2.2.2 e4) wm_RX5_56 wi_yX5_freeLetter ws_yX5_freeLetter wn_RX5 wc_yX5_freeLetter rfl rfl (by decide +kernel) ⟨Nat.le_of_ble_eq_true rfl, Nat.le_of_ble_eq_true rfl⟩ ⟨(by show _ ≤ 11; omega), (by show _ ≤ 248; omega)⟩ rfl hl.1 (Nat.le_of_ble_eq_true rfl) rfl dX5_shot_65 (fun H locs hM hS => ?_)
    refine lv_goto (tgt := 73) hx hb dX5_shot_68 (by decide) ?_
    exact w_X5_shot_73 B _ _ _ _ _ _ _ _ _ _ _ _ (by omega) (by omega) h hM hS (lv_sub hl [1, 2, 3, 4, 5, 0] rfl)
set_option maxHeartbeats 4000000 in
set_option maxRecDepth 100000 in
theorem w_X5_shot_26 {p : Program} {l : Launch} {e : Env} {s : State} {m : MethodId} {args : Array Value} {below : List Frame} {meth : Method} {c : Code} {G : GG} {A : Nat → Prop} {ad : AD} (B : XB G A ad p l s m args meth c cX5_shot 8 RX5 (some .int)) {r : (Nat ⊕ Int32)} {st' : XS} : ∀ (cells slots : Nat) (st : XS) (H : Heap) (locs : List Loc) (ls : Array Slot), cells + 1 ≤ 11 → slots + 6 ≤ 248 → f_X5_shot_26 st = some (r, st') → XW G A ad st H → va_S A s.heap H locs → lv_has ls 8 [] → W p l e ({ frames := 8, cells := 11, slots := 248, locals := 400 } : Room) s m args below meth c H locs cells slots (vx_MQ below (QEr G A ad (ovw (fun x => some (.int x)) r) st') (QEx G A ad (ovw (fun x => some (.int x)) r) st') args s 11 248 A) (F0 m 26 ls []) := by
  have ⟨⟨hx, hb, hr, hml, hown, hT, hlocks, hK⟩, hnt, hST, hA, hll⟩ := B
  intro cells slots st  H locs ls hc hs h hM hS hl
  rw [f_X5_shot_26] at h
  cases h
  exact xe_mono <| xw_throw (k := 0) (ik := 41) (ic := 45) (is := 43) (text := "no such place") B hM hS wk_RX5_41 wn_java_lang_IllegalArgumentException at_0 an_0 ag_0 (by decide +kernel) (by decide +kernel) hl.1 ⟨⟨dX5_shot_26, dX5_shot_29⟩, Or.inl ⟨dX5_shot_30, dX5_shot_32, dX5_shot_35⟩⟩ (Nat.le_of_ble_eq_true rfl) (Nat.le_of_ble_eq_true rfl) (by show _ ≤ 11; omega) (by show _ ≤ 248; omega) (by omega) (by omega) rfl
set_option maxHeartbeats 4000000 in
set_option maxRecDepth 100000 in
theorem w_X5_shot {p : Program} {l : Launch} {e : Env} {s : State} {m : MethodId} {args : Array Value} {below : List Frame} {meth : Method} {c : Code} {G : GG} {A : Nat → Prop} {ad : AD} (B : XB G A ad p l s m args meth c cX5_shot 8 RX5 (some .int)) {r : (Nat ⊕ Int32)} {st' : XS} : ∀ (cells slots : Nat) (st : XS) (x1 : Int32) (x2 : Int32) (x3 : Int32) (x4 : Int32) (H : Heap) (locs : List Loc) (ls : Array Slot), cells + 11 ≤ 11 → slots + 248 ≤ 248 → f_X5_shot st x1 x2 x3 x4 = some (r, st') → XW G A ad st H → va_S A s.heap H locs → lv_has ls 8 [(0, .ref (ad 0 0)), (1, .int x1), (2, .int x2), (3, .int x3), (4, .int x4)] → W p l e ({ frames := 8, cells := 11, slots := 248, locals := 400 } : Room) s m args below meth c H locs cells slots (vx_MQ below (QEr G A ad (ovw (fun x => some (.int x)) r) st') (QEx G A ad (ovw (fun x => some (.int x)) r) st') args s 11 248 A) (F0 m 0 ls []) := by
  have ⟨⟨hx, hb, hr, hml, hown, hT, hlocks, hK⟩, hnt, hST, hA, hll⟩ := B
  intro cells slots st x1 x2 x3 x4 H locs ls hc hs h hM hS hl
  rw [f_X5_shot] at h
  refine lv_iload_n hx hb dX5_shot_0 rfl (lv_at hl 1 rfl) ?_
  refine lv_iload_n hx hb dX5_shot_1 rfl (lv_at hl 2 rfl) ?_
  rcases bdx_e h with ⟨k4, t2, e3, h⟩ | ⟨r1, t2, e3, h⟩
  · cases h
    exact xe_mono <| xx_goS B hM hS [.int x1, .int x2] (n := 2) (c_X5_checkCamera B.2.2.2.2 e3) wm_RX5_29 wt_yX5_checkCamera wn_RX5 wc_yX5_checkCamera rfl rfl (by decide +kernel) ⟨Nat.le_of_ble_eq_true rfl, Nat.le_of_ble_eq_true rfl⟩ ⟨(by show _ ≤ 11; omega), (by show _ ≤ 248; omega)⟩ rfl hl.1 (Nat.le_of_ble_eq_true rfl) rfl dX5_shot_2 (by omega) (by omega) rfl
  · refine xx_callS B hM hS [.int x1, .int x2] (n := 2) (v := none) (c_X5_checkCamera B.2.2.2.2 e3) wm_RX5_29 wt_yX5_checkCamera wn_RX5 wc_yX5_checkCamera rfl rfl (by decide +kernel) ⟨Nat.le_of_ble_eq_true rfl, Nat.le_of_ble_eq_true rfl⟩ ⟨(by show _ ≤ 11; omega), (by show _ ≤ 248; omega)⟩ rfl hl.1 (Nat.le_of_ble_eq_true rfl) rfl dX5_shot_2 (fun H locs hM hS => ?_)
    refine lv_iload_n hx hb dX5_shot_5 rfl (lv_at hl 3 rfl) ?_
    rcases bdx_e h with ⟨k8, t6, e7, h⟩ | ⟨r5, t6, e7, h⟩
    · cases h
      exact xe_mono <| xx_goS B hM hS [.int x3] (n := 1) (c_X5_checkLength B.2.2.2.2 e7) wm_RX5_33 wt_yX5_checkLength wn_RX5 wc_yX5_checkLength rfl rfl (by decide +kernel) ⟨Nat.le_of_ble_eq_true rfl, Nat.le_of_ble_eq_true rfl⟩ ⟨(by show _ ≤ 11; omega), (by show _ ≤ 248; omega)⟩ rfl hl.1 (Nat.le_of_ble_eq_true rfl) rfl dX5_shot_6 (by omega) (by omega) rfl
    · refine xx_callS B hM hS [.int x3] (n := 1) (v := none) (c_X5_checkLength B.2.2.2.2 e7) wm_RX5_33 wt_yX5_checkLength wn_RX5 wc_yX5_checkLength rfl rfl (by decide +kernel) ⟨Nat.le_of_ble_eq_true rfl, Nat.le_of_ble_eq_true rfl⟩ ⟨(by show _ ≤ 11; omega), (by show _ ≤ 248; omega)⟩ rfl hl.1 (Nat.le_of_ble_eq_true rfl) rfl dX5_shot_6 (fun H locs hM hS => ?_)
      refine lv_iload hx hb dX5_shot_9 (lv_at hl 4 rfl) ?_
      refine lv_if_lt (tgt := 26) hx hb dX5_shot_11 (by decide) (fun c9 => ?_) (fun c9 => ?_)
      · have h := bi_t c9 h
        exact w_X5_shot_26 B _ _ _ _ _ _ (by omega) (by omega) h hM hS (lv_sub hl [] rfl)
      · have h := bi_f c9 h
        refine lv_iload hx hb dX5_shot_14 (lv_at hl 4 rfl) ?_
        refine lv_aload_n hx hb dX5_shot_16 rfl (lv_at hl 0 rfl) ?_
        refine xw_get B.1 hM 0 0 xv_0 (ci := 6) (N := 6) (fs := fTR ad t6) (C := RX5) (T := TX5) (fun _ => rfl) rfl inX5 1 (by decide) wf_RX5_16 rfl (v := .ref (ad 13 1)) rfl dX5_shot_17 ?_
        refine xw_size B hM hS 1 (by decide) wm_RX5_37 ⟨Nat.le_of_ble_eq_true rfl, Nat.le_of_ble_eq_true rfl⟩ ⟨(by show _ ≤ 11; omega), (by show _ ≤ 248; omega)⟩ hl.1 (Nat.le_of_ble_eq_true rfl) dX5_shot_20 ?_
        refine lv_icmp_le (tgt := 36) hx hb dX5_shot_23 (by decide) (fun c10 => ?_) (fun c10 => ?_)
        · have h := bi_t c10 h
          refine lv_aload_n hx hb dX5_shot_36 rfl (lv_at hl 0 rfl) ?_
          refine xw_get B.1 hM 0 0 xv_0 (ci := 6) (N := 6) (fs := fTR ad t6) (C := RX5) (T := TX5) (fun _ => rfl) rfl inX5 4 (by decide) wf_RX5_48 rfl (v := .int (xF t6 0 0 4)) rfl dX5_shot_37 ?_
          refine lv_if_eq (tgt := 52) hx hb dX5_shot_40 (by decide) (fun c11 => ?_) (fun c11 => ?_)
          · have h := bi_t c11 h
            refine lv_iconst (v := (-1)) hx hb dX5_shot_52 (by decide) ?_
            exact w_X5_shot_53 B _ _ _ _ _ _ _ _ _ _ _ (by omega) (by omega) h hM hS (lv_sub hl [0, 1, 2, 3, 4] rfl)
          · have h := bi_f c11 h
            refine lv_aload_n hx hb dX5_shot_43 rfl (lv_at hl 0 rfl) ?_
            refine lv_iload hx hb dX5_shot_44 (lv_at hl 4 rfl) ?_
            obtain ⟨r12, t13, e14, h⟩ := bd_e h
            refine xw_callV B hM hS (xw_recv (xb_vk B) hM 0 0 (Or.inl xv_0) (fun gh => ⟨_, rfl⟩) rfl) [.int x4] (n := 1) (v := (some (.int r12))) (c_X5_numberBehind B.2.2.2.2 e14) wm_RX5_52 wi_yX5_numberBehind ws_yX5_numberBehind wn_RX5 wc_yX5_numberBehind rfl rfl (by decide +kernel) ⟨Nat.le_of_ble_eq_true rfl, Nat.le_of_ble_eq_true rfl⟩ ⟨(by show _ ≤ 11; omega), (by show _ ≤ 248; omega)⟩ rfl hl.1 (Nat.le_of_ble_eq_true rfl) rfl dX5_shot_46 (fun H locs hM hS => ?_)
            refine lv_goto (tgt := 53) hx hb dX5_shot_49 (by decide) ?_
            exact w_X5_shot_53 B _ _ _ _ _ _ _ _ _ _ _ (by omega) (by omega) h hM hS (lv_sub hl [0, 1, 2, 3, 4] rfl)
        · have h := bi_f c10 h
          exact w_X5_shot_26 B _ _ _ _ _ _ (by omega) (by omega) h hM hS (lv_sub hl [] rfl)
theorem c_X5_shot {l : Launch} (hll : l.stackTraces = false) {G : GG} {A : Nat → Prop} {ad : AD} {st : XS} {x1 : Int32} {x2 : Int32} {x3 : Int32} {x4 : Int32} {r : (Nat ⊕ Int32)} {st' : XS} (h : f_X5_shot st x1 x2 x3 x4 = some (r, st')) : vx_Met l yX5_shot (Cond.code yX5_shot cX5_shot 8 (some .int) :: TG) ({ frames := 8, cells := 11, slots := 248, locals := 400 } : Room) (PX G A ad st [.ref (ad 0 0), .int x1, .int x2, .int x3, .int x4]) (QEr G A ad (ovw (fun x => some (.int x)) r) st') (QEx G A ad (ovw (fun x => some (.int x)) r) st') 11 248 A :=
  xe_of (own := RX5) hll (by decide +kernel) rfl (Nat.le_of_ble_eq_true rfl) fun p e s m below meth c ls B hM hS hl => w_X5_shot B _ _ _ _ _ _ _ _ _ _ (Nat.le_of_ble_eq_true rfl) (Nat.le_of_ble_eq_true rfl) h hM hS hl
set_option maxHeartbeats 4000000 in
set_option maxRecDepth 100000 in
theorem w_X5_note {p : Program} {l : Launch} {e : Env} {s : State} {m : MethodId} {args : Array Value} {below : List Frame} {meth : Method} {c : Code} {G : GG} {A : Nat → Prop} {ad : AD} (B : XB G A ad p l s m args meth c cX5_note 3 RX5 (some .int)) {r : (Nat ⊕ Int32)} {st' : XS} : ∀ (cells slots : Nat) (st : XS) (x1 : Int32) (H : Heap) (locs : List Loc) (ls : Array Slot), cells + 4 ≤ 4 → slots + 115 ≤ 115 → f_X5_note st x1 = some (r, st') → XW G A ad st H → va_S A s.heap H locs → lv_has ls 3 [(0, .ref (ad 0 0)), (1, .int x1)] → W p l e ({ frames := 8, cells := 4, slots := 115, locals := 400 } : Room) s m args below meth c H locs cells slots (vx_MQ below (QEr G A ad (ovw (fun x => some (.int x)) r) st') (QEx G A ad (ovw (fun x => some (.int x)) r) st') args s 4 115 A) (F0 m 0 ls []) := by
  have ⟨⟨hx, hb, hr, hml, hown, hT, hlocks, hK⟩, hnt, hST, hA, hll⟩ := B
  intro cells slots st x1 H locs ls hc hs h hM hS hl
  rw [f_X5_note] at h
  refine lv_aload_n hx hb dX5_note_0 rfl (lv_at hl 0 rfl) ?_
  refine lv_iload_n hx hb dX5_note_1 rfl (lv_at hl 1 rfl) ?_
  rcases bdx_e h with ⟨k4, t2, e3, h⟩ | ⟨r1, t2, e3, h⟩
  · cases h
    exact xe_mono <| xx_goV B hM hS (xw_recv (xb_vk B) hM 0 0 (Or.inl xv_0) (fun gh => ⟨_, rfl⟩) rfl) [.int x1] (n := 1) (c_X5_madeShot B.2.2.2.2 e3) wm_RX5_93 wi_yX5_madeShot ws_yX5_madeShot wn_RX5 wc_yX5_madeShot rfl rfl (by decide +kernel) ⟨Nat.le_of_ble_eq_true rfl, Nat.le_of_ble_eq_true rfl⟩ ⟨(by show _ ≤ 4; omega), (by show _ ≤ 115; omega)⟩ rfl hl.1 (Nat.le_of_ble_eq_true rfl) rfl dX5_note_2 (by omega) (by omega) rfl
  · refine xx_callV B hM hS (xw_recv (xb_vk B) hM 0 0 (Or.inl xv_0) (fun gh => ⟨_, rfl⟩) rfl) [.int x1] (n := 1) (v := (some (.ref (ad 1 r1)))) (c_X5_madeShot B.2.2.2.2 e3) wm_RX5_93 wi_yX5_madeShot ws_yX5_madeShot wn_RX5 wc_yX5_madeShot rfl rfl (by decide +kernel) ⟨Nat.le_of_ble_eq_true rfl, Nat.le_of_ble_eq_true rfl⟩ ⟨(by show _ ≤ 4; omega), (by show _ ≤ 115; omega)⟩ rfl hl.1 (Nat.le_of_ble_eq_true rfl) rfl dX5_note_2 (fun H locs hM hS => ?_)
    refine lv_astore_n (lv' := [(2, .ref (ad 1 r1)), (0, .ref (ad 0 0)), (1, .int x1)]) hx hb dX5_note_5 rfl hl (by decide) rfl (fun ls hl => ?_)
    refine lv_aload_n hx hb dX5_note_6 rfl (lv_at hl 1 rfl) ?_
    refine lv_aload_n hx hb dX5_note_7 rfl (lv_at hl 0 rfl) ?_
    rcases bdx_e h with ⟨k8, t6, e7, h⟩ | ⟨r5, t6, e7, h⟩
    · cases h
      exact xe_mono <| xx_goV B hM hS (xw_recv (xb_vk B) hM 0 0 (Or.inl xv_0) (fun gh => ⟨_, rfl⟩) rfl) [.ref (ad 1 r1)] (n := 1) (c_X5_checkInReel B.2.2.2.2 e7) wm_RX5_122 wi_yX5_checkInReel ws_yX5_checkInReel wn_RX5 wc_yX5_checkInReel rfl rfl (by decide +kernel) ⟨Nat.le_of_ble_eq_true rfl, Nat.le_of_ble_eq_true rfl⟩ ⟨(by show _ ≤ 4; omega), (by show _ ≤ 115; omega)⟩ rfl hl.1 (Nat.le_of_ble_eq_true rfl) rfl dX5_note_8 (by omega) (by omega) rfl
    · refine xx_callV B hM hS (xw_recv (xb_vk B) hM 0 0 (Or.inl xv_0) (fun gh => ⟨_, rfl⟩) rfl) [.ref (ad 1 r1)] (n := 1) (v := none) (c_X5_checkInReel B.2.2.2.2 e7) wm_RX5_122 wi_yX5_checkInReel ws_yX5_checkInReel wn_RX5 wc_yX5_checkInReel rfl rfl (by decide +kernel) ⟨Nat.le_of_ble_eq_true rfl, Nat.le_of_ble_eq_true rfl⟩ ⟨(by show _ ≤ 4; omega), (by show _ ≤ 115; omega)⟩ rfl hl.1 (Nat.le_of_ble_eq_true rfl) rfl dX5_note_8 (fun H locs hM hS => ?_)
      refine lv_aload_n hx hb dX5_note_11 rfl (lv_at hl 1 rfl) ?_
      refine xw_get B.1 hM 0 0 xv_0 (ci := 6) (N := 6) (fs := fTR ad t6) (C := RX5) (T := TX5) (fun _ => rfl) rfl inX5 2 (by decide) wf_RX5_19 rfl (v := .ref (ad 13 2)) rfl dX5_note_12 ?_
      refine xw_size B hM hS 2 (by decide) wm_RX5_37 ⟨Nat.le_of_ble_eq_true rfl, Nat.le_of_ble_eq_true rfl⟩ ⟨(by show _ ≤ 4; omega), (by show _ ≤ 115; omega)⟩ hl.1 (Nat.le_of_ble_eq_true rfl) dX5_note_15 ?_
      refine lv_bipush (v := 40) hx hb dX5_note_18 (by decide) ?_
      refine lv_icmp_lt (tgt := 33) hx hb dX5_note_20 (by decide) (fun c9 => ?_) (fun c9 => ?_)
      · have h := bi_t c9 h
        exact w_X5_note_33 B _ _ _ _ _ _ _ (by omega) (by omega) h hM hS (lv_sub hl [1, 0] rfl)
      · have h := bi_f c9 h
        cases h
        exact xe_mono <| xw_throw (k := 2) (ik := 65) (ic := 69) (is := 243) (text := "all notes were made") B hM hS wk_RX5_65 wn_java_lang_IllegalStateException at_2 an_2 ag_2 (by decide +kernel) (by decide +kernel) hl.1 ⟨⟨dX5_note_23, dX5_note_26⟩, Or.inl ⟨dX5_note_27, dX5_note_29, dX5_note_32⟩⟩ (Nat.le_of_ble_eq_true rfl) (Nat.le_of_ble_eq_true rfl) (by show _ ≤ 4; omega) (by show _ ≤ 115; omega) (by omega) (by omega) rfl
theorem c_X5_note {l : Launch} (hll : l.stackTraces = false) {G : GG} {A : Nat → Prop} {ad : AD} {st : XS} {x1 : Int32} {r : (Nat ⊕ Int32)} {st' : XS} (h : f_X5_note st x1 = some (r, st')) : vx_Met l yX5_note (Cond.code yX5_note cX5_note 3 (some .int) :: TG) ({ frames := 8, cells := 4, slots := 115, locals := 400 } : Room) (PX G A ad st [.ref (ad 0 0), .int x1]) (QEr G A ad (ovw (fun x => some (.int x)) r) st') (QEx G A ad (ovw (fun x => some (.int x)) r) st') 4 115 A :=
  xe_of (own := RX5) hll (by decide +kernel) rfl (Nat.le_of_ble_eq_true rfl) fun p e s m below meth c ls B hM hS hl => w_X5_note B _ _ _ _ _ _ _ (Nat.le_of_ble_eq_true rfl) (Nat.le_of_ble_eq_true rfl) h hM hS hl
