set_option maxHeartbeats 4000000 in
set_option maxRecDepth 100000 in
theorem w_X6_wrongWith_117 {p : Program} {l : Launch} {e : Env} {s : State} {m : MethodId} {args : Array Value} {below : List Frame} {meth : Method} {c : Code} {G : GG} {A : Nat → Prop} {ad : Nat → Nat} (B : MB G p s m args meth c cX6_wrongWith 4 RX6 (some .char)) {r : Int32} {st' : MS} : ∀ (st : MS) (y0 : Int32) (H : Heap) (locs : List Loc) (ls : Array Slot), f_X6_wrongWith_117 st y0 = some (r, st') → MW G A ad st H → va_S A s.heap H locs → lv_has ls 4 [] → W p l e ({ frames := 3, cells := 0, slots := 0, locals := 72 } : Room) s m args below meth c H locs 0 0 (MQ below (QM G A ad (some (.int r)) st') args s 0 0 A) (F0 m 117 ls [.int y0]) := by
  have ⟨hx, hb, hr, hml, hown, hT, hlocks, hK⟩ := B
  intro st y0 H locs ls h hM hS hl
  rw [f_X6_wrongWith_117] at h
  obtain ⟨g1, h⟩ := gd_e h
  cases h
  exact mw_zret B hM hS g1 dX6_wrongWith_117
set_option maxHeartbeats 4000000 in
set_option maxRecDepth 100000 in
theorem w_X6_wrongWith_49 {p : Program} {l : Launch} {e : Env} {s : State} {m : MethodId} {args : Array Value} {below : List Frame} {meth : Method} {c : Code} {G : GG} {A : Nat → Prop} {ad : Nat → Nat} (B : MB G p s m args meth c cX6_wrongWith 4 RX6 (some .char)) {r : Int32} {st' : MS} : ∀ (st : MS) (x1 : Int32) (x2 : Int32) (y0 : Int32) (H : Heap) (locs : List Loc) (ls : Array Slot), f_X6_wrongWith_49 st x1 x2 y0 = some (r, st') → MW G A ad st H → va_S A s.heap H locs → lv_has ls 4 [(0, .ref (ad 0)), (1, .int x1), (2, .int x2)] → W p l e ({ frames := 3, cells := 0, slots := 0, locals := 72 } : Room) s m args below meth c H locs 0 0 (MQ below (QM G A ad (some (.int r)) st') args s 0 0 A) (F0 m 49 ls [.int y0]) := by
  have ⟨hx, hb, hr, hml, hown, hT, hlocks, hK⟩ := B
  intro st x1 x2 y0 H locs ls h hM hS hl
  rw [f_X6_wrongWith_49] at h
  refine lv_istore_n (lv' := [(3, .int y0), (0, .ref (ad 0)), (1, .int x1), (2, .int x2)]) hx hb dX6_wrongWith_49 rfl hl (by decide) rfl (fun ls hl => ?_)
  refine lv_iload_n hx hb dX6_wrongWith_50 rfl (lv_at hl 0 rfl) ?_
  refine lv_if_eq (tgt := 59) hx hb dX6_wrongWith_51 (by decide) (fun c1 => ?_) (fun c1 => ?_)
  · have h := bi_t c1 h
    refine lv_aload_n hx hb dX6_wrongWith_59 rfl (lv_at hl 1 rfl) ?_
    refine lv_iload_n hx hb dX6_wrongWith_60 rfl (lv_at hl 2 rfl) ?_
    refine lv_iload_n hx hb dX6_wrongWith_61 rfl (lv_at hl 3 rfl) ?_
    obtain ⟨r2, t3, e4, h⟩ := bd_e h
    refine mw_callV B hM hS [.int x1, .int x2] (n := 2) (v := (some (.int r2))) (c_X6_areSame e4) wm_RX6_167 wi_yX6_areSame ws_yX6_areSame wc_yX6_areSame rfl rfl (by decide +kernel) ⟨Nat.le_of_ble_eq_true rfl, Nat.le_of_ble_eq_true rfl⟩ ⟨Nat.le_refl 0, Nat.le_refl 0⟩ rfl hl.1 (Nat.le_of_ble_eq_true rfl) rfl dX6_wrongWith_62 (fun H locs hM hS => ?_)
    refine lv_if_eq (tgt := 73) hx hb dX6_wrongWith_65 (by decide) (fun c5 => ?_) (fun c5 => ?_)
    · have h := bi_t c5 h
      refine lv_aload_n hx hb dX6_wrongWith_73 rfl (lv_at hl 1 rfl) ?_
      refine lv_iload_n hx hb dX6_wrongWith_74 rfl (lv_at hl 2 rfl) ?_
      refine lv_iload_n hx hb dX6_wrongWith_75 rfl (lv_at hl 3 rfl) ?_
      obtain ⟨r6, t7, e8, h⟩ := bd_e h
      refine mw_callV B hM hS [.int x1, .int x2] (n := 2) (v := (some (.int r6))) (c_X6_areBadGazes e8) wm_RX6_170 wi_yX6_areBadGazes ws_yX6_areBadGazes wc_yX6_areBadGazes rfl rfl (by decide +kernel) ⟨Nat.le_of_ble_eq_true rfl, Nat.le_of_ble_eq_true rfl⟩ ⟨Nat.le_refl 0, Nat.le_refl 0⟩ rfl hl.1 (Nat.le_of_ble_eq_true rfl) rfl dX6_wrongWith_76 (fun H locs hM hS => ?_)
      refine lv_if_eq (tgt := 87) hx hb dX6_wrongWith_79 (by decide) (fun c9 => ?_) (fun c9 => ?_)
      · have h := bi_t c9 h
        refine lv_aload_n hx hb dX6_wrongWith_87 rfl (lv_at hl 1 rfl) ?_
        refine lv_iload_n hx hb dX6_wrongWith_88 rfl (lv_at hl 2 rfl) ?_
        refine lv_iload_n hx hb dX6_wrongWith_89 rfl (lv_at hl 3 rfl) ?_
        obtain ⟨r10, t11, e12, h⟩ := bd_e h
        refine mw_callV B hM hS [.int x1, .int x2] (n := 2) (v := (some (.int r10))) (c_X6_isBadEdge e12) wm_RX6_173 wi_yX6_isBadEdge ws_yX6_isBadEdge wc_yX6_isBadEdge rfl rfl (by decide +kernel) ⟨Nat.le_of_ble_eq_true rfl, Nat.le_of_ble_eq_true rfl⟩ ⟨Nat.le_refl 0, Nat.le_refl 0⟩ rfl hl.1 (Nat.le_of_ble_eq_true rfl) rfl dX6_wrongWith_90 (fun H locs hM hS => ?_)
        refine lv_if_eq (tgt := 101) hx hb dX6_wrongWith_93 (by decide) (fun c13 => ?_) (fun c13 => ?_)
        · have h := bi_t c13 h
          refine lv_aload_n hx hb dX6_wrongWith_101 rfl (lv_at hl 1 rfl) ?_
          refine lv_iload_n hx hb dX6_wrongWith_102 rfl (lv_at hl 2 rfl) ?_
          refine lv_iload_n hx hb dX6_wrongWith_103 rfl (lv_at hl 3 rfl) ?_
          obtain ⟨r14, t15, e16, h⟩ := bd_e h
          refine mw_callV B hM hS [.int x1, .int x2] (n := 2) (v := (some (.int r14))) (c_X6_isJump e16) wm_RX6_176 wi_yX6_isJump ws_yX6_isJump wc_yX6_isJump rfl rfl (by decide +kernel) ⟨Nat.le_of_ble_eq_true rfl, Nat.le_of_ble_eq_true rfl⟩ ⟨Nat.le_refl 0, Nat.le_refl 0⟩ rfl hl.1 (Nat.le_of_ble_eq_true rfl) rfl dX6_wrongWith_104 (fun H locs hM hS => ?_)
          refine lv_if_eq (tgt := 115) hx hb dX6_wrongWith_107 (by decide) (fun c17 => ?_) (fun c17 => ?_)
          · have h := bi_t c17 h
            refine lv_bipush (v := 45) hx hb dX6_wrongWith_115 (by decide) ?_
            exact w_X6_wrongWith_117 B _ _ _ _ _ h hM hS (lv_sub hl [] rfl)
          · have h := bi_f c17 h
            refine lv_bipush (v := 109) hx hb dX6_wrongWith_110 (by decide) ?_
            refine lv_goto (tgt := 117) hx hb dX6_wrongWith_112 (by decide) ?_
            exact w_X6_wrongWith_117 B _ _ _ _ _ h hM hS (lv_sub hl [] rfl)
        · have h := bi_f c13 h
          refine lv_bipush (v := 101) hx hb dX6_wrongWith_96 (by decide) ?_
          refine lv_goto (tgt := 117) hx hb dX6_wrongWith_98 (by decide) ?_
          exact w_X6_wrongWith_117 B _ _ _ _ _ h hM hS (lv_sub hl [] rfl)
      · have h := bi_f c9 h
        refine lv_bipush (v := 103) hx hb dX6_wrongWith_82 (by decide) ?_
        refine lv_goto (tgt := 117) hx hb dX6_wrongWith_84 (by decide) ?_
        exact w_X6_wrongWith_117 B _ _ _ _ _ h hM hS (lv_sub hl [] rfl)
    · have h := bi_f c5 h
      refine lv_bipush (v := 106) hx hb dX6_wrongWith_68 (by decide) ?_
      refine lv_goto (tgt := 117) hx hb dX6_wrongWith_70 (by decide) ?_
      exact w_X6_wrongWith_117 B _ _ _ _ _ h hM hS (lv_sub hl [] rfl)
  · have h := bi_f c1 h
    refine lv_bipush (v := 120) hx hb dX6_wrongWith_54 (by decide) ?_
    refine lv_goto (tgt := 117) hx hb dX6_wrongWith_56 (by decide) ?_
    exact w_X6_wrongWith_117 B _ _ _ _ _ h hM hS (lv_sub hl [] rfl)
set_option maxHeartbeats 4000000 in
set_option maxRecDepth 100000 in
theorem w_X6_wrongWith_48 {p : Program} {l : Launch} {e : Env} {s : State} {m : MethodId} {args : Array Value} {below : List Frame} {meth : Method} {c : Code} {G : GG} {A : Nat → Prop} {ad : Nat → Nat} (B : MB G p s m args meth c cX6_wrongWith 4 RX6 (some .char)) {r : Int32} {st' : MS} : ∀ (st : MS) (x1 : Int32) (x2 : Int32) (H : Heap) (locs : List Loc) (ls : Array Slot), f_X6_wrongWith_48 st x1 x2 = some (r, st') → MW G A ad st H → va_S A s.heap H locs → lv_has ls 4 [(0, .ref (ad 0)), (1, .int x1), (2, .int x2)] → W p l e ({ frames := 3, cells := 0, slots := 0, locals := 72 } : Room) s m args below meth c H locs 0 0 (MQ below (QM G A ad (some (.int r)) st') args s 0 0 A) (F0 m 48 ls []) := by
  have ⟨hx, hb, hr, hml, hown, hT, hlocks, hK⟩ := B
  intro st x1 x2 H locs ls h hM hS hl
  rw [f_X6_wrongWith_48] at h
  refine lv_iconst (v := 0) hx hb dX6_wrongWith_48 (by decide) ?_
  exact w_X6_wrongWith_49 B _ _ _ _ _ _ _ h hM hS (lv_sub hl [0, 1, 2] rfl)
set_option maxHeartbeats 4000000 in
set_option maxRecDepth 100000 in
theorem w_X6_wrongWith_44 {p : Program} {l : Launch} {e : Env} {s : State} {m : MethodId} {args : Array Value} {below : List Frame} {meth : Method} {c : Code} {G : GG} {A : Nat → Prop} {ad : Nat → Nat} (B : MB G p s m args meth c cX6_wrongWith 4 RX6 (some .char)) {r : Int32} {st' : MS} : ∀ (st : MS) (x1 : Int32) (x2 : Int32) (H : Heap) (locs : List Loc) (ls : Array Slot), f_X6_wrongWith_44 st x1 x2 = some (r, st') → MW G A ad st H → va_S A s.heap H locs → lv_has ls 4 [(0, .ref (ad 0)), (1, .int x1), (2, .int x2)] → W p l e ({ frames := 3, cells := 0, slots := 0, locals := 72 } : Room) s m args below meth c H locs 0 0 (MQ below (QM G A ad (some (.int r)) st') args s 0 0 A) (F0 m 44 ls []) := by
  have ⟨hx, hb, hr, hml, hown, hT, hlocks, hK⟩ := B
  intro st x1 x2 H locs ls h hM hS hl
  rw [f_X6_wrongWith_44] at h
  refine lv_iconst (v := 1) hx hb dX6_wrongWith_44 (by decide) ?_
  refine lv_goto (tgt := 49) hx hb dX6_wrongWith_45 (by decide) ?_
  exact w_X6_wrongWith_49 B _ _ _ _ _ _ _ h hM hS (lv_sub hl [0, 1, 2] rfl)
set_option maxHeartbeats 4000000 in
set_option maxRecDepth 100000 in
theorem w_X6_wrongWith_22 {p : Program} {l : Launch} {e : Env} {s : State} {m : MethodId} {args : Array Value} {below : List Frame} {meth : Method} {c : Code} {G : GG} {A : Nat → Prop} {ad : Nat → Nat} (B : MB G p s m args meth c cX6_wrongWith 4 RX6 (some .char)) {r : Int32} {st' : MS} : ∀ (st : MS) (x1 : Int32) (x2 : Int32) (H : Heap) (locs : List Loc) (ls : Array Slot), f_X6_wrongWith_22 st x1 x2 = some (r, st') → MW G A ad st H → va_S A s.heap H locs → lv_has ls 4 [(0, .ref (ad 0)), (1, .int x1), (2, .int x2)] → W p l e ({ frames := 3, cells := 0, slots := 0, locals := 72 } : Room) s m args below meth c H locs 0 0 (MQ below (QM G A ad (some (.int r)) st') args s 0 0 A) (F0 m 22 ls []) := by
  have ⟨hx, hb, hr, hml, hown, hT, hlocks, hK⟩ := B
  intro st x1 x2 H locs ls h hM hS hl
  rw [f_X6_wrongWith_22] at h
  refine lv_aload_n hx hb dX6_wrongWith_22 rfl (lv_at hl 0 rfl) ?_
  refine mw_get B hM 4 (by decide) wf_RX6_13 rfl (v := .ref (ad 4)) rfl dX6_wrongWith_23 ?_
  refine lv_iload_n hx hb dX6_wrongWith_26 rfl (lv_at hl 1 rfl) ?_
  obtain ⟨g1, h⟩ := gd_e h
  refine mw_cald B hM 4 (by decide) (by decide) rfl g1 dX6_wrongWith_27 ?_
  refine lv_bipush (v := 110) hx hb dX6_wrongWith_28 (by decide) ?_
  refine lv_icmp_ne (tgt := 48) hx hb dX6_wrongWith_30 (by decide) (fun c2 => ?_) (fun c2 => ?_)
  · have h := bi_f c2 h
    exact w_X6_wrongWith_48 B _ _ _ _ _ _ h hM hS (lv_sub hl [0, 1, 2] rfl)
  · have h := bi_t c2 h
    refine lv_aload_n hx hb dX6_wrongWith_33 rfl (lv_at hl 0 rfl) ?_
    refine mw_get B hM 4 (by decide) wf_RX6_13 rfl (v := .ref (ad 4)) rfl dX6_wrongWith_34 ?_
    refine lv_iload_n hx hb dX6_wrongWith_37 rfl (lv_at hl 2 rfl) ?_
    obtain ⟨g3, h⟩ := gd_e h
    refine mw_cald B hM 4 (by decide) (by decide) rfl g3 dX6_wrongWith_38 ?_
    refine lv_bipush (v := 115) hx hb dX6_wrongWith_39 (by decide) ?_
    refine lv_icmp_ne (tgt := 48) hx hb dX6_wrongWith_41 (by decide) (fun c4 => ?_) (fun c4 => ?_)
    · have h := bi_f c4 h
      exact w_X6_wrongWith_48 B _ _ _ _ _ _ h hM hS (lv_sub hl [0, 1, 2] rfl)
    · have h := bi_t c4 h
      exact w_X6_wrongWith_44 B _ _ _ _ _ _ h hM hS (lv_sub hl [0, 1, 2] rfl)
set_option maxHeartbeats 4000000 in
set_option maxRecDepth 100000 in
theorem w_X6_wrongWith {p : Program} {l : Launch} {e : Env} {s : State} {m : MethodId} {args : Array Value} {below : List Frame} {meth : Method} {c : Code} {G : GG} {A : Nat → Prop} {ad : Nat → Nat} (B : MB G p s m args meth c cX6_wrongWith 4 RX6 (some .char)) {r : Int32} {st' : MS} : ∀ (st : MS) (x1 : Int32) (x2 : Int32) (H : Heap) (locs : List Loc) (ls : Array Slot), f_X6_wrongWith st x1 x2 = some (r, st') → MW G A ad st H → va_S A s.heap H locs → lv_has ls 4 [(0, .ref (ad 0)), (1, .int x1), (2, .int x2)] → W p l e ({ frames := 3, cells := 0, slots := 0, locals := 72 } : Room) s m args below meth c H locs 0 0 (MQ below (QM G A ad (some (.int r)) st') args s 0 0 A) (F0 m 0 ls []) := by
  have ⟨hx, hb, hr, hml, hown, hT, hlocks, hK⟩ := B
  intro st x1 x2 H locs ls h hM hS hl
  rw [f_X6_wrongWith] at h
  refine lv_aload_n hx hb dX6_wrongWith_0 rfl (lv_at hl 0 rfl) ?_
  refine mw_get B hM 4 (by decide) wf_RX6_13 rfl (v := .ref (ad 4)) rfl dX6_wrongWith_1 ?_
  refine lv_iload_n hx hb dX6_wrongWith_4 rfl (lv_at hl 1 rfl) ?_
  obtain ⟨g1, h⟩ := gd_e h
  refine mw_cald B hM 4 (by decide) (by decide) rfl g1 dX6_wrongWith_5 ?_
  refine lv_bipush (v := 115) hx hb dX6_wrongWith_6 (by decide) ?_
  refine lv_icmp_ne (tgt := 22) hx hb dX6_wrongWith_8 (by decide) (fun c2 => ?_) (fun c2 => ?_)
  · have h := bi_f c2 h
    exact w_X6_wrongWith_22 B _ _ _ _ _ _ h hM hS (lv_sub hl [0, 1, 2] rfl)
  · have h := bi_t c2 h
    refine lv_aload_n hx hb dX6_wrongWith_11 rfl (lv_at hl 0 rfl) ?_
    refine mw_get B hM 4 (by decide) wf_RX6_13 rfl (v := .ref (ad 4)) rfl dX6_wrongWith_12 ?_
    refine lv_iload_n hx hb dX6_wrongWith_15 rfl (lv_at hl 2 rfl) ?_
    obtain ⟨g3, h⟩ := gd_e h
    refine mw_cald B hM 4 (by decide) (by decide) rfl g3 dX6_wrongWith_16 ?_
    refine lv_bipush (v := 110) hx hb dX6_wrongWith_17 (by decide) ?_
    refine lv_icmp_eq (tgt := 44) hx hb dX6_wrongWith_19 (by decide) (fun c4 => ?_) (fun c4 => ?_)
    · have h := bi_t c4 h
      exact w_X6_wrongWith_44 B _ _ _ _ _ _ h hM hS (lv_sub hl [0, 1, 2] rfl)
    · have h := bi_f c4 h
      exact w_X6_wrongWith_22 B _ _ _ _ _ _ h hM hS (lv_sub hl [0, 1, 2] rfl)
theorem c_X6_wrongWith {l : Launch} {G : GG} {A : Nat → Prop} {ad : Nat → Nat} {st : MS} {x1 : Int32} {x2 : Int32} {r : Int32} {st' : MS} (h : f_X6_wrongWith st x1 x2 = some (r, st')) : Met l yX6_wrongWith (Cond.code yX6_wrongWith cX6_wrongWith 4 (some .char) :: TG) ({ frames := 3, cells := 0, slots := 0, locals := 72 } : Room) (PM G A ad st [.ref (ad 0), .int x1, .int x2]) (QM G A ad (some (.int r)) st') 0 0 A :=
  mw_of (own := RX6) (by decide +kernel) rfl rfl rfl (Nat.le_of_ble_eq_true rfl) fun p e s m below meth c ls B hM hS hl => w_X6_wrongWith B _ _ _ _ _ _ h hM hS hl
set_option maxHeartbeats 4000000 in
set_option maxRecDepth 100000 in
theorem w_X6_wrong_49 {p : Program} {l : Launch} {e : Env} {s : State} {m : MethodId} {args : Array Value} {below : List Frame} {meth : Method} {c : Code} {G : GG} {A : Nat → Prop} {ad : Nat → Nat} (B : MB G p s m args meth c cX6_wrong 2 RX6 (some .char)) {r : Int32} {st' : MS} : ∀ (st : MS) (y0 : Int32) (H : Heap) (locs : List Loc) (ls : Array Slot), f_X6_wrong_49 st y0 = some (r, st') → MW G A ad st H → va_S A s.heap H locs → lv_has ls 2 [] → W p l e ({ frames := 4, cells := 0, slots := 0, locals := 95 } : Room) s m args below meth c H locs 0 0 (MQ below (QM G A ad (some (.int r)) st') args s 0 0 A) (F0 m 49 ls [.int y0]) := by
  have ⟨hx, hb, hr, hml, hown, hT, hlocks, hK⟩ := B
  intro st y0 H locs ls h hM hS hl
  rw [f_X6_wrong_49] at h
  obtain ⟨g1, h⟩ := gd_e h
  cases h
  exact mw_zret B hM hS g1 dX6_wrong_49
set_option maxHeartbeats 4000000 in
set_option maxRecDepth 100000 in
theorem w_X6_wrong_20 {p : Program} {l : Launch} {e : Env} {s : State} {m : MethodId} {args : Array Value} {below : List Frame} {meth : Method} {c : Code} {G : GG} {A : Nat → Prop} {ad : Nat → Nat} (B : MB G p s m args meth c cX6_wrong 2 RX6 (some .char)) {r : Int32} {st' : MS} : ∀ (st : MS) (x1 : Int32) (y1 : Int32) (H : Heap) (locs : List Loc) (ls : Array Slot), f_X6_wrong_20 st x1 y1 = some (r, st') → MW G A ad st H → va_S A s.heap H locs → lv_has ls 2 [(0, .ref (ad 0)), (1, .int x1)] → W p l e ({ frames := 4, cells := 0, slots := 0, locals := 95 } : Room) s m args below meth c H locs 0 0 (MQ below (QM G A ad (some (.int r)) st') args s 0 0 A) (F0 m 20 ls [.int y1, .ref (ad 0)]) := by
  have ⟨hx, hb, hr, hml, hown, hT, hlocks, hK⟩ := B
  intro st x1 y1 H locs ls h hM hS hl
  rw [f_X6_wrong_20] at h
  obtain ⟨r1, t2, e3, h⟩ := bd_e h
  refine mw_callV B hM hS [.int y1] (n := 1) (v := (some (.int r1))) (c_X6_fails e3) wm_RX6_102 wi_yX6_fails ws_yX6_fails wc_yX6_fails rfl rfl (by decide +kernel) ⟨Nat.le_of_ble_eq_true rfl, Nat.le_of_ble_eq_true rfl⟩ ⟨Nat.le_refl 0, Nat.le_refl 0⟩ rfl hl.1 (Nat.le_of_ble_eq_true rfl) rfl dX6_wrong_20 (fun H locs hM hS => ?_)
  refine lv_if_eq (tgt := 31) hx hb dX6_wrong_23 (by decide) (fun c4 => ?_) (fun c4 => ?_)
  · have h := bi_t c4 h
    refine lv_aload_n hx hb dX6_wrong_31 rfl (lv_at hl 0 rfl) ?_
    refine lv_aload_n hx hb dX6_wrong_32 rfl (lv_at hl 0 rfl) ?_
    refine mw_get B hM 3 (by decide) wf_RX6_7 rfl (v := .ref (ad 3)) rfl dX6_wrong_33 ?_
    refine lv_iload_n hx hb dX6_wrong_36 rfl (lv_at hl 1 rfl) ?_
    refine lv_iconst (v := 1) hx hb dX6_wrong_37 (by decide) ?_
    refine lv_isub hx hb dX6_wrong_38 ?_
    obtain ⟨g5, h⟩ := gd_e h
    refine mw_iald B hM 3 (by decide) (by decide) rfl g5 dX6_wrong_39 ?_
    refine lv_aload_n hx hb dX6_wrong_40 rfl (lv_at hl 0 rfl) ?_
    refine mw_get B hM 3 (by decide) wf_RX6_7 rfl (v := .ref (ad 3)) rfl dX6_wrong_41 ?_
    refine lv_iload_n hx hb dX6_wrong_44 rfl (lv_at hl 1 rfl) ?_
    obtain ⟨g6, h⟩ := gd_e h
    refine mw_iald B hM 3 (by decide) (by decide) rfl g6 dX6_wrong_45 ?_
    obtain ⟨r7, t8, e9, h⟩ := bd_e h
    refine mw_callV B hM hS [.int (t2.2 3 (x1 - 1).toNatClampNeg), .int (t2.2 3 x1.toNatClampNeg)] (n := 2) (v := (some (.int r7))) (c_X6_wrongWith e9) wm_RX6_179 wi_yX6_wrongWith ws_yX6_wrongWith wc_yX6_wrongWith rfl rfl (by decide +kernel) ⟨Nat.le_of_ble_eq_true rfl, Nat.le_of_ble_eq_true rfl⟩ ⟨Nat.le_refl 0, Nat.le_refl 0⟩ rfl hl.1 (Nat.le_of_ble_eq_true rfl) rfl dX6_wrong_46 (fun H locs hM hS => ?_)
    exact w_X6_wrong_49 B _ _ _ _ _ h hM hS (lv_sub hl [] rfl)
  · have h := bi_f c4 h
    refine lv_bipush (v := 32) hx hb dX6_wrong_26 (by decide) ?_
    refine lv_goto (tgt := 49) hx hb dX6_wrong_28 (by decide) ?_
    exact w_X6_wrong_49 B _ _ _ _ _ h hM hS (lv_sub hl [] rfl)
set_option maxHeartbeats 4000000 in
set_option maxRecDepth 100000 in
theorem w_X6_wrong {p : Program} {l : Launch} {e : Env} {s : State} {m : MethodId} {args : Array Value} {below : List Frame} {meth : Method} {c : Code} {G : GG} {A : Nat → Prop} {ad : Nat → Nat} (B : MB G p s m args meth c cX6_wrong 2 RX6 (some .char)) {r : Int32} {st' : MS} : ∀ (st : MS) (x1 : Int32) (H : Heap) (locs : List Loc) (ls : Array Slot), f_X6_wrong st x1 = some (r, st') → MW G A ad st H → va_S A s.heap H locs → lv_has ls 2 [(0, .ref (ad 0)), (1, .int x1)] → W p l e ({ frames := 4, cells := 0, slots := 0, locals := 95 } : Room) s m args below meth c H locs 0 0 (MQ below (QM G A ad (some (.int r)) st') args s 0 0 A) (F0 m 0 ls []) := by
  have ⟨hx, hb, hr, hml, hown, hT, hlocks, hK⟩ := B
  intro st x1 H locs ls h hM hS hl
  rw [f_X6_wrong] at h
  refine lv_aload_n hx hb dX6_wrong_0 rfl (lv_at hl 0 rfl) ?_
  refine lv_iload_n hx hb dX6_wrong_1 rfl (lv_at hl 1 rfl) ?_
  refine lv_iconst (v := 1) hx hb dX6_wrong_2 (by decide) ?_
  refine lv_aload_n hx hb dX6_wrong_3 rfl (lv_at hl 0 rfl) ?_
  refine mw_get B hM 2 (by decide) wf_RX6_95 rfl (v := .int (st.1 2)) rfl dX6_wrong_4 ?_
  refine lv_iconst (v := 1) hx hb dX6_wrong_7 (by decide) ?_
  refine lv_isub hx hb dX6_wrong_8 ?_
  obtain ⟨r1, t2, e3, h⟩ := bd_e h
  refine mw_callS B hM hS [.int x1, .int 1, .int ((st.1 2) - 1)] (n := 3) (v := (some (.int r1))) (c_X6_in e3) wm_RX6_91 wt_yX6_in wc_yX6_in rfl rfl (by decide +kernel) ⟨Nat.le_of_ble_eq_true rfl, Nat.le_of_ble_eq_true rfl⟩ ⟨Nat.le_refl 0, Nat.le_refl 0⟩ rfl hl.1 (Nat.le_of_ble_eq_true rfl) rfl dX6_wrong_9 (fun H locs hM hS => ?_)
  refine lv_if_eq (tgt := 19) hx hb dX6_wrong_12 (by decide) (fun c4 => ?_) (fun c4 => ?_)
  · have h := bi_t c4 h
    refine lv_iconst (v := 1) hx hb dX6_wrong_19 (by decide) ?_
    exact w_X6_wrong_20 B _ _ _ _ _ _ h hM hS (lv_sub hl [0, 1] rfl)
  · have h := bi_f c4 h
    refine lv_iconst (v := 0) hx hb dX6_wrong_15 (by decide) ?_
    refine lv_goto (tgt := 20) hx hb dX6_wrong_16 (by decide) ?_
    exact w_X6_wrong_20 B _ _ _ _ _ _ h hM hS (lv_sub hl [0, 1] rfl)
theorem c_X6_wrong {l : Launch} {G : GG} {A : Nat → Prop} {ad : Nat → Nat} {st : MS} {x1 : Int32} {r : Int32} {st' : MS} (h : f_X6_wrong st x1 = some (r, st')) : Met l yX6_wrong (Cond.code yX6_wrong cX6_wrong 2 (some .char) :: TG) ({ frames := 4, cells := 0, slots := 0, locals := 95 } : Room) (PM G A ad st [.ref (ad 0), .int x1]) (QM G A ad (some (.int r)) st') 0 0 A :=
  mw_of (own := RX6) (by decide +kernel) rfl rfl rfl (Nat.le_of_ble_eq_true rfl) fun p e s m below meth c ls B hM hS hl => w_X6_wrong B _ _ _ _ _ h hM hS hl
set_option maxHeartbeats 4000000 in
set_option maxRecDepth 100000 in
theorem w_X6_excuseAt_79 {p : Program} {l : Launch} {e : Env} {s : State} {m : MethodId} {args : Array Value} {below : List Frame} {meth : Method} {c : Code} {G : GG} {A : Nat → Prop} {ad : Nat → Nat} (B : MB G p s m args meth c cX6_excuseAt 5 RX6 (some .char)) {r : Int32} {st' : MS} : ∀ (st : MS) (y0 : Int32) (H : Heap) (locs : List Loc) (ls : Array Slot), f_X6_excuseAt_79 st y0 = some (r, st') → MW G A ad st H → va_S A s.heap H locs → lv_has ls 5 [] → W p l e ({ frames := 0, cells := 0, slots := 0, locals := 0 } : Room) s m args below meth c H locs 0 0 (MQ below (QM G A ad (some (.int r)) st') args s 0 0 A) (F0 m 79 ls [.int y0]) := by
  have ⟨hx, hb, hr, hml, hown, hT, hlocks, hK⟩ := B
  intro st y0 H locs ls h hM hS hl
  rw [f_X6_excuseAt_79] at h
  obtain ⟨g1, h⟩ := gd_e h
  cases h
  exact mw_zret B hM hS g1 dX6_excuseAt_79
set_option maxHeartbeats 4000000 in
set_option maxRecDepth 100000 in
theorem w_X6_excuseAt_61 {p : Program} {l : Launch} {e : Env} {s : State} {m : MethodId} {args : Array Value} {below : List Frame} {meth : Method} {c : Code} {G : GG} {A : Nat → Prop} {ad : Nat → Nat} (B : MB G p s m args meth c cX6_excuseAt 5 RX6 (some .char)) {r : Int32} {st' : MS} : ∀ (st : MS) (x2 : Int32) (y0 : Int32) (H : Heap) (locs : List Loc) (ls : Array Slot), f_X6_excuseAt_61 st x2 y0 = some (r, st') → MW G A ad st H → va_S A s.heap H locs → lv_has ls 5 [(0, .ref (ad 0)), (2, .int x2)] → W p l e ({ frames := 0, cells := 0, slots := 0, locals := 0 } : Room) s m args below meth c H locs 0 0 (MQ below (QM G A ad (some (.int r)) st') args s 0 0 A) (F0 m 61 ls [.int y0]) := by
  have ⟨hx, hb, hr, hml, hown, hT, hlocks, hK⟩ := B
  intro st x2 y0 H locs ls h hM hS hl
  rw [f_X6_excuseAt_61] at h
  refine lv_istore (lv' := [(4, .int y0), (0, .ref (ad 0)), (2, .int x2)]) hx hb dX6_excuseAt_61 hl (by decide) rfl (fun ls hl => ?_)
  refine lv_iload hx hb dX6_excuseAt_63 (lv_at hl 0 rfl) ?_
  refine lv_if_eq (tgt := 77) hx hb dX6_excuseAt_65 (by decide) (fun c1 => ?_) (fun c1 => ?_)
  · have h := bi_t c1 h
    refine lv_bipush (v := 45) hx hb dX6_excuseAt_77 (by decide) ?_
    exact w_X6_excuseAt_79 B _ _ _ _ _ h hM hS (lv_sub hl [] rfl)
  · have h := bi_f c1 h
    refine lv_aload_n hx hb dX6_excuseAt_68 rfl (lv_at hl 1 rfl) ?_
    refine mw_get B hM 16 (by decide) wf_RX6_48 rfl (v := .ref (ad 16)) rfl dX6_excuseAt_69 ?_
    refine lv_iload_n hx hb dX6_excuseAt_72 rfl (lv_at hl 2 rfl) ?_
    obtain ⟨g2, h⟩ := gd_e h
    refine mw_cald B hM 16 (by decide) (by decide) rfl g2 dX6_excuseAt_73 ?_
    refine lv_goto (tgt := 79) hx hb dX6_excuseAt_74 (by decide) ?_
    exact w_X6_excuseAt_79 B _ _ _ _ _ h hM hS (lv_sub hl [] rfl)
set_option maxHeartbeats 4000000 in
set_option maxRecDepth 100000 in
theorem w_X6_excuseAt_60 {p : Program} {l : Launch} {e : Env} {s : State} {m : MethodId} {args : Array Value} {below : List Frame} {meth : Method} {c : Code} {G : GG} {A : Nat → Prop} {ad : Nat → Nat} (B : MB G p s m args meth c cX6_excuseAt 5 RX6 (some .char)) {r : Int32} {st' : MS} : ∀ (st : MS) (x2 : Int32) (H : Heap) (locs : List Loc) (ls : Array Slot), f_X6_excuseAt_60 st x2 = some (r, st') → MW G A ad st H → va_S A s.heap H locs → lv_has ls 5 [(0, .ref (ad 0)), (2, .int x2)] → W p l e ({ frames := 0, cells := 0, slots := 0, locals := 0 } : Room) s m args below meth c H locs 0 0 (MQ below (QM G A ad (some (.int r)) st') args s 0 0 A) (F0 m 60 ls []) := by
  have ⟨hx, hb, hr, hml, hown, hT, hlocks, hK⟩ := B
  intro st x2 H locs ls h hM hS hl
  rw [f_X6_excuseAt_60] at h
  refine lv_iconst (v := 0) hx hb dX6_excuseAt_60 (by decide) ?_
  exact w_X6_excuseAt_61 B _ _ _ _ _ _ h hM hS (lv_sub hl [0, 1] rfl)
set_option maxHeartbeats 4000000 in
set_option maxRecDepth 100000 in
theorem w_X6_excuseAt {p : Program} {l : Launch} {e : Env} {s : State} {m : MethodId} {args : Array Value} {below : List Frame} {meth : Method} {c : Code} {G : GG} {A : Nat → Prop} {ad : Nat → Nat} (B : MB G p s m args meth c cX6_excuseAt 5 RX6 (some .char)) {r : Int32} {st' : MS} : ∀ (st : MS) (x1 : Int32) (H : Heap) (locs : List Loc) (ls : Array Slot), f_X6_excuseAt st x1 = some (r, st') → MW G A ad st H → va_S A s.heap H locs → lv_has ls 5 [(0, .ref (ad 0)), (1, .int x1)] → W p l e ({ frames := 0, cells := 0, slots := 0, locals := 0 } : Room) s m args below meth c H locs 0 0 (MQ below (QM G A ad (some (.int r)) st') args s 0 0 A) (F0 m 0 ls []) := by
  have ⟨hx, hb, hr, hml, hown, hT, hlocks, hK⟩ := B
  intro st x1 H locs ls h hM hS hl
  rw [f_X6_excuseAt] at h
  refine lv_aload_n hx hb dX6_excuseAt_0 rfl (lv_at hl 0 rfl) ?_
  refine mw_get B hM 3 (by decide) wf_RX6_7 rfl (v := .ref (ad 3)) rfl dX6_excuseAt_1 ?_
  refine lv_iload_n hx hb dX6_excuseAt_4 rfl (lv_at hl 1 rfl) ?_
  obtain ⟨g1, h⟩ := gd_e h
  refine mw_iald B hM 3 (by decide) (by decide) rfl g1 dX6_excuseAt_5 ?_
  refine lv_istore_n (lv' := [(2, .int (st.2 3 x1.toNatClampNeg)), (0, .ref (ad 0)), (1, .int x1)]) hx hb dX6_excuseAt_6 rfl hl (by decide) rfl (fun ls hl => ?_)
  refine lv_aload_n hx hb dX6_excuseAt_7 rfl (lv_at hl 1 rfl) ?_
  refine mw_get B hM 3 (by decide) wf_RX6_7 rfl (v := .ref (ad 3)) rfl dX6_excuseAt_8 ?_
  refine lv_iload_n hx hb dX6_excuseAt_11 rfl (lv_at hl 2 rfl) ?_
  refine lv_iconst (v := 1) hx hb dX6_excuseAt_12 (by decide) ?_
  refine lv_isub hx hb dX6_excuseAt_13 ?_
  obtain ⟨g2, h⟩ := gd_e h
  refine mw_iald B hM 3 (by decide) (by decide) rfl g2 dX6_excuseAt_14 ?_
  refine lv_istore_n (lv' := [(3, .int (st.2 3 (x1 - 1).toNatClampNeg)), (2, .int (st.2 3 x1.toNatClampNeg)), (0, .ref (ad 0)), (1, .int x1)]) hx hb dX6_excuseAt_15 rfl hl (by decide) rfl (fun ls hl => ?_)
  refine lv_aload_n hx hb dX6_excuseAt_16 rfl (lv_at hl 2 rfl) ?_
  refine mw_get B hM 17 (by decide) wf_RX6_51 rfl (v := .ref (ad 17)) rfl dX6_excuseAt_17 ?_
  refine lv_iload_n hx hb dX6_excuseAt_20 rfl (lv_at hl 1 rfl) ?_
  obtain ⟨g3, h⟩ := gd_e h
  refine mw_iald B hM 17 (by decide) (by decide) rfl g3 dX6_excuseAt_21 ?_
  refine lv_aload_n hx hb dX6_excuseAt_22 rfl (lv_at hl 2 rfl) ?_
  refine mw_get B hM 7 (by decide) wf_RX6_23 rfl (v := .ref (ad 7)) rfl dX6_excuseAt_23 ?_
  refine lv_iload_n hx hb dX6_excuseAt_26 rfl (lv_at hl 1 rfl) ?_
  obtain ⟨g4, h⟩ := gd_e h
  refine mw_iald B hM 7 (by decide) (by decide) rfl g4 dX6_excuseAt_27 ?_
  refine lv_icmp_ne (tgt := 60) hx hb dX6_excuseAt_28 (by decide) (fun c5 => ?_) (fun c5 => ?_)
  · have h := bi_f c5 h
    exact w_X6_excuseAt_60 B _ _ _ _ _ h hM hS (lv_sub hl [2, 1] rfl)
  · have h := bi_t c5 h
    refine lv_aload_n hx hb dX6_excuseAt_31 rfl (lv_at hl 2 rfl) ?_
    refine mw_get B hM 18 (by decide) wf_RX6_54 rfl (v := .ref (ad 18)) rfl dX6_excuseAt_32 ?_
    refine lv_iload_n hx hb dX6_excuseAt_35 rfl (lv_at hl 1 rfl) ?_
    obtain ⟨g6, h⟩ := gd_e h
    refine mw_iald B hM 18 (by decide) (by decide) rfl g6 dX6_excuseAt_36 ?_
    refine lv_iload_n hx hb dX6_excuseAt_37 rfl (lv_at hl 0 rfl) ?_
    refine lv_icmp_ne (tgt := 60) hx hb dX6_excuseAt_38 (by decide) (fun c7 => ?_) (fun c7 => ?_)
    · have h := bi_f c7 h
      exact w_X6_excuseAt_60 B _ _ _ _ _ h hM hS (lv_sub hl [2, 1] rfl)
    · have h := bi_t c7 h
      refine lv_aload_n hx hb dX6_excuseAt_41 rfl (lv_at hl 2 rfl) ?_
      refine mw_get B hM 19 (by decide) wf_RX6_57 rfl (v := .ref (ad 19)) rfl dX6_excuseAt_42 ?_
      refine lv_iload_n hx hb dX6_excuseAt_45 rfl (lv_at hl 1 rfl) ?_
      obtain ⟨g8, h⟩ := gd_e h
      refine mw_iald B hM 19 (by decide) (by decide) rfl g8 dX6_excuseAt_46 ?_
      refine lv_aload_n hx hb dX6_excuseAt_47 rfl (lv_at hl 2 rfl) ?_
      refine mw_get B hM 7 (by decide) wf_RX6_23 rfl (v := .ref (ad 7)) rfl dX6_excuseAt_48 ?_
      refine lv_iload_n hx hb dX6_excuseAt_51 rfl (lv_at hl 0 rfl) ?_
      obtain ⟨g9, h⟩ := gd_e h
      refine mw_iald B hM 7 (by decide) (by decide) rfl g9 dX6_excuseAt_52 ?_
      refine lv_icmp_ne (tgt := 60) hx hb dX6_excuseAt_53 (by decide) (fun c10 => ?_) (fun c10 => ?_)
      · have h := bi_f c10 h
        exact w_X6_excuseAt_60 B _ _ _ _ _ h hM hS (lv_sub hl [2, 1] rfl)
      · have h := bi_t c10 h
        refine lv_iconst (v := 1) hx hb dX6_excuseAt_56 (by decide) ?_
        refine lv_goto (tgt := 61) hx hb dX6_excuseAt_57 (by decide) ?_
        exact w_X6_excuseAt_61 B _ _ _ _ _ _ h hM hS (lv_sub hl [2, 1] rfl)
theorem c_X6_excuseAt {l : Launch} {G : GG} {A : Nat → Prop} {ad : Nat → Nat} {st : MS} {x1 : Int32} {r : Int32} {st' : MS} (h : f_X6_excuseAt st x1 = some (r, st')) : Met l yX6_excuseAt (Cond.code yX6_excuseAt cX6_excuseAt 5 (some .char) :: TG) ({ frames := 0, cells := 0, slots := 0, locals := 0 } : Room) (PM G A ad st [.ref (ad 0), .int x1]) (QM G A ad (some (.int r)) st') 0 0 A :=
  mw_of (own := RX6) (by decide +kernel) rfl rfl rfl (Nat.le_of_ble_eq_true rfl) fun p e s m below meth c ls B hM hS hl => w_X6_excuseAt B _ _ _ _ _ h hM hS hl
set_option maxHeartbeats 4000000 in
set_option maxRecDepth 100000 in
theorem w_X6_isFault_35 {p : Program} {l : Launch} {e : Env} {s : State} {m : MethodId} {args : Array Value} {below : List Frame} {meth : Method} {c : Code} {G : GG} {A : Nat → Prop} {ad : Nat → Nat} (B : MB G p s m args meth c cX6_isFault 1 RX6 (some .boolean)) {r : Int32} {st' : MS} : ∀ (st : MS) (y0 : Int32) (H : Heap) (locs : List Loc) (ls : Array Slot), f_X6_isFault_35 st y0 = some (r, st') → MW G A ad st H → va_S A s.heap H locs → lv_has ls 1 [] → W p l e ({ frames := 0, cells := 0, slots := 0, locals := 0 } : Room) s m args below meth c H locs 0 0 (MQ below (QM G A ad (some (.int r)) st') args s 0 0 A) (F0 m 35 ls [.int y0]) := by
  have ⟨hx, hb, hr, hml, hown, hT, hlocks, hK⟩ := B
  intro st y0 H locs ls h hM hS hl
  rw [f_X6_isFault_35] at h
  obtain ⟨g1, h⟩ := gd_e h
  cases h
  exact mw_zret B hM hS g1 dX6_isFault_35
set_option maxHeartbeats 4000000 in
set_option maxRecDepth 100000 in
theorem w_X6_isFault_30 {p : Program} {l : Launch} {e : Env} {s : State} {m : MethodId} {args : Array Value} {below : List Frame} {meth : Method} {c : Code} {G : GG} {A : Nat → Prop} {ad : Nat → Nat} (B : MB G p s m args meth c cX6_isFault 1 RX6 (some .boolean)) {r : Int32} {st' : MS} : ∀ (st : MS) (H : Heap) (locs : List Loc) (ls : Array Slot), f_X6_isFault_30 st = some (r, st') → MW G A ad st H → va_S A s.heap H locs → lv_has ls 1 [] → W p l e ({ frames := 0, cells := 0, slots := 0, locals := 0 } : Room) s m args below meth c H locs 0 0 (MQ below (QM G A ad (some (.int r)) st') args s 0 0 A) (F0 m 30 ls []) := by
  have ⟨hx, hb, hr, hml, hown, hT, hlocks, hK⟩ := B
  intro st  H locs ls h hM hS hl
  rw [f_X6_isFault_30] at h
  refine lv_iconst (v := 1) hx hb dX6_isFault_30 (by decide) ?_
  refine lv_goto (tgt := 35) hx hb dX6_isFault_31 (by decide) ?_
  exact w_X6_isFault_35 B _ _ _ _ _ h hM hS (lv_sub hl [] rfl)
set_option maxHeartbeats 4000000 in
set_option maxRecDepth 100000 in
theorem w_X6_isFault {p : Program} {l : Launch} {e : Env} {s : State} {m : MethodId} {args : Array Value} {below : List Frame} {meth : Method} {c : Code} {G : GG} {A : Nat → Prop} {ad : Nat → Nat} (B : MB G p s m args meth c cX6_isFault 1 RX6 (some .boolean)) {r : Int32} {st' : MS} : ∀ (st : MS) (x0 : Int32) (H : Heap) (locs : List Loc) (ls : Array Slot), f_X6_isFault st x0 = some (r, st') → MW G A ad st H → va_S A s.heap H locs → lv_has ls 1 [(0, .int x0)] → W p l e ({ frames := 0, cells := 0, slots := 0, locals := 0 } : Room) s m args below meth c H locs 0 0 (MQ below (QM G A ad (some (.int r)) st') args s 0 0 A) (F0 m 0 ls []) := by
  have ⟨hx, hb, hr, hml, hown, hT, hlocks, hK⟩ := B
  intro st x0 H locs ls h hM hS hl
  rw [f_X6_isFault] at h
  refine lv_iload_n hx hb dX6_isFault_0 rfl (lv_at hl 0 rfl) ?_
  refine lv_bipush (v := 120) hx hb dX6_isFault_1 (by decide) ?_
  refine lv_icmp_eq (tgt := 30) hx hb dX6_isFault_3 (by decide) (fun c1 => ?_) (fun c1 => ?_)
  · have h := bi_t c1 h
    exact w_X6_isFault_30 B _ _ _ _ h hM hS (lv_sub hl [] rfl)
  · have h := bi_f c1 h
    refine lv_iload_n hx hb dX6_isFault_6 rfl (lv_at hl 0 rfl) ?_
    refine lv_bipush (v := 106) hx hb dX6_isFault_7 (by decide) ?_
    refine lv_icmp_eq (tgt := 30) hx hb dX6_isFault_9 (by decide) (fun c2 => ?_) (fun c2 => ?_)
    · have h := bi_t c2 h
      exact w_X6_isFault_30 B _ _ _ _ h hM hS (lv_sub hl [] rfl)
    · have h := bi_f c2 h
      refine lv_iload_n hx hb dX6_isFault_12 rfl (lv_at hl 0 rfl) ?_
      refine lv_bipush (v := 103) hx hb dX6_isFault_13 (by decide) ?_
      refine lv_icmp_eq (tgt := 30) hx hb dX6_isFault_15 (by decide) (fun c3 => ?_) (fun c3 => ?_)
      · have h := bi_t c3 h
        exact w_X6_isFault_30 B _ _ _ _ h hM hS (lv_sub hl [] rfl)
      · have h := bi_f c3 h
        refine lv_iload_n hx hb dX6_isFault_18 rfl (lv_at hl 0 rfl) ?_
        refine lv_bipush (v := 101) hx hb dX6_isFault_19 (by decide) ?_
        refine lv_icmp_eq (tgt := 30) hx hb dX6_isFault_21 (by decide) (fun c4 => ?_) (fun c4 => ?_)
        · have h := bi_t c4 h
          exact w_X6_isFault_30 B _ _ _ _ h hM hS (lv_sub hl [] rfl)
        · have h := bi_f c4 h
          refine lv_iload_n hx hb dX6_isFault_24 rfl (lv_at hl 0 rfl) ?_
          refine lv_bipush (v := 109) hx hb dX6_isFault_25 (by decide) ?_
          refine lv_icmp_ne (tgt := 34) hx hb dX6_isFault_27 (by decide) (fun c5 => ?_) (fun c5 => ?_)
          · have h := bi_f c5 h
            refine lv_iconst (v := 0) hx hb dX6_isFault_34 (by decide) ?_
            exact w_X6_isFault_35 B _ _ _ _ _ h hM hS (lv_sub hl [] rfl)
          · have h := bi_t c5 h
            exact w_X6_isFault_30 B _ _ _ _ h hM hS (lv_sub hl [] rfl)
theorem c_X6_isFault {l : Launch} {G : GG} {A : Nat → Prop} {ad : Nat → Nat} {st : MS} {x0 : Int32} {r : Int32} {st' : MS} (h : f_X6_isFault st x0 = some (r, st')) : Met l yX6_isFault (Cond.code yX6_isFault cX6_isFault 1 (some .boolean) :: TG) ({ frames := 0, cells := 0, slots := 0, locals := 0 } : Room) (PM G A ad st [.int x0]) (QM G A ad (some (.int r)) st') 0 0 A :=
  mw_of (own := RX6) (by decide +kernel) rfl rfl rfl (Nat.le_of_ble_eq_true rfl) fun p e s m below meth c ls B hM hS hl => w_X6_isFault B _ _ _ _ _ h hM hS hl
set_option maxHeartbeats 4000000 in
set_option maxRecDepth 100000 in
theorem w_X6_excuse_31 {p : Program} {l : Launch} {e : Env} {s : State} {m : MethodId} {args : Array Value} {below : List Frame} {meth : Method} {c : Code} {G : GG} {A : Nat → Prop} {ad : Nat → Nat} (B : MB G p s m args meth c cX6_excuse 5 RX6 (some .char)) {r : Int32} {st' : MS} : ∀ (st : MS) (x1 : Int32) (x2 : Int32) (y1 : Int32) (H : Heap) (locs : List Loc) (ls : Array Slot), f_X6_excuse_31 st x1 x2 y1 = some (r, st') → MW G A ad st H → va_S A s.heap H locs → lv_has ls 5 [(0, .ref (ad 0)), (1, .int x1), (2, .int x2)] → W p l e ({ frames := 1, cells := 0, slots := 0, locals := 24 } : Room) s m args below meth c H locs 0 0 (MQ below (QM G A ad (some (.int r)) st') args s 0 0 A) (F0 m 31 ls [.int y1, .ref (ad 0)]) := by
  have ⟨hx, hb, hr, hml, hown, hT, hlocks, hK⟩ := B
  intro st x1 x2 y1 H locs ls h hM hS hl
  rw [f_X6_excuse_31] at h
  obtain ⟨r1, t2, e3, h⟩ := bd_e h
  refine mw_callV B hM hS [.int y1] (n := 1) (v := (some (.int r1))) (c_X6_fails e3) wm_RX6_102 wi_yX6_fails ws_yX6_fails wc_yX6_fails rfl rfl (by decide +kernel) ⟨Nat.le_of_ble_eq_true rfl, Nat.le_of_ble_eq_true rfl⟩ ⟨Nat.le_refl 0, Nat.le_refl 0⟩ rfl hl.1 (Nat.le_of_ble_eq_true rfl) rfl dX6_excuse_31 (fun H locs hM hS => ?_)
  refine lv_if_eq (tgt := 40) hx hb dX6_excuse_34 (by decide) (fun c4 => ?_) (fun c4 => ?_)
  · have h := bi_t c4 h
    refine lv_aload_n hx hb dX6_excuse_40 rfl (lv_at hl 0 rfl) ?_
    refine lv_iload_n hx hb dX6_excuse_41 rfl (lv_at hl 1 rfl) ?_
    obtain ⟨r5, t6, e7, h⟩ := bd_e h
    refine mw_callV B hM hS [.int x1] (n := 1) (v := (some (.int r5))) (c_X6_excuseAt e7) wm_RX6_186 wi_yX6_excuseAt ws_yX6_excuseAt wc_yX6_excuseAt rfl rfl (by decide +kernel) ⟨Nat.le_of_ble_eq_true rfl, Nat.le_of_ble_eq_true rfl⟩ ⟨Nat.le_refl 0, Nat.le_refl 0⟩ rfl hl.1 (Nat.le_of_ble_eq_true rfl) rfl dX6_excuse_42 (fun H locs hM hS => ?_)
    refine lv_istore_n (lv' := [(3, .int r5), (0, .ref (ad 0)), (1, .int x1), (2, .int x2)]) hx hb dX6_excuse_45 rfl hl (by decide) rfl (fun ls hl => ?_)
    refine lv_aload_n hx hb dX6_excuse_46 rfl (lv_at hl 1 rfl) ?_
    refine mw_get B hM 3 (by decide) wf_RX6_7 rfl (v := .ref (ad 3)) rfl dX6_excuse_47 ?_
    refine lv_iload_n hx hb dX6_excuse_50 rfl (lv_at hl 2 rfl) ?_
    obtain ⟨g8, h⟩ := gd_e h
    refine mw_iald B hM 3 (by decide) (by decide) rfl g8 dX6_excuse_51 ?_
    refine lv_istore (lv' := [(4, .int (t6.2 3 x1.toNatClampNeg)), (3, .int r5), (0, .ref (ad 0)), (1, .int x1), (2, .int x2)]) hx hb dX6_excuse_52 hl (by decide) rfl (fun ls hl => ?_)
    refine lv_aload_n hx hb dX6_excuse_54 rfl (lv_at hl 2 rfl) ?_
    refine mw_get B hM 16 (by decide) wf_RX6_48 rfl (v := .ref (ad 16)) rfl dX6_excuse_55 ?_
    refine lv_iload hx hb dX6_excuse_58 (lv_at hl 0 rfl) ?_
    refine lv_iload_n hx hb dX6_excuse_60 rfl (lv_at hl 4 rfl) ?_
    obtain ⟨g9, h⟩ := gd_e h
    refine mw_cast B hM hS 16 (by decide) (by decide) rfl g9 dX6_excuse_61 (fun H locs hM hS => ?_)
    refine lv_aload_n hx hb dX6_excuse_62 rfl (lv_at hl 2 rfl) ?_
    refine mw_get B hM 17 (by decide) wf_RX6_51 rfl (v := .ref (ad 17)) rfl dX6_excuse_63 ?_
    refine lv_iload hx hb dX6_excuse_66 (lv_at hl 0 rfl) ?_
    refine lv_aload_n hx hb dX6_excuse_68 rfl (lv_at hl 2 rfl) ?_
    refine mw_get B hM 7 (by decide) wf_RX6_23 rfl (v := .ref (ad 7)) rfl dX6_excuse_69 ?_
    refine lv_iload hx hb dX6_excuse_72 (lv_at hl 0 rfl) ?_
    obtain ⟨g10, h⟩ := gd_e h
    refine mw_iald B hM 7 (by decide) (by decide) rfl g10 dX6_excuse_74 ?_
    obtain ⟨g11, h⟩ := gd_e h
    refine mw_iast B hM hS 17 (by decide) (by decide) rfl g11 dX6_excuse_75 (fun H locs hM hS => ?_)
    refine lv_aload_n hx hb dX6_excuse_76 rfl (lv_at hl 2 rfl) ?_
    refine mw_get B hM 18 (by decide) wf_RX6_54 rfl (v := .ref (ad 18)) rfl dX6_excuse_77 ?_
    refine lv_iload hx hb dX6_excuse_80 (lv_at hl 0 rfl) ?_
    refine lv_aload_n hx hb dX6_excuse_82 rfl (lv_at hl 2 rfl) ?_
    refine mw_get B hM 3 (by decide) wf_RX6_7 rfl (v := .ref (ad 3)) rfl dX6_excuse_83 ?_
    refine lv_iload_n hx hb dX6_excuse_86 rfl (lv_at hl 3 rfl) ?_
    refine lv_iconst (v := 1) hx hb dX6_excuse_87 (by decide) ?_
    refine lv_isub hx hb dX6_excuse_88 ?_
    obtain ⟨g12, h⟩ := gd_e h
    refine mw_iald B hM 3 (by decide) (by decide) rfl g12 dX6_excuse_89 ?_
    obtain ⟨g13, h⟩ := gd_e h
    refine mw_iast B hM hS 18 (by decide) (by decide) rfl g13 dX6_excuse_90 (fun H locs hM hS => ?_)
    refine lv_aload_n hx hb dX6_excuse_91 rfl (lv_at hl 2 rfl) ?_
    refine mw_get B hM 19 (by decide) wf_RX6_57 rfl (v := .ref (ad 19)) rfl dX6_excuse_92 ?_
    refine lv_iload hx hb dX6_excuse_95 (lv_at hl 0 rfl) ?_
    refine lv_aload_n hx hb dX6_excuse_97 rfl (lv_at hl 2 rfl) ?_
    refine mw_get B hM 7 (by decide) wf_RX6_23 rfl (v := .ref (ad 7)) rfl dX6_excuse_98 ?_
    refine lv_aload_n hx hb dX6_excuse_101 rfl (lv_at hl 2 rfl) ?_
    refine mw_get B hM 3 (by decide) wf_RX6_7 rfl (v := .ref (ad 3)) rfl dX6_excuse_102 ?_
    refine lv_iload_n hx hb dX6_excuse_105 rfl (lv_at hl 3 rfl) ?_
    refine lv_iconst (v := 1) hx hb dX6_excuse_106 (by decide) ?_
    refine lv_isub hx hb dX6_excuse_107 ?_
    obtain ⟨g14, h⟩ := gd_e h
    refine mw_iald B hM 3 (by decide) (by decide) rfl g14 dX6_excuse_108 ?_
    obtain ⟨g15, h⟩ := gd_e h
    refine mw_iald B hM 7 (by decide) (by decide) rfl g15 dX6_excuse_109 ?_
    obtain ⟨g16, h⟩ := gd_e h
    refine mw_iast B hM hS 19 (by decide) (by decide) rfl g16 dX6_excuse_110 (fun H locs hM hS => ?_)
    refine lv_iload_n hx hb dX6_excuse_111 rfl (lv_at hl 1 rfl) ?_
    obtain ⟨g17, h⟩ := gd_e h
    cases h
    exact mw_zret B hM hS g17 dX6_excuse_112
  · have h := bi_f c4 h
    refine lv_bipush (v := 32) hx hb dX6_excuse_37 (by decide) ?_
    cases h
    exact mw_zret B hM hS (by rfl) dX6_excuse_39
set_option maxHeartbeats 4000000 in
set_option maxRecDepth 100000 in
theorem w_X6_excuse {p : Program} {l : Launch} {e : Env} {s : State} {m : MethodId} {args : Array Value} {below : List Frame} {meth : Method} {c : Code} {G : GG} {A : Nat → Prop} {ad : Nat → Nat} (B : MB G p s m args meth c cX6_excuse 5 RX6 (some .char)) {r : Int32} {st' : MS} : ∀ (st : MS) (x1 : Int32) (x2 : Int32) (H : Heap) (locs : List Loc) (ls : Array Slot), f_X6_excuse st x1 x2 = some (r, st') → MW G A ad st H → va_S A s.heap H locs → lv_has ls 5 [(0, .ref (ad 0)), (1, .int x1), (2, .int x2)] → W p l e ({ frames := 1, cells := 0, slots := 0, locals := 24 } : Room) s m args below meth c H locs 0 0 (MQ below (QM G A ad (some (.int r)) st') args s 0 0 A) (F0 m 0 ls []) := by
  have ⟨hx, hb, hr, hml, hown, hT, hlocks, hK⟩ := B
  intro st x1 x2 H locs ls h hM hS hl
  rw [f_X6_excuse] at h
  refine lv_aload_n hx hb dX6_excuse_0 rfl (lv_at hl 0 rfl) ?_
  refine lv_iload_n hx hb dX6_excuse_1 rfl (lv_at hl 2 rfl) ?_
  obtain ⟨r1, t2, e3, h⟩ := bd_e h
  refine mw_callS B hM hS [.int x2] (n := 1) (v := (some (.int r1))) (c_X6_isFault e3) wm_RX6_183 wt_yX6_isFault wc_yX6_isFault rfl rfl (by decide +kernel) ⟨Nat.le_of_ble_eq_true rfl, Nat.le_of_ble_eq_true rfl⟩ ⟨Nat.le_refl 0, Nat.le_refl 0⟩ rfl hl.1 (Nat.le_of_ble_eq_true rfl) rfl dX6_excuse_2 (fun H locs hM hS => ?_)
  refine lv_if_ne (tgt := 12) hx hb dX6_excuse_5 (by decide) (fun c4 => ?_) (fun c4 => ?_)
  · have h := bi_f c4 h
    refine lv_iload_n hx hb dX6_excuse_12 rfl (lv_at hl 1 rfl) ?_
    refine lv_iconst (v := 1) hx hb dX6_excuse_13 (by decide) ?_
    refine lv_aload_n hx hb dX6_excuse_14 rfl (lv_at hl 0 rfl) ?_
    refine mw_get B hM 2 (by decide) wf_RX6_95 rfl (v := .int (t2.1 2)) rfl dX6_excuse_15 ?_
    refine lv_iconst (v := 1) hx hb dX6_excuse_18 (by decide) ?_
    refine lv_isub hx hb dX6_excuse_19 ?_
    obtain ⟨r5, t6, e7, h⟩ := bd_e h
    refine mw_callS B hM hS [.int x1, .int 1, .int ((t2.1 2) - 1)] (n := 3) (v := (some (.int r5))) (c_X6_in e7) wm_RX6_91 wt_yX6_in wc_yX6_in rfl rfl (by decide +kernel) ⟨Nat.le_of_ble_eq_true rfl, Nat.le_of_ble_eq_true rfl⟩ ⟨Nat.le_refl 0, Nat.le_refl 0⟩ rfl hl.1 (Nat.le_of_ble_eq_true rfl) rfl dX6_excuse_20 (fun H locs hM hS => ?_)
    refine lv_if_eq (tgt := 30) hx hb dX6_excuse_23 (by decide) (fun c8 => ?_) (fun c8 => ?_)
    · have h := bi_t c8 h
      refine lv_iconst (v := 2) hx hb dX6_excuse_30 (by decide) ?_
      exact w_X6_excuse_31 B _ _ _ _ _ _ _ h hM hS (lv_sub hl [0, 1, 2] rfl)
    · have h := bi_f c8 h
      refine lv_iconst (v := 0) hx hb dX6_excuse_26 (by decide) ?_
      refine lv_goto (tgt := 31) hx hb dX6_excuse_27 (by decide) ?_
      exact w_X6_excuse_31 B _ _ _ _ _ _ _ h hM hS (lv_sub hl [0, 1, 2] rfl)
  · have h := bi_t c4 h
    refine lv_iconst (v := 1) hx hb dX6_excuse_8 (by decide) ?_
    refine lv_goto (tgt := 31) hx hb dX6_excuse_9 (by decide) ?_
    exact w_X6_excuse_31 B _ _ _ _ _ _ _ h hM hS (lv_sub hl [0, 1, 2] rfl)
theorem c_X6_excuse {l : Launch} {G : GG} {A : Nat → Prop} {ad : Nat → Nat} {st : MS} {x1 : Int32} {x2 : Int32} {r : Int32} {st' : MS} (h : f_X6_excuse st x1 x2 = some (r, st')) : Met l yX6_excuse (Cond.code yX6_excuse cX6_excuse 5 (some .char) :: TG) ({ frames := 1, cells := 0, slots := 0, locals := 24 } : Room) (PM G A ad st [.ref (ad 0), .int x1, .int x2]) (QM G A ad (some (.int r)) st') 0 0 A :=
  mw_of (own := RX6) (by decide +kernel) rfl rfl rfl (Nat.le_of_ble_eq_true rfl) fun p e s m below meth c ls B hM hS hl => w_X6_excuse B _ _ _ _ _ _ h hM hS hl
set_option maxHeartbeats 4000000 in
set_option maxRecDepth 100000 in
theorem w_X6_isBrokenAt_39 {p : Program} {l : Launch} {e : Env} {s : State} {m : MethodId} {args : Array Value} {below : List Frame} {meth : Method} {c : Code} {G : GG} {A : Nat → Prop} {ad : Nat → Nat} (B : MB G p s m args meth c cX6_isBrokenAt 3 RX6 (some .boolean)) {r : Int32} {st' : MS} : ∀ (st : MS) (y0 : Int32) (H : Heap) (locs : List Loc) (ls : Array Slot), f_X6_isBrokenAt_39 st y0 = some (r, st') → MW G A ad st H → va_S A s.heap H locs → lv_has ls 3 [] → W p l e ({ frames := 4, cells := 0, slots := 0, locals := 95 } : Room) s m args below meth c H locs 0 0 (MQ below (QM G A ad (some (.int r)) st') args s 0 0 A) (F0 m 39 ls [.int y0]) := by
  have ⟨hx, hb, hr, hml, hown, hT, hlocks, hK⟩ := B
  intro st y0 H locs ls h hM hS hl
  rw [f_X6_isBrokenAt_39] at h
  obtain ⟨g1, h⟩ := gd_e h
  cases h
  exact mw_zret B hM hS g1 dX6_isBrokenAt_39
set_option maxHeartbeats 4000000 in
set_option maxRecDepth 100000 in
theorem w_X6_isBrokenAt_38 {p : Program} {l : Launch} {e : Env} {s : State} {m : MethodId} {args : Array Value} {below : List Frame} {meth : Method} {c : Code} {G : GG} {A : Nat → Prop} {ad : Nat → Nat} (B : MB G p s m args meth c cX6_isBrokenAt 3 RX6 (some .boolean)) {r : Int32} {st' : MS} : ∀ (st : MS) (H : Heap) (locs : List Loc) (ls : Array Slot), f_X6_isBrokenAt_38 st = some (r, st') → MW G A ad st H → va_S A s.heap H locs → lv_has ls 3 [] → W p l e ({ frames := 4, cells := 0, slots := 0, locals := 95 } : Room) s m args below meth c H locs 0 0 (MQ below (QM G A ad (some (.int r)) st') args s 0 0 A) (F0 m 38 ls []) := by
  have ⟨hx, hb, hr, hml, hown, hT, hlocks, hK⟩ := B
  intro st  H locs ls h hM hS hl
  rw [f_X6_isBrokenAt_38] at h
  refine lv_iconst (v := 0) hx hb dX6_isBrokenAt_38 (by decide) ?_
  exact w_X6_isBrokenAt_39 B _ _ _ _ _ h hM hS (lv_sub hl [] rfl)
set_option maxHeartbeats 4000000 in
set_option maxRecDepth 100000 in
theorem w_X6_isBrokenAt {p : Program} {l : Launch} {e : Env} {s : State} {m : MethodId} {args : Array Value} {below : List Frame} {meth : Method} {c : Code} {G : GG} {A : Nat → Prop} {ad : Nat → Nat} (B : MB G p s m args meth c cX6_isBrokenAt 3 RX6 (some .boolean)) {r : Int32} {st' : MS} : ∀ (st : MS) (x1 : Int32) (H : Heap) (locs : List Loc) (ls : Array Slot), f_X6_isBrokenAt st x1 = some (r, st') → MW G A ad st H → va_S A s.heap H locs → lv_has ls 3 [(0, .ref (ad 0)), (1, .int x1)] → W p l e ({ frames := 4, cells := 0, slots := 0, locals := 95 } : Room) s m args below meth c H locs 0 0 (MQ below (QM G A ad (some (.int r)) st') args s 0 0 A) (F0 m 0 ls []) := by
  have ⟨hx, hb, hr, hml, hown, hT, hlocks, hK⟩ := B
  intro st x1 H locs ls h hM hS hl
  rw [f_X6_isBrokenAt] at h
  refine lv_aload_n hx hb dX6_isBrokenAt_0 rfl (lv_at hl 0 rfl) ?_
  refine lv_aload_n hx hb dX6_isBrokenAt_1 rfl (lv_at hl 0 rfl) ?_
  refine mw_get B hM 3 (by decide) wf_RX6_7 rfl (v := .ref (ad 3)) rfl dX6_isBrokenAt_2 ?_
  refine lv_iload_n hx hb dX6_isBrokenAt_5 rfl (lv_at hl 1 rfl) ?_
  refine lv_iconst (v := 1) hx hb dX6_isBrokenAt_6 (by decide) ?_
  refine lv_isub hx hb dX6_isBrokenAt_7 ?_
  obtain ⟨g1, h⟩ := gd_e h
  refine mw_iald B hM 3 (by decide) (by decide) rfl g1 dX6_isBrokenAt_8 ?_
  refine lv_aload_n hx hb dX6_isBrokenAt_9 rfl (lv_at hl 0 rfl) ?_
  refine mw_get B hM 3 (by decide) wf_RX6_7 rfl (v := .ref (ad 3)) rfl dX6_isBrokenAt_10 ?_
  refine lv_iload_n hx hb dX6_isBrokenAt_13 rfl (lv_at hl 1 rfl) ?_
  obtain ⟨g2, h⟩ := gd_e h
  refine mw_iald B hM 3 (by decide) (by decide) rfl g2 dX6_isBrokenAt_14 ?_
  obtain ⟨r3, t4, e5, h⟩ := bd_e h
  refine mw_callV B hM hS [.int (st.2 3 (x1 - 1).toNatClampNeg), .int (st.2 3 x1.toNatClampNeg)] (n := 2) (v := (some (.int r3))) (c_X6_wrongWith e5) wm_RX6_179 wi_yX6_wrongWith ws_yX6_wrongWith wc_yX6_wrongWith rfl rfl (by decide +kernel) ⟨Nat.le_of_ble_eq_true rfl, Nat.le_of_ble_eq_true rfl⟩ ⟨Nat.le_refl 0, Nat.le_refl 0⟩ rfl hl.1 (Nat.le_of_ble_eq_true rfl) rfl dX6_isBrokenAt_15 (fun H locs hM hS => ?_)
  refine lv_istore_n (lv' := [(2, .int r3), (0, .ref (ad 0)), (1, .int x1)]) hx hb dX6_isBrokenAt_18 rfl hl (by decide) rfl (fun ls hl => ?_)
  refine lv_iload_n hx hb dX6_isBrokenAt_19 rfl (lv_at hl 0 rfl) ?_
  refine lv_bipush (v := 45) hx hb dX6_isBrokenAt_20 (by decide) ?_
  refine lv_icmp_eq (tgt := 38) hx hb dX6_isBrokenAt_22 (by decide) (fun c6 => ?_) (fun c6 => ?_)
  · have h := bi_t c6 h
    exact w_X6_isBrokenAt_38 B _ _ _ _ h hM hS (lv_sub hl [] rfl)
  · have h := bi_f c6 h
    refine lv_aload_n hx hb dX6_isBrokenAt_25 rfl (lv_at hl 1 rfl) ?_
    refine lv_iload_n hx hb dX6_isBrokenAt_26 rfl (lv_at hl 2 rfl) ?_
    obtain ⟨r7, t8, e9, h⟩ := bd_e h
    refine mw_callV B hM hS [.int x1] (n := 1) (v := (some (.int r7))) (c_X6_excuseAt e9) wm_RX6_186 wi_yX6_excuseAt ws_yX6_excuseAt wc_yX6_excuseAt rfl rfl (by decide +kernel) ⟨Nat.le_of_ble_eq_true rfl, Nat.le_of_ble_eq_true rfl⟩ ⟨Nat.le_refl 0, Nat.le_refl 0⟩ rfl hl.1 (Nat.le_of_ble_eq_true rfl) rfl dX6_isBrokenAt_27 (fun H locs hM hS => ?_)
    refine lv_iload_n hx hb dX6_isBrokenAt_30 rfl (lv_at hl 0 rfl) ?_
    refine lv_icmp_eq (tgt := 38) hx hb dX6_isBrokenAt_31 (by decide) (fun c10 => ?_) (fun c10 => ?_)
    · have h := bi_t c10 h
      exact w_X6_isBrokenAt_38 B _ _ _ _ h hM hS (lv_sub hl [] rfl)
    · have h := bi_f c10 h
      refine lv_iconst (v := 1) hx hb dX6_isBrokenAt_34 (by decide) ?_
      refine lv_goto (tgt := 39) hx hb dX6_isBrokenAt_35 (by decide) ?_
      exact w_X6_isBrokenAt_39 B _ _ _ _ _ h hM hS (lv_sub hl [] rfl)
theorem c_X6_isBrokenAt {l : Launch} {G : GG} {A : Nat → Prop} {ad : Nat → Nat} {st : MS} {x1 : Int32} {r : Int32} {st' : MS} (h : f_X6_isBrokenAt st x1 = some (r, st')) : Met l yX6_isBrokenAt (Cond.code yX6_isBrokenAt cX6_isBrokenAt 3 (some .boolean) :: TG) ({ frames := 4, cells := 0, slots := 0, locals := 95 } : Room) (PM G A ad st [.ref (ad 0), .int x1]) (QM G A ad (some (.int r)) st') 0 0 A :=
  mw_of (own := RX6) (by decide +kernel) rfl rfl rfl (Nat.le_of_ble_eq_true rfl) fun p e s m below meth c ls B hM hS hl => w_X6_isBrokenAt B _ _ _ _ _ h hM hS hl
set_option maxHeartbeats 4000000 in
set_option maxRecDepth 100000 in
theorem w_X6_isBroken_39 {p : Program} {l : Launch} {e : Env} {s : State} {m : MethodId} {args : Array Value} {below : List Frame} {meth : Method} {c : Code} {G : GG} {A : Nat → Prop} {ad : Nat → Nat} (B : MB G p s m args meth c cX6_isBroken 2 RX6 (some .boolean)) {r : Int32} {st' : MS} : ∀ (st : MS) (y0 : Int32) (H : Heap) (locs : List Loc) (ls : Array Slot), f_X6_isBroken_39 st y0 = some (r, st') → MW G A ad st H → va_S A s.heap H locs → lv_has ls 2 [] → W p l e ({ frames := 5, cells := 0, slots := 0, locals := 117 } : Room) s m args below meth c H locs 0 0 (MQ below (QM G A ad (some (.int r)) st') args s 0 0 A) (F0 m 39 ls [.int y0]) := by
  have ⟨hx, hb, hr, hml, hown, hT, hlocks, hK⟩ := B
  intro st y0 H locs ls h hM hS hl
  rw [f_X6_isBroken_39] at h
  obtain ⟨g1, h⟩ := gd_e h
  cases h
  exact mw_zret B hM hS g1 dX6_isBroken_39
set_option maxHeartbeats 4000000 in
set_option maxRecDepth 100000 in
theorem w_X6_isBroken_38 {p : Program} {l : Launch} {e : Env} {s : State} {m : MethodId} {args : Array Value} {below : List Frame} {meth : Method} {c : Code} {G : GG} {A : Nat → Prop} {ad : Nat → Nat} (B : MB G p s m args meth c cX6_isBroken 2 RX6 (some .boolean)) {r : Int32} {st' : MS} : ∀ (st : MS) (H : Heap) (locs : List Loc) (ls : Array Slot), f_X6_isBroken_38 st = some (r, st') → MW G A ad st H → va_S A s.heap H locs → lv_has ls 2 [] → W p l e ({ frames := 5, cells := 0, slots := 0, locals := 117 } : Room) s m args below meth c H locs 0 0 (MQ below (QM G A ad (some (.int r)) st') args s 0 0 A) (F0 m 38 ls []) := by
  have ⟨hx, hb, hr, hml, hown, hT, hlocks, hK⟩ := B
  intro st  H locs ls h hM hS hl
  rw [f_X6_isBroken_38] at h
  refine lv_iconst (v := 0) hx hb dX6_isBroken_38 (by decide) ?_
  exact w_X6_isBroken_39 B _ _ _ _ _ h hM hS (lv_sub hl [] rfl)
set_option maxHeartbeats 4000000 in
set_option maxRecDepth 100000 in
theorem w_X6_isBroken_20 {p : Program} {l : Launch} {e : Env} {s : State} {m : MethodId} {args : Array Value} {below : List Frame} {meth : Method} {c : Code} {G : GG} {A : Nat → Prop} {ad : Nat → Nat} (B : MB G p s m args meth c cX6_isBroken 2 RX6 (some .boolean)) {r : Int32} {st' : MS} : ∀ (st : MS) (x1 : Int32) (y1 : Int32) (H : Heap) (locs : List Loc) (ls : Array Slot), f_X6_isBroken_20 st x1 y1 = some (r, st') → MW G A ad st H → va_S A s.heap H locs → lv_has ls 2 [(0, .ref (ad 0)), (1, .int x1)] → W p l e ({ frames := 5, cells := 0, slots := 0, locals := 117 } : Room) s m args below meth c H locs 0 0 (MQ below (QM G A ad (some (.int r)) st') args s 0 0 A) (F0 m 20 ls [.int y1, .ref (ad 0)]) := by
  have ⟨hx, hb, hr, hml, hown, hT, hlocks, hK⟩ := B
  intro st x1 y1 H locs ls h hM hS hl
  rw [f_X6_isBroken_20] at h
  obtain ⟨r1, t2, e3, h⟩ := bd_e h
  refine mw_callV B hM hS [.int y1] (n := 1) (v := (some (.int r1))) (c_X6_fails e3) wm_RX6_102 wi_yX6_fails ws_yX6_fails wc_yX6_fails rfl rfl (by decide +kernel) ⟨Nat.le_of_ble_eq_true rfl, Nat.le_of_ble_eq_true rfl⟩ ⟨Nat.le_refl 0, Nat.le_refl 0⟩ rfl hl.1 (Nat.le_of_ble_eq_true rfl) rfl dX6_isBroken_20 (fun H locs hM hS => ?_)
  refine lv_if_ne (tgt := 38) hx hb dX6_isBroken_23 (by decide) (fun c4 => ?_) (fun c4 => ?_)
  · have h := bi_f c4 h
    exact w_X6_isBroken_38 B _ _ _ _ h hM hS (lv_sub hl [] rfl)
  · have h := bi_t c4 h
    refine lv_aload_n hx hb dX6_isBroken_26 rfl (lv_at hl 0 rfl) ?_
    refine lv_iload_n hx hb dX6_isBroken_27 rfl (lv_at hl 1 rfl) ?_
    obtain ⟨r5, t6, e7, h⟩ := bd_e h
    refine mw_callV B hM hS [.int x1] (n := 1) (v := (some (.int r5))) (c_X6_isBrokenAt e7) wm_RX6_189 wi_yX6_isBrokenAt ws_yX6_isBrokenAt wc_yX6_isBrokenAt rfl rfl (by decide +kernel) ⟨Nat.le_of_ble_eq_true rfl, Nat.le_of_ble_eq_true rfl⟩ ⟨Nat.le_refl 0, Nat.le_refl 0⟩ rfl hl.1 (Nat.le_of_ble_eq_true rfl) rfl dX6_isBroken_28 (fun H locs hM hS => ?_)
    refine lv_if_eq (tgt := 38) hx hb dX6_isBroken_31 (by decide) (fun c8 => ?_) (fun c8 => ?_)
    · have h := bi_t c8 h
      exact w_X6_isBroken_38 B _ _ _ _ h hM hS (lv_sub hl [] rfl)
    · have h := bi_f c8 h
      refine lv_iconst (v := 1) hx hb dX6_isBroken_34 (by decide) ?_
      refine lv_goto (tgt := 39) hx hb dX6_isBroken_35 (by decide) ?_
      exact w_X6_isBroken_39 B _ _ _ _ _ h hM hS (lv_sub hl [] rfl)
set_option maxHeartbeats 4000000 in
set_option maxRecDepth 100000 in
theorem w_X6_isBroken {p : Program} {l : Launch} {e : Env} {s : State} {m : MethodId} {args : Array Value} {below : List Frame} {meth : Method} {c : Code} {G : GG} {A : Nat → Prop} {ad : Nat → Nat} (B : MB G p s m args meth c cX6_isBroken 2 RX6 (some .boolean)) {r : Int32} {st' : MS} : ∀ (st : MS) (x1 : Int32) (H : Heap) (locs : List Loc) (ls : Array Slot), f_X6_isBroken st x1 = some (r, st') → MW G A ad st H → va_S A s.heap H locs → lv_has ls 2 [(0, .ref (ad 0)), (1, .int x1)] → W p l e ({ frames := 5, cells := 0, slots := 0, locals := 117 } : Room) s m args below meth c H locs 0 0 (MQ below (QM G A ad (some (.int r)) st') args s 0 0 A) (F0 m 0 ls []) := by
  have ⟨hx, hb, hr, hml, hown, hT, hlocks, hK⟩ := B
  intro st x1 H locs ls h hM hS hl
  rw [f_X6_isBroken] at h
  refine lv_aload_n hx hb dX6_isBroken_0 rfl (lv_at hl 0 rfl) ?_
  refine lv_iload_n hx hb dX6_isBroken_1 rfl (lv_at hl 1 rfl) ?_
  refine lv_iconst (v := 1) hx hb dX6_isBroken_2 (by decide) ?_
  refine lv_aload_n hx hb dX6_isBroken_3 rfl (lv_at hl 0 rfl) ?_
  refine mw_get B hM 2 (by decide) wf_RX6_95 rfl (v := .int (st.1 2)) rfl dX6_isBroken_4 ?_
  refine lv_iconst (v := 1) hx hb dX6_isBroken_7 (by decide) ?_
  refine lv_isub hx hb dX6_isBroken_8 ?_
  obtain ⟨r1, t2, e3, h⟩ := bd_e h
  refine mw_callS B hM hS [.int x1, .int 1, .int ((st.1 2) - 1)] (n := 3) (v := (some (.int r1))) (c_X6_in e3) wm_RX6_91 wt_yX6_in wc_yX6_in rfl rfl (by decide +kernel) ⟨Nat.le_of_ble_eq_true rfl, Nat.le_of_ble_eq_true rfl⟩ ⟨Nat.le_refl 0, Nat.le_refl 0⟩ rfl hl.1 (Nat.le_of_ble_eq_true rfl) rfl dX6_isBroken_9 (fun H locs hM hS => ?_)
  refine lv_if_eq (tgt := 19) hx hb dX6_isBroken_12 (by decide) (fun c4 => ?_) (fun c4 => ?_)
  · have h := bi_t c4 h
    refine lv_iconst (v := 1) hx hb dX6_isBroken_19 (by decide) ?_
    exact w_X6_isBroken_20 B _ _ _ _ _ _ h hM hS (lv_sub hl [0, 1] rfl)
  · have h := bi_f c4 h
    refine lv_iconst (v := 0) hx hb dX6_isBroken_15 (by decide) ?_
    refine lv_goto (tgt := 20) hx hb dX6_isBroken_16 (by decide) ?_
    exact w_X6_isBroken_20 B _ _ _ _ _ _ h hM hS (lv_sub hl [0, 1] rfl)
theorem c_X6_isBroken {l : Launch} {G : GG} {A : Nat → Prop} {ad : Nat → Nat} {st : MS} {x1 : Int32} {r : Int32} {st' : MS} (h : f_X6_isBroken st x1 = some (r, st')) : Met l yX6_isBroken (Cond.code yX6_isBroken cX6_isBroken 2 (some .boolean) :: TG) ({ frames := 5, cells := 0, slots := 0, locals := 117 } : Room) (PM G A ad st [.ref (ad 0), .int x1]) (QM G A ad (some (.int r)) st') 0 0 A :=
  mw_of (own := RX6) (by decide +kernel) rfl rfl rfl (Nat.le_of_ble_eq_true rfl) fun p e s m below meth c ls B hM hS hl => w_X6_isBroken B _ _ _ _ _ h hM hS hl
set_option maxHeartbeats 4000000 in
set_option maxRecDepth 100000 in
theorem w_X6_countBroken_27 {p : Program} {l : Launch} {e : Env} {s : State} {m : MethodId} {args : Array Value} {below : List Frame} {meth : Method} {c : Code} {G : GG} {A : Nat → Prop} {ad : Nat → Nat} (B : MB G p s m args meth c cX6_countBroken 3 RX6 (some .int)) {r : Int32} {st' : MS} {k4 : MS → Int32 → Int32 → Option (Int32 × MS)} (hk4 : ∀ (st : MS) (x1 : Int32) (x2 : Int32) (H : Heap) (locs : List Loc) (ls : Array Slot), k4 st x1 x2 = some (r, st') → MW G A ad st H → va_S A s.heap H locs → lv_has ls 3 [(0, .ref (ad 0)), (1, .int x1), (2, .int x2)] → W p l e ({ frames := 5, cells := 0, slots := 0, locals := 117 } : Room) s m args below meth c H locs 0 0 (MQ below (QM G A ad (some (.int r)) st') args s 0 0 A) (F0 m 4 ls [])) : ∀ (st : MS) (x2 : Int32) (y0 : Int32) (H : Heap) (locs : List Loc) (ls : Array Slot), f_X6_countBroken_27 k4 st x2 y0 = some (r, st') → MW G A ad st H → va_S A s.heap H locs → lv_has ls 3 [(0, .ref (ad 0)), (2, .int x2)] → W p l e ({ frames := 5, cells := 0, slots := 0, locals := 117 } : Room) s m args below meth c H locs 0 0 (MQ below (QM G A ad (some (.int r)) st') args s 0 0 A) (F0 m 27 ls [.int y0]) := by
  have ⟨hx, hb, hr, hml, hown, hT, hlocks, hK⟩ := B
  intro st x2 y0 H locs ls h hM hS hl
  rw [f_X6_countBroken_27] at h
  refine lv_istore_n (lv' := [(1, .int y0), (0, .ref (ad 0)), (2, .int x2)]) hx hb dX6_countBroken_27 rfl hl (by decide) rfl (fun ls hl => ?_)
  refine lv_iinc (v := (x2 + 1)) (lv' := [(2, .int (x2 + 1)), (1, .int y0), (0, .ref (ad 0))]) hx hb dX6_countBroken_28 hl (k := 2) rfl rfl (by decide) rfl (fun ls hl => ?_)
  refine lv_goto (tgt := 4) hx hb dX6_countBroken_31 (by decide) ?_
  exact hk4 _ _ _ _ _ _ h hM hS (lv_sub hl [2, 1, 0] rfl)
set_option maxHeartbeats 4000000 in
set_option maxRecDepth 100000 in
theorem w_X6_countBroken_4 {p : Program} {l : Launch} {e : Env} {s : State} {m : MethodId} {args : Array Value} {below : List Frame} {meth : Method} {c : Code} {G : GG} {A : Nat → Prop} {ad : Nat → Nat} (B : MB G p s m args meth c cX6_countBroken 3 RX6 (some .int)) {r : Int32} {st' : MS} : ∀ (n : Nat) (st : MS) (x1 : Int32) (x2 : Int32) (H : Heap) (locs : List Loc) (ls : Array Slot), f_X6_countBroken_4 n st x1 x2 = some (r, st') → MW G A ad st H → va_S A s.heap H locs → lv_has ls 3 [(0, .ref (ad 0)), (1, .int x1), (2, .int x2)] → W p l e ({ frames := 5, cells := 0, slots := 0, locals := 117 } : Room) s m args below meth c H locs 0 0 (MQ below (QM G A ad (some (.int r)) st') args s 0 0 A) (F0 m 4 ls []) := by
  have ⟨hx, hb, hr, hml, hown, hT, hlocks, hK⟩ := B
  intro n
  induction n with
  | zero =>
    intro st x1 x2 H locs ls h
    cases h
  | succ n ih =>
    intro st x1 x2 H locs ls h hM hS hl
    rw [f_X6_countBroken_4] at h
    refine lv_iload_n hx hb dX6_countBroken_4 rfl (lv_at hl 2 rfl) ?_
    refine lv_aload_n hx hb dX6_countBroken_5 rfl (lv_at hl 0 rfl) ?_
    refine mw_get B hM 2 (by decide) wf_RX6_95 rfl (v := .int (st.1 2)) rfl dX6_countBroken_6 ?_
    refine lv_icmp_ge (tgt := 34) hx hb dX6_countBroken_9 (by decide) (fun c1 => ?_) (fun c1 => ?_)
    · have h := bi_t c1 h
      refine lv_iload_n hx hb dX6_countBroken_34 rfl (lv_at hl 1 rfl) ?_
      cases h
      exact mw_iret B hM hS dX6_countBroken_35
    · have h := bi_f c1 h
      refine lv_aload_n hx hb dX6_countBroken_12 rfl (lv_at hl 0 rfl) ?_
      refine lv_iload_n hx hb dX6_countBroken_13 rfl (lv_at hl 2 rfl) ?_
      obtain ⟨r2, t3, e4, h⟩ := bd_e h
      refine mw_callV B hM hS [.int x2] (n := 1) (v := (some (.int r2))) (c_X6_isBrokenAt e4) wm_RX6_189 wi_yX6_isBrokenAt ws_yX6_isBrokenAt wc_yX6_isBrokenAt rfl rfl (by decide +kernel) ⟨Nat.le_of_ble_eq_true rfl, Nat.le_of_ble_eq_true rfl⟩ ⟨Nat.le_refl 0, Nat.le_refl 0⟩ rfl hl.1 (Nat.le_of_ble_eq_true rfl) rfl dX6_countBroken_14 (fun H locs hM hS => ?_)
      refine lv_if_eq (tgt := 26) hx hb dX6_countBroken_17 (by decide) (fun c5 => ?_) (fun c5 => ?_)
      · have h := bi_t c5 h
        refine lv_iload_n hx hb dX6_countBroken_26 rfl (lv_at hl 1 rfl) ?_
        exact w_X6_countBroken_27 B ih _ _ _ _ _ _ h hM hS (lv_sub hl [0, 2] rfl)
      · have h := bi_f c5 h
        refine lv_iload_n hx hb dX6_countBroken_20 rfl (lv_at hl 1 rfl) ?_
        refine lv_iconst (v := 1) hx hb dX6_countBroken_21 (by decide) ?_
        refine lv_iadd hx hb dX6_countBroken_22 ?_
        refine lv_goto (tgt := 27) hx hb dX6_countBroken_23 (by decide) ?_
        exact w_X6_countBroken_27 B ih _ _ _ _ _ _ h hM hS (lv_sub hl [0, 2] rfl)
set_option maxHeartbeats 4000000 in
set_option maxRecDepth 100000 in
theorem w_X6_countBroken {p : Program} {l : Launch} {e : Env} {s : State} {m : MethodId} {args : Array Value} {below : List Frame} {meth : Method} {c : Code} {G : GG} {A : Nat → Prop} {ad : Nat → Nat} (B : MB G p s m args meth c cX6_countBroken 3 RX6 (some .int)) {r : Int32} {st' : MS} : ∀ (st : MS) (H : Heap) (locs : List Loc) (ls : Array Slot), f_X6_countBroken st = some (r, st') → MW G A ad st H → va_S A s.heap H locs → lv_has ls 3 [(0, .ref (ad 0))] → W p l e ({ frames := 5, cells := 0, slots := 0, locals := 117 } : Room) s m args below meth c H locs 0 0 (MQ below (QM G A ad (some (.int r)) st') args s 0 0 A) (F0 m 0 ls []) := by
  have ⟨hx, hb, hr, hml, hown, hT, hlocks, hK⟩ := B
  intro st  H locs ls h hM hS hl
  rw [f_X6_countBroken] at h
  refine lv_iconst (v := 0) hx hb dX6_countBroken_0 (by decide) ?_
  refine lv_istore_n (lv' := [(1, .int 0), (0, .ref (ad 0))]) hx hb dX6_countBroken_1 rfl hl (by decide) rfl (fun ls hl => ?_)
  refine lv_iconst (v := 1) hx hb dX6_countBroken_2 (by decide) ?_
  refine lv_istore_n (lv' := [(2, .int 1), (1, .int 0), (0, .ref (ad 0))]) hx hb dX6_countBroken_3 rfl hl (by decide) rfl (fun ls hl => ?_)
  exact w_X6_countBroken_4 B FU _ _ _ _ _ _ h hM hS (lv_sub hl [2, 1, 0] rfl)
theorem c_X6_countBroken {l : Launch} {G : GG} {A : Nat → Prop} {ad : Nat → Nat} {st : MS} {r : Int32} {st' : MS} (h : f_X6_countBroken st = some (r, st')) : Met l yX6_countBroken (Cond.code yX6_countBroken cX6_countBroken 3 (some .int) :: TG) ({ frames := 5, cells := 0, slots := 0, locals := 117 } : Room) (PM G A ad st [.ref (ad 0)]) (QM G A ad (some (.int r)) st') 0 0 A :=
  mw_of (own := RX6) (by decide +kernel) rfl rfl rfl (Nat.le_of_ble_eq_true rfl) fun p e s m below meth c ls B hM hS hl => w_X6_countBroken B _ _ _ _ h hM hS hl
set_option maxHeartbeats 4000000 in
set_option maxRecDepth 100000 in
theorem w_X6_broken {p : Program} {l : Launch} {e : Env} {s : State} {m : MethodId} {args : Array Value} {below : List Frame} {meth : Method} {c : Code} {G : GG} {A : Nat → Prop} {ad : Nat → Nat} (B : MB G p s m args meth c cX6_broken 1 RX6 (some .int)) {r : Int32} {st' : MS} : ∀ (st : MS) (H : Heap) (locs : List Loc) (ls : Array Slot), f_X6_broken st = some (r, st') → MW G A ad st H → va_S A s.heap H locs → lv_has ls 1 [(0, .ref (ad 0))] → W p l e ({ frames := 6, cells := 0, slots := 0, locals := 139 } : Room) s m args below meth c H locs 0 0 (MQ below (QM G A ad (some (.int r)) st') args s 0 0 A) (F0 m 0 ls []) := by
  have ⟨hx, hb, hr, hml, hown, hT, hlocks, hK⟩ := B
  intro st  H locs ls h hM hS hl
  rw [f_X6_broken] at h
  refine lv_aload_n hx hb dX6_broken_0 rfl (lv_at hl 0 rfl) ?_
  refine lv_iconst (v := 0) hx hb dX6_broken_1 (by decide) ?_
  refine mw_put B hM hS 0 (by decide) wf_RX6_84 rfl rfl rfl rfl rfl dX6_broken_2 (fun H locs hM hS => ?_)
  refine lv_aload_n hx hb dX6_broken_5 rfl (lv_at hl 0 rfl) ?_
  obtain ⟨r1, t2, e3, h⟩ := bd_e h
  refine mw_callV B hM hS [] (n := 0) (v := (some (.int r1))) (c_X6_countBroken e3) wm_RX6_192 wi_yX6_countBroken ws_yX6_countBroken wc_yX6_countBroken rfl rfl (by decide +kernel) ⟨Nat.le_of_ble_eq_true rfl, Nat.le_of_ble_eq_true rfl⟩ ⟨Nat.le_refl 0, Nat.le_refl 0⟩ rfl hl.1 (Nat.le_of_ble_eq_true rfl) rfl dX6_broken_6 (fun H locs hM hS => ?_)
  cases h
  exact mw_iret B hM hS dX6_broken_9
theorem c_X6_broken {l : Launch} {G : GG} {A : Nat → Prop} {ad : Nat → Nat} {st : MS} {r : Int32} {st' : MS} (h : f_X6_broken st = some (r, st')) : Met l yX6_broken (Cond.code yX6_broken cX6_broken 1 (some .int) :: TG) ({ frames := 6, cells := 0, slots := 0, locals := 139 } : Room) (PM G A ad st [.ref (ad 0)]) (QM G A ad (some (.int r)) st') 0 0 A :=
  mw_of (own := RX6) (by decide +kernel) rfl rfl rfl (Nat.le_of_ble_eq_true rfl) fun p e s m below meth c ls B hM hS hl => w_X6_broken B _ _ _ _ h hM hS hl
set_option maxHeartbeats 4000000 in
set_option maxRecDepth 100000 in
theorem w_X6_hand_108 {p : Program} {l : Launch} {e : Env} {s : State} {m : MethodId} {args : Array Value} {below : List Frame} {meth : Method} {c : Code} {G : GG} {A : Nat → Prop} {ad : Nat → Nat} (B : MB G p s m args meth c cX6_hand 5 RX6 (some .int)) {r : Int32} {st' : MS} {k81 : MS → Int32 → Int32 → Int32 → Option (Int32 × MS)} (hk81 : ∀ (st : MS) (x2 : Int32) (x3 : Int32) (x4 : Int32) (H : Heap) (locs : List Loc) (ls : Array Slot), k81 st x2 x3 x4 = some (r, st') → MW G A ad st H → va_S A s.heap H locs → lv_has ls 5 [(0, .ref (ad 0)), (2, .int x2), (3, .int x3), (4, .int x4)] → W p l e ({ frames := 2, cells := 0, slots := 0, locals := 43 } : Room) s m args below meth c H locs 0 0 (MQ below (QM G A ad (some (.int r)) st') args s 0 0 A) (F0 m 81 ls [])) : ∀ (st : MS) (x2 : Int32) (x4 : Int32) (y0 : Int32) (H : Heap) (locs : List Loc) (ls : Array Slot), f_X6_hand_108 k81 st x2 x4 y0 = some (r, st') → MW G A ad st H → va_S A s.heap H locs → lv_has ls 5 [(0, .ref (ad 0)), (2, .int x2), (4, .int x4)] → W p l e ({ frames := 2, cells := 0, slots := 0, locals := 43 } : Room) s m args below meth c H locs 0 0 (MQ below (QM G A ad (some (.int r)) st') args s 0 0 A) (F0 m 108 ls [.int y0]) := by
  have ⟨hx, hb, hr, hml, hown, hT, hlocks, hK⟩ := B
  intro st x2 x4 y0 H locs ls h hM hS hl
  rw [f_X6_hand_108] at h
  refine lv_istore_n (lv' := [(3, .int y0), (0, .ref (ad 0)), (2, .int x2), (4, .int x4)]) hx hb dX6_hand_108 rfl hl (by decide) rfl (fun ls hl => ?_)
  refine lv_iinc (v := (x4 + 1)) (lv' := [(4, .int (x4 + 1)), (3, .int y0), (0, .ref (ad 0)), (2, .int x2)]) hx hb dX6_hand_109 hl (k := 3) rfl rfl (by decide) rfl (fun ls hl => ?_)
  refine lv_goto (tgt := 81) hx hb dX6_hand_112 (by decide) ?_
  exact hk81 _ _ _ _ _ _ _ h hM hS (lv_sub hl [2, 3, 1, 0] rfl)
set_option maxHeartbeats 4000000 in
set_option maxRecDepth 100000 in
theorem w_X6_hand_81 {p : Program} {l : Launch} {e : Env} {s : State} {m : MethodId} {args : Array Value} {below : List Frame} {meth : Method} {c : Code} {G : GG} {A : Nat → Prop} {ad : Nat → Nat} (B : MB G p s m args meth c cX6_hand 5 RX6 (some .int)) {r : Int32} {st' : MS} : ∀ (n : Nat) (st : MS) (x2 : Int32) (x3 : Int32) (x4 : Int32) (H : Heap) (locs : List Loc) (ls : Array Slot), f_X6_hand_81 n st x2 x3 x4 = some (r, st') → MW G A ad st H → va_S A s.heap H locs → lv_has ls 5 [(0, .ref (ad 0)), (2, .int x2), (3, .int x3), (4, .int x4)] → W p l e ({ frames := 2, cells := 0, slots := 0, locals := 43 } : Room) s m args below meth c H locs 0 0 (MQ below (QM G A ad (some (.int r)) st') args s 0 0 A) (F0 m 81 ls []) := by
  have ⟨hx, hb, hr, hml, hown, hT, hlocks, hK⟩ := B
  intro n
  induction n with
  | zero =>
    intro st x2 x3 x4 H locs ls h
    cases h
  | succ n ih =>
    intro st x2 x3 x4 H locs ls h hM hS hl
    rw [f_X6_hand_81] at h
    refine lv_iload hx hb dX6_hand_81 (lv_at hl 3 rfl) ?_
    refine lv_aload_n hx hb dX6_hand_83 rfl (lv_at hl 0 rfl) ?_
    refine mw_get B hM 1 (by decide) wf_RX6_88 rfl (v := .int (st.1 1)) rfl dX6_hand_84 ?_
    refine lv_icmp_ge (tgt := 115) hx hb dX6_hand_87 (by decide) (fun c1 => ?_) (fun c1 => ?_)
    · have h := bi_t c1 h
      refine lv_iload_n hx hb dX6_hand_115 rfl (lv_at hl 2 rfl) ?_
      cases h
      exact mw_iret B hM hS dX6_hand_116
    · have h := bi_f c1 h
      refine lv_aload_n hx hb dX6_hand_90 rfl (lv_at hl 0 rfl) ?_
      refine mw_get B hM 20 (by decide) wf_RX6_60 rfl (v := .ref (ad 20)) rfl dX6_hand_91 ?_
      refine lv_iload hx hb dX6_hand_94 (lv_at hl 3 rfl) ?_
      obtain ⟨g2, h⟩ := gd_e h
      refine mw_iald B hM 20 (by decide) (by decide) rfl g2 dX6_hand_96 ?_
      refine lv_iload_n hx hb dX6_hand_97 rfl (lv_at hl 1 rfl) ?_
      refine lv_icmp_ne (tgt := 107) hx hb dX6_hand_98 (by decide) (fun c3 => ?_) (fun c3 => ?_)
      · have h := bi_f c3 h
        refine lv_iload_n hx hb dX6_hand_107 rfl (lv_at hl 2 rfl) ?_
        exact w_X6_hand_108 B ih _ _ _ _ _ _ _ h hM hS (lv_sub hl [0, 1, 3] rfl)
      · have h := bi_t c3 h
        refine lv_iload_n hx hb dX6_hand_101 rfl (lv_at hl 2 rfl) ?_
        refine lv_iconst (v := 1) hx hb dX6_hand_102 (by decide) ?_
        refine lv_iadd hx hb dX6_hand_103 ?_
        refine lv_goto (tgt := 108) hx hb dX6_hand_104 (by decide) ?_
        exact w_X6_hand_108 B ih _ _ _ _ _ _ _ h hM hS (lv_sub hl [0, 1, 3] rfl)
set_option maxHeartbeats 4000000 in
set_option maxRecDepth 100000 in
theorem w_X6_hand_49 {p : Program} {l : Launch} {e : Env} {s : State} {m : MethodId} {args : Array Value} {below : List Frame} {meth : Method} {c : Code} {G : GG} {A : Nat → Prop} {ad : Nat → Nat} (B : MB G p s m args meth c cX6_hand 5 RX6 (some .int)) {r : Int32} {st' : MS} : ∀ (st : MS) (x1 : Int32) (x2 : Int32) (y1 : Int32) (H : Heap) (locs : List Loc) (ls : Array Slot), f_X6_hand_49 st x1 x2 y1 = some (r, st') → MW G A ad st H → va_S A s.heap H locs → lv_has ls 5 [(0, .ref (ad 0)), (1, .int x1), (2, .int x2)] → W p l e ({ frames := 2, cells := 0, slots := 0, locals := 43 } : Room) s m args below meth c H locs 0 0 (MQ below (QM G A ad (some (.int r)) st') args s 0 0 A) (F0 m 49 ls [.int y1, .ref (ad 0)]) := by
  have ⟨hx, hb, hr, hml, hown, hT, hlocks, hK⟩ := B
  intro st x1 x2 y1 H locs ls h hM hS hl
  rw [f_X6_hand_49] at h
  obtain ⟨r1, t2, e3, h⟩ := bd_e h
  refine mw_callV B hM hS [.int y1] (n := 1) (v := (some (.int r1))) (c_X6_fails e3) wm_RX6_102 wi_yX6_fails ws_yX6_fails wc_yX6_fails rfl rfl (by decide +kernel) ⟨Nat.le_of_ble_eq_true rfl, Nat.le_of_ble_eq_true rfl⟩ ⟨Nat.le_refl 0, Nat.le_refl 0⟩ rfl hl.1 (Nat.le_of_ble_eq_true rfl) rfl dX6_hand_49 (fun H locs hM hS => ?_)
  refine lv_if_eq (tgt := 57) hx hb dX6_hand_52 (by decide) (fun c4 => ?_) (fun c4 => ?_)
  · have h := bi_t c4 h
    refine lv_aload_n hx hb dX6_hand_57 rfl (lv_at hl 0 rfl) ?_
    refine mw_get B hM 20 (by decide) wf_RX6_60 rfl (v := .ref (ad 20)) rfl dX6_hand_58 ?_
    refine lv_iload_n hx hb dX6_hand_61 rfl (lv_at hl 1 rfl) ?_
    refine lv_iload_n hx hb dX6_hand_62 rfl (lv_at hl 2 rfl) ?_
    obtain ⟨g5, h⟩ := gd_e h
    refine mw_iast B hM hS 20 (by decide) (by decide) rfl g5 dX6_hand_63 (fun H locs hM hS => ?_)
    refine lv_aload_n hx hb dX6_hand_64 rfl (lv_at hl 0 rfl) ?_
    refine mw_get B hM 21 (by decide) wf_RX6_63 rfl (v := .ref (ad 21)) rfl dX6_hand_65 ?_
    refine lv_iload_n hx hb dX6_hand_68 rfl (lv_at hl 1 rfl) ?_
    refine lv_aload_n hx hb dX6_hand_69 rfl (lv_at hl 0 rfl) ?_
    refine mw_get B hM 7 (by decide) wf_RX6_23 rfl (v := .ref (ad 7)) rfl dX6_hand_70 ?_
    refine lv_iload_n hx hb dX6_hand_73 rfl (lv_at hl 1 rfl) ?_
    obtain ⟨g6, h⟩ := gd_e h
    refine mw_iald B hM 7 (by decide) (by decide) rfl g6 dX6_hand_74 ?_
    obtain ⟨g7, h⟩ := gd_e h
    refine mw_iast B hM hS 21 (by decide) (by decide) rfl g7 dX6_hand_75 (fun H locs hM hS => ?_)
    refine lv_iconst (v := 0) hx hb dX6_hand_76 (by decide) ?_
    refine lv_istore_n (lv' := [(3, .int 0), (0, .ref (ad 0)), (1, .int x1), (2, .int x2)]) hx hb dX6_hand_77 rfl hl (by decide) rfl (fun ls hl => ?_)
    refine lv_iconst (v := 0) hx hb dX6_hand_78 (by decide) ?_
    refine lv_istore (lv' := [(4, .int 0), (3, .int 0), (0, .ref (ad 0)), (1, .int x1), (2, .int x2)]) hx hb dX6_hand_79 hl (by decide) rfl (fun ls hl => ?_)
    exact w_X6_hand_81 B FU _ _ _ _ _ _ _ h hM hS (lv_sub hl [2, 4, 1, 0] rfl)
  · have h := bi_f c4 h
    refine lv_iconst (v := 0) hx hb dX6_hand_55 (by decide) ?_
    cases h
    exact mw_iret B hM hS dX6_hand_56
set_option maxHeartbeats 4000000 in
set_option maxRecDepth 100000 in
theorem w_X6_hand_44 {p : Program} {l : Launch} {e : Env} {s : State} {m : MethodId} {args : Array Value} {below : List Frame} {meth : Method} {c : Code} {G : GG} {A : Nat → Prop} {ad : Nat → Nat} (B : MB G p s m args meth c cX6_hand 5 RX6 (some .int)) {r : Int32} {st' : MS} : ∀ (st : MS) (x1 : Int32) (x2 : Int32) (H : Heap) (locs : List Loc) (ls : Array Slot), f_X6_hand_44 st x1 x2 = some (r, st') → MW G A ad st H → va_S A s.heap H locs → lv_has ls 5 [(0, .ref (ad 0)), (1, .int x1), (2, .int x2)] → W p l e ({ frames := 2, cells := 0, slots := 0, locals := 43 } : Room) s m args below meth c H locs 0 0 (MQ below (QM G A ad (some (.int r)) st') args s 0 0 A) (F0 m 44 ls [.ref (ad 0)]) := by
  have ⟨hx, hb, hr, hml, hown, hT, hlocks, hK⟩ := B
  intro st x1 x2 H locs ls h hM hS hl
  rw [f_X6_hand_44] at h
  refine lv_iconst (v := 3) hx hb dX6_hand_44 (by decide) ?_
  refine lv_goto (tgt := 49) hx hb dX6_hand_45 (by decide) ?_
  exact w_X6_hand_49 B _ _ _ _ _ _ _ h hM hS (lv_sub hl [0, 1, 2] rfl)
set_option maxHeartbeats 4000000 in
set_option maxRecDepth 100000 in
theorem w_X6_hand {p : Program} {l : Launch} {e : Env} {s : State} {m : MethodId} {args : Array Value} {below : List Frame} {meth : Method} {c : Code} {G : GG} {A : Nat → Prop} {ad : Nat → Nat} (B : MB G p s m args meth c cX6_hand 5 RX6 (some .int)) {r : Int32} {st' : MS} : ∀ (st : MS) (x1 : Int32) (x2 : Int32) (H : Heap) (locs : List Loc) (ls : Array Slot), f_X6_hand st x1 x2 = some (r, st') → MW G A ad st H → va_S A s.heap H locs → lv_has ls 5 [(0, .ref (ad 0)), (1, .int x1), (2, .int x2)] → W p l e ({ frames := 2, cells := 0, slots := 0, locals := 43 } : Room) s m args below meth c H locs 0 0 (MQ below (QM G A ad (some (.int r)) st') args s 0 0 A) (F0 m 0 ls []) := by
  have ⟨hx, hb, hr, hml, hown, hT, hlocks, hK⟩ := B
  intro st x1 x2 H locs ls h hM hS hl
  rw [f_X6_hand] at h
  refine lv_aload_n hx hb dX6_hand_0 rfl (lv_at hl 0 rfl) ?_
  refine lv_aload_n hx hb dX6_hand_1 rfl (lv_at hl 0 rfl) ?_
  refine lv_iload_n hx hb dX6_hand_2 rfl (lv_at hl 1 rfl) ?_
  obtain ⟨r1, t2, e3, h⟩ := bd_e h
  refine mw_callV B hM hS [.int x1] (n := 1) (v := (some (.int r1))) (c_X6_isShot e3) wm_RX6_118 wi_yX6_isShot ws_yX6_isShot wc_yX6_isShot rfl rfl (by decide +kernel) ⟨Nat.le_of_ble_eq_true rfl, Nat.le_of_ble_eq_true rfl⟩ ⟨Nat.le_refl 0, Nat.le_refl 0⟩ rfl hl.1 (Nat.le_of_ble_eq_true rfl) rfl dX6_hand_3 (fun H locs hM hS => ?_)
  refine lv_if_ne (tgt := 13) hx hb dX6_hand_6 (by decide) (fun c4 => ?_) (fun c4 => ?_)
  · have h := bi_f c4 h
    refine lv_iload_n hx hb dX6_hand_13 rfl (lv_at hl 2 rfl) ?_
    refine lv_iconst (v := 0) hx hb dX6_hand_14 (by decide) ?_
    refine lv_iconst (v := 3) hx hb dX6_hand_15 (by decide) ?_
    obtain ⟨r5, t6, e7, h⟩ := bd_e h
    refine mw_callS B hM hS [.int x2, .int 0, .int 3] (n := 3) (v := (some (.int r5))) (c_X6_in e7) wm_RX6_91 wt_yX6_in wc_yX6_in rfl rfl (by decide +kernel) ⟨Nat.le_of_ble_eq_true rfl, Nat.le_of_ble_eq_true rfl⟩ ⟨Nat.le_refl 0, Nat.le_refl 0⟩ rfl hl.1 (Nat.le_of_ble_eq_true rfl) rfl dX6_hand_16 (fun H locs hM hS => ?_)
    refine lv_if_ne (tgt := 26) hx hb dX6_hand_19 (by decide) (fun c8 => ?_) (fun c8 => ?_)
    · have h := bi_f c8 h
      refine lv_aload_n hx hb dX6_hand_26 rfl (lv_at hl 0 rfl) ?_
      refine lv_iload_n hx hb dX6_hand_27 rfl (lv_at hl 1 rfl) ?_
      obtain ⟨r9, t10, e11, h⟩ := bd_e h
      refine mw_callV B hM hS [.int x1] (n := 1) (v := (some (.int r9))) (c_X6_placeOf e11) wm_RX6_121 wi_yX6_placeOf ws_yX6_placeOf wc_yX6_placeOf rfl rfl (by decide +kernel) ⟨Nat.le_of_ble_eq_true rfl, Nat.le_of_ble_eq_true rfl⟩ ⟨Nat.le_refl 0, Nat.le_refl 0⟩ rfl hl.1 (Nat.le_of_ble_eq_true rfl) rfl dX6_hand_28 (fun H locs hM hS => ?_)
      refine lv_if_lt (tgt := 44) hx hb dX6_hand_31 (by decide) (fun c12 => ?_) (fun c12 => ?_)
      · have h := bi_t c12 h
        exact w_X6_hand_44 B _ _ _ _ _ _ h hM hS (lv_sub hl [0, 1, 2] rfl)
      · have h := bi_f c12 h
        refine lv_aload_n hx hb dX6_hand_34 rfl (lv_at hl 0 rfl) ?_
        refine mw_get B hM 20 (by decide) wf_RX6_60 rfl (v := .ref (ad 20)) rfl dX6_hand_35 ?_
        refine lv_iload_n hx hb dX6_hand_38 rfl (lv_at hl 1 rfl) ?_
        obtain ⟨g13, h⟩ := gd_e h
        refine mw_iald B hM 20 (by decide) (by decide) rfl g13 dX6_hand_39 ?_
        refine lv_iconst (v := (-1)) hx hb dX6_hand_40 (by decide) ?_
        refine lv_icmp_eq (tgt := 48) hx hb dX6_hand_41 (by decide) (fun c14 => ?_) (fun c14 => ?_)
        · have h := bi_t c14 h
          refine lv_iconst (v := 0) hx hb dX6_hand_48 (by decide) ?_
          exact w_X6_hand_49 B _ _ _ _ _ _ _ h hM hS (lv_sub hl [0, 1, 2] rfl)
        · have h := bi_f c14 h
          exact w_X6_hand_44 B _ _ _ _ _ _ h hM hS (lv_sub hl [0, 1, 2] rfl)
    · have h := bi_t c8 h
      refine lv_iconst (v := 2) hx hb dX6_hand_22 (by decide) ?_
      refine lv_goto (tgt := 49) hx hb dX6_hand_23 (by decide) ?_
      exact w_X6_hand_49 B _ _ _ _ _ _ _ h hM hS (lv_sub hl [0, 1, 2] rfl)
  · have h := bi_t c4 h
    refine lv_iconst (v := 1) hx hb dX6_hand_9 (by decide) ?_
    refine lv_goto (tgt := 49) hx hb dX6_hand_10 (by decide) ?_
    exact w_X6_hand_49 B _ _ _ _ _ _ _ h hM hS (lv_sub hl [0, 1, 2] rfl)
theorem c_X6_hand {l : Launch} {G : GG} {A : Nat → Prop} {ad : Nat → Nat} {st : MS} {x1 : Int32} {x2 : Int32} {r : Int32} {st' : MS} (h : f_X6_hand st x1 x2 = some (r, st')) : Met l yX6_hand (Cond.code yX6_hand cX6_hand 5 (some .int) :: TG) ({ frames := 2, cells := 0, slots := 0, locals := 43 } : Room) (PM G A ad st [.ref (ad 0), .int x1, .int x2]) (QM G A ad (some (.int r)) st') 0 0 A :=
  mw_of (own := RX6) (by decide +kernel) rfl rfl rfl (Nat.le_of_ble_eq_true rfl) fun p e s m below meth c ls B hM hS hl => w_X6_hand B _ _ _ _ _ _ h hM hS hl
set_option maxHeartbeats 4000000 in
set_option maxRecDepth 100000 in
theorem w_X6_bring_143 {p : Program} {l : Launch} {e : Env} {s : State} {m : MethodId} {args : Array Value} {below : List Frame} {meth : Method} {c : Code} {G : GG} {A : Nat → Prop} {ad : Nat → Nat} (B : MB G p s m args meth c cX6_bring 4 RX6 (some .boolean)) {r : Int32} {st' : MS} : ∀ (st : MS) (x3 : Int32) (y1 : Int32) (y2 : Int32) (H : Heap) (locs : List Loc) (ls : Array Slot), f_X6_bring_143 st x3 y1 y2 = some (r, st') → MW G A ad st H → va_S A s.heap H locs → lv_has ls 4 [(3, .int x3)] → W p l e ({ frames := 2, cells := 0, slots := 0, locals := 43 } : Room) s m args below meth c H locs 0 0 (MQ below (QM G A ad (some (.int r)) st') args s 0 0 A) (F0 m 143 ls [.int y2, .int y1, .ref (ad 6)]) := by
  have ⟨hx, hb, hr, hml, hown, hT, hlocks, hK⟩ := B
  intro st x3 y1 y2 H locs ls h hM hS hl
  rw [f_X6_bring_143] at h
  obtain ⟨g1, h⟩ := gd_e h
  refine mw_iast B hM hS 6 (by decide) (by decide) rfl g1 dX6_bring_143 (fun H locs hM hS => ?_)
  refine lv_iload_n hx hb dX6_bring_144 rfl (lv_at hl 0 rfl) ?_
  obtain ⟨g2, h⟩ := gd_e h
  cases h
  exact mw_zret B hM hS g2 dX6_bring_145
set_option maxHeartbeats 4000000 in
set_option maxRecDepth 100000 in
theorem w_X6_bring_121 {p : Program} {l : Launch} {e : Env} {s : State} {m : MethodId} {args : Array Value} {below : List Frame} {meth : Method} {c : Code} {G : GG} {A : Nat → Prop} {ad : Nat → Nat} (B : MB G p s m args meth c cX6_bring 4 RX6 (some .boolean)) {r : Int32} {st' : MS} : ∀ (st : MS) (x1 : Int32) (x2 : Int32) (x3 : Int32) (y1 : Int32) (y2 : Int32) (H : Heap) (locs : List Loc) (ls : Array Slot), f_X6_bring_121 st x1 x2 x3 y1 y2 = some (r, st') → MW G A ad st H → va_S A s.heap H locs → lv_has ls 4 [(0, .ref (ad 0)), (1, .int x1), (2, .int x2), (3, .int x3)] → W p l e ({ frames := 2, cells := 0, slots := 0, locals := 43 } : Room) s m args below meth c H locs 0 0 (MQ below (QM G A ad (some (.int r)) st') args s 0 0 A) (F0 m 121 ls [.int y2, .int y1, .ref (ad 0)]) := by
  have ⟨hx, hb, hr, hml, hown, hT, hlocks, hK⟩ := B
  intro st x1 x2 x3 y1 y2 H locs ls h hM hS hl
  rw [f_X6_bring_121] at h
  obtain ⟨r1, t2, e3, h⟩ := bd_e h
  refine mw_callV B hM hS [.int y1, .int y2] (n := 2) (v := none) (c_X6_change e3) wm_RX6_129 wi_yX6_change ws_yX6_change wc_yX6_change rfl rfl (by decide +kernel) ⟨Nat.le_of_ble_eq_true rfl, Nat.le_of_ble_eq_true rfl⟩ ⟨Nat.le_refl 0, Nat.le_refl 0⟩ rfl hl.1 (Nat.le_of_ble_eq_true rfl) rfl dX6_bring_121 (fun H locs hM hS => ?_)
  refine lv_aload_n hx hb dX6_bring_124 rfl (lv_at hl 0 rfl) ?_
  refine mw_get B hM 6 (by decide) wf_RX6_20 rfl (v := .ref (ad 6)) rfl dX6_bring_125 ?_
  refine lv_iload_n hx hb dX6_bring_128 rfl (lv_at hl 1 rfl) ?_
  refine lv_iload_n hx hb dX6_bring_129 rfl (lv_at hl 3 rfl) ?_
  refine lv_if_eq (tgt := 137) hx hb dX6_bring_130 (by decide) (fun c4 => ?_) (fun c4 => ?_)
  · have h := bi_t c4 h
    refine lv_aload_n hx hb dX6_bring_137 rfl (lv_at hl 0 rfl) ?_
    refine mw_get B hM 6 (by decide) wf_RX6_20 rfl (v := .ref (ad 6)) rfl dX6_bring_138 ?_
    refine lv_iload_n hx hb dX6_bring_141 rfl (lv_at hl 1 rfl) ?_
    obtain ⟨g5, h⟩ := gd_e h
    refine mw_iald B hM 6 (by decide) (by decide) rfl g5 dX6_bring_142 ?_
    exact w_X6_bring_143 B _ _ _ _ _ _ _ h hM hS (lv_sub hl [3] rfl)
  · have h := bi_f c4 h
    refine lv_iload_n hx hb dX6_bring_133 rfl (lv_at hl 2 rfl) ?_
    refine lv_goto (tgt := 143) hx hb dX6_bring_134 (by decide) ?_
    exact w_X6_bring_143 B _ _ _ _ _ _ _ h hM hS (lv_sub hl [3] rfl)
set_option maxHeartbeats 4000000 in
set_option maxRecDepth 100000 in
theorem w_X6_bring_120 {p : Program} {l : Launch} {e : Env} {s : State} {m : MethodId} {args : Array Value} {below : List Frame} {meth : Method} {c : Code} {G : GG} {A : Nat → Prop} {ad : Nat → Nat} (B : MB G p s m args meth c cX6_bring 4 RX6 (some .boolean)) {r : Int32} {st' : MS} : ∀ (st : MS) (x1 : Int32) (x2 : Int32) (x3 : Int32) (y1 : Int32) (H : Heap) (locs : List Loc) (ls : Array Slot), f_X6_bring_120 st x1 x2 x3 y1 = some (r, st') → MW G A ad st H → va_S A s.heap H locs → lv_has ls 4 [(0, .ref (ad 0)), (1, .int x1), (2, .int x2), (3, .int x3)] → W p l e ({ frames := 2, cells := 0, slots := 0, locals := 43 } : Room) s m args below meth c H locs 0 0 (MQ below (QM G A ad (some (.int r)) st') args s 0 0 A) (F0 m 120 ls [.int y1, .ref (ad 0)]) := by
  have ⟨hx, hb, hr, hml, hown, hT, hlocks, hK⟩ := B
  intro st x1 x2 x3 y1 H locs ls h hM hS hl
  rw [f_X6_bring_120] at h
  refine lv_iconst (v := 0) hx hb dX6_bring_120 (by decide) ?_
  exact w_X6_bring_121 B _ _ _ _ _ _ _ _ _ h hM hS (lv_sub hl [0, 1, 2, 3] rfl)
set_option maxHeartbeats 4000000 in
set_option maxRecDepth 100000 in
theorem w_X6_bring_97 {p : Program} {l : Launch} {e : Env} {s : State} {m : MethodId} {args : Array Value} {below : List Frame} {meth : Method} {c : Code} {G : GG} {A : Nat → Prop} {ad : Nat → Nat} (B : MB G p s m args meth c cX6_bring 4 RX6 (some .boolean)) {r : Int32} {st' : MS} : ∀ (st : MS) (x1 : Int32) (x2 : Int32) (x3 : Int32) (y1 : Int32) (H : Heap) (locs : List Loc) (ls : Array Slot), f_X6_bring_97 st x1 x2 x3 y1 = some (r, st') → MW G A ad st H → va_S A s.heap H locs → lv_has ls 4 [(0, .ref (ad 0)), (1, .int x1), (2, .int x2), (3, .int x3)] → W p l e ({ frames := 2, cells := 0, slots := 0, locals := 43 } : Room) s m args below meth c H locs 0 0 (MQ below (QM G A ad (some (.int r)) st') args s 0 0 A) (F0 m 97 ls [.int y1, .ref (ad 0)]) := by
  have ⟨hx, hb, hr, hml, hown, hT, hlocks, hK⟩ := B
  intro st x1 x2 x3 y1 H locs ls h hM hS hl
  rw [f_X6_bring_97] at h
  refine mw_put B hM hS 22 (by decide) wf_RX6_196 rfl rfl rfl rfl rfl dX6_bring_97 (fun H locs hM hS => ?_)
  refine lv_aload_n hx hb dX6_bring_100 rfl (lv_at hl 0 rfl) ?_
  refine lv_iload_n hx hb dX6_bring_101 rfl (lv_at hl 1 rfl) ?_
  refine lv_iload_n hx hb dX6_bring_102 rfl (lv_at hl 3 rfl) ?_
  refine lv_if_eq (tgt := 120) hx hb dX6_bring_103 (by decide) (fun c1 => ?_) (fun c1 => ?_)
  · have h := bi_t c1 h
    exact w_X6_bring_120 B _ _ _ _ _ _ _ _ h hM hS (lv_sub hl [0, 1, 2, 3] rfl)
  · have h := bi_f c1 h
    refine lv_aload_n hx hb dX6_bring_106 rfl (lv_at hl 0 rfl) ?_
    refine mw_get B hM 6 (by decide) wf_RX6_20 rfl (v := .ref (ad 6)) rfl dX6_bring_107 ?_
    refine lv_iload_n hx hb dX6_bring_110 rfl (lv_at hl 1 rfl) ?_
    obtain ⟨g2, h⟩ := gd_e h
    refine mw_iald B hM 6 (by decide) (by decide) rfl g2 dX6_bring_111 ?_
    refine lv_iload_n hx hb dX6_bring_112 rfl (lv_at hl 2 rfl) ?_
    refine lv_icmp_eq (tgt := 120) hx hb dX6_bring_113 (by decide) (fun c3 => ?_) (fun c3 => ?_)
    · have h := bi_t c3 h
      exact w_X6_bring_120 B _ _ _ _ _ _ _ _ h hM hS (lv_sub hl [0, 1, 2, 3] rfl)
    · have h := bi_f c3 h
      refine lv_iconst (v := 1) hx hb dX6_bring_116 (by decide) ?_
      refine lv_goto (tgt := 121) hx hb dX6_bring_117 (by decide) ?_
      exact w_X6_bring_121 B _ _ _ _ _ _ _ _ _ h hM hS (lv_sub hl [0, 1, 2, 3] rfl)
set_option maxHeartbeats 4000000 in
set_option maxRecDepth 100000 in
theorem w_X6_bring_71 {p : Program} {l : Launch} {e : Env} {s : State} {m : MethodId} {args : Array Value} {below : List Frame} {meth : Method} {c : Code} {G : GG} {A : Nat → Prop} {ad : Nat → Nat} (B : MB G p s m args meth c cX6_bring 4 RX6 (some .boolean)) {r : Int32} {st' : MS} : ∀ (st : MS) (x1 : Int32) (x2 : Int32) (y0 : Int32) (H : Heap) (locs : List Loc) (ls : Array Slot), f_X6_bring_71 st x1 x2 y0 = some (r, st') → MW G A ad st H → va_S A s.heap H locs → lv_has ls 4 [(0, .ref (ad 0)), (1, .int x1), (2, .int x2)] → W p l e ({ frames := 2, cells := 0, slots := 0, locals := 43 } : Room) s m args below meth c H locs 0 0 (MQ below (QM G A ad (some (.int r)) st') args s 0 0 A) (F0 m 71 ls [.int y0]) := by
  have ⟨hx, hb, hr, hml, hown, hT, hlocks, hK⟩ := B
  intro st x1 x2 y0 H locs ls h hM hS hl
  rw [f_X6_bring_71] at h
  refine lv_istore_n (lv' := [(3, .int y0), (0, .ref (ad 0)), (1, .int x1), (2, .int x2)]) hx hb dX6_bring_71 rfl hl (by decide) rfl (fun ls hl => ?_)
  refine lv_aload_n hx hb dX6_bring_72 rfl (lv_at hl 1 rfl) ?_
  refine mw_get B hM 20 (by decide) wf_RX6_60 rfl (v := .ref (ad 20)) rfl dX6_bring_73 ?_
  refine lv_iload_n hx hb dX6_bring_76 rfl (lv_at hl 2 rfl) ?_
  refine lv_iconst (v := (-1)) hx hb dX6_bring_77 (by decide) ?_
  obtain ⟨g1, h⟩ := gd_e h
  refine mw_iast B hM hS 20 (by decide) (by decide) rfl g1 dX6_bring_78 (fun H locs hM hS => ?_)
  refine lv_aload_n hx hb dX6_bring_79 rfl (lv_at hl 1 rfl) ?_
  refine lv_iload_n hx hb dX6_bring_80 rfl (lv_at hl 0 rfl) ?_
  refine lv_if_eq (tgt := 91) hx hb dX6_bring_81 (by decide) (fun c2 => ?_) (fun c2 => ?_)
  · have h := bi_t c2 h
    refine lv_aload_n hx hb dX6_bring_91 rfl (lv_at hl 1 rfl) ?_
    refine mw_get B hM 22 (by decide) wf_RX6_196 rfl (v := .int ((setA st 20 x1.toNatClampNeg (-1)).1 22)) rfl dX6_bring_92 ?_
    refine lv_iconst (v := 1) hx hb dX6_bring_95 (by decide) ?_
    refine lv_iadd hx hb dX6_bring_96 ?_
    exact w_X6_bring_97 B _ _ _ _ _ _ _ _ h hM hS (lv_sub hl [1, 2, 3, 0] rfl)
  · have h := bi_f c2 h
    refine lv_aload_n hx hb dX6_bring_84 rfl (lv_at hl 1 rfl) ?_
    refine mw_get B hM 22 (by decide) wf_RX6_196 rfl (v := .int ((setA st 20 x1.toNatClampNeg (-1)).1 22)) rfl dX6_bring_85 ?_
    refine lv_goto (tgt := 97) hx hb dX6_bring_88 (by decide) ?_
    exact w_X6_bring_97 B _ _ _ _ _ _ _ _ h hM hS (lv_sub hl [1, 2, 3, 0] rfl)
set_option maxHeartbeats 4000000 in
set_option maxRecDepth 100000 in
theorem w_X6_bring_43 {p : Program} {l : Launch} {e : Env} {s : State} {m : MethodId} {args : Array Value} {below : List Frame} {meth : Method} {c : Code} {G : GG} {A : Nat → Prop} {ad : Nat → Nat} (B : MB G p s m args meth c cX6_bring 4 RX6 (some .boolean)) {r : Int32} {st' : MS} : ∀ (st : MS) (x1 : Int32) (x2 : Int32) (y1 : Int32) (H : Heap) (locs : List Loc) (ls : Array Slot), f_X6_bring_43 st x1 x2 y1 = some (r, st') → MW G A ad st H → va_S A s.heap H locs → lv_has ls 4 [(0, .ref (ad 0)), (1, .int x1), (2, .int x2)] → W p l e ({ frames := 2, cells := 0, slots := 0, locals := 43 } : Room) s m args below meth c H locs 0 0 (MQ below (QM G A ad (some (.int r)) st') args s 0 0 A) (F0 m 43 ls [.int y1, .ref (ad 0)]) := by
  have ⟨hx, hb, hr, hml, hown, hT, hlocks, hK⟩ := B
  intro st x1 x2 y1 H locs ls h hM hS hl
  rw [f_X6_bring_43] at h
  obtain ⟨r1, t2, e3, h⟩ := bd_e h
  refine mw_callV B hM hS [.int y1] (n := 1) (v := (some (.int r1))) (c_X6_fails e3) wm_RX6_102 wi_yX6_fails ws_yX6_fails wc_yX6_fails rfl rfl (by decide +kernel) ⟨Nat.le_of_ble_eq_true rfl, Nat.le_of_ble_eq_true rfl⟩ ⟨Nat.le_refl 0, Nat.le_refl 0⟩ rfl hl.1 (Nat.le_of_ble_eq_true rfl) rfl dX6_bring_43 (fun H locs hM hS => ?_)
  refine lv_if_eq (tgt := 51) hx hb dX6_bring_46 (by decide) (fun c4 => ?_) (fun c4 => ?_)
  · have h := bi_t c4 h
    refine lv_aload_n hx hb dX6_bring_51 rfl (lv_at hl 0 rfl) ?_
    refine mw_get B hM 21 (by decide) wf_RX6_63 rfl (v := .ref (ad 21)) rfl dX6_bring_52 ?_
    refine lv_iload_n hx hb dX6_bring_55 rfl (lv_at hl 1 rfl) ?_
    obtain ⟨g5, h⟩ := gd_e h
    refine mw_iald B hM 21 (by decide) (by decide) rfl g5 dX6_bring_56 ?_
    refine lv_aload_n hx hb dX6_bring_57 rfl (lv_at hl 0 rfl) ?_
    refine mw_get B hM 7 (by decide) wf_RX6_23 rfl (v := .ref (ad 7)) rfl dX6_bring_58 ?_
    refine lv_iload_n hx hb dX6_bring_61 rfl (lv_at hl 1 rfl) ?_
    obtain ⟨g6, h⟩ := gd_e h
    refine mw_iald B hM 7 (by decide) (by decide) rfl g6 dX6_bring_62 ?_
    refine lv_icmp_ne (tgt := 70) hx hb dX6_bring_63 (by decide) (fun c7 => ?_) (fun c7 => ?_)
    · have h := bi_f c7 h
      refine lv_iconst (v := 0) hx hb dX6_bring_70 (by decide) ?_
      exact w_X6_bring_71 B _ _ _ _ _ _ _ h hM hS (lv_sub hl [0, 1, 2] rfl)
    · have h := bi_t c7 h
      refine lv_iconst (v := 1) hx hb dX6_bring_66 (by decide) ?_
      refine lv_goto (tgt := 71) hx hb dX6_bring_67 (by decide) ?_
      exact w_X6_bring_71 B _ _ _ _ _ _ _ h hM hS (lv_sub hl [0, 1, 2] rfl)
  · have h := bi_f c4 h
    refine lv_iconst (v := 0) hx hb dX6_bring_49 (by decide) ?_
    cases h
    exact mw_zret B hM hS (by rfl) dX6_bring_50
set_option maxHeartbeats 4000000 in
set_option maxRecDepth 100000 in
theorem w_X6_bring {p : Program} {l : Launch} {e : Env} {s : State} {m : MethodId} {args : Array Value} {below : List Frame} {meth : Method} {c : Code} {G : GG} {A : Nat → Prop} {ad : Nat → Nat} (B : MB G p s m args meth c cX6_bring 4 RX6 (some .boolean)) {r : Int32} {st' : MS} : ∀ (st : MS) (x1 : Int32) (x2 : Int32) (H : Heap) (locs : List Loc) (ls : Array Slot), f_X6_bring st x1 x2 = some (r, st') → MW G A ad st H → va_S A s.heap H locs → lv_has ls 4 [(0, .ref (ad 0)), (1, .int x1), (2, .int x2)] → W p l e ({ frames := 2, cells := 0, slots := 0, locals := 43 } : Room) s m args below meth c H locs 0 0 (MQ below (QM G A ad (some (.int r)) st') args s 0 0 A) (F0 m 0 ls []) := by
  have ⟨hx, hb, hr, hml, hown, hT, hlocks, hK⟩ := B
  intro st x1 x2 H locs ls h hM hS hl
  rw [f_X6_bring] at h
  refine lv_aload_n hx hb dX6_bring_0 rfl (lv_at hl 0 rfl) ?_
  refine lv_aload_n hx hb dX6_bring_1 rfl (lv_at hl 0 rfl) ?_
  refine lv_iload_n hx hb dX6_bring_2 rfl (lv_at hl 1 rfl) ?_
  obtain ⟨r1, t2, e3, h⟩ := bd_e h
  refine mw_callV B hM hS [.int x1] (n := 1) (v := (some (.int r1))) (c_X6_isShot e3) wm_RX6_118 wi_yX6_isShot ws_yX6_isShot wc_yX6_isShot rfl rfl (by decide +kernel) ⟨Nat.le_of_ble_eq_true rfl, Nat.le_of_ble_eq_true rfl⟩ ⟨Nat.le_refl 0, Nat.le_refl 0⟩ rfl hl.1 (Nat.le_of_ble_eq_true rfl) rfl dX6_bring_3 (fun H locs hM hS => ?_)
  refine lv_if_ne (tgt := 13) hx hb dX6_bring_6 (by decide) (fun c4 => ?_) (fun c4 => ?_)
  · have h := bi_f c4 h
    refine lv_iload_n hx hb dX6_bring_13 rfl (lv_at hl 2 rfl) ?_
    refine lv_iconst (v := 1) hx hb dX6_bring_14 (by decide) ?_
    refine lv_sipush (v := 240) hx hb dX6_bring_15 (by decide) ?_
    obtain ⟨r5, t6, e7, h⟩ := bd_e h
    refine mw_callS B hM hS [.int x2, .int 1, .int 240] (n := 3) (v := (some (.int r5))) (c_X6_in e7) wm_RX6_91 wt_yX6_in wc_yX6_in rfl rfl (by decide +kernel) ⟨Nat.le_of_ble_eq_true rfl, Nat.le_of_ble_eq_true rfl⟩ ⟨Nat.le_refl 0, Nat.le_refl 0⟩ rfl hl.1 (Nat.le_of_ble_eq_true rfl) rfl dX6_bring_18 (fun H locs hM hS => ?_)
    refine lv_if_ne (tgt := 28) hx hb dX6_bring_21 (by decide) (fun c8 => ?_) (fun c8 => ?_)
    · have h := bi_f c8 h
      refine lv_aload_n hx hb dX6_bring_28 rfl (lv_at hl 0 rfl) ?_
      refine mw_get B hM 20 (by decide) wf_RX6_60 rfl (v := .ref (ad 20)) rfl dX6_bring_29 ?_
      refine lv_iload_n hx hb dX6_bring_32 rfl (lv_at hl 1 rfl) ?_
      obtain ⟨g9, h⟩ := gd_e h
      refine mw_iald B hM 20 (by decide) (by decide) rfl g9 dX6_bring_33 ?_
      refine lv_iconst (v := (-1)) hx hb dX6_bring_34 (by decide) ?_
      refine lv_icmp_ne (tgt := 42) hx hb dX6_bring_35 (by decide) (fun c10 => ?_) (fun c10 => ?_)
      · have h := bi_f c10 h
        refine lv_iconst (v := 0) hx hb dX6_bring_42 (by decide) ?_
        exact w_X6_bring_43 B _ _ _ _ _ _ _ h hM hS (lv_sub hl [0, 1, 2] rfl)
      · have h := bi_t c10 h
        refine lv_iconst (v := 3) hx hb dX6_bring_38 (by decide) ?_
        refine lv_goto (tgt := 43) hx hb dX6_bring_39 (by decide) ?_
        exact w_X6_bring_43 B _ _ _ _ _ _ _ h hM hS (lv_sub hl [0, 1, 2] rfl)
    · have h := bi_t c8 h
      refine lv_iconst (v := 2) hx hb dX6_bring_24 (by decide) ?_
      refine lv_goto (tgt := 43) hx hb dX6_bring_25 (by decide) ?_
      exact w_X6_bring_43 B _ _ _ _ _ _ _ h hM hS (lv_sub hl [0, 1, 2] rfl)
  · have h := bi_t c4 h
    refine lv_iconst (v := 1) hx hb dX6_bring_9 (by decide) ?_
    refine lv_goto (tgt := 43) hx hb dX6_bring_10 (by decide) ?_
    exact w_X6_bring_43 B _ _ _ _ _ _ _ h hM hS (lv_sub hl [0, 1, 2] rfl)
theorem c_X6_bring {l : Launch} {G : GG} {A : Nat → Prop} {ad : Nat → Nat} {st : MS} {x1 : Int32} {x2 : Int32} {r : Int32} {st' : MS} (h : f_X6_bring st x1 x2 = some (r, st')) : Met l yX6_bring (Cond.code yX6_bring cX6_bring 4 (some .boolean) :: TG) ({ frames := 2, cells := 0, slots := 0, locals := 43 } : Room) (PM G A ad st [.ref (ad 0), .int x1, .int x2]) (QM G A ad (some (.int r)) st') 0 0 A :=
  mw_of (own := RX6) (by decide +kernel) rfl rfl rfl (Nat.le_of_ble_eq_true rfl) fun p e s m below meth c ls B hM hS hl => w_X6_bring B _ _ _ _ _ _ h hM hS hl
set_option maxHeartbeats 4000000 in
set_option maxRecDepth 100000 in
theorem w_X6_with_44 {p : Program} {l : Launch} {e : Env} {s : State} {m : MethodId} {args : Array Value} {below : List Frame} {meth : Method} {c : Code} {G : GG} {A : Nat → Prop} {ad : Nat → Nat} (B : MB G p s m args meth c cX6_with 2 RX6 (some .int)) {r : Int32} {st' : MS} : ∀ (st : MS) (y0 : Int32) (H : Heap) (locs : List Loc) (ls : Array Slot), f_X6_with_44 st y0 = some (r, st') → MW G A ad st H → va_S A s.heap H locs → lv_has ls 2 [] → W p l e ({ frames := 2, cells := 0, slots := 0, locals := 43 } : Room) s m args below meth c H locs 0 0 (MQ below (QM G A ad (some (.int r)) st') args s 0 0 A) (F0 m 44 ls [.int y0]) := by
  have ⟨hx, hb, hr, hml, hown, hT, hlocks, hK⟩ := B
  intro st y0 H locs ls h hM hS hl
  rw [f_X6_with_44] at h
  cases h
  exact mw_iret B hM hS dX6_with_44
set_option maxHeartbeats 4000000 in
set_option maxRecDepth 100000 in
theorem w_X6_with_28 {p : Program} {l : Launch} {e : Env} {s : State} {m : MethodId} {args : Array Value} {below : List Frame} {meth : Method} {c : Code} {G : GG} {A : Nat → Prop} {ad : Nat → Nat} (B : MB G p s m args meth c cX6_with 2 RX6 (some .int)) {r : Int32} {st' : MS} : ∀ (st : MS) (x1 : Int32) (y1 : Int32) (H : Heap) (locs : List Loc) (ls : Array Slot), f_X6_with_28 st x1 y1 = some (r, st') → MW G A ad st H → va_S A s.heap H locs → lv_has ls 2 [(0, .ref (ad 0)), (1, .int x1)] → W p l e ({ frames := 2, cells := 0, slots := 0, locals := 43 } : Room) s m args below meth c H locs 0 0 (MQ below (QM G A ad (some (.int r)) st') args s 0 0 A) (F0 m 28 ls [.int y1, .ref (ad 0)]) := by
  have ⟨hx, hb, hr, hml, hown, hT, hlocks, hK⟩ := B
  intro st x1 y1 H locs ls h hM hS hl
  rw [f_X6_with_28] at h
  obtain ⟨r1, t2, e3, h⟩ := bd_e h
  refine mw_callV B hM hS [.int y1] (n := 1) (v := (some (.int r1))) (c_X6_fails e3) wm_RX6_102 wi_yX6_fails ws_yX6_fails wc_yX6_fails rfl rfl (by decide +kernel) ⟨Nat.le_of_ble_eq_true rfl, Nat.le_of_ble_eq_true rfl⟩ ⟨Nat.le_refl 0, Nat.le_refl 0⟩ rfl hl.1 (Nat.le_of_ble_eq_true rfl) rfl dX6_with_28 (fun H locs hM hS => ?_)
  refine lv_if_eq (tgt := 38) hx hb dX6_with_31 (by decide) (fun c4 => ?_) (fun c4 => ?_)
  · have h := bi_t c4 h
    refine lv_aload_n hx hb dX6_with_38 rfl (lv_at hl 0 rfl) ?_
    refine mw_get B hM 20 (by decide) wf_RX6_60 rfl (v := .ref (ad 20)) rfl dX6_with_39 ?_
    refine lv_iload_n hx hb dX6_with_42 rfl (lv_at hl 1 rfl) ?_
    obtain ⟨g5, h⟩ := gd_e h
    refine mw_iald B hM 20 (by decide) (by decide) rfl g5 dX6_with_43 ?_
    exact w_X6_with_44 B _ _ _ _ _ h hM hS (lv_sub hl [] rfl)
  · have h := bi_f c4 h
    refine lv_iconst (v := 0) hx hb dX6_with_34 (by decide) ?_
    refine lv_goto (tgt := 44) hx hb dX6_with_35 (by decide) ?_
    exact w_X6_with_44 B _ _ _ _ _ h hM hS (lv_sub hl [] rfl)
set_option maxHeartbeats 4000000 in
set_option maxRecDepth 100000 in
theorem w_X6_with {p : Program} {l : Launch} {e : Env} {s : State} {m : MethodId} {args : Array Value} {below : List Frame} {meth : Method} {c : Code} {G : GG} {A : Nat → Prop} {ad : Nat → Nat} (B : MB G p s m args meth c cX6_with 2 RX6 (some .int)) {r : Int32} {st' : MS} : ∀ (st : MS) (x1 : Int32) (H : Heap) (locs : List Loc) (ls : Array Slot), f_X6_with st x1 = some (r, st') → MW G A ad st H → va_S A s.heap H locs → lv_has ls 2 [(0, .ref (ad 0)), (1, .int x1)] → W p l e ({ frames := 2, cells := 0, slots := 0, locals := 43 } : Room) s m args below meth c H locs 0 0 (MQ below (QM G A ad (some (.int r)) st') args s 0 0 A) (F0 m 0 ls []) := by
  have ⟨hx, hb, hr, hml, hown, hT, hlocks, hK⟩ := B
  intro st x1 H locs ls h hM hS hl
  rw [f_X6_with] at h
  refine lv_aload_n hx hb dX6_with_0 rfl (lv_at hl 0 rfl) ?_
  refine lv_aload_n hx hb dX6_with_1 rfl (lv_at hl 0 rfl) ?_
  refine lv_iload_n hx hb dX6_with_2 rfl (lv_at hl 1 rfl) ?_
  obtain ⟨r1, t2, e3, h⟩ := bd_e h
  refine mw_callV B hM hS [.int x1] (n := 1) (v := (some (.int r1))) (c_X6_isShot e3) wm_RX6_118 wi_yX6_isShot ws_yX6_isShot wc_yX6_isShot rfl rfl (by decide +kernel) ⟨Nat.le_of_ble_eq_true rfl, Nat.le_of_ble_eq_true rfl⟩ ⟨Nat.le_refl 0, Nat.le_refl 0⟩ rfl hl.1 (Nat.le_of_ble_eq_true rfl) rfl dX6_with_3 (fun H locs hM hS => ?_)
  refine lv_if_ne (tgt := 13) hx hb dX6_with_6 (by decide) (fun c4 => ?_) (fun c4 => ?_)
  · have h := bi_f c4 h
    refine lv_aload_n hx hb dX6_with_13 rfl (lv_at hl 0 rfl) ?_
    refine mw_get B hM 20 (by decide) wf_RX6_60 rfl (v := .ref (ad 20)) rfl dX6_with_14 ?_
    refine lv_iload_n hx hb dX6_with_17 rfl (lv_at hl 1 rfl) ?_
    obtain ⟨g5, h⟩ := gd_e h
    refine mw_iald B hM 20 (by decide) (by decide) rfl g5 dX6_with_18 ?_
    refine lv_iconst (v := (-1)) hx hb dX6_with_19 (by decide) ?_
    refine lv_icmp_ne (tgt := 27) hx hb dX6_with_20 (by decide) (fun c6 => ?_) (fun c6 => ?_)
    · have h := bi_f c6 h
      refine lv_iconst (v := 0) hx hb dX6_with_27 (by decide) ?_
      exact w_X6_with_28 B _ _ _ _ _ _ h hM hS (lv_sub hl [0, 1] rfl)
    · have h := bi_t c6 h
      refine lv_iconst (v := 2) hx hb dX6_with_23 (by decide) ?_
      refine lv_goto (tgt := 28) hx hb dX6_with_24 (by decide) ?_
      exact w_X6_with_28 B _ _ _ _ _ _ h hM hS (lv_sub hl [0, 1] rfl)
  · have h := bi_t c4 h
    refine lv_iconst (v := 1) hx hb dX6_with_9 (by decide) ?_
    refine lv_goto (tgt := 28) hx hb dX6_with_10 (by decide) ?_
    exact w_X6_with_28 B _ _ _ _ _ _ h hM hS (lv_sub hl [0, 1] rfl)
theorem c_X6_with {l : Launch} {G : GG} {A : Nat → Prop} {ad : Nat → Nat} {st : MS} {x1 : Int32} {r : Int32} {st' : MS} (h : f_X6_with st x1 = some (r, st')) : Met l yX6_with (Cond.code yX6_with cX6_with 2 (some .int) :: TG) ({ frames := 2, cells := 0, slots := 0, locals := 43 } : Room) (PM G A ad st [.ref (ad 0), .int x1]) (QM G A ad (some (.int r)) st') 0 0 A :=
  mw_of (own := RX6) (by decide +kernel) rfl rfl rfl (Nat.le_of_ble_eq_true rfl) fun p e s m below meth c ls B hM hS hl => w_X6_with B _ _ _ _ _ h hM hS hl
set_option maxHeartbeats 4000000 in
set_option maxRecDepth 100000 in
theorem w_X6_conflicts {p : Program} {l : Launch} {e : Env} {s : State} {m : MethodId} {args : Array Value} {below : List Frame} {meth : Method} {c : Code} {G : GG} {A : Nat → Prop} {ad : Nat → Nat} (B : MB G p s m args meth c cX6_conflicts 1 RX6 (some .int)) {r : Int32} {st' : MS} : ∀ (st : MS) (H : Heap) (locs : List Loc) (ls : Array Slot), f_X6_conflicts st = some (r, st') → MW G A ad st H → va_S A s.heap H locs → lv_has ls 1 [(0, .ref (ad 0))] → W p l e ({ frames := 0, cells := 0, slots := 0, locals := 0 } : Room) s m args below meth c H locs 0 0 (MQ below (QM G A ad (some (.int r)) st') args s 0 0 A) (F0 m 0 ls []) := by
  have ⟨hx, hb, hr, hml, hown, hT, hlocks, hK⟩ := B
  intro st  H locs ls h hM hS hl
  rw [f_X6_conflicts] at h
  refine lv_aload_n hx hb dX6_conflicts_0 rfl (lv_at hl 0 rfl) ?_
  refine lv_iconst (v := 0) hx hb dX6_conflicts_1 (by decide) ?_
  refine mw_put B hM hS 0 (by decide) wf_RX6_84 rfl rfl rfl rfl rfl dX6_conflicts_2 (fun H locs hM hS => ?_)
  refine lv_aload_n hx hb dX6_conflicts_5 rfl (lv_at hl 0 rfl) ?_
  refine mw_get B hM 22 (by decide) wf_RX6_196 rfl (v := .int ((setS st 0 0).1 22)) rfl dX6_conflicts_6 ?_
  cases h
  exact mw_iret B hM hS dX6_conflicts_9
theorem c_X6_conflicts {l : Launch} {G : GG} {A : Nat → Prop} {ad : Nat → Nat} {st : MS} {r : Int32} {st' : MS} (h : f_X6_conflicts st = some (r, st')) : Met l yX6_conflicts (Cond.code yX6_conflicts cX6_conflicts 1 (some .int) :: TG) ({ frames := 0, cells := 0, slots := 0, locals := 0 } : Room) (PM G A ad st [.ref (ad 0)]) (QM G A ad (some (.int r)) st') 0 0 A :=
  mw_of (own := RX6) (by decide +kernel) rfl rfl rfl (Nat.le_of_ble_eq_true rfl) fun p e s m below meth c ls B hM hS hl => w_X6_conflicts B _ _ _ _ h hM hS hl
set_option maxHeartbeats 4000000 in
set_option maxRecDepth 100000 in
theorem w_X6_note_39 {p : Program} {l : Launch} {e : Env} {s : State} {m : MethodId} {args : Array Value} {below : List Frame} {meth : Method} {c : Code} {G : GG} {A : Nat → Prop} {ad : Nat → Nat} (B : MB G p s m args meth c cX6_note 2 RX6 (some .int)) {r : Int32} {st' : MS} : ∀ (st : MS) (x1 : Int32) (y1 : Int32) (H : Heap) (locs : List Loc) (ls : Array Slot), f_X6_note_39 st x1 y1 = some (r, st') → MW G A ad st H → va_S A s.heap H locs → lv_has ls 2 [(0, .ref (ad 0)), (1, .int x1)] → W p l e ({ frames := 2, cells := 0, slots := 0, locals := 43 } : Room) s m args below meth c H locs 0 0 (MQ below (QM G A ad (some (.int r)) st') args s 0 0 A) (F0 m 39 ls [.int y1, .ref (ad 0)]) := by
  have ⟨hx, hb, hr, hml, hown, hT, hlocks, hK⟩ := B
  intro st x1 y1 H locs ls h hM hS hl
  rw [f_X6_note_39] at h
  obtain ⟨r1, t2, e3, h⟩ := bd_e h
  refine mw_callV B hM hS [.int y1] (n := 1) (v := (some (.int r1))) (c_X6_fails e3) wm_RX6_102 wi_yX6_fails ws_yX6_fails wc_yX6_fails rfl rfl (by decide +kernel) ⟨Nat.le_of_ble_eq_true rfl, Nat.le_of_ble_eq_true rfl⟩ ⟨Nat.le_refl 0, Nat.le_refl 0⟩ rfl hl.1 (Nat.le_of_ble_eq_true rfl) rfl dX6_note_39 (fun H locs hM hS => ?_)
  refine lv_if_eq (tgt := 47) hx hb dX6_note_42 (by decide) (fun c4 => ?_) (fun c4 => ?_)
  · have h := bi_t c4 h
    refine lv_aload_n hx hb dX6_note_47 rfl (lv_at hl 0 rfl) ?_
    refine mw_get B hM 24 (by decide) wf_RX6_66 rfl (v := .ref (ad 24)) rfl dX6_note_48 ?_
    refine lv_aload_n hx hb dX6_note_51 rfl (lv_at hl 0 rfl) ?_
    refine mw_get B hM 23 (by decide) wf_RX6_199 rfl (v := .int (t2.1 23)) rfl dX6_note_52 ?_
    refine lv_iload_n hx hb dX6_note_55 rfl (lv_at hl 1 rfl) ?_
    obtain ⟨g5, h⟩ := gd_e h
    refine mw_iast B hM hS 24 (by decide) (by decide) rfl g5 dX6_note_56 (fun H locs hM hS => ?_)
    refine lv_aload_n hx hb dX6_note_57 rfl (lv_at hl 0 rfl) ?_
    refine mw_get B hM 25 (by decide) wf_RX6_69 rfl (v := .ref (ad 25)) rfl dX6_note_58 ?_
    refine lv_aload_n hx hb dX6_note_61 rfl (lv_at hl 0 rfl) ?_
    refine mw_get B hM 23 (by decide) wf_RX6_199 rfl (v := .int ((setA t2 24 (t2.1 23).toNatClampNeg x1).1 23)) rfl dX6_note_62 ?_
    refine lv_aload_n hx hb dX6_note_65 rfl (lv_at hl 0 rfl) ?_
    refine mw_get B hM 7 (by decide) wf_RX6_23 rfl (v := .ref (ad 7)) rfl dX6_note_66 ?_
    refine lv_iload_n hx hb dX6_note_69 rfl (lv_at hl 1 rfl) ?_
    obtain ⟨g6, h⟩ := gd_e h
    refine mw_iald B hM 7 (by decide) (by decide) rfl g6 dX6_note_70 ?_
    obtain ⟨g7, h⟩ := gd_e h
    refine mw_iast B hM hS 25 (by decide) (by decide) rfl g7 dX6_note_71 (fun H locs hM hS => ?_)
    refine lv_aload_n hx hb dX6_note_72 rfl (lv_at hl 0 rfl) ?_
    refine mw_get B hM 26 (by decide) wf_RX6_72 rfl (v := .ref (ad 26)) rfl dX6_note_73 ?_
    refine lv_aload_n hx hb dX6_note_76 rfl (lv_at hl 0 rfl) ?_
    refine mw_get B hM 23 (by decide) wf_RX6_199 rfl (v := .int ((setA (setA t2 24 (t2.1 23).toNatClampNeg x1) 25 ((setA t2 24 (t2.1 23).toNatClampNeg x1).1 23).toNatClampNeg ((setA t2 24 (t2.1 23).toNatClampNeg x1).2 7 x1.toNatClampNeg)).1 23)) rfl dX6_note_77 ?_
    refine lv_bipush (v := 111) hx hb dX6_note_80 (by decide) ?_
    obtain ⟨g8, h⟩ := gd_e h
    refine mw_cast B hM hS 26 (by decide) (by decide) rfl g8 dX6_note_82 (fun H locs hM hS => ?_)
    refine lv_aload_n hx hb dX6_note_83 rfl (lv_at hl 0 rfl) ?_
    refine lv_dup hx hb dX6_note_84 rfl ?_
    refine mw_get B hM 23 (by decide) wf_RX6_199 rfl (v := .int ((setA (setA (setA t2 24 (t2.1 23).toNatClampNeg x1) 25 ((setA t2 24 (t2.1 23).toNatClampNeg x1).1 23).toNatClampNeg ((setA t2 24 (t2.1 23).toNatClampNeg x1).2 7 x1.toNatClampNeg)) 26 ((setA (setA t2 24 (t2.1 23).toNatClampNeg x1) 25 ((setA t2 24 (t2.1 23).toNatClampNeg x1).1 23).toNatClampNeg ((setA t2 24 (t2.1 23).toNatClampNeg x1).2 7 x1.toNatClampNeg)).1 23).toNatClampNeg (vp_nar .char 111)).1 23)) rfl dX6_note_85 ?_
    refine lv_iconst (v := 1) hx hb dX6_note_88 (by decide) ?_
    refine lv_iadd hx hb dX6_note_89 ?_
    refine mw_put B hM hS 23 (by decide) wf_RX6_199 rfl rfl rfl rfl rfl dX6_note_90 (fun H locs hM hS => ?_)
    refine lv_aload_n hx hb dX6_note_93 rfl (lv_at hl 0 rfl) ?_
    refine mw_get B hM 23 (by decide) wf_RX6_199 rfl (v := .int ((setS (setA (setA (setA t2 24 (t2.1 23).toNatClampNeg x1) 25 ((setA t2 24 (t2.1 23).toNatClampNeg x1).1 23).toNatClampNeg ((setA t2 24 (t2.1 23).toNatClampNeg x1).2 7 x1.toNatClampNeg)) 26 ((setA (setA t2 24 (t2.1 23).toNatClampNeg x1) 25 ((setA t2 24 (t2.1 23).toNatClampNeg x1).1 23).toNatClampNeg ((setA t2 24 (t2.1 23).toNatClampNeg x1).2 7 x1.toNatClampNeg)).1 23).toNatClampNeg (vp_nar .char 111)) 23 (((setA (setA (setA t2 24 (t2.1 23).toNatClampNeg x1) 25 ((setA t2 24 (t2.1 23).toNatClampNeg x1).1 23).toNatClampNeg ((setA t2 24 (t2.1 23).toNatClampNeg x1).2 7 x1.toNatClampNeg)) 26 ((setA (setA t2 24 (t2.1 23).toNatClampNeg x1) 25 ((setA t2 24 (t2.1 23).toNatClampNeg x1).1 23).toNatClampNeg ((setA t2 24 (t2.1 23).toNatClampNeg x1).2 7 x1.toNatClampNeg)).1 23).toNatClampNeg (vp_nar .char 111)).1 23) + 1)).1 23)) rfl dX6_note_94 ?_
    refine lv_iconst (v := 1) hx hb dX6_note_97 (by decide) ?_
    refine lv_isub hx hb dX6_note_98 ?_
    cases h
    exact mw_iret B hM hS dX6_note_99
  · have h := bi_f c4 h
    refine lv_iconst (v := 0) hx hb dX6_note_45 (by decide) ?_
    cases h
    exact mw_iret B hM hS dX6_note_46
set_option maxHeartbeats 4000000 in
set_option maxRecDepth 100000 in
theorem w_X6_note {p : Program} {l : Launch} {e : Env} {s : State} {m : MethodId} {args : Array Value} {below : List Frame} {meth : Method} {c : Code} {G : GG} {A : Nat → Prop} {ad : Nat → Nat} (B : MB G p s m args meth c cX6_note 2 RX6 (some .int)) {r : Int32} {st' : MS} : ∀ (st : MS) (x1 : Int32) (H : Heap) (locs : List Loc) (ls : Array Slot), f_X6_note st x1 = some (r, st') → MW G A ad st H → va_S A s.heap H locs → lv_has ls 2 [(0, .ref (ad 0)), (1, .int x1)] → W p l e ({ frames := 2, cells := 0, slots := 0, locals := 43 } : Room) s m args below meth c H locs 0 0 (MQ below (QM G A ad (some (.int r)) st') args s 0 0 A) (F0 m 0 ls []) := by
  have ⟨hx, hb, hr, hml, hown, hT, hlocks, hK⟩ := B
  intro st x1 H locs ls h hM hS hl
  rw [f_X6_note] at h
  refine lv_aload_n hx hb dX6_note_0 rfl (lv_at hl 0 rfl) ?_
  refine lv_aload_n hx hb dX6_note_1 rfl (lv_at hl 0 rfl) ?_
  refine lv_iload_n hx hb dX6_note_2 rfl (lv_at hl 1 rfl) ?_
  obtain ⟨r1, t2, e3, h⟩ := bd_e h
  refine mw_callV B hM hS [.int x1] (n := 1) (v := (some (.int r1))) (c_X6_isShot e3) wm_RX6_118 wi_yX6_isShot ws_yX6_isShot wc_yX6_isShot rfl rfl (by decide +kernel) ⟨Nat.le_of_ble_eq_true rfl, Nat.le_of_ble_eq_true rfl⟩ ⟨Nat.le_refl 0, Nat.le_refl 0⟩ rfl hl.1 (Nat.le_of_ble_eq_true rfl) rfl dX6_note_3 (fun H locs hM hS => ?_)
  refine lv_if_ne (tgt := 13) hx hb dX6_note_6 (by decide) (fun c4 => ?_) (fun c4 => ?_)
  · have h := bi_f c4 h
    refine lv_aload_n hx hb dX6_note_13 rfl (lv_at hl 0 rfl) ?_
    refine lv_iload_n hx hb dX6_note_14 rfl (lv_at hl 1 rfl) ?_
    obtain ⟨r5, t6, e7, h⟩ := bd_e h
    refine mw_callV B hM hS [.int x1] (n := 1) (v := (some (.int r5))) (c_X6_placeOf e7) wm_RX6_121 wi_yX6_placeOf ws_yX6_placeOf wc_yX6_placeOf rfl rfl (by decide +kernel) ⟨Nat.le_of_ble_eq_true rfl, Nat.le_of_ble_eq_true rfl⟩ ⟨Nat.le_refl 0, Nat.le_refl 0⟩ rfl hl.1 (Nat.le_of_ble_eq_true rfl) rfl dX6_note_15 (fun H locs hM hS => ?_)
    refine lv_if_ge (tgt := 25) hx hb dX6_note_18 (by decide) (fun c8 => ?_) (fun c8 => ?_)
    · have h := bi_t c8 h
      refine lv_aload_n hx hb dX6_note_25 rfl (lv_at hl 0 rfl) ?_
      refine mw_get B hM 23 (by decide) wf_RX6_199 rfl (v := .int (t6.1 23)) rfl dX6_note_26 ?_
      refine lv_bipush (v := 40) hx hb dX6_note_29 (by decide) ?_
      refine lv_icmp_ne (tgt := 38) hx hb dX6_note_31 (by decide) (fun c9 => ?_) (fun c9 => ?_)
      · have h := bi_f c9 h
        refine lv_iconst (v := 0) hx hb dX6_note_38 (by decide) ?_
        exact w_X6_note_39 B _ _ _ _ _ _ h hM hS (lv_sub hl [0, 1] rfl)
      · have h := bi_t c9 h
        refine lv_iconst (v := 3) hx hb dX6_note_34 (by decide) ?_
        refine lv_goto (tgt := 39) hx hb dX6_note_35 (by decide) ?_
        exact w_X6_note_39 B _ _ _ _ _ _ h hM hS (lv_sub hl [0, 1] rfl)
    · have h := bi_f c8 h
      refine lv_iconst (v := 2) hx hb dX6_note_21 (by decide) ?_
      refine lv_goto (tgt := 39) hx hb dX6_note_22 (by decide) ?_
      exact w_X6_note_39 B _ _ _ _ _ _ h hM hS (lv_sub hl [0, 1] rfl)
  · have h := bi_t c4 h
    refine lv_iconst (v := 1) hx hb dX6_note_9 (by decide) ?_
    refine lv_goto (tgt := 39) hx hb dX6_note_10 (by decide) ?_
    exact w_X6_note_39 B _ _ _ _ _ _ h hM hS (lv_sub hl [0, 1] rfl)
theorem c_X6_note {l : Launch} {G : GG} {A : Nat → Prop} {ad : Nat → Nat} {st : MS} {x1 : Int32} {r : Int32} {st' : MS} (h : f_X6_note st x1 = some (r, st')) : Met l yX6_note (Cond.code yX6_note cX6_note 2 (some .int) :: TG) ({ frames := 2, cells := 0, slots := 0, locals := 43 } : Room) (PM G A ad st [.ref (ad 0), .int x1]) (QM G A ad (some (.int r)) st') 0 0 A :=
  mw_of (own := RX6) (by decide +kernel) rfl rfl rfl (Nat.le_of_ble_eq_true rfl) fun p e s m below meth c ls B hM hS hl => w_X6_note B _ _ _ _ _ h hM hS hl
set_option maxHeartbeats 4000000 in
set_option maxRecDepth 100000 in
theorem w_X6_isNow_42 {p : Program} {l : Launch} {e : Env} {s : State} {m : MethodId} {args : Array Value} {below : List Frame} {meth : Method} {c : Code} {G : GG} {A : Nat → Prop} {ad : Nat → Nat} (B : MB G p s m args meth c cX6_isNow 2 RX6 (some .char)) {r : Int32} {st' : MS} : ∀ (st : MS) (y0 : Int32) (H : Heap) (locs : List Loc) (ls : Array Slot), f_X6_isNow_42 st y0 = some (r, st') → MW G A ad st H → va_S A s.heap H locs → lv_has ls 2 [] → W p l e ({ frames := 0, cells := 0, slots := 0, locals := 0 } : Room) s m args below meth c H locs 0 0 (MQ below (QM G A ad (some (.int r)) st') args s 0 0 A) (F0 m 42 ls [.int y0]) := by
  have ⟨hx, hb, hr, hml, hown, hT, hlocks, hK⟩ := B
  intro st y0 H locs ls h hM hS hl
  rw [f_X6_isNow_42] at h
  obtain ⟨g1, h⟩ := gd_e h
  cases h
  exact mw_zret B hM hS g1 dX6_isNow_42
set_option maxHeartbeats 4000000 in
set_option maxRecDepth 100000 in
theorem w_X6_isNow_36 {p : Program} {l : Launch} {e : Env} {s : State} {m : MethodId} {args : Array Value} {below : List Frame} {meth : Method} {c : Code} {G : GG} {A : Nat → Prop} {ad : Nat → Nat} (B : MB G p s m args meth c cX6_isNow 2 RX6 (some .char)) {r : Int32} {st' : MS} : ∀ (st : MS) (x1 : Int32) (H : Heap) (locs : List Loc) (ls : Array Slot), f_X6_isNow_36 st x1 = some (r, st') → MW G A ad st H → va_S A s.heap H locs → lv_has ls 2 [(0, .ref (ad 0)), (1, .int x1)] → W p l e ({ frames := 0, cells := 0, slots := 0, locals := 0 } : Room) s m args below meth c H locs 0 0 (MQ below (QM G A ad (some (.int r)) st') args s 0 0 A) (F0 m 36 ls []) := by
  have ⟨hx, hb, hr, hml, hown, hT, hlocks, hK⟩ := B
  intro st x1 H locs ls h hM hS hl
  rw [f_X6_isNow_36] at h
  refine lv_aload_n hx hb dX6_isNow_36 rfl (lv_at hl 0 rfl) ?_
  refine mw_get B hM 26 (by decide) wf_RX6_72 rfl (v := .ref (ad 26)) rfl dX6_isNow_37 ?_
  refine lv_iload_n hx hb dX6_isNow_40 rfl (lv_at hl 1 rfl) ?_
  obtain ⟨g1, h⟩ := gd_e h
  refine mw_cald B hM 26 (by decide) (by decide) rfl g1 dX6_isNow_41 ?_
  exact w_X6_isNow_42 B _ _ _ _ _ h hM hS (lv_sub hl [] rfl)
set_option maxHeartbeats 4000000 in
set_option maxRecDepth 100000 in
theorem w_X6_isNow {p : Program} {l : Launch} {e : Env} {s : State} {m : MethodId} {args : Array Value} {below : List Frame} {meth : Method} {c : Code} {G : GG} {A : Nat → Prop} {ad : Nat → Nat} (B : MB G p s m args meth c cX6_isNow 2 RX6 (some .char)) {r : Int32} {st' : MS} : ∀ (st : MS) (x1 : Int32) (H : Heap) (locs : List Loc) (ls : Array Slot), f_X6_isNow st x1 = some (r, st') → MW G A ad st H → va_S A s.heap H locs → lv_has ls 2 [(0, .ref (ad 0)), (1, .int x1)] → W p l e ({ frames := 0, cells := 0, slots := 0, locals := 0 } : Room) s m args below meth c H locs 0 0 (MQ below (QM G A ad (some (.int r)) st') args s 0 0 A) (F0 m 0 ls []) := by
  have ⟨hx, hb, hr, hml, hown, hT, hlocks, hK⟩ := B
  intro st x1 H locs ls h hM hS hl
  rw [f_X6_isNow] at h
  refine lv_aload_n hx hb dX6_isNow_0 rfl (lv_at hl 0 rfl) ?_
  refine mw_get B hM 26 (by decide) wf_RX6_72 rfl (v := .ref (ad 26)) rfl dX6_isNow_1 ?_
  refine lv_iload_n hx hb dX6_isNow_4 rfl (lv_at hl 1 rfl) ?_
  obtain ⟨g1, h⟩ := gd_e h
  refine mw_cald B hM 26 (by decide) (by decide) rfl g1 dX6_isNow_5 ?_
  refine lv_bipush (v := 111) hx hb dX6_isNow_6 (by decide) ?_
  refine lv_icmp_ne (tgt := 36) hx hb dX6_isNow_8 (by decide) (fun c2 => ?_) (fun c2 => ?_)
  · have h := bi_f c2 h
    exact w_X6_isNow_36 B _ _ _ _ _ h hM hS (lv_sub hl [0, 1] rfl)
  · have h := bi_t c2 h
    refine lv_aload_n hx hb dX6_isNow_11 rfl (lv_at hl 0 rfl) ?_
    refine mw_get B hM 25 (by decide) wf_RX6_69 rfl (v := .ref (ad 25)) rfl dX6_isNow_12 ?_
    refine lv_iload_n hx hb dX6_isNow_15 rfl (lv_at hl 1 rfl) ?_
    obtain ⟨g3, h⟩ := gd_e h
    refine mw_iald B hM 25 (by decide) (by decide) rfl g3 dX6_isNow_16 ?_
    refine lv_aload_n hx hb dX6_isNow_17 rfl (lv_at hl 0 rfl) ?_
    refine mw_get B hM 7 (by decide) wf_RX6_23 rfl (v := .ref (ad 7)) rfl dX6_isNow_18 ?_
    refine lv_aload_n hx hb dX6_isNow_21 rfl (lv_at hl 0 rfl) ?_
    refine mw_get B hM 24 (by decide) wf_RX6_66 rfl (v := .ref (ad 24)) rfl dX6_isNow_22 ?_
    refine lv_iload_n hx hb dX6_isNow_25 rfl (lv_at hl 1 rfl) ?_
    obtain ⟨g4, h⟩ := gd_e h
    refine mw_iald B hM 24 (by decide) (by decide) rfl g4 dX6_isNow_26 ?_
    obtain ⟨g5, h⟩ := gd_e h
    refine mw_iald B hM 7 (by decide) (by decide) rfl g5 dX6_isNow_27 ?_
    refine lv_icmp_eq (tgt := 36) hx hb dX6_isNow_28 (by decide) (fun c6 => ?_) (fun c6 => ?_)
    · have h := bi_t c6 h
      exact w_X6_isNow_36 B _ _ _ _ _ h hM hS (lv_sub hl [0, 1] rfl)
    · have h := bi_f c6 h
      refine lv_bipush (v := 115) hx hb dX6_isNow_31 (by decide) ?_
      refine lv_goto (tgt := 42) hx hb dX6_isNow_33 (by decide) ?_
      exact w_X6_isNow_42 B _ _ _ _ _ h hM hS (lv_sub hl [] rfl)
theorem c_X6_isNow {l : Launch} {G : GG} {A : Nat → Prop} {ad : Nat → Nat} {st : MS} {x1 : Int32} {r : Int32} {st' : MS} (h : f_X6_isNow st x1 = some (r, st')) : Met l yX6_isNow (Cond.code yX6_isNow cX6_isNow 2 (some .char) :: TG) ({ frames := 0, cells := 0, slots := 0, locals := 0 } : Room) (PM G A ad st [.ref (ad 0), .int x1]) (QM G A ad (some (.int r)) st') 0 0 A :=
  mw_of (own := RX6) (by decide +kernel) rfl rfl rfl (Nat.le_of_ble_eq_true rfl) fun p e s m below meth c ls B hM hS hl => w_X6_isNow B _ _ _ _ _ h hM hS hl
set_option maxHeartbeats 4000000 in
set_option maxRecDepth 100000 in
theorem w_X6_isNote {p : Program} {l : Launch} {e : Env} {s : State} {m : MethodId} {args : Array Value} {below : List Frame} {meth : Method} {c : Code} {G : GG} {A : Nat → Prop} {ad : Nat → Nat} (B : MB G p s m args meth c cX6_isNote 2 RX6 (some .boolean)) {r : Int32} {st' : MS} : ∀ (st : MS) (x1 : Int32) (H : Heap) (locs : List Loc) (ls : Array Slot), f_X6_isNote st x1 = some (r, st') → MW G A ad st H → va_S A s.heap H locs → lv_has ls 2 [(0, .ref (ad 0)), (1, .int x1)] → W p l e ({ frames := 1, cells := 0, slots := 0, locals := 22 } : Room) s m args below meth c H locs 0 0 (MQ below (QM G A ad (some (.int r)) st') args s 0 0 A) (F0 m 0 ls []) := by
  have ⟨hx, hb, hr, hml, hown, hT, hlocks, hK⟩ := B
  intro st x1 H locs ls h hM hS hl
  rw [f_X6_isNote] at h
  refine lv_iload_n hx hb dX6_isNote_0 rfl (lv_at hl 1 rfl) ?_
  refine lv_iconst (v := 0) hx hb dX6_isNote_1 (by decide) ?_
  refine lv_aload_n hx hb dX6_isNote_2 rfl (lv_at hl 0 rfl) ?_
  refine mw_get B hM 23 (by decide) wf_RX6_199 rfl (v := .int (st.1 23)) rfl dX6_isNote_3 ?_
  refine lv_iconst (v := 1) hx hb dX6_isNote_6 (by decide) ?_
  refine lv_isub hx hb dX6_isNote_7 ?_
  obtain ⟨r1, t2, e3, h⟩ := bd_e h
  refine mw_callS B hM hS [.int x1, .int 0, .int ((st.1 23) - 1)] (n := 3) (v := (some (.int r1))) (c_X6_in e3) wm_RX6_91 wt_yX6_in wc_yX6_in rfl rfl (by decide +kernel) ⟨Nat.le_of_ble_eq_true rfl, Nat.le_of_ble_eq_true rfl⟩ ⟨Nat.le_refl 0, Nat.le_refl 0⟩ rfl hl.1 (Nat.le_of_ble_eq_true rfl) rfl dX6_isNote_8 (fun H locs hM hS => ?_)
  obtain ⟨g4, h⟩ := gd_e h
  cases h
  exact mw_zret B hM hS g4 dX6_isNote_11
theorem c_X6_isNote {l : Launch} {G : GG} {A : Nat → Prop} {ad : Nat → Nat} {st : MS} {x1 : Int32} {r : Int32} {st' : MS} (h : f_X6_isNote st x1 = some (r, st')) : Met l yX6_isNote (Cond.code yX6_isNote cX6_isNote 2 (some .boolean) :: TG) ({ frames := 1, cells := 0, slots := 0, locals := 22 } : Room) (PM G A ad st [.ref (ad 0), .int x1]) (QM G A ad (some (.int r)) st') 0 0 A :=
  mw_of (own := RX6) (by decide +kernel) rfl rfl rfl (Nat.le_of_ble_eq_true rfl) fun p e s m below meth c ls B hM hS hl => w_X6_isNote B _ _ _ _ _ h hM hS hl
set_option maxHeartbeats 4000000 in
set_option maxRecDepth 100000 in
theorem w_X6_noteIs_30 {p : Program} {l : Launch} {e : Env} {s : State} {m : MethodId} {args : Array Value} {below : List Frame} {meth : Method} {c : Code} {G : GG} {A : Nat → Prop} {ad : Nat → Nat} (B : MB G p s m args meth c cX6_noteIs 2 RX6 (some .char)) {r : Int32} {st' : MS} : ∀ (st : MS) (y0 : Int32) (H : Heap) (locs : List Loc) (ls : Array Slot), f_X6_noteIs_30 st y0 = some (r, st') → MW G A ad st H → va_S A s.heap H locs → lv_has ls 2 [] → W p l e ({ frames := 2, cells := 0, slots := 0, locals := 43 } : Room) s m args below meth c H locs 0 0 (MQ below (QM G A ad (some (.int r)) st') args s 0 0 A) (F0 m 30 ls [.int y0]) := by
  have ⟨hx, hb, hr, hml, hown, hT, hlocks, hK⟩ := B
  intro st y0 H locs ls h hM hS hl
  rw [f_X6_noteIs_30] at h
  obtain ⟨g1, h⟩ := gd_e h
  cases h
  exact mw_zret B hM hS g1 dX6_noteIs_30
set_option maxHeartbeats 4000000 in
set_option maxRecDepth 100000 in
theorem w_X6_noteIs_14 {p : Program} {l : Launch} {e : Env} {s : State} {m : MethodId} {args : Array Value} {below : List Frame} {meth : Method} {c : Code} {G : GG} {A : Nat → Prop} {ad : Nat → Nat} (B : MB G p s m args meth c cX6_noteIs 2 RX6 (some .char)) {r : Int32} {st' : MS} : ∀ (st : MS) (x1 : Int32) (y1 : Int32) (H : Heap) (locs : List Loc) (ls : Array Slot), f_X6_noteIs_14 st x1 y1 = some (r, st') → MW G A ad st H → va_S A s.heap H locs → lv_has ls 2 [(0, .ref (ad 0)), (1, .int x1)] → W p l e ({ frames := 2, cells := 0, slots := 0, locals := 43 } : Room) s m args below meth c H locs 0 0 (MQ below (QM G A ad (some (.int r)) st') args s 0 0 A) (F0 m 14 ls [.int y1, .ref (ad 0)]) := by
  have ⟨hx, hb, hr, hml, hown, hT, hlocks, hK⟩ := B
  intro st x1 y1 H locs ls h hM hS hl
  rw [f_X6_noteIs_14] at h
  obtain ⟨r1, t2, e3, h⟩ := bd_e h
  refine mw_callV B hM hS [.int y1] (n := 1) (v := (some (.int r1))) (c_X6_fails e3) wm_RX6_102 wi_yX6_fails ws_yX6_fails wc_yX6_fails rfl rfl (by decide +kernel) ⟨Nat.le_of_ble_eq_true rfl, Nat.le_of_ble_eq_true rfl⟩ ⟨Nat.le_refl 0, Nat.le_refl 0⟩ rfl hl.1 (Nat.le_of_ble_eq_true rfl) rfl dX6_noteIs_14 (fun H locs hM hS => ?_)
  refine lv_if_eq (tgt := 25) hx hb dX6_noteIs_17 (by decide) (fun c4 => ?_) (fun c4 => ?_)
  · have h := bi_t c4 h
    refine lv_aload_n hx hb dX6_noteIs_25 rfl (lv_at hl 0 rfl) ?_
    refine lv_iload_n hx hb dX6_noteIs_26 rfl (lv_at hl 1 rfl) ?_
    obtain ⟨r5, t6, e7, h⟩ := bd_e h
    refine mw_callV B hM hS [.int x1] (n := 1) (v := (some (.int r5))) (c_X6_isNow e7) wm_RX6_205 wi_yX6_isNow ws_yX6_isNow wc_yX6_isNow rfl rfl (by decide +kernel) ⟨Nat.le_of_ble_eq_true rfl, Nat.le_of_ble_eq_true rfl⟩ ⟨Nat.le_refl 0, Nat.le_refl 0⟩ rfl hl.1 (Nat.le_of_ble_eq_true rfl) rfl dX6_noteIs_27 (fun H locs hM hS => ?_)
    exact w_X6_noteIs_30 B _ _ _ _ _ h hM hS (lv_sub hl [] rfl)
  · have h := bi_f c4 h
    refine lv_bipush (v := 32) hx hb dX6_noteIs_20 (by decide) ?_
    refine lv_goto (tgt := 30) hx hb dX6_noteIs_22 (by decide) ?_
    exact w_X6_noteIs_30 B _ _ _ _ _ h hM hS (lv_sub hl [] rfl)
set_option maxHeartbeats 4000000 in
set_option maxRecDepth 100000 in
theorem w_X6_noteIs {p : Program} {l : Launch} {e : Env} {s : State} {m : MethodId} {args : Array Value} {below : List Frame} {meth : Method} {c : Code} {G : GG} {A : Nat → Prop} {ad : Nat → Nat} (B : MB G p s m args meth c cX6_noteIs 2 RX6 (some .char)) {r : Int32} {st' : MS} : ∀ (st : MS) (x1 : Int32) (H : Heap) (locs : List Loc) (ls : Array Slot), f_X6_noteIs st x1 = some (r, st') → MW G A ad st H → va_S A s.heap H locs → lv_has ls 2 [(0, .ref (ad 0)), (1, .int x1)] → W p l e ({ frames := 2, cells := 0, slots := 0, locals := 43 } : Room) s m args below meth c H locs 0 0 (MQ below (QM G A ad (some (.int r)) st') args s 0 0 A) (F0 m 0 ls []) := by
  have ⟨hx, hb, hr, hml, hown, hT, hlocks, hK⟩ := B
  intro st x1 H locs ls h hM hS hl
  rw [f_X6_noteIs] at h
  refine lv_aload_n hx hb dX6_noteIs_0 rfl (lv_at hl 0 rfl) ?_
  refine lv_aload_n hx hb dX6_noteIs_1 rfl (lv_at hl 0 rfl) ?_
  refine lv_iload_n hx hb dX6_noteIs_2 rfl (lv_at hl 1 rfl) ?_
  obtain ⟨r1, t2, e3, h⟩ := bd_e h
  refine mw_callV B hM hS [.int x1] (n := 1) (v := (some (.int r1))) (c_X6_isNote e3) wm_RX6_202 wi_yX6_isNote ws_yX6_isNote wc_yX6_isNote rfl rfl (by decide +kernel) ⟨Nat.le_of_ble_eq_true rfl, Nat.le_of_ble_eq_true rfl⟩ ⟨Nat.le_refl 0, Nat.le_refl 0⟩ rfl hl.1 (Nat.le_of_ble_eq_true rfl) rfl dX6_noteIs_3 (fun H locs hM hS => ?_)
  refine lv_if_eq (tgt := 13) hx hb dX6_noteIs_6 (by decide) (fun c4 => ?_) (fun c4 => ?_)
  · have h := bi_t c4 h
    refine lv_iconst (v := 1) hx hb dX6_noteIs_13 (by decide) ?_
    exact w_X6_noteIs_14 B _ _ _ _ _ _ h hM hS (lv_sub hl [0, 1] rfl)
  · have h := bi_f c4 h
    refine lv_iconst (v := 0) hx hb dX6_noteIs_9 (by decide) ?_
    refine lv_goto (tgt := 14) hx hb dX6_noteIs_10 (by decide) ?_
    exact w_X6_noteIs_14 B _ _ _ _ _ _ h hM hS (lv_sub hl [0, 1] rfl)
theorem c_X6_noteIs {l : Launch} {G : GG} {A : Nat → Prop} {ad : Nat → Nat} {st : MS} {x1 : Int32} {r : Int32} {st' : MS} (h : f_X6_noteIs st x1 = some (r, st')) : Met l yX6_noteIs (Cond.code yX6_noteIs cX6_noteIs 2 (some .char) :: TG) ({ frames := 2, cells := 0, slots := 0, locals := 43 } : Room) (PM G A ad st [.ref (ad 0), .int x1]) (QM G A ad (some (.int r)) st') 0 0 A :=
  mw_of (own := RX6) (by decide +kernel) rfl rfl rfl (Nat.le_of_ble_eq_true rfl) fun p e s m below meth c ls B hM hS hl => w_X6_noteIs B _ _ _ _ _ h hM hS hl
set_option maxHeartbeats 4000000 in
set_option maxRecDepth 100000 in
theorem w_X6_close_52 {p : Program} {l : Launch} {e : Env} {s : State} {m : MethodId} {args : Array Value} {below : List Frame} {meth : Method} {c : Code} {G : GG} {A : Nat → Prop} {ad : Nat → Nat} (B : MB G p s m args meth c cX6_close 3 RX6 (some .boolean)) {r : Int32} {st' : MS} : ∀ (st : MS) (y1 : Int32) (y2 : Int32) (H : Heap) (locs : List Loc) (ls : Array Slot), f_X6_close_52 st y1 y2 = some (r, st') → MW G A ad st H → va_S A s.heap H locs → lv_has ls 3 [] → W p l e ({ frames := 2, cells := 0, slots := 0, locals := 43 } : Room) s m args below meth c H locs 0 0 (MQ below (QM G A ad (some (.int r)) st') args s 0 0 A) (F0 m 52 ls [.int y2, .int y1, .ref (ad 26)]) := by
  have ⟨hx, hb, hr, hml, hown, hT, hlocks, hK⟩ := B
  intro st y1 y2 H locs ls h hM hS hl
  rw [f_X6_close_52] at h
  obtain ⟨g1, h⟩ := gd_e h
  refine mw_cast B hM hS 26 (by decide) (by decide) rfl g1 dX6_close_52 (fun H locs hM hS => ?_)
  refine lv_iconst (v := 1) hx hb dX6_close_53 (by decide) ?_
  cases h
  exact mw_zret B hM hS (by rfl) dX6_close_54
set_option maxHeartbeats 4000000 in
set_option maxRecDepth 100000 in
theorem w_X6_close_28 {p : Program} {l : Launch} {e : Env} {s : State} {m : MethodId} {args : Array Value} {below : List Frame} {meth : Method} {c : Code} {G : GG} {A : Nat → Prop} {ad : Nat → Nat} (B : MB G p s m args meth c cX6_close 3 RX6 (some .boolean)) {r : Int32} {st' : MS} : ∀ (st : MS) (x1 : Int32) (x2 : Int32) (y1 : Int32) (H : Heap) (locs : List Loc) (ls : Array Slot), f_X6_close_28 st x1 x2 y1 = some (r, st') → MW G A ad st H → va_S A s.heap H locs → lv_has ls 3 [(0, .ref (ad 0)), (1, .int x1), (2, .int x2)] → W p l e ({ frames := 2, cells := 0, slots := 0, locals := 43 } : Room) s m args below meth c H locs 0 0 (MQ below (QM G A ad (some (.int r)) st') args s 0 0 A) (F0 m 28 ls [.int y1, .ref (ad 0)]) := by
  have ⟨hx, hb, hr, hml, hown, hT, hlocks, hK⟩ := B
  intro st x1 x2 y1 H locs ls h hM hS hl
  rw [f_X6_close_28] at h
  obtain ⟨r1, t2, e3, h⟩ := bd_e h
  refine mw_callV B hM hS [.int y1] (n := 1) (v := (some (.int r1))) (c_X6_fails e3) wm_RX6_102 wi_yX6_fails ws_yX6_fails wc_yX6_fails rfl rfl (by decide +kernel) ⟨Nat.le_of_ble_eq_true rfl, Nat.le_of_ble_eq_true rfl⟩ ⟨Nat.le_refl 0, Nat.le_refl 0⟩ rfl hl.1 (Nat.le_of_ble_eq_true rfl) rfl dX6_close_28 (fun H locs hM hS => ?_)
  refine lv_if_eq (tgt := 36) hx hb dX6_close_31 (by decide) (fun c4 => ?_) (fun c4 => ?_)
  · have h := bi_t c4 h
    refine lv_aload_n hx hb dX6_close_36 rfl (lv_at hl 0 rfl) ?_
    refine mw_get B hM 26 (by decide) wf_RX6_72 rfl (v := .ref (ad 26)) rfl dX6_close_37 ?_
    refine lv_iload_n hx hb dX6_close_40 rfl (lv_at hl 1 rfl) ?_
    refine lv_iload_n hx hb dX6_close_41 rfl (lv_at hl 2 rfl) ?_
    refine lv_if_eq (tgt := 50) hx hb dX6_close_42 (by decide) (fun c5 => ?_) (fun c5 => ?_)
    · have h := bi_t c5 h
      refine lv_bipush (v := 114) hx hb dX6_close_50 (by decide) ?_
      exact w_X6_close_52 B _ _ _ _ _ _ h hM hS (lv_sub hl [] rfl)
    · have h := bi_f c5 h
      refine lv_bipush (v := 100) hx hb dX6_close_45 (by decide) ?_
      refine lv_goto (tgt := 52) hx hb dX6_close_47 (by decide) ?_
      exact w_X6_close_52 B _ _ _ _ _ _ h hM hS (lv_sub hl [] rfl)
  · have h := bi_f c4 h
    refine lv_iconst (v := 0) hx hb dX6_close_34 (by decide) ?_
    cases h
    exact mw_zret B hM hS (by rfl) dX6_close_35
set_option maxHeartbeats 4000000 in
set_option maxRecDepth 100000 in
theorem w_X6_close {p : Program} {l : Launch} {e : Env} {s : State} {m : MethodId} {args : Array Value} {below : List Frame} {meth : Method} {c : Code} {G : GG} {A : Nat → Prop} {ad : Nat → Nat} (B : MB G p s m args meth c cX6_close 3 RX6 (some .boolean)) {r : Int32} {st' : MS} : ∀ (st : MS) (x1 : Int32) (x2 : Int32) (H : Heap) (locs : List Loc) (ls : Array Slot), f_X6_close st x1 x2 = some (r, st') → MW G A ad st H → va_S A s.heap H locs → lv_has ls 3 [(0, .ref (ad 0)), (1, .int x1), (2, .int x2)] → W p l e ({ frames := 2, cells := 0, slots := 0, locals := 43 } : Room) s m args below meth c H locs 0 0 (MQ below (QM G A ad (some (.int r)) st') args s 0 0 A) (F0 m 0 ls []) := by
  have ⟨hx, hb, hr, hml, hown, hT, hlocks, hK⟩ := B
  intro st x1 x2 H locs ls h hM hS hl
  rw [f_X6_close] at h
  refine lv_aload_n hx hb dX6_close_0 rfl (lv_at hl 0 rfl) ?_
  refine lv_aload_n hx hb dX6_close_1 rfl (lv_at hl 0 rfl) ?_
  refine lv_iload_n hx hb dX6_close_2 rfl (lv_at hl 1 rfl) ?_
  obtain ⟨r1, t2, e3, h⟩ := bd_e h
  refine mw_callV B hM hS [.int x1] (n := 1) (v := (some (.int r1))) (c_X6_isNote e3) wm_RX6_202 wi_yX6_isNote ws_yX6_isNote wc_yX6_isNote rfl rfl (by decide +kernel) ⟨Nat.le_of_ble_eq_true rfl, Nat.le_of_ble_eq_true rfl⟩ ⟨Nat.le_refl 0, Nat.le_refl 0⟩ rfl hl.1 (Nat.le_of_ble_eq_true rfl) rfl dX6_close_3 (fun H locs hM hS => ?_)
  refine lv_if_ne (tgt := 13) hx hb dX6_close_6 (by decide) (fun c4 => ?_) (fun c4 => ?_)
  · have h := bi_f c4 h
    refine lv_aload_n hx hb dX6_close_13 rfl (lv_at hl 0 rfl) ?_
    refine lv_iload_n hx hb dX6_close_14 rfl (lv_at hl 1 rfl) ?_
    obtain ⟨r5, t6, e7, h⟩ := bd_e h
    refine mw_callV B hM hS [.int x1] (n := 1) (v := (some (.int r5))) (c_X6_isNow e7) wm_RX6_205 wi_yX6_isNow ws_yX6_isNow wc_yX6_isNow rfl rfl (by decide +kernel) ⟨Nat.le_of_ble_eq_true rfl, Nat.le_of_ble_eq_true rfl⟩ ⟨Nat.le_refl 0, Nat.le_refl 0⟩ rfl hl.1 (Nat.le_of_ble_eq_true rfl) rfl dX6_close_15 (fun H locs hM hS => ?_)
    refine lv_bipush (v := 111) hx hb dX6_close_18 (by decide) ?_
    refine lv_icmp_eq (tgt := 27) hx hb dX6_close_20 (by decide) (fun c8 => ?_) (fun c8 => ?_)
    · have h := bi_t c8 h
      refine lv_iconst (v := 0) hx hb dX6_close_27 (by decide) ?_
      exact w_X6_close_28 B _ _ _ _ _ _ _ h hM hS (lv_sub hl [0, 1, 2] rfl)
    · have h := bi_f c8 h
      refine lv_iconst (v := 2) hx hb dX6_close_23 (by decide) ?_
      refine lv_goto (tgt := 28) hx hb dX6_close_24 (by decide) ?_
      exact w_X6_close_28 B _ _ _ _ _ _ _ h hM hS (lv_sub hl [0, 1, 2] rfl)
  · have h := bi_t c4 h
    refine lv_iconst (v := 1) hx hb dX6_close_9 (by decide) ?_
    refine lv_goto (tgt := 28) hx hb dX6_close_10 (by decide) ?_
    exact w_X6_close_28 B _ _ _ _ _ _ _ h hM hS (lv_sub hl [0, 1, 2] rfl)
theorem c_X6_close {l : Launch} {G : GG} {A : Nat → Prop} {ad : Nat → Nat} {st : MS} {x1 : Int32} {x2 : Int32} {r : Int32} {st' : MS} (h : f_X6_close st x1 x2 = some (r, st')) : Met l yX6_close (Cond.code yX6_close cX6_close 3 (some .boolean) :: TG) ({ frames := 2, cells := 0, slots := 0, locals := 43 } : Room) (PM G A ad st [.ref (ad 0), .int x1, .int x2]) (QM G A ad (some (.int r)) st') 0 0 A :=
  mw_of (own := RX6) (by decide +kernel) rfl rfl rfl (Nat.le_of_ble_eq_true rfl) fun p e s m below meth c ls B hM hS hl => w_X6_close B _ _ _ _ _ _ h hM hS hl
set_option maxHeartbeats 4000000 in
set_option maxRecDepth 100000 in
theorem w_X6_renew_41 {p : Program} {l : Launch} {e : Env} {s : State} {m : MethodId} {args : Array Value} {below : List Frame} {meth : Method} {c : Code} {G : GG} {A : Nat → Prop} {ad : Nat → Nat} (B : MB G p s m args meth c cX6_renew 2 RX6 (some .int)) {r : Int32} {st' : MS} : ∀ (st : MS) (x1 : Int32) (y1 : Int32) (H : Heap) (locs : List Loc) (ls : Array Slot), f_X6_renew_41 st x1 y1 = some (r, st') → MW G A ad st H → va_S A s.heap H locs → lv_has ls 2 [(0, .ref (ad 0)), (1, .int x1)] → W p l e ({ frames := 2, cells := 0, slots := 0, locals := 43 } : Room) s m args below meth c H locs 0 0 (MQ below (QM G A ad (some (.int r)) st') args s 0 0 A) (F0 m 41 ls [.int y1, .ref (ad 0)]) := by
  have ⟨hx, hb, hr, hml, hown, hT, hlocks, hK⟩ := B
  intro st x1 y1 H locs ls h hM hS hl
  rw [f_X6_renew_41] at h
  obtain ⟨r1, t2, e3, h⟩ := bd_e h
  refine mw_callV B hM hS [.int y1] (n := 1) (v := (some (.int r1))) (c_X6_fails e3) wm_RX6_102 wi_yX6_fails ws_yX6_fails wc_yX6_fails rfl rfl (by decide +kernel) ⟨Nat.le_of_ble_eq_true rfl, Nat.le_of_ble_eq_true rfl⟩ ⟨Nat.le_refl 0, Nat.le_refl 0⟩ rfl hl.1 (Nat.le_of_ble_eq_true rfl) rfl dX6_renew_41 (fun H locs hM hS => ?_)
  refine lv_if_eq (tgt := 49) hx hb dX6_renew_44 (by decide) (fun c4 => ?_) (fun c4 => ?_)
  · have h := bi_t c4 h
    refine lv_aload_n hx hb dX6_renew_49 rfl (lv_at hl 0 rfl) ?_
    refine mw_get B hM 25 (by decide) wf_RX6_69 rfl (v := .ref (ad 25)) rfl dX6_renew_50 ?_
    refine lv_iload_n hx hb dX6_renew_53 rfl (lv_at hl 1 rfl) ?_
    refine lv_aload_n hx hb dX6_renew_54 rfl (lv_at hl 0 rfl) ?_
    refine mw_get B hM 7 (by decide) wf_RX6_23 rfl (v := .ref (ad 7)) rfl dX6_renew_55 ?_
    refine lv_aload_n hx hb dX6_renew_58 rfl (lv_at hl 0 rfl) ?_
    refine mw_get B hM 24 (by decide) wf_RX6_66 rfl (v := .ref (ad 24)) rfl dX6_renew_59 ?_
    refine lv_iload_n hx hb dX6_renew_62 rfl (lv_at hl 1 rfl) ?_
    obtain ⟨g5, h⟩ := gd_e h
    refine mw_iald B hM 24 (by decide) (by decide) rfl g5 dX6_renew_63 ?_
    obtain ⟨g6, h⟩ := gd_e h
    refine mw_iald B hM 7 (by decide) (by decide) rfl g6 dX6_renew_64 ?_
    obtain ⟨g7, h⟩ := gd_e h
    refine mw_iast B hM hS 25 (by decide) (by decide) rfl g7 dX6_renew_65 (fun H locs hM hS => ?_)
    refine lv_aload_n hx hb dX6_renew_66 rfl (lv_at hl 0 rfl) ?_
    refine mw_get B hM 25 (by decide) wf_RX6_69 rfl (v := .ref (ad 25)) rfl dX6_renew_67 ?_
    refine lv_iload_n hx hb dX6_renew_70 rfl (lv_at hl 1 rfl) ?_
    obtain ⟨g8, h⟩ := gd_e h
    refine mw_iald B hM 25 (by decide) (by decide) rfl g8 dX6_renew_71 ?_
    cases h
    exact mw_iret B hM hS dX6_renew_72
  · have h := bi_f c4 h
    refine lv_iconst (v := 0) hx hb dX6_renew_47 (by decide) ?_
    cases h
    exact mw_iret B hM hS dX6_renew_48
set_option maxHeartbeats 4000000 in
set_option maxRecDepth 100000 in
theorem w_X6_renew_36 {p : Program} {l : Launch} {e : Env} {s : State} {m : MethodId} {args : Array Value} {below : List Frame} {meth : Method} {c : Code} {G : GG} {A : Nat → Prop} {ad : Nat → Nat} (B : MB G p s m args meth c cX6_renew 2 RX6 (some .int)) {r : Int32} {st' : MS} : ∀ (st : MS) (x1 : Int32) (H : Heap) (locs : List Loc) (ls : Array Slot), f_X6_renew_36 st x1 = some (r, st') → MW G A ad st H → va_S A s.heap H locs → lv_has ls 2 [(0, .ref (ad 0)), (1, .int x1)] → W p l e ({ frames := 2, cells := 0, slots := 0, locals := 43 } : Room) s m args below meth c H locs 0 0 (MQ below (QM G A ad (some (.int r)) st') args s 0 0 A) (F0 m 36 ls [.ref (ad 0)]) := by
  have ⟨hx, hb, hr, hml, hown, hT, hlocks, hK⟩ := B
  intro st x1 H locs ls h hM hS hl
  rw [f_X6_renew_36] at h
  refine lv_iconst (v := 2) hx hb dX6_renew_36 (by decide) ?_
  refine lv_goto (tgt := 41) hx hb dX6_renew_37 (by decide) ?_
  exact w_X6_renew_41 B _ _ _ _ _ _ h hM hS (lv_sub hl [0, 1] rfl)
set_option maxHeartbeats 4000000 in
set_option maxRecDepth 100000 in
theorem w_X6_renew {p : Program} {l : Launch} {e : Env} {s : State} {m : MethodId} {args : Array Value} {below : List Frame} {meth : Method} {c : Code} {G : GG} {A : Nat → Prop} {ad : Nat → Nat} (B : MB G p s m args meth c cX6_renew 2 RX6 (some .int)) {r : Int32} {st' : MS} : ∀ (st : MS) (x1 : Int32) (H : Heap) (locs : List Loc) (ls : Array Slot), f_X6_renew st x1 = some (r, st') → MW G A ad st H → va_S A s.heap H locs → lv_has ls 2 [(0, .ref (ad 0)), (1, .int x1)] → W p l e ({ frames := 2, cells := 0, slots := 0, locals := 43 } : Room) s m args below meth c H locs 0 0 (MQ below (QM G A ad (some (.int r)) st') args s 0 0 A) (F0 m 0 ls []) := by
  have ⟨hx, hb, hr, hml, hown, hT, hlocks, hK⟩ := B
  intro st x1 H locs ls h hM hS hl
  rw [f_X6_renew] at h
  refine lv_aload_n hx hb dX6_renew_0 rfl (lv_at hl 0 rfl) ?_
  refine lv_aload_n hx hb dX6_renew_1 rfl (lv_at hl 0 rfl) ?_
  refine lv_iload_n hx hb dX6_renew_2 rfl (lv_at hl 1 rfl) ?_
  obtain ⟨r1, t2, e3, h⟩ := bd_e h
  refine mw_callV B hM hS [.int x1] (n := 1) (v := (some (.int r1))) (c_X6_isNote e3) wm_RX6_202 wi_yX6_isNote ws_yX6_isNote wc_yX6_isNote rfl rfl (by decide +kernel) ⟨Nat.le_of_ble_eq_true rfl, Nat.le_of_ble_eq_true rfl⟩ ⟨Nat.le_refl 0, Nat.le_refl 0⟩ rfl hl.1 (Nat.le_of_ble_eq_true rfl) rfl dX6_renew_3 (fun H locs hM hS => ?_)
  refine lv_if_ne (tgt := 13) hx hb dX6_renew_6 (by decide) (fun c4 => ?_) (fun c4 => ?_)
  · have h := bi_f c4 h
    refine lv_aload_n hx hb dX6_renew_13 rfl (lv_at hl 0 rfl) ?_
    refine lv_iload_n hx hb dX6_renew_14 rfl (lv_at hl 1 rfl) ?_
    obtain ⟨r5, t6, e7, h⟩ := bd_e h
    refine mw_callV B hM hS [.int x1] (n := 1) (v := (some (.int r5))) (c_X6_isNow e7) wm_RX6_205 wi_yX6_isNow ws_yX6_isNow wc_yX6_isNow rfl rfl (by decide +kernel) ⟨Nat.le_of_ble_eq_true rfl, Nat.le_of_ble_eq_true rfl⟩ ⟨Nat.le_refl 0, Nat.le_refl 0⟩ rfl hl.1 (Nat.le_of_ble_eq_true rfl) rfl dX6_renew_15 (fun H locs hM hS => ?_)
    refine lv_bipush (v := 115) hx hb dX6_renew_18 (by decide) ?_
    refine lv_icmp_ne (tgt := 36) hx hb dX6_renew_20 (by decide) (fun c8 => ?_) (fun c8 => ?_)
    · have h := bi_f c8 h
      exact w_X6_renew_36 B _ _ _ _ _ h hM hS (lv_sub hl [0, 1] rfl)
    · have h := bi_t c8 h
      refine lv_aload_n hx hb dX6_renew_23 rfl (lv_at hl 0 rfl) ?_
      refine lv_aload_n hx hb dX6_renew_24 rfl (lv_at hl 0 rfl) ?_
      refine mw_get B hM 24 (by decide) wf_RX6_66 rfl (v := .ref (ad 24)) rfl dX6_renew_25 ?_
      refine lv_iload_n hx hb dX6_renew_28 rfl (lv_at hl 1 rfl) ?_
      obtain ⟨g9, h⟩ := gd_e h
      refine mw_iald B hM 24 (by decide) (by decide) rfl g9 dX6_renew_29 ?_
      obtain ⟨r10, t11, e12, h⟩ := bd_e h
      refine mw_callV B hM hS [.int (t6.2 24 x1.toNatClampNeg)] (n := 1) (v := (some (.int r10))) (c_X6_placeOf e12) wm_RX6_121 wi_yX6_placeOf ws_yX6_placeOf wc_yX6_placeOf rfl rfl (by decide +kernel) ⟨Nat.le_of_ble_eq_true rfl, Nat.le_of_ble_eq_true rfl⟩ ⟨Nat.le_refl 0, Nat.le_refl 0⟩ rfl hl.1 (Nat.le_of_ble_eq_true rfl) rfl dX6_renew_30 (fun H locs hM hS => ?_)
      refine lv_if_ge (tgt := 40) hx hb dX6_renew_33 (by decide) (fun c13 => ?_) (fun c13 => ?_)
      · have h := bi_t c13 h
        refine lv_iconst (v := 0) hx hb dX6_renew_40 (by decide) ?_
        exact w_X6_renew_41 B _ _ _ _ _ _ h hM hS (lv_sub hl [0, 1] rfl)
      · have h := bi_f c13 h
        exact w_X6_renew_36 B _ _ _ _ _ h hM hS (lv_sub hl [0, 1] rfl)
  · have h := bi_t c4 h
    refine lv_iconst (v := 1) hx hb dX6_renew_9 (by decide) ?_
    refine lv_goto (tgt := 41) hx hb dX6_renew_10 (by decide) ?_
    exact w_X6_renew_41 B _ _ _ _ _ _ h hM hS (lv_sub hl [0, 1] rfl)
theorem c_X6_renew {l : Launch} {G : GG} {A : Nat → Prop} {ad : Nat → Nat} {st : MS} {x1 : Int32} {r : Int32} {st' : MS} (h : f_X6_renew st x1 = some (r, st')) : Met l yX6_renew (Cond.code yX6_renew cX6_renew 2 (some .int) :: TG) ({ frames := 2, cells := 0, slots := 0, locals := 43 } : Room) (PM G A ad st [.ref (ad 0), .int x1]) (QM G A ad (some (.int r)) st') 0 0 A :=
  mw_of (own := RX6) (by decide +kernel) rfl rfl rfl (Nat.le_of_ble_eq_true rfl) fun p e s m below meth c ls B hM hS hl => w_X6_renew B _ _ _ _ _ h hM hS hl
set_option maxHeartbeats 4000000 in
set_option maxRecDepth 100000 in
theorem w_X6_notes_66 {p : Program} {l : Launch} {e : Env} {s : State} {m : MethodId} {args : Array Value} {below : List Frame} {meth : Method} {c : Code} {G : GG} {A : Nat → Prop} {ad : Nat → Nat} (B : MB G p s m args meth c cX6_notes 4 RX6 (some .int)) {r : Int32} {st' : MS} {k42 : MS → Int32 → Int32 → Int32 → Option (Int32 × MS)} (hk42 : ∀ (st : MS) (x1 : Int32) (x2 : Int32) (x3 : Int32) (H : Heap) (locs : List Loc) (ls : Array Slot), k42 st x1 x2 x3 = some (r, st') → MW G A ad st H → va_S A s.heap H locs → lv_has ls 4 [(0, .ref (ad 0)), (1, .int x1), (2, .int x2), (3, .int x3)] → W p l e ({ frames := 1, cells := 0, slots := 0, locals := 21 } : Room) s m args below meth c H locs 0 0 (MQ below (QM G A ad (some (.int r)) st') args s 0 0 A) (F0 m 42 ls [])) : ∀ (st : MS) (x1 : Int32) (x3 : Int32) (y0 : Int32) (H : Heap) (locs : List Loc) (ls : Array Slot), f_X6_notes_66 k42 st x1 x3 y0 = some (r, st') → MW G A ad st H → va_S A s.heap H locs → lv_has ls 4 [(0, .ref (ad 0)), (1, .int x1), (3, .int x3)] → W p l e ({ frames := 1, cells := 0, slots := 0, locals := 21 } : Room) s m args below meth c H locs 0 0 (MQ below (QM G A ad (some (.int r)) st') args s 0 0 A) (F0 m 66 ls [.int y0]) := by
  have ⟨hx, hb, hr, hml, hown, hT, hlocks, hK⟩ := B
  intro st x1 x3 y0 H locs ls h hM hS hl
  rw [f_X6_notes_66] at h
  refine lv_istore_n (lv' := [(2, .int y0), (0, .ref (ad 0)), (1, .int x1), (3, .int x3)]) hx hb dX6_notes_66 rfl hl (by decide) rfl (fun ls hl => ?_)
  refine lv_iinc (v := (x3 + 1)) (lv' := [(3, .int (x3 + 1)), (2, .int y0), (0, .ref (ad 0)), (1, .int x1)]) hx hb dX6_notes_67 hl (k := 3) rfl rfl (by decide) rfl (fun ls hl => ?_)
  refine lv_goto (tgt := 42) hx hb dX6_notes_70 (by decide) ?_
  exact hk42 _ _ _ _ _ _ _ h hM hS (lv_sub hl [2, 3, 1, 0] rfl)
set_option maxHeartbeats 4000000 in
set_option maxRecDepth 100000 in
theorem w_X6_notes_42 {p : Program} {l : Launch} {e : Env} {s : State} {m : MethodId} {args : Array Value} {below : List Frame} {meth : Method} {c : Code} {G : GG} {A : Nat → Prop} {ad : Nat → Nat} (B : MB G p s m args meth c cX6_notes 4 RX6 (some .int)) {r : Int32} {st' : MS} : ∀ (n : Nat) (st : MS) (x1 : Int32) (x2 : Int32) (x3 : Int32) (H : Heap) (locs : List Loc) (ls : Array Slot), f_X6_notes_42 n st x1 x2 x3 = some (r, st') → MW G A ad st H → va_S A s.heap H locs → lv_has ls 4 [(0, .ref (ad 0)), (1, .int x1), (2, .int x2), (3, .int x3)] → W p l e ({ frames := 1, cells := 0, slots := 0, locals := 21 } : Room) s m args below meth c H locs 0 0 (MQ below (QM G A ad (some (.int r)) st') args s 0 0 A) (F0 m 42 ls []) := by
  have ⟨hx, hb, hr, hml, hown, hT, hlocks, hK⟩ := B
  intro n
  induction n with
  | zero =>
    intro st x1 x2 x3 H locs ls h
    cases h
  | succ n ih =>
    intro st x1 x2 x3 H locs ls h hM hS hl
    rw [f_X6_notes_42] at h
    refine lv_iload_n hx hb dX6_notes_42 rfl (lv_at hl 3 rfl) ?_
    refine lv_aload_n hx hb dX6_notes_43 rfl (lv_at hl 0 rfl) ?_
    refine mw_get B hM 23 (by decide) wf_RX6_199 rfl (v := .int (st.1 23)) rfl dX6_notes_44 ?_
    refine lv_icmp_ge (tgt := 73) hx hb dX6_notes_47 (by decide) (fun c1 => ?_) (fun c1 => ?_)
    · have h := bi_t c1 h
      refine lv_iload_n hx hb dX6_notes_73 rfl (lv_at hl 2 rfl) ?_
      cases h
      exact mw_iret B hM hS dX6_notes_74
    · have h := bi_f c1 h
      refine lv_aload_n hx hb dX6_notes_50 rfl (lv_at hl 0 rfl) ?_
      refine lv_iload_n hx hb dX6_notes_51 rfl (lv_at hl 3 rfl) ?_
      obtain ⟨r2, t3, e4, h⟩ := bd_e h
      refine mw_callV B hM hS [.int x3] (n := 1) (v := (some (.int r2))) (c_X6_isNow e4) wm_RX6_205 wi_yX6_isNow ws_yX6_isNow wc_yX6_isNow rfl rfl (by decide +kernel) ⟨Nat.le_of_ble_eq_true rfl, Nat.le_of_ble_eq_true rfl⟩ ⟨Nat.le_refl 0, Nat.le_refl 0⟩ rfl hl.1 (Nat.le_of_ble_eq_true rfl) rfl dX6_notes_52 (fun H locs hM hS => ?_)
      refine lv_iload_n hx hb dX6_notes_55 rfl (lv_at hl 1 rfl) ?_
      refine lv_icmp_ne (tgt := 65) hx hb dX6_notes_56 (by decide) (fun c5 => ?_) (fun c5 => ?_)
      · have h := bi_f c5 h
        refine lv_iload_n hx hb dX6_notes_65 rfl (lv_at hl 2 rfl) ?_
        exact w_X6_notes_66 B ih _ _ _ _ _ _ _ h hM hS (lv_sub hl [0, 1, 3] rfl)
      · have h := bi_t c5 h
        refine lv_iload_n hx hb dX6_notes_59 rfl (lv_at hl 2 rfl) ?_
        refine lv_iconst (v := 1) hx hb dX6_notes_60 (by decide) ?_
        refine lv_iadd hx hb dX6_notes_61 ?_
        refine lv_goto (tgt := 66) hx hb dX6_notes_62 (by decide) ?_
        exact w_X6_notes_66 B ih _ _ _ _ _ _ _ h hM hS (lv_sub hl [0, 1, 3] rfl)
set_option maxHeartbeats 4000000 in
set_option maxRecDepth 100000 in
theorem w_X6_notes_30 {p : Program} {l : Launch} {e : Env} {s : State} {m : MethodId} {args : Array Value} {below : List Frame} {meth : Method} {c : Code} {G : GG} {A : Nat → Prop} {ad : Nat → Nat} (B : MB G p s m args meth c cX6_notes 4 RX6 (some .int)) {r : Int32} {st' : MS} : ∀ (st : MS) (x1 : Int32) (y1 : Int32) (H : Heap) (locs : List Loc) (ls : Array Slot), f_X6_notes_30 st x1 y1 = some (r, st') → MW G A ad st H → va_S A s.heap H locs → lv_has ls 4 [(0, .ref (ad 0)), (1, .int x1)] → W p l e ({ frames := 1, cells := 0, slots := 0, locals := 21 } : Room) s m args below meth c H locs 0 0 (MQ below (QM G A ad (some (.int r)) st') args s 0 0 A) (F0 m 30 ls [.int y1, .ref (ad 0)]) := by
  have ⟨hx, hb, hr, hml, hown, hT, hlocks, hK⟩ := B
  intro st x1 y1 H locs ls h hM hS hl
  rw [f_X6_notes_30] at h
  obtain ⟨r1, t2, e3, h⟩ := bd_e h
  refine mw_callV B hM hS [.int y1] (n := 1) (v := (some (.int r1))) (c_X6_fails e3) wm_RX6_102 wi_yX6_fails ws_yX6_fails wc_yX6_fails rfl rfl (by decide +kernel) ⟨Nat.le_of_ble_eq_true rfl, Nat.le_of_ble_eq_true rfl⟩ ⟨Nat.le_refl 0, Nat.le_refl 0⟩ rfl hl.1 (Nat.le_of_ble_eq_true rfl) rfl dX6_notes_30 (fun H locs hM hS => ?_)
  refine lv_if_eq (tgt := 38) hx hb dX6_notes_33 (by decide) (fun c4 => ?_) (fun c4 => ?_)
  · have h := bi_t c4 h
    refine lv_iconst (v := 0) hx hb dX6_notes_38 (by decide) ?_
    refine lv_istore_n (lv' := [(2, .int 0), (0, .ref (ad 0)), (1, .int x1)]) hx hb dX6_notes_39 rfl hl (by decide) rfl (fun ls hl => ?_)
    refine lv_iconst (v := 0) hx hb dX6_notes_40 (by decide) ?_
    refine lv_istore_n (lv' := [(3, .int 0), (2, .int 0), (0, .ref (ad 0)), (1, .int x1)]) hx hb dX6_notes_41 rfl hl (by decide) rfl (fun ls hl => ?_)
    exact w_X6_notes_42 B FU _ _ _ _ _ _ _ h hM hS (lv_sub hl [2, 3, 1, 0] rfl)
  · have h := bi_f c4 h
    refine lv_iconst (v := 0) hx hb dX6_notes_36 (by decide) ?_
    cases h
    exact mw_iret B hM hS dX6_notes_37
set_option maxHeartbeats 4000000 in
set_option maxRecDepth 100000 in
theorem w_X6_notes_25 {p : Program} {l : Launch} {e : Env} {s : State} {m : MethodId} {args : Array Value} {below : List Frame} {meth : Method} {c : Code} {G : GG} {A : Nat → Prop} {ad : Nat → Nat} (B : MB G p s m args meth c cX6_notes 4 RX6 (some .int)) {r : Int32} {st' : MS} : ∀ (st : MS) (x1 : Int32) (H : Heap) (locs : List Loc) (ls : Array Slot), f_X6_notes_25 st x1 = some (r, st') → MW G A ad st H → va_S A s.heap H locs → lv_has ls 4 [(0, .ref (ad 0)), (1, .int x1)] → W p l e ({ frames := 1, cells := 0, slots := 0, locals := 21 } : Room) s m args below meth c H locs 0 0 (MQ below (QM G A ad (some (.int r)) st') args s 0 0 A) (F0 m 25 ls [.ref (ad 0)]) := by
  have ⟨hx, hb, hr, hml, hown, hT, hlocks, hK⟩ := B
  intro st x1 H locs ls h hM hS hl
  rw [f_X6_notes_25] at h
  refine lv_iconst (v := 0) hx hb dX6_notes_25 (by decide) ?_
  refine lv_goto (tgt := 30) hx hb dX6_notes_26 (by decide) ?_
  exact w_X6_notes_30 B _ _ _ _ _ _ h hM hS (lv_sub hl [0, 1] rfl)
set_option maxHeartbeats 4000000 in
set_option maxRecDepth 100000 in
theorem w_X6_notes {p : Program} {l : Launch} {e : Env} {s : State} {m : MethodId} {args : Array Value} {below : List Frame} {meth : Method} {c : Code} {G : GG} {A : Nat → Prop} {ad : Nat → Nat} (B : MB G p s m args meth c cX6_notes 4 RX6 (some .int)) {r : Int32} {st' : MS} : ∀ (st : MS) (x1 : Int32) (H : Heap) (locs : List Loc) (ls : Array Slot), f_X6_notes st x1 = some (r, st') → MW G A ad st H → va_S A s.heap H locs → lv_has ls 4 [(0, .ref (ad 0)), (1, .int x1)] → W p l e ({ frames := 1, cells := 0, slots := 0, locals := 21 } : Room) s m args below meth c H locs 0 0 (MQ below (QM G A ad (some (.int r)) st') args s 0 0 A) (F0 m 0 ls []) := by
  have ⟨hx, hb, hr, hml, hown, hT, hlocks, hK⟩ := B
  intro st x1 H locs ls h hM hS hl
  rw [f_X6_notes] at h
  refine lv_aload_n hx hb dX6_notes_0 rfl (lv_at hl 0 rfl) ?_
  refine lv_iload_n hx hb dX6_notes_1 rfl (lv_at hl 1 rfl) ?_
  refine lv_bipush (v := 111) hx hb dX6_notes_2 (by decide) ?_
  refine lv_icmp_eq (tgt := 25) hx hb dX6_notes_4 (by decide) (fun c1 => ?_) (fun c1 => ?_)
  · have h := bi_t c1 h
    exact w_X6_notes_25 B _ _ _ _ _ h hM hS (lv_sub hl [0, 1] rfl)
  · have h := bi_f c1 h
    refine lv_iload_n hx hb dX6_notes_7 rfl (lv_at hl 1 rfl) ?_
    refine lv_bipush (v := 100) hx hb dX6_notes_8 (by decide) ?_
    refine lv_icmp_eq (tgt := 25) hx hb dX6_notes_10 (by decide) (fun c2 => ?_) (fun c2 => ?_)
    · have h := bi_t c2 h
      exact w_X6_notes_25 B _ _ _ _ _ h hM hS (lv_sub hl [0, 1] rfl)
    · have h := bi_f c2 h
      refine lv_iload_n hx hb dX6_notes_13 rfl (lv_at hl 1 rfl) ?_
      refine lv_bipush (v := 114) hx hb dX6_notes_14 (by decide) ?_
      refine lv_icmp_eq (tgt := 25) hx hb dX6_notes_16 (by decide) (fun c3 => ?_) (fun c3 => ?_)
      · have h := bi_t c3 h
        exact w_X6_notes_25 B _ _ _ _ _ h hM hS (lv_sub hl [0, 1] rfl)
      · have h := bi_f c3 h
        refine lv_iload_n hx hb dX6_notes_19 rfl (lv_at hl 1 rfl) ?_
        refine lv_bipush (v := 115) hx hb dX6_notes_20 (by decide) ?_
        refine lv_icmp_ne (tgt := 29) hx hb dX6_notes_22 (by decide) (fun c4 => ?_) (fun c4 => ?_)
        · have h := bi_f c4 h
          refine lv_iconst (v := 1) hx hb dX6_notes_29 (by decide) ?_
          exact w_X6_notes_30 B _ _ _ _ _ _ h hM hS (lv_sub hl [0, 1] rfl)
        · have h := bi_t c4 h
          exact w_X6_notes_25 B _ _ _ _ _ h hM hS (lv_sub hl [0, 1] rfl)
theorem c_X6_notes {l : Launch} {G : GG} {A : Nat → Prop} {ad : Nat → Nat} {st : MS} {x1 : Int32} {r : Int32} {st' : MS} (h : f_X6_notes st x1 = some (r, st')) : Met l yX6_notes (Cond.code yX6_notes cX6_notes 4 (some .int) :: TG) ({ frames := 1, cells := 0, slots := 0, locals := 21 } : Room) (PM G A ad st [.ref (ad 0), .int x1]) (QM G A ad (some (.int r)) st') 0 0 A :=
  mw_of (own := RX6) (by decide +kernel) rfl rfl rfl (Nat.le_of_ble_eq_true rfl) fun p e s m below meth c ls B hM hS hl => w_X6_notes B _ _ _ _ _ h hM hS hl
set_option maxHeartbeats 4000000 in
set_option maxRecDepth 100000 in
theorem w_X6_dear_14 {p : Program} {l : Launch} {e : Env} {s : State} {m : MethodId} {args : Array Value} {below : List Frame} {meth : Method} {c : Code} {G : GG} {A : Nat → Prop} {ad : Nat → Nat} (B : MB G p s m args meth c cX6_dear 4 RX6 (some .boolean)) {r : Int32} {st' : MS} : ∀ (st : MS) (x1 : Int32) (x2 : Int32) (y1 : Int32) (H : Heap) (locs : List Loc) (ls : Array Slot), f_X6_dear_14 st x1 x2 y1 = some (r, st') → MW G A ad st H → va_S A s.heap H locs → lv_has ls 4 [(0, .ref (ad 0)), (1, .int x1), (2, .int x2)] → W p l e ({ frames := 2, cells := 0, slots := 0, locals := 43 } : Room) s m args below meth c H locs 0 0 (MQ below (QM G A ad (some (.int r)) st') args s 0 0 A) (F0 m 14 ls [.int y1, .ref (ad 0)]) := by
  have ⟨hx, hb, hr, hml, hown, hT, hlocks, hK⟩ := B
  intro st x1 x2 y1 H locs ls h hM hS hl
  rw [f_X6_dear_14] at h
  obtain ⟨r1, t2, e3, h⟩ := bd_e h
  refine mw_callV B hM hS [.int y1] (n := 1) (v := (some (.int r1))) (c_X6_fails e3) wm_RX6_102 wi_yX6_fails ws_yX6_fails wc_yX6_fails rfl rfl (by decide +kernel) ⟨Nat.le_of_ble_eq_true rfl, Nat.le_of_ble_eq_true rfl⟩ ⟨Nat.le_refl 0, Nat.le_refl 0⟩ rfl hl.1 (Nat.le_of_ble_eq_true rfl) rfl dX6_dear_14 (fun H locs hM hS => ?_)
  refine lv_if_eq (tgt := 22) hx hb dX6_dear_17 (by decide) (fun c4 => ?_) (fun c4 => ?_)
  · have h := bi_t c4 h
    refine lv_aload_n hx hb dX6_dear_22 rfl (lv_at hl 0 rfl) ?_
    refine mw_get B hM 8 (by decide) wf_RX6_26 rfl (v := .ref (ad 8)) rfl dX6_dear_23 ?_
    refine lv_iload_n hx hb dX6_dear_26 rfl (lv_at hl 1 rfl) ?_
    obtain ⟨g5, h⟩ := gd_e h
    refine mw_zald B hM 8 (by decide) (by decide) rfl g5 dX6_dear_27 ?_
    refine lv_istore_n (lv' := [(3, .int (t2.2 8 x1.toNatClampNeg)), (0, .ref (ad 0)), (1, .int x1), (2, .int x2)]) hx hb dX6_dear_28 rfl hl (by decide) rfl (fun ls hl => ?_)
    refine lv_aload_n hx hb dX6_dear_29 rfl (lv_at hl 1 rfl) ?_
    refine mw_get B hM 8 (by decide) wf_RX6_26 rfl (v := .ref (ad 8)) rfl dX6_dear_30 ?_
    refine lv_iload_n hx hb dX6_dear_33 rfl (lv_at hl 2 rfl) ?_
    refine lv_iload_n hx hb dX6_dear_34 rfl (lv_at hl 3 rfl) ?_
    obtain ⟨g6, h⟩ := gd_e h
    refine mw_zast B hM hS 8 (by decide) (by decide) rfl g6 dX6_dear_35 (fun H locs hM hS => ?_)
    refine lv_iload_n hx hb dX6_dear_36 rfl (lv_at hl 0 rfl) ?_
    obtain ⟨g7, h⟩ := gd_e h
    cases h
    exact mw_zret B hM hS g7 dX6_dear_37
  · have h := bi_f c4 h
    refine lv_iconst (v := 0) hx hb dX6_dear_20 (by decide) ?_
    cases h
    exact mw_zret B hM hS (by rfl) dX6_dear_21
set_option maxHeartbeats 4000000 in
set_option maxRecDepth 100000 in
theorem w_X6_dear {p : Program} {l : Launch} {e : Env} {s : State} {m : MethodId} {args : Array Value} {below : List Frame} {meth : Method} {c : Code} {G : GG} {A : Nat → Prop} {ad : Nat → Nat} (B : MB G p s m args meth c cX6_dear 4 RX6 (some .boolean)) {r : Int32} {st' : MS} : ∀ (st : MS) (x1 : Int32) (x2 : Int32) (H : Heap) (locs : List Loc) (ls : Array Slot), f_X6_dear st x1 x2 = some (r, st') → MW G A ad st H → va_S A s.heap H locs → lv_has ls 4 [(0, .ref (ad 0)), (1, .int x1), (2, .int x2)] → W p l e ({ frames := 2, cells := 0, slots := 0, locals := 43 } : Room) s m args below meth c H locs 0 0 (MQ below (QM G A ad (some (.int r)) st') args s 0 0 A) (F0 m 0 ls []) := by
  have ⟨hx, hb, hr, hml, hown, hT, hlocks, hK⟩ := B
  intro st x1 x2 H locs ls h hM hS hl
  rw [f_X6_dear] at h
  refine lv_aload_n hx hb dX6_dear_0 rfl (lv_at hl 0 rfl) ?_
  refine lv_aload_n hx hb dX6_dear_1 rfl (lv_at hl 0 rfl) ?_
  refine lv_iload_n hx hb dX6_dear_2 rfl (lv_at hl 1 rfl) ?_
  obtain ⟨r1, t2, e3, h⟩ := bd_e h
  refine mw_callV B hM hS [.int x1] (n := 1) (v := (some (.int r1))) (c_X6_isShot e3) wm_RX6_118 wi_yX6_isShot ws_yX6_isShot wc_yX6_isShot rfl rfl (by decide +kernel) ⟨Nat.le_of_ble_eq_true rfl, Nat.le_of_ble_eq_true rfl⟩ ⟨Nat.le_refl 0, Nat.le_refl 0⟩ rfl hl.1 (Nat.le_of_ble_eq_true rfl) rfl dX6_dear_3 (fun H locs hM hS => ?_)
  refine lv_if_eq (tgt := 13) hx hb dX6_dear_6 (by decide) (fun c4 => ?_) (fun c4 => ?_)
  · have h := bi_t c4 h
    refine lv_iconst (v := 1) hx hb dX6_dear_13 (by decide) ?_
    exact w_X6_dear_14 B _ _ _ _ _ _ _ h hM hS (lv_sub hl [0, 1, 2] rfl)
  · have h := bi_f c4 h
    refine lv_iconst (v := 0) hx hb dX6_dear_9 (by decide) ?_
    refine lv_goto (tgt := 14) hx hb dX6_dear_10 (by decide) ?_
    exact w_X6_dear_14 B _ _ _ _ _ _ _ h hM hS (lv_sub hl [0, 1, 2] rfl)
theorem c_X6_dear {l : Launch} {G : GG} {A : Nat → Prop} {ad : Nat → Nat} {st : MS} {x1 : Int32} {x2 : Int32} {r : Int32} {st' : MS} (h : f_X6_dear st x1 x2 = some (r, st')) : Met l yX6_dear (Cond.code yX6_dear cX6_dear 4 (some .boolean) :: TG) ({ frames := 2, cells := 0, slots := 0, locals := 43 } : Room) (PM G A ad st [.ref (ad 0), .int x1, .int x2]) (QM G A ad (some (.int r)) st') 0 0 A :=
  mw_of (own := RX6) (by decide +kernel) rfl rfl rfl (Nat.le_of_ble_eq_true rfl) fun p e s m below meth c ls B hM hS hl => w_X6_dear B _ _ _ _ _ _ h hM hS hl
set_option maxHeartbeats 4000000 in
set_option maxRecDepth 100000 in
theorem w_X6_countSetups_171 {p : Program} {l : Launch} {e : Env} {s : State} {m : MethodId} {args : Array Value} {below : List Frame} {meth : Method} {c : Code} {G : GG} {A : Nat → Prop} {ad : Nat → Nat} (B : MB G p s m args meth c cX6_countSetups 8 RX6 (some .int)) {r : Int32} {st' : MS} {k4 : MS → Int32 → Int32 → Int32 → Option (Int32 × MS)} (hk4 : ∀ (st : MS) (x1 : Int32) (x2 : Int32) (x3 : Int32) (H : Heap) (locs : List Loc) (ls : Array Slot), k4 st x1 x2 x3 = some (r, st') → MW G A ad st H → va_S A s.heap H locs → lv_has ls 8 [(0, .ref (ad 0)), (1, .int x1), (2, .int x2), (3, .int x3)] → W p l e ({ frames := 0, cells := 0, slots := 0, locals := 0 } : Room) s m args below meth c H locs 0 0 (MQ below (QM G A ad (some (.int r)) st') args s 0 0 A) (F0 m 4 ls [])) : ∀ (st : MS) (x1 : Int32) (x3 : Int32) (y0 : Int32) (H : Heap) (locs : List Loc) (ls : Array Slot), f_X6_countSetups_171 k4 st x1 x3 y0 = some (r, st') → MW G A ad st H → va_S A s.heap H locs → lv_has ls 8 [(0, .ref (ad 0)), (1, .int x1), (3, .int x3)] → W p l e ({ frames := 0, cells := 0, slots := 0, locals := 0 } : Room) s m args below meth c H locs 0 0 (MQ below (QM G A ad (some (.int r)) st') args s 0 0 A) (F0 m 171 ls [.int y0]) := by
  have ⟨hx, hb, hr, hml, hown, hT, hlocks, hK⟩ := B
  intro st x1 x3 y0 H locs ls h hM hS hl
  rw [f_X6_countSetups_171] at h
  refine lv_istore_n (lv' := [(2, .int y0), (0, .ref (ad 0)), (1, .int x1), (3, .int x3)]) hx hb dX6_countSetups_171 rfl hl (by decide) rfl (fun ls hl => ?_)
  refine lv_iinc (v := (x3 + 1)) (lv' := [(3, .int (x3 + 1)), (2, .int y0), (0, .ref (ad 0)), (1, .int x1)]) hx hb dX6_countSetups_172 hl (k := 3) rfl rfl (by decide) rfl (fun ls hl => ?_)
  refine lv_goto (tgt := 4) hx hb dX6_countSetups_175 (by decide) ?_
  exact hk4 _ _ _ _ _ _ _ h hM hS (lv_sub hl [2, 3, 1, 0] rfl)
set_option maxHeartbeats 4000000 in
set_option maxRecDepth 100000 in
theorem w_X6_countSetups_170 {p : Program} {l : Launch} {e : Env} {s : State} {m : MethodId} {args : Array Value} {below : List Frame} {meth : Method} {c : Code} {G : GG} {A : Nat → Prop} {ad : Nat → Nat} (B : MB G p s m args meth c cX6_countSetups 8 RX6 (some .int)) {r : Int32} {st' : MS} {k4 : MS → Int32 → Int32 → Int32 → Option (Int32 × MS)} (hk4 : ∀ (st : MS) (x1 : Int32) (x2 : Int32) (x3 : Int32) (H : Heap) (locs : List Loc) (ls : Array Slot), k4 st x1 x2 x3 = some (r, st') → MW G A ad st H → va_S A s.heap H locs → lv_has ls 8 [(0, .ref (ad 0)), (1, .int x1), (2, .int x2), (3, .int x3)] → W p l e ({ frames := 0, cells := 0, slots := 0, locals := 0 } : Room) s m args below meth c H locs 0 0 (MQ below (QM G A ad (some (.int r)) st') args s 0 0 A) (F0 m 4 ls [])) : ∀ (st : MS) (x1 : Int32) (x2 : Int32) (x3 : Int32) (H : Heap) (locs : List Loc) (ls : Array Slot), f_X6_countSetups_170 k4 st x1 x2 x3 = some (r, st') → MW G A ad st H → va_S A s.heap H locs → lv_has ls 8 [(0, .ref (ad 0)), (1, .int x1), (2, .int x2), (3, .int x3)] → W p l e ({ frames := 0, cells := 0, slots := 0, locals := 0 } : Room) s m args below meth c H locs 0 0 (MQ below (QM G A ad (some (.int r)) st') args s 0 0 A) (F0 m 170 ls []) := by
  have ⟨hx, hb, hr, hml, hown, hT, hlocks, hK⟩ := B
  intro st x1 x2 x3 H locs ls h hM hS hl
  rw [f_X6_countSetups_170] at h
  refine lv_iload_n hx hb dX6_countSetups_170 rfl (lv_at hl 2 rfl) ?_
  exact w_X6_countSetups_171 B hk4 _ _ _ _ _ _ _ h hM hS (lv_sub hl [0, 1, 3] rfl)
set_option maxHeartbeats 4000000 in
set_option maxRecDepth 100000 in
theorem w_X6_countSetups_164 {p : Program} {l : Launch} {e : Env} {s : State} {m : MethodId} {args : Array Value} {below : List Frame} {meth : Method} {c : Code} {G : GG} {A : Nat → Prop} {ad : Nat → Nat} (B : MB G p s m args meth c cX6_countSetups 8 RX6 (some .int)) {r : Int32} {st' : MS} {k4 : MS → Int32 → Int32 → Int32 → Option (Int32 × MS)} (hk4 : ∀ (st : MS) (x1 : Int32) (x2 : Int32) (x3 : Int32) (H : Heap) (locs : List Loc) (ls : Array Slot), k4 st x1 x2 x3 = some (r, st') → MW G A ad st H → va_S A s.heap H locs → lv_has ls 8 [(0, .ref (ad 0)), (1, .int x1), (2, .int x2), (3, .int x3)] → W p l e ({ frames := 0, cells := 0, slots := 0, locals := 0 } : Room) s m args below meth c H locs 0 0 (MQ below (QM G A ad (some (.int r)) st') args s 0 0 A) (F0 m 4 ls [])) : ∀ (st : MS) (x1 : Int32) (x2 : Int32) (x3 : Int32) (H : Heap) (locs : List Loc) (ls : Array Slot), f_X6_countSetups_164 k4 st x1 x2 x3 = some (r, st') → MW G A ad st H → va_S A s.heap H locs → lv_has ls 8 [(0, .ref (ad 0)), (1, .int x1), (2, .int x2), (3, .int x3)] → W p l e ({ frames := 0, cells := 0, slots := 0, locals := 0 } : Room) s m args below meth c H locs 0 0 (MQ below (QM G A ad (some (.int r)) st') args s 0 0 A) (F0 m 164 ls []) := by
  have ⟨hx, hb, hr, hml, hown, hT, hlocks, hK⟩ := B
  intro st x1 x2 x3 H locs ls h hM hS hl
  rw [f_X6_countSetups_164] at h
  refine lv_iload_n hx hb dX6_countSetups_164 rfl (lv_at hl 2 rfl) ?_
  refine lv_iconst (v := 1) hx hb dX6_countSetups_165 (by decide) ?_
  refine lv_iadd hx hb dX6_countSetups_166 ?_
  refine lv_goto (tgt := 171) hx hb dX6_countSetups_167 (by decide) ?_
  exact w_X6_countSetups_171 B hk4 _ _ _ _ _ _ _ h hM hS (lv_sub hl [0, 1, 3] rfl)
set_option maxHeartbeats 4000000 in
set_option maxRecDepth 100000 in
theorem w_X6_countSetups_142 {p : Program} {l : Launch} {e : Env} {s : State} {m : MethodId} {args : Array Value} {below : List Frame} {meth : Method} {c : Code} {G : GG} {A : Nat → Prop} {ad : Nat → Nat} (B : MB G p s m args meth c cX6_countSetups 8 RX6 (some .int)) {r : Int32} {st' : MS} {k4 : MS → Int32 → Int32 → Int32 → Option (Int32 × MS)} {k21 : MS → Int32 → Int32 → Int32 → Int32 → Int32 → Int32 → Option (Int32 × MS)} (hk4 : ∀ (st : MS) (x1 : Int32) (x2 : Int32) (x3 : Int32) (H : Heap) (locs : List Loc) (ls : Array Slot), k4 st x1 x2 x3 = some (r, st') → MW G A ad st H → va_S A s.heap H locs → lv_has ls 8 [(0, .ref (ad 0)), (1, .int x1), (2, .int x2), (3, .int x3)] → W p l e ({ frames := 0, cells := 0, slots := 0, locals := 0 } : Room) s m args below meth c H locs 0 0 (MQ below (QM G A ad (some (.int r)) st') args s 0 0 A) (F0 m 4 ls [])) (hk21 : ∀ (st : MS) (x1 : Int32) (x2 : Int32) (x3 : Int32) (x4 : Int32) (x5 : Int32) (x6 : Int32) (H : Heap) (locs : List Loc) (ls : Array Slot), k21 st x1 x2 x3 x4 x5 x6 = some (r, st') → MW G A ad st H → va_S A s.heap H locs → lv_has ls 8 [(0, .ref (ad 0)), (1, .int x1), (2, .int x2), (3, .int x3), (4, .int x4), (5, .int x5), (6, .int x6)] → W p l e ({ frames := 0, cells := 0, slots := 0, locals := 0 } : Room) s m args below meth c H locs 0 0 (MQ below (QM G A ad (some (.int r)) st') args s 0 0 A) (F0 m 21 ls [])) : ∀ (st : MS) (x1 : Int32) (x2 : Int32) (x3 : Int32) (x4 : Int32) (x6 : Int32) (y0 : Int32) (H : Heap) (locs : List Loc) (ls : Array Slot), f_X6_countSetups_142 k4 k21 st x1 x2 x3 x4 x6 y0 = some (r, st') → MW G A ad st H → va_S A s.heap H locs → lv_has ls 8 [(0, .ref (ad 0)), (1, .int x1), (2, .int x2), (3, .int x3), (4, .int x4), (6, .int x6)] → W p l e ({ frames := 0, cells := 0, slots := 0, locals := 0 } : Room) s m args below meth c H locs 0 0 (MQ below (QM G A ad (some (.int r)) st') args s 0 0 A) (F0 m 142 ls [.int y0]) := by
  have ⟨hx, hb, hr, hml, hown, hT, hlocks, hK⟩ := B
  intro st x1 x2 x3 x4 x6 y0 H locs ls h hM hS hl
  rw [f_X6_countSetups_142] at h
  refine lv_istore (lv' := [(5, .int y0), (0, .ref (ad 0)), (1, .int x1), (2, .int x2), (3, .int x3), (4, .int x4), (6, .int x6)]) hx hb dX6_countSetups_142 hl (by decide) rfl (fun ls hl => ?_)
  refine lv_iinc (v := (x6 + 1)) (lv' := [(6, .int (x6 + 1)), (5, .int y0), (0, .ref (ad 0)), (1, .int x1), (2, .int x2), (3, .int x3), (4, .int x4)]) hx hb dX6_countSetups_144 hl (k := 6) rfl rfl (by decide) rfl (fun ls hl => ?_)
  refine lv_goto (tgt := 21) hx hb dX6_countSetups_147 (by decide) ?_
  exact hk21 _ _ _ _ _ _ _ _ _ _ h hM hS (lv_sub hl [2, 3, 4, 5, 6, 1, 0] rfl)
set_option maxHeartbeats 4000000 in
set_option maxRecDepth 100000 in
theorem w_X6_countSetups_141 {p : Program} {l : Launch} {e : Env} {s : State} {m : MethodId} {args : Array Value} {below : List Frame} {meth : Method} {c : Code} {G : GG} {A : Nat → Prop} {ad : Nat → Nat} (B : MB G p s m args meth c cX6_countSetups 8 RX6 (some .int)) {r : Int32} {st' : MS} {k4 : MS → Int32 → Int32 → Int32 → Option (Int32 × MS)} {k21 : MS → Int32 → Int32 → Int32 → Int32 → Int32 → Int32 → Option (Int32 × MS)} (hk4 : ∀ (st : MS) (x1 : Int32) (x2 : Int32) (x3 : Int32) (H : Heap) (locs : List Loc) (ls : Array Slot), k4 st x1 x2 x3 = some (r, st') → MW G A ad st H → va_S A s.heap H locs → lv_has ls 8 [(0, .ref (ad 0)), (1, .int x1), (2, .int x2), (3, .int x3)] → W p l e ({ frames := 0, cells := 0, slots := 0, locals := 0 } : Room) s m args below meth c H locs 0 0 (MQ below (QM G A ad (some (.int r)) st') args s 0 0 A) (F0 m 4 ls [])) (hk21 : ∀ (st : MS) (x1 : Int32) (x2 : Int32) (x3 : Int32) (x4 : Int32) (x5 : Int32) (x6 : Int32) (H : Heap) (locs : List Loc) (ls : Array Slot), k21 st x1 x2 x3 x4 x5 x6 = some (r, st') → MW G A ad st H → va_S A s.heap H locs → lv_has ls 8 [(0, .ref (ad 0)), (1, .int x1), (2, .int x2), (3, .int x3), (4, .int x4), (5, .int x5), (6, .int x6)] → W p l e ({ frames := 0, cells := 0, slots := 0, locals := 0 } : Room) s m args below meth c H locs 0 0 (MQ below (QM G A ad (some (.int r)) st') args s 0 0 A) (F0 m 21 ls [])) : ∀ (st : MS) (x1 : Int32) (x2 : Int32) (x3 : Int32) (x4 : Int32) (x6 : Int32) (H : Heap) (locs : List Loc) (ls : Array Slot), f_X6_countSetups_141 k4 k21 st x1 x2 x3 x4 x6 = some (r, st') → MW G A ad st H → va_S A s.heap H locs → lv_has ls 8 [(0, .ref (ad 0)), (1, .int x1), (2, .int x2), (3, .int x3), (4, .int x4), (6, .int x6)] → W p l e ({ frames := 0, cells := 0, slots := 0, locals := 0 } : Room) s m args below meth c H locs 0 0 (MQ below (QM G A ad (some (.int r)) st') args s 0 0 A) (F0 m 141 ls []) := by
  have ⟨hx, hb, hr, hml, hown, hT, hlocks, hK⟩ := B
  intro st x1 x2 x3 x4 x6 H locs ls h hM hS hl
  rw [f_X6_countSetups_141] at h
  refine lv_iconst (v := 0) hx hb dX6_countSetups_141 (by decide) ?_
  exact w_X6_countSetups_142 B hk4 hk21 _ _ _ _ _ _ _ _ _ _ h hM hS (lv_sub hl [0, 1, 2, 3, 4, 5] rfl)
set_option maxHeartbeats 4000000 in
set_option maxRecDepth 100000 in
theorem w_X6_countSetups_137 {p : Program} {l : Launch} {e : Env} {s : State} {m : MethodId} {args : Array Value} {below : List Frame} {meth : Method} {c : Code} {G : GG} {A : Nat → Prop} {ad : Nat → Nat} (B : MB G p s m args meth c cX6_countSetups 8 RX6 (some .int)) {r : Int32} {st' : MS} {k4 : MS → Int32 → Int32 → Int32 → Option (Int32 × MS)} {k21 : MS → Int32 → Int32 → Int32 → Int32 → Int32 → Int32 → Option (Int32 × MS)} (hk4 : ∀ (st : MS) (x1 : Int32) (x2 : Int32) (x3 : Int32) (H : Heap) (locs : List Loc) (ls : Array Slot), k4 st x1 x2 x3 = some (r, st') → MW G A ad st H → va_S A s.heap H locs → lv_has ls 8 [(0, .ref (ad 0)), (1, .int x1), (2, .int x2), (3, .int x3)] → W p l e ({ frames := 0, cells := 0, slots := 0, locals := 0 } : Room) s m args below meth c H locs 0 0 (MQ below (QM G A ad (some (.int r)) st') args s 0 0 A) (F0 m 4 ls [])) (hk21 : ∀ (st : MS) (x1 : Int32) (x2 : Int32) (x3 : Int32) (x4 : Int32) (x5 : Int32) (x6 : Int32) (H : Heap) (locs : List Loc) (ls : Array Slot), k21 st x1 x2 x3 x4 x5 x6 = some (r, st') → MW G A ad st H → va_S A s.heap H locs → lv_has ls 8 [(0, .ref (ad 0)), (1, .int x1), (2, .int x2), (3, .int x3), (4, .int x4), (5, .int x5), (6, .int x6)] → W p l e ({ frames := 0, cells := 0, slots := 0, locals := 0 } : Room) s m args below meth c H locs 0 0 (MQ below (QM G A ad (some (.int r)) st') args s 0 0 A) (F0 m 21 ls [])) : ∀ (st : MS) (x1 : Int32) (x2 : Int32) (x3 : Int32) (x4 : Int32) (x6 : Int32) (H : Heap) (locs : List Loc) (ls : Array Slot), f_X6_countSetups_137 k4 k21 st x1 x2 x3 x4 x6 = some (r, st') → MW G A ad st H → va_S A s.heap H locs → lv_has ls 8 [(0, .ref (ad 0)), (1, .int x1), (2, .int x2), (3, .int x3), (4, .int x4), (6, .int x6)] → W p l e ({ frames := 0, cells := 0, slots := 0, locals := 0 } : Room) s m args below meth c H locs 0 0 (MQ below (QM G A ad (some (.int r)) st') args s 0 0 A) (F0 m 137 ls []) := by
  have ⟨hx, hb, hr, hml, hown, hT, hlocks, hK⟩ := B
  intro st x1 x2 x3 x4 x6 H locs ls h hM hS hl
  rw [f_X6_countSetups_137] at h
  refine lv_iconst (v := 1) hx hb dX6_countSetups_137 (by decide) ?_
  refine lv_goto (tgt := 142) hx hb dX6_countSetups_138 (by decide) ?_
  exact w_X6_countSetups_142 B hk4 hk21 _ _ _ _ _ _ _ _ _ _ h hM hS (lv_sub hl [0, 1, 2, 3, 4, 5] rfl)
set_option maxHeartbeats 4000000 in
set_option maxRecDepth 100000 in
theorem w_X6_countSetups_110 {p : Program} {l : Launch} {e : Env} {s : State} {m : MethodId} {args : Array Value} {below : List Frame} {meth : Method} {c : Code} {G : GG} {A : Nat → Prop} {ad : Nat → Nat} (B : MB G p s m args meth c cX6_countSetups 8 RX6 (some .int)) {r : Int32} {st' : MS} {k4 : MS → Int32 → Int32 → Int32 → Option (Int32 × MS)} {k21 : MS → Int32 → Int32 → Int32 → Int32 → Int32 → Int32 → Option (Int32 × MS)} (hk4 : ∀ (st : MS) (x1 : Int32) (x2 : Int32) (x3 : Int32) (H : Heap) (locs : List Loc) (ls : Array Slot), k4 st x1 x2 x3 = some (r, st') → MW G A ad st H → va_S A s.heap H locs → lv_has ls 8 [(0, .ref (ad 0)), (1, .int x1), (2, .int x2), (3, .int x3)] → W p l e ({ frames := 0, cells := 0, slots := 0, locals := 0 } : Room) s m args below meth c H locs 0 0 (MQ below (QM G A ad (some (.int r)) st') args s 0 0 A) (F0 m 4 ls [])) (hk21 : ∀ (st : MS) (x1 : Int32) (x2 : Int32) (x3 : Int32) (x4 : Int32) (x5 : Int32) (x6 : Int32) (H : Heap) (locs : List Loc) (ls : Array Slot), k21 st x1 x2 x3 x4 x5 x6 = some (r, st') → MW G A ad st H → va_S A s.heap H locs → lv_has ls 8 [(0, .ref (ad 0)), (1, .int x1), (2, .int x2), (3, .int x3), (4, .int x4), (5, .int x5), (6, .int x6)] → W p l e ({ frames := 0, cells := 0, slots := 0, locals := 0 } : Room) s m args below meth c H locs 0 0 (MQ below (QM G A ad (some (.int r)) st') args s 0 0 A) (F0 m 21 ls [])) : ∀ (st : MS) (x1 : Int32) (x2 : Int32) (x3 : Int32) (x5 : Int32) (x6 : Int32) (x7 : Int32) (y0 : Int32) (H : Heap) (locs : List Loc) (ls : Array Slot), f_X6_countSetups_110 k4 k21 st x1 x2 x3 x5 x6 x7 y0 = some (r, st') → MW G A ad st H → va_S A s.heap H locs → lv_has ls 8 [(0, .ref (ad 0)), (1, .int x1), (2, .int x2), (3, .int x3), (5, .int x5), (6, .int x6), (7, .int x7)] → W p l e ({ frames := 0, cells := 0, slots := 0, locals := 0 } : Room) s m args below meth c H locs 0 0 (MQ below (QM G A ad (some (.int r)) st') args s 0 0 A) (F0 m 110 ls [.int y0]) := by
  have ⟨hx, hb, hr, hml, hown, hT, hlocks, hK⟩ := B
  intro st x1 x2 x3 x5 x6 x7 y0 H locs ls h hM hS hl
  rw [f_X6_countSetups_110] at h
  refine lv_istore (lv' := [(4, .int y0), (0, .ref (ad 0)), (1, .int x1), (2, .int x2), (3, .int x3), (5, .int x5), (6, .int x6), (7, .int x7)]) hx hb dX6_countSetups_110 hl (by decide) rfl (fun ls hl => ?_)
  refine lv_iload hx hb dX6_countSetups_112 (lv_at hl 5 rfl) ?_
  refine lv_if_ne (tgt := 137) hx hb dX6_countSetups_114 (by decide) (fun c1 => ?_) (fun c1 => ?_)
  · have h := bi_f c1 h
    exact w_X6_countSetups_137 B hk4 hk21 _ _ _ _ _ _ _ _ _ h hM hS (lv_sub hl [1, 2, 3, 4, 0, 6] rfl)
  · have h := bi_t c1 h
    refine lv_iload hx hb dX6_countSetups_117 (lv_at hl 7 rfl) ?_
    refine lv_if_eq (tgt := 141) hx hb dX6_countSetups_119 (by decide) (fun c2 => ?_) (fun c2 => ?_)
    · have h := bi_t c2 h
      exact w_X6_countSetups_141 B hk4 hk21 _ _ _ _ _ _ _ _ _ h hM hS (lv_sub hl [1, 2, 3, 4, 0, 6] rfl)
    · have h := bi_f c2 h
      refine lv_aload_n hx hb dX6_countSetups_122 rfl (lv_at hl 1 rfl) ?_
      refine mw_get B hM 8 (by decide) wf_RX6_26 rfl (v := .ref (ad 8)) rfl dX6_countSetups_123 ?_
      refine lv_aload_n hx hb dX6_countSetups_126 rfl (lv_at hl 1 rfl) ?_
      refine mw_get B hM 3 (by decide) wf_RX6_7 rfl (v := .ref (ad 3)) rfl dX6_countSetups_127 ?_
      refine lv_iload hx hb dX6_countSetups_130 (lv_at hl 6 rfl) ?_
      obtain ⟨g3, h⟩ := gd_e h
      refine mw_iald B hM 3 (by decide) (by decide) rfl g3 dX6_countSetups_132 ?_
      obtain ⟨g4, h⟩ := gd_e h
      refine mw_zald B hM 8 (by decide) (by decide) rfl g4 dX6_countSetups_133 ?_
      refine lv_if_eq (tgt := 141) hx hb dX6_countSetups_134 (by decide) (fun c5 => ?_) (fun c5 => ?_)
      · have h := bi_t c5 h
        exact w_X6_countSetups_141 B hk4 hk21 _ _ _ _ _ _ _ _ _ h hM hS (lv_sub hl [1, 2, 3, 4, 0, 6] rfl)
      · have h := bi_f c5 h
        exact w_X6_countSetups_137 B hk4 hk21 _ _ _ _ _ _ _ _ _ h hM hS (lv_sub hl [1, 2, 3, 4, 0, 6] rfl)
set_option maxHeartbeats 4000000 in
set_option maxRecDepth 100000 in
theorem w_X6_countSetups_109 {p : Program} {l : Launch} {e : Env} {s : State} {m : MethodId} {args : Array Value} {below : List Frame} {meth : Method} {c : Code} {G : GG} {A : Nat → Prop} {ad : Nat → Nat} (B : MB G p s m args meth c cX6_countSetups 8 RX6 (some .int)) {r : Int32} {st' : MS} {k4 : MS → Int32 → Int32 → Int32 → Option (Int32 × MS)} {k21 : MS → Int32 → Int32 → Int32 → Int32 → Int32 → Int32 → Option (Int32 × MS)} (hk4 : ∀ (st : MS) (x1 : Int32) (x2 : Int32) (x3 : Int32) (H : Heap) (locs : List Loc) (ls : Array Slot), k4 st x1 x2 x3 = some (r, st') → MW G A ad st H → va_S A s.heap H locs → lv_has ls 8 [(0, .ref (ad 0)), (1, .int x1), (2, .int x2), (3, .int x3)] → W p l e ({ frames := 0, cells := 0, slots := 0, locals := 0 } : Room) s m args below meth c H locs 0 0 (MQ below (QM G A ad (some (.int r)) st') args s 0 0 A) (F0 m 4 ls [])) (hk21 : ∀ (st : MS) (x1 : Int32) (x2 : Int32) (x3 : Int32) (x4 : Int32) (x5 : Int32) (x6 : Int32) (H : Heap) (locs : List Loc) (ls : Array Slot), k21 st x1 x2 x3 x4 x5 x6 = some (r, st') → MW G A ad st H → va_S A s.heap H locs → lv_has ls 8 [(0, .ref (ad 0)), (1, .int x1), (2, .int x2), (3, .int x3), (4, .int x4), (5, .int x5), (6, .int x6)] → W p l e ({ frames := 0, cells := 0, slots := 0, locals := 0 } : Room) s m args below meth c H locs 0 0 (MQ below (QM G A ad (some (.int r)) st') args s 0 0 A) (F0 m 21 ls [])) : ∀ (st : MS) (x1 : Int32) (x2 : Int32) (x3 : Int32) (x5 : Int32) (x6 : Int32) (x7 : Int32) (H : Heap) (locs : List Loc) (ls : Array Slot), f_X6_countSetups_109 k4 k21 st x1 x2 x3 x5 x6 x7 = some (r, st') → MW G A ad st H → va_S A s.heap H locs → lv_has ls 8 [(0, .ref (ad 0)), (1, .int x1), (2, .int x2), (3, .int x3), (5, .int x5), (6, .int x6), (7, .int x7)] → W p l e ({ frames := 0, cells := 0, slots := 0, locals := 0 } : Room) s m args below meth c H locs 0 0 (MQ below (QM G A ad (some (.int r)) st') args s 0 0 A) (F0 m 109 ls []) := by
  have ⟨hx, hb, hr, hml, hown, hT, hlocks, hK⟩ := B
  intro st x1 x2 x3 x5 x6 x7 H locs ls h hM hS hl
  rw [f_X6_countSetups_109] at h
  refine lv_iconst (v := 0) hx hb dX6_countSetups_109 (by decide) ?_
  exact w_X6_countSetups_110 B hk4 hk21 _ _ _ _ _ _ _ _ _ _ _ h hM hS (lv_sub hl [0, 1, 2, 3, 4, 5, 6] rfl)
set_option maxHeartbeats 4000000 in
set_option maxRecDepth 100000 in
theorem w_X6_countSetups_105 {p : Program} {l : Launch} {e : Env} {s : State} {m : MethodId} {args : Array Value} {below : List Frame} {meth : Method} {c : Code} {G : GG} {A : Nat → Prop} {ad : Nat → Nat} (B : MB G p s m args meth c cX6_countSetups 8 RX6 (some .int)) {r : Int32} {st' : MS} {k4 : MS → Int32 → Int32 → Int32 → Option (Int32 × MS)} {k21 : MS → Int32 → Int32 → Int32 → Int32 → Int32 → Int32 → Option (Int32 × MS)} (hk4 : ∀ (st : MS) (x1 : Int32) (x2 : Int32) (x3 : Int32) (H : Heap) (locs : List Loc) (ls : Array Slot), k4 st x1 x2 x3 = some (r, st') → MW G A ad st H → va_S A s.heap H locs → lv_has ls 8 [(0, .ref (ad 0)), (1, .int x1), (2, .int x2), (3, .int x3)] → W p l e ({ frames := 0, cells := 0, slots := 0, locals := 0 } : Room) s m args below meth c H locs 0 0 (MQ below (QM G A ad (some (.int r)) st') args s 0 0 A) (F0 m 4 ls [])) (hk21 : ∀ (st : MS) (x1 : Int32) (x2 : Int32) (x3 : Int32) (x4 : Int32) (x5 : Int32) (x6 : Int32) (H : Heap) (locs : List Loc) (ls : Array Slot), k21 st x1 x2 x3 x4 x5 x6 = some (r, st') → MW G A ad st H → va_S A s.heap H locs → lv_has ls 8 [(0, .ref (ad 0)), (1, .int x1), (2, .int x2), (3, .int x3), (4, .int x4), (5, .int x5), (6, .int x6)] → W p l e ({ frames := 0, cells := 0, slots := 0, locals := 0 } : Room) s m args below meth c H locs 0 0 (MQ below (QM G A ad (some (.int r)) st') args s 0 0 A) (F0 m 21 ls [])) : ∀ (st : MS) (x1 : Int32) (x2 : Int32) (x3 : Int32) (x5 : Int32) (x6 : Int32) (x7 : Int32) (H : Heap) (locs : List Loc) (ls : Array Slot), f_X6_countSetups_105 k4 k21 st x1 x2 x3 x5 x6 x7 = some (r, st') → MW G A ad st H → va_S A s.heap H locs → lv_has ls 8 [(0, .ref (ad 0)), (1, .int x1), (2, .int x2), (3, .int x3), (5, .int x5), (6, .int x6), (7, .int x7)] → W p l e ({ frames := 0, cells := 0, slots := 0, locals := 0 } : Room) s m args below meth c H locs 0 0 (MQ below (QM G A ad (some (.int r)) st') args s 0 0 A) (F0 m 105 ls []) := by
  have ⟨hx, hb, hr, hml, hown, hT, hlocks, hK⟩ := B
  intro st x1 x2 x3 x5 x6 x7 H locs ls h hM hS hl
  rw [f_X6_countSetups_105] at h
  refine lv_iconst (v := 1) hx hb dX6_countSetups_105 (by decide) ?_
  refine lv_goto (tgt := 110) hx hb dX6_countSetups_106 (by decide) ?_
  exact w_X6_countSetups_110 B hk4 hk21 _ _ _ _ _ _ _ _ _ _ _ h hM hS (lv_sub hl [0, 1, 2, 3, 4, 5, 6] rfl)
set_option maxHeartbeats 4000000 in
set_option maxRecDepth 100000 in
theorem w_X6_countSetups_87 {p : Program} {l : Launch} {e : Env} {s : State} {m : MethodId} {args : Array Value} {below : List Frame} {meth : Method} {c : Code} {G : GG} {A : Nat → Prop} {ad : Nat → Nat} (B : MB G p s m args meth c cX6_countSetups 8 RX6 (some .int)) {r : Int32} {st' : MS} {k4 : MS → Int32 → Int32 → Int32 → Option (Int32 × MS)} {k21 : MS → Int32 → Int32 → Int32 → Int32 → Int32 → Int32 → Option (Int32 × MS)} (hk4 : ∀ (st : MS) (x1 : Int32) (x2 : Int32) (x3 : Int32) (H : Heap) (locs : List Loc) (ls : Array Slot), k4 st x1 x2 x3 = some (r, st') → MW G A ad st H → va_S A s.heap H locs → lv_has ls 8 [(0, .ref (ad 0)), (1, .int x1), (2, .int x2), (3, .int x3)] → W p l e ({ frames := 0, cells := 0, slots := 0, locals := 0 } : Room) s m args below meth c H locs 0 0 (MQ below (QM G A ad (some (.int r)) st') args s 0 0 A) (F0 m 4 ls [])) (hk21 : ∀ (st : MS) (x1 : Int32) (x2 : Int32) (x3 : Int32) (x4 : Int32) (x5 : Int32) (x6 : Int32) (H : Heap) (locs : List Loc) (ls : Array Slot), k21 st x1 x2 x3 x4 x5 x6 = some (r, st') → MW G A ad st H → va_S A s.heap H locs → lv_has ls 8 [(0, .ref (ad 0)), (1, .int x1), (2, .int x2), (3, .int x3), (4, .int x4), (5, .int x5), (6, .int x6)] → W p l e ({ frames := 0, cells := 0, slots := 0, locals := 0 } : Room) s m args below meth c H locs 0 0 (MQ below (QM G A ad (some (.int r)) st') args s 0 0 A) (F0 m 21 ls [])) : ∀ (st : MS) (x1 : Int32) (x2 : Int32) (x3 : Int32) (x4 : Int32) (x5 : Int32) (x6 : Int32) (y0 : Int32) (H : Heap) (locs : List Loc) (ls : Array Slot), f_X6_countSetups_87 k4 k21 st x1 x2 x3 x4 x5 x6 y0 = some (r, st') → MW G A ad st H → va_S A s.heap H locs → lv_has ls 8 [(0, .ref (ad 0)), (1, .int x1), (2, .int x2), (3, .int x3), (4, .int x4), (5, .int x5), (6, .int x6)] → W p l e ({ frames := 0, cells := 0, slots := 0, locals := 0 } : Room) s m args below meth c H locs 0 0 (MQ below (QM G A ad (some (.int r)) st') args s 0 0 A) (F0 m 87 ls [.int y0]) := by
  have ⟨hx, hb, hr, hml, hown, hT, hlocks, hK⟩ := B
  intro st x1 x2 x3 x4 x5 x6 y0 H locs ls h hM hS hl
  rw [f_X6_countSetups_87] at h
  refine lv_istore (lv' := [(7, .int y0), (0, .ref (ad 0)), (1, .int x1), (2, .int x2), (3, .int x3), (4, .int x4), (5, .int x5), (6, .int x6)]) hx hb dX6_countSetups_87 hl (by decide) rfl (fun ls hl => ?_)
  refine lv_iload hx hb dX6_countSetups_89 (lv_at hl 5 rfl) ?_
  refine lv_if_eq (tgt := 109) hx hb dX6_countSetups_91 (by decide) (fun c1 => ?_) (fun c1 => ?_)
  · have h := bi_t c1 h
    exact w_X6_countSetups_109 B hk4 hk21 _ _ _ _ _ _ _ _ _ _ h hM hS (lv_sub hl [1, 2, 3, 4, 6, 7, 0] rfl)
  · have h := bi_f c1 h
    refine lv_iload hx hb dX6_countSetups_94 (lv_at hl 0 rfl) ?_
    refine lv_if_eq (tgt := 105) hx hb dX6_countSetups_96 (by decide) (fun c2 => ?_) (fun c2 => ?_)
    · have h := bi_t c2 h
      exact w_X6_countSetups_105 B hk4 hk21 _ _ _ _ _ _ _ _ _ _ h hM hS (lv_sub hl [1, 2, 3, 4, 6, 7, 0] rfl)
    · have h := bi_f c2 h
      refine lv_iload hx hb dX6_countSetups_99 (lv_at hl 7 rfl) ?_
      refine lv_iload_n hx hb dX6_countSetups_101 rfl (lv_at hl 4 rfl) ?_
      refine lv_icmp_lt (tgt := 109) hx hb dX6_countSetups_102 (by decide) (fun c3 => ?_) (fun c3 => ?_)
      · have h := bi_t c3 h
        exact w_X6_countSetups_109 B hk4 hk21 _ _ _ _ _ _ _ _ _ _ h hM hS (lv_sub hl [1, 2, 3, 4, 6, 7, 0] rfl)
      · have h := bi_f c3 h
        exact w_X6_countSetups_105 B hk4 hk21 _ _ _ _ _ _ _ _ _ _ h hM hS (lv_sub hl [1, 2, 3, 4, 6, 7, 0] rfl)
set_option maxHeartbeats 4000000 in
set_option maxRecDepth 100000 in
theorem w_X6_countSetups_86 {p : Program} {l : Launch} {e : Env} {s : State} {m : MethodId} {args : Array Value} {below : List Frame} {meth : Method} {c : Code} {G : GG} {A : Nat → Prop} {ad : Nat → Nat} (B : MB G p s m args meth c cX6_countSetups 8 RX6 (some .int)) {r : Int32} {st' : MS} {k4 : MS → Int32 → Int32 → Int32 → Option (Int32 × MS)} {k21 : MS → Int32 → Int32 → Int32 → Int32 → Int32 → Int32 → Option (Int32 × MS)} (hk4 : ∀ (st : MS) (x1 : Int32) (x2 : Int32) (x3 : Int32) (H : Heap) (locs : List Loc) (ls : Array Slot), k4 st x1 x2 x3 = some (r, st') → MW G A ad st H → va_S A s.heap H locs → lv_has ls 8 [(0, .ref (ad 0)), (1, .int x1), (2, .int x2), (3, .int x3)] → W p l e ({ frames := 0, cells := 0, slots := 0, locals := 0 } : Room) s m args below meth c H locs 0 0 (MQ below (QM G A ad (some (.int r)) st') args s 0 0 A) (F0 m 4 ls [])) (hk21 : ∀ (st : MS) (x1 : Int32) (x2 : Int32) (x3 : Int32) (x4 : Int32) (x5 : Int32) (x6 : Int32) (H : Heap) (locs : List Loc) (ls : Array Slot), k21 st x1 x2 x3 x4 x5 x6 = some (r, st') → MW G A ad st H → va_S A s.heap H locs → lv_has ls 8 [(0, .ref (ad 0)), (1, .int x1), (2, .int x2), (3, .int x3), (4, .int x4), (5, .int x5), (6, .int x6)] → W p l e ({ frames := 0, cells := 0, slots := 0, locals := 0 } : Room) s m args below meth c H locs 0 0 (MQ below (QM G A ad (some (.int r)) st') args s 0 0 A) (F0 m 21 ls [])) : ∀ (st : MS) (x1 : Int32) (x2 : Int32) (x3 : Int32) (x4 : Int32) (x5 : Int32) (x6 : Int32) (H : Heap) (locs : List Loc) (ls : Array Slot), f_X6_countSetups_86 k4 k21 st x1 x2 x3 x4 x5 x6 = some (r, st') → MW G A ad st H → va_S A s.heap H locs → lv_has ls 8 [(0, .ref (ad 0)), (1, .int x1), (2, .int x2), (3, .int x3), (4, .int x4), (5, .int x5), (6, .int x6)] → W p l e ({ frames := 0, cells := 0, slots := 0, locals := 0 } : Room) s m args below meth c H locs 0 0 (MQ below (QM G A ad (some (.int r)) st') args s 0 0 A) (F0 m 86 ls []) := by
  have ⟨hx, hb, hr, hml, hown, hT, hlocks, hK⟩ := B
  intro st x1 x2 x3 x4 x5 x6 H locs ls h hM hS hl
  rw [f_X6_countSetups_86] at h
  refine lv_iconst (v := 0) hx hb dX6_countSetups_86 (by decide) ?_
  exact w_X6_countSetups_87 B hk4 hk21 _ _ _ _ _ _ _ _ _ _ _ h hM hS (lv_sub hl [0, 1, 2, 3, 4, 5, 6] rfl)
set_option maxHeartbeats 4000000 in
set_option maxRecDepth 100000 in
theorem w_X6_countSetups_21 {p : Program} {l : Launch} {e : Env} {s : State} {m : MethodId} {args : Array Value} {below : List Frame} {meth : Method} {c : Code} {G : GG} {A : Nat → Prop} {ad : Nat → Nat} (B : MB G p s m args meth c cX6_countSetups 8 RX6 (some .int)) {r : Int32} {st' : MS} {k4 : MS → Int32 → Int32 → Int32 → Option (Int32 × MS)} (hk4 : ∀ (st : MS) (x1 : Int32) (x2 : Int32) (x3 : Int32) (H : Heap) (locs : List Loc) (ls : Array Slot), k4 st x1 x2 x3 = some (r, st') → MW G A ad st H → va_S A s.heap H locs → lv_has ls 8 [(0, .ref (ad 0)), (1, .int x1), (2, .int x2), (3, .int x3)] → W p l e ({ frames := 0, cells := 0, slots := 0, locals := 0 } : Room) s m args below meth c H locs 0 0 (MQ below (QM G A ad (some (.int r)) st') args s 0 0 A) (F0 m 4 ls [])) : ∀ (n : Nat) (st : MS) (x1 : Int32) (x2 : Int32) (x3 : Int32) (x4 : Int32) (x5 : Int32) (x6 : Int32) (H : Heap) (locs : List Loc) (ls : Array Slot), f_X6_countSetups_21 k4 n st x1 x2 x3 x4 x5 x6 = some (r, st') → MW G A ad st H → va_S A s.heap H locs → lv_has ls 8 [(0, .ref (ad 0)), (1, .int x1), (2, .int x2), (3, .int x3), (4, .int x4), (5, .int x5), (6, .int x6)] → W p l e ({ frames := 0, cells := 0, slots := 0, locals := 0 } : Room) s m args below meth c H locs 0 0 (MQ below (QM G A ad (some (.int r)) st') args s 0 0 A) (F0 m 21 ls []) := by
  have ⟨hx, hb, hr, hml, hown, hT, hlocks, hK⟩ := B
  intro n
  induction n with
  | zero =>
    intro st x1 x2 x3 x4 x5 x6 H locs ls h
    cases h
  | succ n ih =>
    intro st x1 x2 x3 x4 x5 x6 H locs ls h hM hS hl
    rw [f_X6_countSetups_21] at h
    refine lv_iload hx hb dX6_countSetups_21 (lv_at hl 6 rfl) ?_
    refine lv_aload_n hx hb dX6_countSetups_23 rfl (lv_at hl 0 rfl) ?_
    refine mw_get B hM 2 (by decide) wf_RX6_95 rfl (v := .int (st.1 2)) rfl dX6_countSetups_24 ?_
    refine lv_icmp_ge (tgt := 150) hx hb dX6_countSetups_27 (by decide) (fun c1 => ?_) (fun c1 => ?_)
    · have h := bi_t c1 h
      refine lv_iload hx hb dX6_countSetups_150 (lv_at hl 4 rfl) ?_
      refine lv_if_eq (tgt := 170) hx hb dX6_countSetups_152 (by decide) (fun c2 => ?_) (fun c2 => ?_)
      · have h := bi_t c2 h
        exact w_X6_countSetups_170 B hk4 _ _ _ _ _ _ _ h hM hS (lv_sub hl [0, 1, 2, 3] rfl)
      · have h := bi_f c2 h
        refine lv_iload hx hb dX6_countSetups_155 (lv_at hl 5 rfl) ?_
        refine lv_if_ne (tgt := 164) hx hb dX6_countSetups_157 (by decide) (fun c3 => ?_) (fun c3 => ?_)
        · have h := bi_f c3 h
          exact w_X6_countSetups_164 B hk4 _ _ _ _ _ _ _ h hM hS (lv_sub hl [0, 1, 2, 3] rfl)
        · have h := bi_t c3 h
          refine lv_iload_n hx hb dX6_countSetups_160 rfl (lv_at hl 1 rfl) ?_
          refine lv_if_ne (tgt := 170) hx hb dX6_countSetups_161 (by decide) (fun c4 => ?_) (fun c4 => ?_)
          · have h := bi_f c4 h
            exact w_X6_countSetups_170 B hk4 _ _ _ _ _ _ _ h hM hS (lv_sub hl [0, 1, 2, 3] rfl)
          · have h := bi_t c4 h
            exact w_X6_countSetups_164 B hk4 _ _ _ _ _ _ _ h hM hS (lv_sub hl [0, 1, 2, 3] rfl)
    · have h := bi_f c1 h
      refine lv_aload_n hx hb dX6_countSetups_30 rfl (lv_at hl 0 rfl) ?_
      refine mw_get B hM 4 (by decide) wf_RX6_13 rfl (v := .ref (ad 4)) rfl dX6_countSetups_31 ?_
      refine lv_aload_n hx hb dX6_countSetups_34 rfl (lv_at hl 0 rfl) ?_
      refine mw_get B hM 3 (by decide) wf_RX6_7 rfl (v := .ref (ad 3)) rfl dX6_countSetups_35 ?_
      refine lv_iload hx hb dX6_countSetups_38 (lv_at hl 6 rfl) ?_
      obtain ⟨g5, h⟩ := gd_e h
      refine mw_iald B hM 3 (by decide) (by decide) rfl g5 dX6_countSetups_40 ?_
      obtain ⟨g6, h⟩ := gd_e h
      refine mw_cald B hM 4 (by decide) (by decide) rfl g6 dX6_countSetups_41 ?_
      refine lv_aload_n hx hb dX6_countSetups_42 rfl (lv_at hl 0 rfl) ?_
      refine mw_get B hM 4 (by decide) wf_RX6_13 rfl (v := .ref (ad 4)) rfl dX6_countSetups_43 ?_
      refine lv_aload_n hx hb dX6_countSetups_46 rfl (lv_at hl 0 rfl) ?_
      refine mw_get B hM 3 (by decide) wf_RX6_7 rfl (v := .ref (ad 3)) rfl dX6_countSetups_47 ?_
      refine lv_iload_n hx hb dX6_countSetups_50 rfl (lv_at hl 3 rfl) ?_
      obtain ⟨g7, h⟩ := gd_e h
      refine mw_iald B hM 3 (by decide) (by decide) rfl g7 dX6_countSetups_51 ?_
      obtain ⟨g8, h⟩ := gd_e h
      refine mw_cald B hM 4 (by decide) (by decide) rfl g8 dX6_countSetups_52 ?_
      refine lv_icmp_ne (tgt := 86) hx hb dX6_countSetups_53 (by decide) (fun c9 => ?_) (fun c9 => ?_)
      · have h := bi_f c9 h
        exact w_X6_countSetups_86 B hk4 ih _ _ _ _ _ _ _ _ _ _ h hM hS (lv_sub hl [0, 1, 2, 3, 4, 5, 6] rfl)
      · have h := bi_t c9 h
        refine lv_aload_n hx hb dX6_countSetups_56 rfl (lv_at hl 0 rfl) ?_
        refine mw_get B hM 5 (by decide) wf_RX6_17 rfl (v := .ref (ad 5)) rfl dX6_countSetups_57 ?_
        refine lv_aload_n hx hb dX6_countSetups_60 rfl (lv_at hl 0 rfl) ?_
        refine mw_get B hM 3 (by decide) wf_RX6_7 rfl (v := .ref (ad 3)) rfl dX6_countSetups_61 ?_
        refine lv_iload hx hb dX6_countSetups_64 (lv_at hl 6 rfl) ?_
        obtain ⟨g10, h⟩ := gd_e h
        refine mw_iald B hM 3 (by decide) (by decide) rfl g10 dX6_countSetups_66 ?_
        obtain ⟨g11, h⟩ := gd_e h
        refine mw_iald B hM 5 (by decide) (by decide) rfl g11 dX6_countSetups_67 ?_
        refine lv_aload_n hx hb dX6_countSetups_68 rfl (lv_at hl 0 rfl) ?_
        refine mw_get B hM 5 (by decide) wf_RX6_17 rfl (v := .ref (ad 5)) rfl dX6_countSetups_69 ?_
        refine lv_aload_n hx hb dX6_countSetups_72 rfl (lv_at hl 0 rfl) ?_
        refine mw_get B hM 3 (by decide) wf_RX6_7 rfl (v := .ref (ad 3)) rfl dX6_countSetups_73 ?_
        refine lv_iload_n hx hb dX6_countSetups_76 rfl (lv_at hl 3 rfl) ?_
        obtain ⟨g12, h⟩ := gd_e h
        refine mw_iald B hM 3 (by decide) (by decide) rfl g12 dX6_countSetups_77 ?_
        obtain ⟨g13, h⟩ := gd_e h
        refine mw_iald B hM 5 (by decide) (by decide) rfl g13 dX6_countSetups_78 ?_
        refine lv_icmp_ne (tgt := 86) hx hb dX6_countSetups_79 (by decide) (fun c14 => ?_) (fun c14 => ?_)
        · have h := bi_f c14 h
          exact w_X6_countSetups_86 B hk4 ih _ _ _ _ _ _ _ _ _ _ h hM hS (lv_sub hl [0, 1, 2, 3, 4, 5, 6] rfl)
        · have h := bi_t c14 h
          refine lv_iconst (v := 1) hx hb dX6_countSetups_82 (by decide) ?_
          refine lv_goto (tgt := 87) hx hb dX6_countSetups_83 (by decide) ?_
          exact w_X6_countSetups_87 B hk4 ih _ _ _ _ _ _ _ _ _ _ _ h hM hS (lv_sub hl [0, 1, 2, 3, 4, 5, 6] rfl)
set_option maxHeartbeats 4000000 in
set_option maxRecDepth 100000 in
theorem w_X6_countSetups_4 {p : Program} {l : Launch} {e : Env} {s : State} {m : MethodId} {args : Array Value} {below : List Frame} {meth : Method} {c : Code} {G : GG} {A : Nat → Prop} {ad : Nat → Nat} (B : MB G p s m args meth c cX6_countSetups 8 RX6 (some .int)) {r : Int32} {st' : MS} : ∀ (n : Nat) (st : MS) (x1 : Int32) (x2 : Int32) (x3 : Int32) (H : Heap) (locs : List Loc) (ls : Array Slot), f_X6_countSetups_4 n st x1 x2 x3 = some (r, st') → MW G A ad st H → va_S A s.heap H locs → lv_has ls 8 [(0, .ref (ad 0)), (1, .int x1), (2, .int x2), (3, .int x3)] → W p l e ({ frames := 0, cells := 0, slots := 0, locals := 0 } : Room) s m args below meth c H locs 0 0 (MQ below (QM G A ad (some (.int r)) st') args s 0 0 A) (F0 m 4 ls []) := by
  have ⟨hx, hb, hr, hml, hown, hT, hlocks, hK⟩ := B
  intro n
  induction n with
  | zero =>
    intro st x1 x2 x3 H locs ls h
    cases h
  | succ n ih =>
    intro st x1 x2 x3 H locs ls h hM hS hl
    rw [f_X6_countSetups_4] at h
    refine lv_iload_n hx hb dX6_countSetups_4 rfl (lv_at hl 3 rfl) ?_
    refine lv_aload_n hx hb dX6_countSetups_5 rfl (lv_at hl 0 rfl) ?_
    refine mw_get B hM 2 (by decide) wf_RX6_95 rfl (v := .int (st.1 2)) rfl dX6_countSetups_6 ?_
    refine lv_icmp_ge (tgt := 178) hx hb dX6_countSetups_9 (by decide) (fun c1 => ?_) (fun c1 => ?_)
    · have h := bi_t c1 h
      refine lv_iload_n hx hb dX6_countSetups_178 rfl (lv_at hl 2 rfl) ?_
      cases h
      exact mw_iret B hM hS dX6_countSetups_179
    · have h := bi_f c1 h
      refine lv_iconst (v := 1) hx hb dX6_countSetups_12 (by decide) ?_
      refine lv_istore (lv' := [(4, .int 1), (0, .ref (ad 0)), (1, .int x1), (2, .int x2), (3, .int x3)]) hx hb dX6_countSetups_13 hl (by decide) rfl (fun ls hl => ?_)
      refine lv_iconst (v := 0) hx hb dX6_countSetups_15 (by decide) ?_
      refine lv_istore (lv' := [(5, .int 0), (4, .int 1), (0, .ref (ad 0)), (1, .int x1), (2, .int x2), (3, .int x3)]) hx hb dX6_countSetups_16 hl (by decide) rfl (fun ls hl => ?_)
      refine lv_iconst (v := 0) hx hb dX6_countSetups_18 (by decide) ?_
      refine lv_istore (lv' := [(6, .int 0), (5, .int 0), (4, .int 1), (0, .ref (ad 0)), (1, .int x1), (2, .int x2), (3, .int x3)]) hx hb dX6_countSetups_19 hl (by decide) rfl (fun ls hl => ?_)
      exact w_X6_countSetups_21 B ih FU _ _ _ _ _ _ _ _ _ _ h hM hS (lv_sub hl [3, 4, 5, 6, 2, 1, 0] rfl)
set_option maxHeartbeats 4000000 in
set_option maxRecDepth 100000 in
theorem w_X6_countSetups {p : Program} {l : Launch} {e : Env} {s : State} {m : MethodId} {args : Array Value} {below : List Frame} {meth : Method} {c : Code} {G : GG} {A : Nat → Prop} {ad : Nat → Nat} (B : MB G p s m args meth c cX6_countSetups 8 RX6 (some .int)) {r : Int32} {st' : MS} : ∀ (st : MS) (x1 : Int32) (H : Heap) (locs : List Loc) (ls : Array Slot), f_X6_countSetups st x1 = some (r, st') → MW G A ad st H → va_S A s.heap H locs → lv_has ls 8 [(0, .ref (ad 0)), (1, .int x1)] → W p l e ({ frames := 0, cells := 0, slots := 0, locals := 0 } : Room) s m args below meth c H locs 0 0 (MQ below (QM G A ad (some (.int r)) st') args s 0 0 A) (F0 m 0 ls []) := by
  have ⟨hx, hb, hr, hml, hown, hT, hlocks, hK⟩ := B
  intro st x1 H locs ls h hM hS hl
  rw [f_X6_countSetups] at h
  refine lv_iconst (v := 0) hx hb dX6_countSetups_0 (by decide) ?_
  refine lv_istore_n (lv' := [(2, .int 0), (0, .ref (ad 0)), (1, .int x1)]) hx hb dX6_countSetups_1 rfl hl (by decide) rfl (fun ls hl => ?_)
  refine lv_iconst (v := 0) hx hb dX6_countSetups_2 (by decide) ?_
  refine lv_istore_n (lv' := [(3, .int 0), (2, .int 0), (0, .ref (ad 0)), (1, .int x1)]) hx hb dX6_countSetups_3 rfl hl (by decide) rfl (fun ls hl => ?_)
  exact w_X6_countSetups_4 B FU _ _ _ _ _ _ _ h hM hS (lv_sub hl [2, 3, 1, 0] rfl)
theorem c_X6_countSetups {l : Launch} {G : GG} {A : Nat → Prop} {ad : Nat → Nat} {st : MS} {x1 : Int32} {r : Int32} {st' : MS} (h : f_X6_countSetups st x1 = some (r, st')) : Met l yX6_countSetups (Cond.code yX6_countSetups cX6_countSetups 8 (some .int) :: TG) ({ frames := 0, cells := 0, slots := 0, locals := 0 } : Room) (PM G A ad st [.ref (ad 0), .int x1]) (QM G A ad (some (.int r)) st') 0 0 A :=
  mw_of (own := RX6) (by decide +kernel) rfl rfl rfl (Nat.le_of_ble_eq_true rfl) fun p e s m below meth c ls B hM hS hl => w_X6_countSetups B _ _ _ _ _ h hM hS hl
