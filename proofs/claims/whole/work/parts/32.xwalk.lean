set_option maxHeartbeats 4000000 in
set_option maxRecDepth 100000 in
theorem w_X4_takeOut_65 {p : Program} {l : Launch} {e : Env} {s : State} {m : MethodId} {args : Array Value} {below : List Frame} {meth : Method} {c : Code} {G : GG} {A : Nat → Prop} {ad : AD} (B : XB G A ad p l s m args meth c cX4_takeOut 2 RX4 none) {r : Unit} {st' : XS} : ∀ (st : XS) (H : Heap) (locs : List Loc) (ls : Array Slot), f_X4_takeOut_65 st = some (r, st') → XW G A ad st H → va_S A s.heap H locs → lv_has ls 2 [] → W p l e ({ frames := 1, cells := 0, slots := 0, locals := 21 } : Room) s m args below meth c H locs 0 0 (MQ below (QX G A ad none st') args s 0 0 A) (F0 m 65 ls []) := by
  have ⟨⟨hx, hb, hr, hml, hown, hT, hlocks, hK⟩, hnt, hST, hA, hll⟩ := B
  intro st  H locs ls h hM hS hl
  rw [f_X4_takeOut_65] at h
  cases h
  exact xw_vret B hM hS (Nat.le_refl 0) (Nat.le_refl 0) dX4_takeOut_65
set_option maxHeartbeats 4000000 in
set_option maxRecDepth 100000 in
theorem w_X4_takeOut {p : Program} {l : Launch} {e : Env} {s : State} {m : MethodId} {args : Array Value} {below : List Frame} {meth : Method} {c : Code} {G : GG} {A : Nat → Prop} {ad : AD} (B : XB G A ad p l s m args meth c cX4_takeOut 2 RX4 none) {r : Unit} {st' : XS} : ∀ (st : XS) (x0 : Nat) (x1 : Int32) (H : Heap) (locs : List Loc) (ls : Array Slot), f_X4_takeOut st x0 x1 = some (r, st') → XW G A ad st H → va_S A s.heap H locs → lv_has ls 2 [(0, .ref (ad 1 x0)), (1, .int x1)] → W p l e ({ frames := 1, cells := 0, slots := 0, locals := 21 } : Room) s m args below meth c H locs 0 0 (MQ below (QX G A ad none st') args s 0 0 A) (F0 m 0 ls []) := by
  have ⟨⟨hx, hb, hr, hml, hown, hT, hlocks, hK⟩, hnt, hST, hA, hll⟩ := B
  intro st x0 x1 H locs ls h hM hS hl
  rw [f_X4_takeOut] at h
  refine lv_aload_n hx hb dX4_takeOut_0 rfl (lv_at hl 0 rfl) ?_
  obtain ⟨v1, h⟩ := gd_e h
  refine xw_get B.1 hM 1 x0 (xv_s (k := 1) (by decide) v1) (ci := 5) (N := 12) (fs := fSh ad st x0) (C := RX4) (T := TX4) (fun _ => rfl) rfl inX4 1 (by decide) wf_RX4_12 rfl (v := .ref (ad 2 x0)) rfl dX4_takeOut_1 ?_
  refine lv_iload_n hx hb dX4_takeOut_4 rfl (lv_at hl 1 rfl) ?_
  obtain ⟨r2, t3, e4, h⟩ := bd_e h
  refine xw_callV B hM hS (xw_recv (xb_vk B) hM 2 x0 (Or.inl (xv_s (k := 2) (by decide) v1)) (fun gh => ⟨_, rfl⟩) rfl) [.int x1] (n := 1) (v := (some (.int r2))) (c_X0_has B.2.2.2.2 e4) wm_RX4_58 wi_yX0_has ws_yX0_has wn_RX0 wc_yX0_has rfl rfl (by decide +kernel) ⟨Nat.le_of_ble_eq_true rfl, Nat.le_of_ble_eq_true rfl⟩ ⟨Nat.le_refl 0, Nat.le_refl 0⟩ rfl hl.1 (Nat.le_of_ble_eq_true rfl) rfl dX4_takeOut_5 (fun H locs hM hS => ?_)
  refine lv_if_eq (tgt := 65) hx hb dX4_takeOut_8 (by decide) (fun c5 => ?_) (fun c5 => ?_)
  · have h := bi_t c5 h
    exact w_X4_takeOut_65 B _ _ _ _ h hM hS (lv_sub hl [] rfl)
  · have h := bi_f c5 h
    refine lv_aload_n hx hb dX4_takeOut_11 rfl (lv_at hl 0 rfl) ?_
    obtain ⟨v6, h⟩ := gd_e h
    refine xw_get B.1 hM 1 x0 (xv_s (k := 1) (by decide) v6) (ci := 5) (N := 12) (fs := fSh ad t3 x0) (C := RX4) (T := TX4) (fun _ => rfl) rfl inX4 1 (by decide) wf_RX4_12 rfl (v := .ref (ad 2 x0)) rfl dX4_takeOut_12 ?_
    refine xw_get B.1 hM 2 x0 (xv_s (k := 2) (by decide) v6) (ci := 1) (N := 4) (fs := fCa ad x0) (C := RX0) (T := TX0) (fun _ => rfl) rfl inX0 0 (by decide) wf_RX4_51 rfl (v := .ref (ad 4 x0)) rfl dX4_takeOut_15 ?_
    refine lv_iload_n hx hb dX4_takeOut_18 rfl (lv_at hl 1 rfl) ?_
    refine lv_bipush (v := 45) hx hb dX4_takeOut_19 (by decide) ?_
    obtain ⟨g7, h⟩ := gd_e h
    refine xw_cast B.1 hM hS 0 x0 (by decide) v6 g7 dX4_takeOut_21 (fun H locs hM hS => ?_)
    refine lv_aload_n hx hb dX4_takeOut_22 rfl (lv_at hl 0 rfl) ?_
    refine xw_get B.1 hM 1 x0 (xv_s (k := 1) (by decide) v6) (ci := 5) (N := 12) (fs := fSh ad (sR t3 0 x0 x1.toNatClampNeg (vp_nar .char 45)) x0) (C := RX4) (T := TX4) (fun _ => rfl) rfl inX4 1 (by decide) wf_RX4_12 rfl (v := .ref (ad 2 x0)) rfl dX4_takeOut_23 ?_
    refine xw_get B.1 hM 2 x0 (xv_s (k := 2) (by decide) v6) (ci := 1) (N := 4) (fs := fCa ad x0) (C := RX0) (T := TX0) (fun _ => rfl) rfl inX0 1 (by decide) wf_RX4_55 rfl (v := .ref (ad 5 x0)) rfl dX4_takeOut_26 ?_
    refine lv_iload_n hx hb dX4_takeOut_29 rfl (lv_at hl 1 rfl) ?_
    refine lv_bipush (v := 45) hx hb dX4_takeOut_30 (by decide) ?_
    obtain ⟨g8, h⟩ := gd_e h
    refine xw_cast B.1 hM hS 1 x0 (by decide) v6 g8 dX4_takeOut_32 (fun H locs hM hS => ?_)
    refine lv_aload_n hx hb dX4_takeOut_33 rfl (lv_at hl 0 rfl) ?_
    refine xw_get B.1 hM 1 x0 (xv_s (k := 1) (by decide) v6) (ci := 5) (N := 12) (fs := fSh ad (sR (sR t3 0 x0 x1.toNatClampNeg (vp_nar .char 45)) 1 x0 x1.toNatClampNeg (vp_nar .char 45)) x0) (C := RX4) (T := TX4) (fun _ => rfl) rfl inX4 1 (by decide) wf_RX4_12 rfl (v := .ref (ad 2 x0)) rfl dX4_takeOut_34 ?_
    refine xw_get B.1 hM 2 x0 (xv_s (k := 2) (by decide) v6) (ci := 1) (N := 4) (fs := fCa ad x0) (C := RX0) (T := TX0) (fun _ => rfl) rfl inX0 2 (by decide) wf_RX4_62 rfl (v := .ref (ad 6 x0)) rfl dX4_takeOut_37 ?_
    refine lv_iload_n hx hb dX4_takeOut_40 rfl (lv_at hl 1 rfl) ?_
    refine lv_bipush (v := 45) hx hb dX4_takeOut_41 (by decide) ?_
    obtain ⟨g9, h⟩ := gd_e h
    refine xw_cast B.1 hM hS 2 x0 (by decide) v6 g9 dX4_takeOut_43 (fun H locs hM hS => ?_)
    refine lv_aload_n hx hb dX4_takeOut_44 rfl (lv_at hl 0 rfl) ?_
    refine xw_get B.1 hM 1 x0 (xv_s (k := 1) (by decide) v6) (ci := 5) (N := 12) (fs := fSh ad (sR (sR (sR t3 0 x0 x1.toNatClampNeg (vp_nar .char 45)) 1 x0 x1.toNatClampNeg (vp_nar .char 45)) 2 x0 x1.toNatClampNeg (vp_nar .char 45)) x0) (C := RX4) (T := TX4) (fun _ => rfl) rfl inX4 1 (by decide) wf_RX4_12 rfl (v := .ref (ad 2 x0)) rfl dX4_takeOut_45 ?_
    refine xw_get B.1 hM 2 x0 (xv_s (k := 2) (by decide) v6) (ci := 1) (N := 4) (fs := fCa ad x0) (C := RX0) (T := TX0) (fun _ => rfl) rfl inX0 3 (by decide) wf_RX4_65 rfl (v := .ref (ad 7 x0)) rfl dX4_takeOut_48 ?_
    refine lv_iload_n hx hb dX4_takeOut_51 rfl (lv_at hl 1 rfl) ?_
    refine lv_bipush (v := 45) hx hb dX4_takeOut_52 (by decide) ?_
    obtain ⟨g10, h⟩ := gd_e h
    refine xw_cast B.1 hM hS 3 x0 (by decide) v6 g10 dX4_takeOut_54 (fun H locs hM hS => ?_)
    refine lv_aload_n hx hb dX4_takeOut_55 rfl (lv_at hl 0 rfl) ?_
    refine lv_dup hx hb dX4_takeOut_56 rfl ?_
    refine xw_get B.1 hM 1 x0 (xv_s (k := 1) (by decide) v6) (ci := 5) (N := 12) (fs := fSh ad (sR (sR (sR (sR t3 0 x0 x1.toNatClampNeg (vp_nar .char 45)) 1 x0 x1.toNatClampNeg (vp_nar .char 45)) 2 x0 x1.toNatClampNeg (vp_nar .char 45)) 3 x0 x1.toNatClampNeg (vp_nar .char 45)) x0) (C := RX4) (T := TX4) (fun _ => rfl) rfl inX4 6 (by decide) wf_RX4_48 rfl (v := .int (xF (sR (sR (sR (sR t3 0 x0 x1.toNatClampNeg (vp_nar .char 45)) 1 x0 x1.toNatClampNeg (vp_nar .char 45)) 2 x0 x1.toNatClampNeg (vp_nar .char 45)) 3 x0 x1.toNatClampNeg (vp_nar .char 45)) 1 x0 6)) rfl dX4_takeOut_57 ?_
    refine lv_iconst (v := 1) hx hb dX4_takeOut_60 (by decide) ?_
    refine lv_iadd hx hb dX4_takeOut_61 ?_
    refine xw_putF B.1 hM hS 1 x0 1 (Or.inr (Or.inl ⟨rfl, rfl⟩)) (xv_s (k := 1) (by decide) v6) (ci := 5) (N := 12) (fs := fSh ad (sR (sR (sR (sR t3 0 x0 x1.toNatClampNeg (vp_nar .char 45)) 1 x0 x1.toNatClampNeg (vp_nar .char 45)) 2 x0 x1.toNatClampNeg (vp_nar .char 45)) 3 x0 x1.toNatClampNeg (vp_nar .char 45)) x0) (C := RX4) (T := TX4) (fun _ => rfl) rfl inX4 tyX4_ok nmX4 6 (by decide) wf_RX4_48 rfl rfl rfl rfl (Nat.le_of_ble_eq_true rfl) (fun _ => by simp [enX, fSh, sF, xF, xU]) dX4_takeOut_62 (fun H locs hM hS => ?_)
    exact w_X4_takeOut_65 B _ _ _ _ h hM hS (lv_sub hl [] rfl)
theorem c_X4_takeOut {l : Launch} (hll : l.stackTraces = false) {G : GG} {A : Nat → Prop} {ad : AD} {st : XS} {x0 : Nat} {x1 : Int32} {r : Unit} {st' : XS} (h : f_X4_takeOut st x0 x1 = some (r, st')) : Met l yX4_takeOut (Cond.code yX4_takeOut cX4_takeOut 2 none :: TG) ({ frames := 1, cells := 0, slots := 0, locals := 21 } : Room) (PX G A ad st [.ref (ad 1 x0), .int x1]) (QX G A ad none st') 0 0 A :=
  xw_of (own := RX4) hll (by decide +kernel) rfl (Nat.le_of_ble_eq_true rfl) fun p e s m below meth c ls B hM hS hl => w_X4_takeOut B _ _ _ _ _ _ h hM hS hl
set_option maxHeartbeats 4000000 in
set_option maxRecDepth 100000 in
theorem w_X4_changeEdge_25 {p : Program} {l : Launch} {e : Env} {s : State} {m : MethodId} {args : Array Value} {below : List Frame} {meth : Method} {c : Code} {G : GG} {A : Nat → Prop} {ad : AD} (B : XB G A ad p l s m args meth c cX4_changeEdge 5 RX4 (some .char)) {r : Int32} {st' : XS} : ∀ (st : XS) (x4 : Int32) (H : Heap) (locs : List Loc) (ls : Array Slot), f_X4_changeEdge_25 st x4 = some (r, st') → XW G A ad st H → va_S A s.heap H locs → lv_has ls 5 [(4, .int x4)] → W p l e ({ frames := 0, cells := 0, slots := 0, locals := 0 } : Room) s m args below meth c H locs 0 0 (MQ below (QX G A ad (some (.int r)) st') args s 0 0 A) (F0 m 25 ls []) := by
  have ⟨⟨hx, hb, hr, hml, hown, hT, hlocks, hK⟩, hnt, hST, hA, hll⟩ := B
  intro st x4 H locs ls h hM hS hl
  rw [f_X4_changeEdge_25] at h
  refine lv_iload hx hb dX4_changeEdge_25 (lv_at hl 0 rfl) ?_
  obtain ⟨g1, h⟩ := gd_e h
  cases h
  exact xw_zret B hM hS (Nat.le_refl 0) (Nat.le_refl 0) g1 dX4_changeEdge_27
set_option maxHeartbeats 4000000 in
set_option maxRecDepth 100000 in
theorem w_X4_changeEdge {p : Program} {l : Launch} {e : Env} {s : State} {m : MethodId} {args : Array Value} {below : List Frame} {meth : Method} {c : Code} {G : GG} {A : Nat → Prop} {ad : AD} (B : XB G A ad p l s m args meth c cX4_changeEdge 5 RX4 (some .char)) {r : Int32} {st' : XS} : ∀ (st : XS) (x0 : Nat) (x1w : Nat) (x1 : Nat) (x2 : Int32) (x3 : Int32) (H : Heap) (locs : List Loc) (ls : Array Slot), f_X4_changeEdge st x0 x1w x1 x2 x3 = some (r, st') → XW G A ad st H → va_S A s.heap H locs → lv_has ls 5 [(0, .ref (ad 1 x0)), (1, .ref (ad (4 + x1w) x1)), (2, .int x2), (3, .int x3)] → W p l e ({ frames := 0, cells := 0, slots := 0, locals := 0 } : Room) s m args below meth c H locs 0 0 (MQ below (QX G A ad (some (.int r)) st') args s 0 0 A) (F0 m 0 ls []) := by
  have ⟨⟨hx, hb, hr, hml, hown, hT, hlocks, hK⟩, hnt, hST, hA, hll⟩ := B
  intro st x0 x1w x1 x2 x3 H locs ls h hM hS hl
  rw [f_X4_changeEdge] at h
  refine lv_aload_n hx hb dX4_changeEdge_0 rfl (lv_at hl 1 rfl) ?_
  refine lv_iload_n hx hb dX4_changeEdge_1 rfl (lv_at hl 2 rfl) ?_
  obtain ⟨v2, h⟩ := gd_e h
  obtain ⟨w3, h⟩ := gd_e h
  obtain ⟨g1, h⟩ := gd_e h
  refine xw_cald B.1 hM x1w x1 w3 v2 g1 dX4_changeEdge_2 ?_
  refine lv_istore (lv' := [(4, .int (xR st x1w x1 x2.toNatClampNeg)), (0, .ref (ad 1 x0)), (1, .ref (ad (4 + x1w) x1)), (2, .int x2), (3, .int x3)]) hx hb dX4_changeEdge_3 hl (by decide) rfl (fun ls hl => ?_)
  refine lv_iload hx hb dX4_changeEdge_5 (lv_at hl 0 rfl) ?_
  refine lv_iload_n hx hb dX4_changeEdge_7 rfl (lv_at hl 4 rfl) ?_
  refine lv_icmp_eq (tgt := 25) hx hb dX4_changeEdge_8 (by decide) (fun c4 => ?_) (fun c4 => ?_)
  · have h := bi_t c4 h
    exact w_X4_changeEdge_25 B _ _ _ _ _ h hM hS (lv_sub hl [0] rfl)
  · have h := bi_f c4 h
    refine lv_aload_n hx hb dX4_changeEdge_11 rfl (lv_at hl 2 rfl) ?_
    refine lv_iload_n hx hb dX4_changeEdge_12 rfl (lv_at hl 3 rfl) ?_
    refine lv_iload_n hx hb dX4_changeEdge_13 rfl (lv_at hl 4 rfl) ?_
    obtain ⟨w6, h⟩ := gd_e h
    obtain ⟨g5, h⟩ := gd_e h
    refine xw_cast B.1 hM hS x1w x1 w6 v2 g5 dX4_changeEdge_14 (fun H locs hM hS => ?_)
    refine lv_aload_n hx hb dX4_changeEdge_15 rfl (lv_at hl 1 rfl) ?_
    refine lv_dup hx hb dX4_changeEdge_16 rfl ?_
    obtain ⟨v7, h⟩ := gd_e h
    refine xw_get B.1 hM 1 x0 (xv_s (k := 1) (by decide) v7) (ci := 5) (N := 12) (fs := fSh ad (sR st x1w x1 x2.toNatClampNeg (vp_nar .char x3)) x0) (C := RX4) (T := TX4) (fun _ => rfl) rfl inX4 6 (by decide) wf_RX4_48 rfl (v := .int (xF (sR st x1w x1 x2.toNatClampNeg (vp_nar .char x3)) 1 x0 6)) rfl dX4_changeEdge_17 ?_
    refine lv_iconst (v := 1) hx hb dX4_changeEdge_20 (by decide) ?_
    refine lv_iadd hx hb dX4_changeEdge_21 ?_
    refine xw_putF B.1 hM hS 1 x0 1 (Or.inr (Or.inl ⟨rfl, rfl⟩)) (xv_s (k := 1) (by decide) v7) (ci := 5) (N := 12) (fs := fSh ad (sR st x1w x1 x2.toNatClampNeg (vp_nar .char x3)) x0) (C := RX4) (T := TX4) (fun _ => rfl) rfl inX4 tyX4_ok nmX4 6 (by decide) wf_RX4_48 rfl rfl rfl rfl (Nat.le_of_ble_eq_true rfl) (fun _ => by simp [enX, fSh, sF, xF, xU]) dX4_changeEdge_22 (fun H locs hM hS => ?_)
    exact w_X4_changeEdge_25 B _ _ _ _ _ h hM hS (lv_sub hl [0] rfl)
theorem c_X4_changeEdge {l : Launch} (hll : l.stackTraces = false) {G : GG} {A : Nat → Prop} {ad : AD} {st : XS} {x0 : Nat} {x1w : Nat} {x1 : Nat} {x2 : Int32} {x3 : Int32} {r : Int32} {st' : XS} (h : f_X4_changeEdge st x0 x1w x1 x2 x3 = some (r, st')) : Met l yX4_changeEdge (Cond.code yX4_changeEdge cX4_changeEdge 5 (some .char) :: TG) ({ frames := 0, cells := 0, slots := 0, locals := 0 } : Room) (PX G A ad st [.ref (ad 1 x0), .ref (ad (4 + x1w) x1), .int x2, .int x3]) (QX G A ad (some (.int r)) st') 0 0 A :=
  xw_of (own := RX4) hll (by decide +kernel) rfl (Nat.le_of_ble_eq_true rfl) fun p e s m below meth c ls B hM hS hl => w_X4_changeEdge B _ _ _ _ _ _ _ _ _ h hM hS hl
set_option maxHeartbeats 4000000 in
set_option maxRecDepth 100000 in
theorem w_X4_excusedFor_24 {p : Program} {l : Launch} {e : Env} {s : State} {m : MethodId} {args : Array Value} {below : List Frame} {meth : Method} {c : Code} {G : GG} {A : Nat → Prop} {ad : AD} (B : XB G A ad p l s m args meth c cX4_excusedFor 2 RX4 (some .char)) {r : Int32} {st' : XS} : ∀ (st : XS) (y0 : Int32) (H : Heap) (locs : List Loc) (ls : Array Slot), f_X4_excusedFor_24 st y0 = some (r, st') → XW G A ad st H → va_S A s.heap H locs → lv_has ls 2 [] → W p l e ({ frames := 1, cells := 0, slots := 0, locals := 22 } : Room) s m args below meth c H locs 0 0 (MQ below (QX G A ad (some (.int r)) st') args s 0 0 A) (F0 m 24 ls [.int y0]) := by
  have ⟨⟨hx, hb, hr, hml, hown, hT, hlocks, hK⟩, hnt, hST, hA, hll⟩ := B
  intro st y0 H locs ls h hM hS hl
  rw [f_X4_excusedFor_24] at h
  obtain ⟨g1, h⟩ := gd_e h
  cases h
  exact xw_zret B hM hS (Nat.le_refl 0) (Nat.le_refl 0) g1 dX4_excusedFor_24
set_option maxHeartbeats 4000000 in
set_option maxRecDepth 100000 in
theorem w_X4_excusedFor {p : Program} {l : Launch} {e : Env} {s : State} {m : MethodId} {args : Array Value} {below : List Frame} {meth : Method} {c : Code} {G : GG} {A : Nat → Prop} {ad : AD} (B : XB G A ad p l s m args meth c cX4_excusedFor 2 RX4 (some .char)) {r : Int32} {st' : XS} : ∀ (st : XS) (x0 : Nat) (x1 : Nat) (H : Heap) (locs : List Loc) (ls : Array Slot), f_X4_excusedFor st x0 x1 = some (r, st') → XW G A ad st H → va_S A s.heap H locs → lv_has ls 2 [(0, .ref (ad 1 x0)), (1, .ref (ad 1 x1))] → W p l e ({ frames := 1, cells := 0, slots := 0, locals := 22 } : Room) s m args below meth c H locs 0 0 (MQ below (QX G A ad (some (.int r)) st') args s 0 0 A) (F0 m 0 ls []) := by
  have ⟨⟨hx, hb, hr, hml, hown, hT, hlocks, hK⟩, hnt, hST, hA, hll⟩ := B
  intro st x0 x1 H locs ls h hM hS hl
  rw [f_X4_excusedFor] at h
  refine lv_aload_n hx hb dX4_excusedFor_0 rfl (lv_at hl 0 rfl) ?_
  obtain ⟨v1, h⟩ := gd_e h
  refine xw_get B.1 hM 1 x0 (xv_s (k := 1) (by decide) v1) (ci := 5) (N := 12) (fs := fSh ad st x0) (C := RX4) (T := TX4) (fun _ => rfl) rfl inX4 2 (by decide) wf_RX4_21 rfl (v := .ref (ad 3 x0)) rfl dX4_excusedFor_1 ?_
  refine lv_aload_n hx hb dX4_excusedFor_4 rfl (lv_at hl 0 rfl) ?_
  refine lv_aload_n hx hb dX4_excusedFor_5 rfl (lv_at hl 1 rfl) ?_
  obtain ⟨r2, t3, e4, h⟩ := bd_e h
  refine xw_callV B hM hS (xw_recv (xb_vk B) hM 3 x0 (Or.inl (xv_s (k := 3) (by decide) v1)) (fun gh => ⟨_, rfl⟩) rfl) [.ref (ad 1 x0), .ref (ad 1 x1)] (n := 2) (v := (some (.int r2))) (c_X3_holds B.2.2.2.2 e4) wm_RX4_68 wi_yX3_holds ws_yX3_holds wn_RX3 wc_yX3_holds rfl rfl (by decide +kernel) ⟨Nat.le_of_ble_eq_true rfl, Nat.le_of_ble_eq_true rfl⟩ ⟨Nat.le_refl 0, Nat.le_refl 0⟩ rfl hl.1 (Nat.le_of_ble_eq_true rfl) rfl dX4_excusedFor_6 (fun H locs hM hS => ?_)
  refine lv_if_eq (tgt := 22) hx hb dX4_excusedFor_9 (by decide) (fun c5 => ?_) (fun c5 => ?_)
  · have h := bi_t c5 h
    refine lv_bipush (v := 45) hx hb dX4_excusedFor_22 (by decide) ?_
    exact w_X4_excusedFor_24 B _ _ _ _ _ h hM hS (lv_sub hl [] rfl)
  · have h := bi_f c5 h
    refine lv_aload_n hx hb dX4_excusedFor_12 rfl (lv_at hl 0 rfl) ?_
    obtain ⟨v6, h⟩ := gd_e h
    refine xw_get B.1 hM 1 x0 (xv_s (k := 1) (by decide) v6) (ci := 5) (N := 12) (fs := fSh ad t3 x0) (C := RX4) (T := TX4) (fun _ => rfl) rfl inX4 2 (by decide) wf_RX4_21 rfl (v := .ref (ad 3 x0)) rfl dX4_excusedFor_13 ?_
    refine xw_getCause B hM v6 dX4_excusedFor_16 ?_
    refine lv_goto (tgt := 24) hx hb dX4_excusedFor_19 (by decide) ?_
    exact w_X4_excusedFor_24 B _ _ _ _ _ h hM hS (lv_sub hl [] rfl)
theorem c_X4_excusedFor {l : Launch} (hll : l.stackTraces = false) {G : GG} {A : Nat → Prop} {ad : AD} {st : XS} {x0 : Nat} {x1 : Nat} {r : Int32} {st' : XS} (h : f_X4_excusedFor st x0 x1 = some (r, st')) : Met l yX4_excusedFor (Cond.code yX4_excusedFor cX4_excusedFor 2 (some .char) :: TG) ({ frames := 1, cells := 0, slots := 0, locals := 22 } : Room) (PX G A ad st [.ref (ad 1 x0), .ref (ad 1 x1)]) (QX G A ad (some (.int r)) st') 0 0 A :=
  xw_of (own := RX4) hll (by decide +kernel) rfl (Nat.le_of_ble_eq_true rfl) fun p e s m below meth c ls B hM hS hl => w_X4_excusedFor B _ _ _ _ _ _ h hM hS hl
set_option maxHeartbeats 4000000 in
set_option maxRecDepth 100000 in
theorem w_X4_setupBit_27 {p : Program} {l : Launch} {e : Env} {s : State} {m : MethodId} {args : Array Value} {below : List Frame} {meth : Method} {c : Code} {G : GG} {A : Nat → Prop} {ad : AD} (B : XB G A ad p l s m args meth c cX4_setupBit 2 RX4 (some .int)) {r : Int32} {st' : XS} : ∀ (st : XS) (x0 : Nat) (y0 : Int32) (H : Heap) (locs : List Loc) (ls : Array Slot), f_X4_setupBit_27 st x0 y0 = some (r, st') → XW G A ad st H → va_S A s.heap H locs → lv_has ls 2 [(0, .ref (ad 1 x0))] → W p l e ({ frames := 0, cells := 0, slots := 0, locals := 0 } : Room) s m args below meth c H locs 0 0 (MQ below (QX G A ad (some (.int r)) st') args s 0 0 A) (F0 m 27 ls [.int y0]) := by
  have ⟨⟨hx, hb, hr, hml, hown, hT, hlocks, hK⟩, hnt, hST, hA, hll⟩ := B
  intro st x0 y0 H locs ls h hM hS hl
  rw [f_X4_setupBit_27] at h
  refine lv_istore_n (lv' := [(1, .int y0), (0, .ref (ad 1 x0))]) hx hb dX4_setupBit_27 rfl hl (by decide) rfl (fun ls hl => ?_)
  refine lv_iconst (v := 1) hx hb dX4_setupBit_28 (by decide) ?_
  refine lv_iload_n hx hb dX4_setupBit_29 rfl (lv_at hl 0 rfl) ?_
  refine lv_iconst (v := 5) hx hb dX4_setupBit_30 (by decide) ?_
  refine lv_imul hx hb dX4_setupBit_31 ?_
  refine lv_aload_n hx hb dX4_setupBit_32 rfl (lv_at hl 1 rfl) ?_
  obtain ⟨v1, h⟩ := gd_e h
  refine xw_get B.1 hM 1 x0 (xv_s (k := 1) (by decide) v1) (ci := 5) (N := 12) (fs := fSh ad st x0) (C := RX4) (T := TX4) (fun _ => rfl) rfl inX4 4 (by decide) wf_RX4_42 rfl (v := .int (xF st 1 x0 4)) rfl dX4_setupBit_33 ?_
  refine lv_iadd hx hb dX4_setupBit_36 ?_
  refine lv_ishl hx hb dX4_setupBit_37 ?_
  cases h
  exact xw_iret B hM hS (Nat.le_refl 0) (Nat.le_refl 0) dX4_setupBit_38
set_option maxHeartbeats 4000000 in
set_option maxRecDepth 100000 in
theorem w_X4_setupBit {p : Program} {l : Launch} {e : Env} {s : State} {m : MethodId} {args : Array Value} {below : List Frame} {meth : Method} {c : Code} {G : GG} {A : Nat → Prop} {ad : AD} (B : XB G A ad p l s m args meth c cX4_setupBit 2 RX4 (some .int)) {r : Int32} {st' : XS} : ∀ (st : XS) (x0 : Nat) (H : Heap) (locs : List Loc) (ls : Array Slot), f_X4_setupBit st x0 = some (r, st') → XW G A ad st H → va_S A s.heap H locs → lv_has ls 2 [(0, .ref (ad 1 x0))] → W p l e ({ frames := 0, cells := 0, slots := 0, locals := 0 } : Room) s m args below meth c H locs 0 0 (MQ below (QX G A ad (some (.int r)) st') args s 0 0 A) (F0 m 0 ls []) := by
  have ⟨⟨hx, hb, hr, hml, hown, hT, hlocks, hK⟩, hnt, hST, hA, hll⟩ := B
  intro st x0 H locs ls h hM hS hl
  rw [f_X4_setupBit] at h
  refine lv_aload_n hx hb dX4_setupBit_0 rfl (lv_at hl 0 rfl) ?_
  obtain ⟨v1, h⟩ := gd_e h
  refine xw_get B.1 hM 1 x0 (xv_s (k := 1) (by decide) v1) (ci := 5) (N := 12) (fs := fSh ad st x0) (C := RX4) (T := TX4) (fun _ => rfl) rfl inX4 3 (by decide) wf_RX4_39 rfl (v := .int (xF st 1 x0 3)) rfl dX4_setupBit_1 ?_
  refine lv_bipush (v := 115) hx hb dX4_setupBit_4 (by decide) ?_
  refine lv_icmp_ne (tgt := 13) hx hb dX4_setupBit_6 (by decide) (fun c2 => ?_) (fun c2 => ?_)
  · have h := bi_f c2 h
    refine lv_aload_n hx hb dX4_setupBit_13 rfl (lv_at hl 0 rfl) ?_
    refine xw_get B.1 hM 1 x0 (xv_s (k := 1) (by decide) v1) (ci := 5) (N := 12) (fs := fSh ad st x0) (C := RX4) (T := TX4) (fun _ => rfl) rfl inX4 3 (by decide) wf_RX4_39 rfl (v := .int (xF st 1 x0 3)) rfl dX4_setupBit_14 ?_
    refine lv_bipush (v := 110) hx hb dX4_setupBit_17 (by decide) ?_
    refine lv_icmp_ne (tgt := 26) hx hb dX4_setupBit_19 (by decide) (fun c3 => ?_) (fun c3 => ?_)
    · have h := bi_f c3 h
      refine lv_iconst (v := 2) hx hb dX4_setupBit_26 (by decide) ?_
      exact w_X4_setupBit_27 B _ _ _ _ _ _ h hM hS (lv_sub hl [0] rfl)
    · have h := bi_t c3 h
      refine lv_iconst (v := 1) hx hb dX4_setupBit_22 (by decide) ?_
      refine lv_goto (tgt := 27) hx hb dX4_setupBit_23 (by decide) ?_
      exact w_X4_setupBit_27 B _ _ _ _ _ _ h hM hS (lv_sub hl [0] rfl)
  · have h := bi_t c2 h
    refine lv_iconst (v := 0) hx hb dX4_setupBit_9 (by decide) ?_
    refine lv_goto (tgt := 27) hx hb dX4_setupBit_10 (by decide) ?_
    exact w_X4_setupBit_27 B _ _ _ _ _ _ h hM hS (lv_sub hl [0] rfl)
theorem c_X4_setupBit {l : Launch} (hll : l.stackTraces = false) {G : GG} {A : Nat → Prop} {ad : AD} {st : XS} {x0 : Nat} {r : Int32} {st' : XS} (h : f_X4_setupBit st x0 = some (r, st')) : Met l yX4_setupBit (Cond.code yX4_setupBit cX4_setupBit 2 (some .int) :: TG) ({ frames := 0, cells := 0, slots := 0, locals := 0 } : Room) (PX G A ad st [.ref (ad 1 x0)]) (QX G A ad (some (.int r)) st') 0 0 A :=
  xw_of (own := RX4) hll (by decide +kernel) rfl (Nat.le_of_ble_eq_true rfl) fun p e s m below meth c ls B hM hS hl => w_X4_setupBit B _ _ _ _ _ h hM hS hl
set_option maxHeartbeats 4000000 in
set_option maxRecDepth 100000 in
theorem w_X5_madeShot_15 {p : Program} {l : Launch} {e : Env} {s : State} {m : MethodId} {args : Array Value} {below : List Frame} {meth : Method} {c : Code} {G : GG} {A : Nat → Prop} {ad : AD} (B : XB G A ad p l s m args meth c cX5_madeShot 2 RX5 (some (.object "ThumbnailRow$Shot"))) {r : (Nat ⊕ Nat)} {st' : XS} : ∀ (cells slots : Nat) (st : XS) (H : Heap) (locs : List Loc) (ls : Array Slot), cells + 1 ≤ 1 → slots + 6 ≤ 6 → f_X5_madeShot_15 st = some (r, st') → XW G A ad st H → va_S A s.heap H locs → lv_has ls 2 [] → W p l e ({ frames := 6, cells := 1, slots := 6, locals := 100 } : Room) s m args below meth c H locs cells slots (vx_MQ below (QXr G A ad (ovw (fun x => some (.ref (ad 1 x))) r) st') (QXx G A ad (ovw (fun x => some (.ref (ad 1 x))) r) st') args s 1 6 A) (F0 m 15 ls []) := by
  have ⟨⟨hx, hb, hr, hml, hown, hT, hlocks, hK⟩, hnt, hST, hA, hll⟩ := B
  intro cells slots st  H locs ls hc hs h hM hS hl
  rw [f_X5_madeShot_15] at h
  cases h
  exact xw_throw (k := 3) (ik := 320) (ic := 324) (is := 322) (text := "no such shot") B hM hS wk_RX5_320 wn_java_lang_IndexOutOfBoundsException at_3 an_3 ag_3 (by decide +kernel) (by decide +kernel) hl.1 ⟨⟨dX5_madeShot_15, dX5_madeShot_18⟩, Or.inr ⟨dX5_madeShot_19, dX5_madeShot_22, dX5_madeShot_25⟩⟩ (Nat.le_of_ble_eq_true rfl) (Nat.le_of_ble_eq_true rfl) (by show _ ≤ 1; omega) (by show _ ≤ 6; omega) (by omega) (by omega) rfl
set_option maxHeartbeats 4000000 in
set_option maxRecDepth 100000 in
theorem w_X5_madeShot {p : Program} {l : Launch} {e : Env} {s : State} {m : MethodId} {args : Array Value} {below : List Frame} {meth : Method} {c : Code} {G : GG} {A : Nat → Prop} {ad : AD} (B : XB G A ad p l s m args meth c cX5_madeShot 2 RX5 (some (.object "ThumbnailRow$Shot"))) {r : (Nat ⊕ Nat)} {st' : XS} : ∀ (cells slots : Nat) (st : XS) (x1 : Int32) (H : Heap) (locs : List Loc) (ls : Array Slot), cells + 1 ≤ 1 → slots + 6 ≤ 6 → f_X5_madeShot st x1 = some (r, st') → XW G A ad st H → va_S A s.heap H locs → lv_has ls 2 [(0, .ref (ad 0 0)), (1, .int x1)] → W p l e ({ frames := 6, cells := 1, slots := 6, locals := 100 } : Room) s m args below meth c H locs cells slots (vx_MQ below (QXr G A ad (ovw (fun x => some (.ref (ad 1 x))) r) st') (QXx G A ad (ovw (fun x => some (.ref (ad 1 x))) r) st') args s 1 6 A) (F0 m 0 ls []) := by
  have ⟨⟨hx, hb, hr, hml, hown, hT, hlocks, hK⟩, hnt, hST, hA, hll⟩ := B
  intro cells slots st x1 H locs ls hc hs h hM hS hl
  rw [f_X5_madeShot] at h
  refine lv_iload_n hx hb dX5_madeShot_0 rfl (lv_at hl 1 rfl) ?_
  refine lv_if_lt (tgt := 15) hx hb dX5_madeShot_1 (by decide) (fun c1 => ?_) (fun c1 => ?_)
  · have h := bi_t c1 h
    exact w_X5_madeShot_15 B _ _ _ _ _ _ (by omega) (by omega) h hM hS (lv_sub hl [] rfl)
  · have h := bi_f c1 h
    refine lv_iload_n hx hb dX5_madeShot_4 rfl (lv_at hl 1 rfl) ?_
    refine lv_aload_n hx hb dX5_madeShot_5 rfl (lv_at hl 0 rfl) ?_
    refine xw_get B.1 hM 0 0 xv_0 (ci := 6) (N := 6) (fs := fTR ad st) (C := RX5) (T := TX5) (fun _ => rfl) rfl inX5 0 (by decide) wf_RX5_10 rfl (v := .ref (ad 13 0)) rfl dX5_madeShot_6 ?_
    refine xw_size B hM hS 0 (by decide) wm_RX5_37 ⟨Nat.le_of_ble_eq_true rfl, Nat.le_of_ble_eq_true rfl⟩ ⟨(by show _ ≤ 1; omega), (by show _ ≤ 6; omega)⟩ hl.1 (Nat.le_of_ble_eq_true rfl) dX5_madeShot_9 ?_
    refine lv_icmp_lt (tgt := 26) hx hb dX5_madeShot_12 (by decide) (fun c2 => ?_) (fun c2 => ?_)
    · have h := bi_t c2 h
      refine lv_aload_n hx hb dX5_madeShot_26 rfl (lv_at hl 0 rfl) ?_
      refine xw_get B.1 hM 0 0 xv_0 (ci := 6) (N := 6) (fs := fTR ad st) (C := RX5) (T := TX5) (fun _ => rfl) rfl inX5 0 (by decide) wf_RX5_10 rfl (v := .ref (ad 13 0)) rfl dX5_madeShot_27 ?_
      refine lv_iload_n hx hb dX5_madeShot_30 rfl (lv_at hl 1 rfl) ?_
      obtain ⟨g3, h⟩ := gd_e h
      refine xw_lget B hM hS 0 (by decide) wm_RX5_116 g3 ⟨Nat.le_of_ble_eq_true rfl, Nat.le_of_ble_eq_true rfl⟩ ⟨(by show _ ≤ 1; omega), (by show _ ≤ 6; omega)⟩ hl.1 (Nat.le_of_ble_eq_true rfl) dX5_madeShot_31 ?_
      obtain ⟨v4, h⟩ := gd_e h
      refine xw_castShot B.1 hM v4 wk_RX5_70 dX5_madeShot_34 ?_
      cases h
      exact xx_aret B hM hS (by omega) (by omega) dX5_madeShot_37 rfl
    · have h := bi_f c2 h
      exact w_X5_madeShot_15 B _ _ _ _ _ _ (by omega) (by omega) h hM hS (lv_sub hl [] rfl)
theorem c_X5_madeShot {l : Launch} (hll : l.stackTraces = false) {G : GG} {A : Nat → Prop} {ad : AD} {st : XS} {x1 : Int32} {r : (Nat ⊕ Nat)} {st' : XS} (h : f_X5_madeShot st x1 = some (r, st')) : vx_Met l yX5_madeShot (Cond.code yX5_madeShot cX5_madeShot 2 (some (.object "ThumbnailRow$Shot")) :: TG) ({ frames := 6, cells := 1, slots := 6, locals := 100 } : Room) (PX G A ad st [.ref (ad 0 0), .int x1]) (QXr G A ad (ovw (fun x => some (.ref (ad 1 x))) r) st') (QXx G A ad (ovw (fun x => some (.ref (ad 1 x))) r) st') 1 6 A :=
  xx_of (own := RX5) hll (by decide +kernel) rfl (Nat.le_of_ble_eq_true rfl) fun p e s m below meth c ls B hM hS hl => w_X5_madeShot B _ _ _ _ _ _ _ (Nat.le_of_ble_eq_true rfl) (Nat.le_of_ble_eq_true rfl) h hM hS hl
set_option maxHeartbeats 4000000 in
set_option maxRecDepth 100000 in
theorem w_X5_placeOf_2 {p : Program} {l : Launch} {e : Env} {s : State} {m : MethodId} {args : Array Value} {below : List Frame} {meth : Method} {c : Code} {G : GG} {A : Nat → Prop} {ad : AD} (B : XB G A ad p l s m args meth c cX5_placeOf 3 RX5 (some .int)) {r : Int32} {st' : XS} : ∀ (n : Nat) (st : XS) (x1 : Nat) (x2 : Int32) (H : Heap) (locs : List Loc) (ls : Array Slot), f_X5_placeOf_2 n st x1 x2 = some (r, st') → XW G A ad st H → va_S A s.heap H locs → lv_has ls 3 [(0, .ref (ad 0 0)), (1, .ref (ad 1 x1)), (2, .int x2)] → W p l e ({ frames := 3, cells := 0, slots := 0, locals := 64 } : Room) s m args below meth c H locs 0 0 (MQ below (QX G A ad (some (.int r)) st') args s 0 0 A) (F0 m 2 ls []) := by
  have ⟨⟨hx, hb, hr, hml, hown, hT, hlocks, hK⟩, hnt, hST, hA, hll⟩ := B
  intro n
  induction n with
  | zero =>
    intro st x1 x2 H locs ls h
    cases h
  | succ n ih =>
    intro st x1 x2 H locs ls h hM hS hl
    rw [f_X5_placeOf_2] at h
    refine lv_iload_n hx hb dX5_placeOf_2 rfl (lv_at hl 2 rfl) ?_
    refine lv_aload_n hx hb dX5_placeOf_3 rfl (lv_at hl 0 rfl) ?_
    refine xw_get B.1 hM 0 0 xv_0 (ci := 6) (N := 6) (fs := fTR ad st) (C := RX5) (T := TX5) (fun _ => rfl) rfl inX5 1 (by decide) wf_RX5_16 rfl (v := .ref (ad 13 1)) rfl dX5_placeOf_4 ?_
    refine xw_size B hM hS 1 (by decide) wm_RX5_37 ⟨Nat.le_of_ble_eq_true rfl, Nat.le_of_ble_eq_true rfl⟩ ⟨Nat.le_refl 0, Nat.le_refl 0⟩ hl.1 (Nat.le_of_ble_eq_true rfl) dX5_placeOf_7 ?_
    refine lv_icmp_ge (tgt := 42) hx hb dX5_placeOf_10 (by decide) (fun c1 => ?_) (fun c1 => ?_)
    · have h := bi_t c1 h
      refine lv_iconst (v := (-1)) hx hb dX5_placeOf_42 (by decide) ?_
      cases h
      exact xw_iret B hM hS (Nat.le_refl 0) (Nat.le_refl 0) dX5_placeOf_43
    · have h := bi_f c1 h
      refine lv_aload_n hx hb dX5_placeOf_13 rfl (lv_at hl 0 rfl) ?_
      refine xw_get B.1 hM 0 0 xv_0 (ci := 6) (N := 6) (fs := fTR ad st) (C := RX5) (T := TX5) (fun _ => rfl) rfl inX5 1 (by decide) wf_RX5_16 rfl (v := .ref (ad 13 1)) rfl dX5_placeOf_14 ?_
      refine lv_iload_n hx hb dX5_placeOf_17 rfl (lv_at hl 2 rfl) ?_
      obtain ⟨g2, h⟩ := gd_e h
      refine xw_lget B hM hS 1 (by decide) wm_RX5_116 g2 ⟨Nat.le_of_ble_eq_true rfl, Nat.le_of_ble_eq_true rfl⟩ ⟨Nat.le_refl 0, Nat.le_refl 0⟩ hl.1 (Nat.le_of_ble_eq_true rfl) dX5_placeOf_18 ?_
      obtain ⟨v3, h⟩ := gd_e h
      refine xw_castShot B.1 hM v3 wk_RX5_70 dX5_placeOf_21 ?_
      refine xw_get B.1 hM 1 ((xL st 1).getD x2.toNatClampNeg 0) (xv_s (k := 1) (by decide) v3) (ci := 5) (N := 12) (fs := fSh ad st ((xL st 1).getD x2.toNatClampNeg 0)) (C := RX4) (T := TX4) (fun _ => rfl) rfl inX4 0 (by decide) wf_RX5_90 rfl (v := .int (nI ((xL st 1).getD x2.toNatClampNeg 0))) rfl dX5_placeOf_24 ?_
      refine lv_aload_n hx hb dX5_placeOf_27 rfl (lv_at hl 1 rfl) ?_
      obtain ⟨v4, h⟩ := gd_e h
      refine xw_get B.1 hM 1 x1 (xv_s (k := 1) (by decide) v4) (ci := 5) (N := 12) (fs := fSh ad st x1) (C := RX4) (T := TX4) (fun _ => rfl) rfl inX4 0 (by decide) wf_RX5_90 rfl (v := .int (nI x1)) rfl dX5_placeOf_28 ?_
      refine lv_icmp_ne (tgt := 36) hx hb dX5_placeOf_31 (by decide) (fun c5 => ?_) (fun c5 => ?_)
      · have h := bi_f c5 h
        refine lv_iinc (v := (x2 + 1)) (lv' := [(2, .int (x2 + 1)), (0, .ref (ad 0 0)), (1, .ref (ad 1 x1))]) hx hb dX5_placeOf_36 hl (k := 2) rfl rfl (by decide) rfl (fun ls hl => ?_)
        refine lv_goto (tgt := 2) hx hb dX5_placeOf_39 (by decide) ?_
        exact ih _ _ _ _ _ _ h hM hS (lv_sub hl [1, 2, 0] rfl)
      · have h := bi_t c5 h
        refine lv_iload_n hx hb dX5_placeOf_34 rfl (lv_at hl 2 rfl) ?_
        cases h
        exact xw_iret B hM hS (Nat.le_refl 0) (Nat.le_refl 0) dX5_placeOf_35
set_option maxHeartbeats 4000000 in
set_option maxRecDepth 100000 in
theorem w_X5_placeOf {p : Program} {l : Launch} {e : Env} {s : State} {m : MethodId} {args : Array Value} {below : List Frame} {meth : Method} {c : Code} {G : GG} {A : Nat → Prop} {ad : AD} (B : XB G A ad p l s m args meth c cX5_placeOf 3 RX5 (some .int)) {r : Int32} {st' : XS} : ∀ (st : XS) (x1 : Nat) (H : Heap) (locs : List Loc) (ls : Array Slot), f_X5_placeOf st x1 = some (r, st') → XW G A ad st H → va_S A s.heap H locs → lv_has ls 3 [(0, .ref (ad 0 0)), (1, .ref (ad 1 x1))] → W p l e ({ frames := 3, cells := 0, slots := 0, locals := 64 } : Room) s m args below meth c H locs 0 0 (MQ below (QX G A ad (some (.int r)) st') args s 0 0 A) (F0 m 0 ls []) := by
  have ⟨⟨hx, hb, hr, hml, hown, hT, hlocks, hK⟩, hnt, hST, hA, hll⟩ := B
  intro st x1 H locs ls h hM hS hl
  rw [f_X5_placeOf] at h
  refine lv_iconst (v := 0) hx hb dX5_placeOf_0 (by decide) ?_
  refine lv_istore_n (lv' := [(2, .int 0), (0, .ref (ad 0 0)), (1, .ref (ad 1 x1))]) hx hb dX5_placeOf_1 rfl hl (by decide) rfl (fun ls hl => ?_)
  exact w_X5_placeOf_2 B FU _ _ _ _ _ _ h hM hS (lv_sub hl [1, 2, 0] rfl)
theorem c_X5_placeOf {l : Launch} (hll : l.stackTraces = false) {G : GG} {A : Nat → Prop} {ad : AD} {st : XS} {x1 : Nat} {r : Int32} {st' : XS} (h : f_X5_placeOf st x1 = some (r, st')) : Met l yX5_placeOf (Cond.code yX5_placeOf cX5_placeOf 3 (some .int) :: TG) ({ frames := 3, cells := 0, slots := 0, locals := 64 } : Room) (PX G A ad st [.ref (ad 0 0), .ref (ad 1 x1)]) (QX G A ad (some (.int r)) st') 0 0 A :=
  xw_of (own := RX5) hll (by decide +kernel) rfl (Nat.le_of_ble_eq_true rfl) fun p e s m below meth c ls B hM hS hl => w_X5_placeOf B _ _ _ _ _ h hM hS hl
set_option maxHeartbeats 4000000 in
set_option maxRecDepth 100000 in
theorem w_X5_placeInReel {p : Program} {l : Launch} {e : Env} {s : State} {m : MethodId} {args : Array Value} {below : List Frame} {meth : Method} {c : Code} {G : GG} {A : Nat → Prop} {ad : AD} (B : XB G A ad p l s m args meth c cX5_placeInReel 3 RX5 (some .int)) {r : (Nat ⊕ Int32)} {st' : XS} : ∀ (cells slots : Nat) (st : XS) (x1 : Nat) (H : Heap) (locs : List Loc) (ls : Array Slot), cells + 1 ≤ 1 → slots + 6 ≤ 6 → f_X5_placeInReel st x1 = some (r, st') → XW G A ad st H → va_S A s.heap H locs → lv_has ls 3 [(0, .ref (ad 0 0)), (1, .ref (ad 1 x1))] → W p l e ({ frames := 6, cells := 1, slots := 6, locals := 100 } : Room) s m args below meth c H locs cells slots (vx_MQ below (QXr G A ad (ovw (fun x => some (.int x)) r) st') (QXx G A ad (ovw (fun x => some (.int x)) r) st') args s 1 6 A) (F0 m 0 ls []) := by
  have ⟨⟨hx, hb, hr, hml, hown, hT, hlocks, hK⟩, hnt, hST, hA, hll⟩ := B
  intro cells slots st x1 H locs ls hc hs h hM hS hl
  rw [f_X5_placeInReel] at h
  refine lv_aload_n hx hb dX5_placeInReel_0 rfl (lv_at hl 0 rfl) ?_
  refine lv_aload_n hx hb dX5_placeInReel_1 rfl (lv_at hl 1 rfl) ?_
  obtain ⟨r1, t2, e3, h⟩ := bd_e h
  refine xw_callV B hM hS (xw_recv (xb_vk B) hM 0 0 (Or.inl xv_0) (fun gh => ⟨_, rfl⟩) rfl) [.ref (ad 1 x1)] (n := 1) (v := (some (.int r1))) (c_X5_placeOf B.2.2.2.2 e3) wm_RX5_327 wi_yX5_placeOf ws_yX5_placeOf wn_RX5 wc_yX5_placeOf rfl rfl (by decide +kernel) ⟨Nat.le_of_ble_eq_true rfl, Nat.le_of_ble_eq_true rfl⟩ ⟨(by show _ ≤ 1; omega), (by show _ ≤ 6; omega)⟩ rfl hl.1 (Nat.le_of_ble_eq_true rfl) rfl dX5_placeInReel_2 (fun H locs hM hS => ?_)
  refine lv_istore_n (lv' := [(2, .int r1), (0, .ref (ad 0 0)), (1, .ref (ad 1 x1))]) hx hb dX5_placeInReel_5 rfl hl (by decide) rfl (fun ls hl => ?_)
  refine lv_iload_n hx hb dX5_placeInReel_6 rfl (lv_at hl 0 rfl) ?_
  refine lv_iconst (v := (-1)) hx hb dX5_placeInReel_7 (by decide) ?_
  refine lv_icmp_ne (tgt := 22) hx hb dX5_placeInReel_8 (by decide) (fun c4 => ?_) (fun c4 => ?_)
  · have h := bi_f c4 h
    refine lv_iload_n hx hb dX5_placeInReel_22 rfl (lv_at hl 0 rfl) ?_
    cases h
    exact xx_iret B hM hS (by omega) (by omega) dX5_placeInReel_23 rfl
  · have h := bi_t c4 h
    cases h
    exact xw_throw (k := 1) (ik := 60) (ic := 64) (is := 330) (text := "the shot is not in the reel") B hM hS wk_RX5_60 wn_java_lang_UnsupportedOperationException at_1 an_1 ag_1 (by decide +kernel) (by decide +kernel) hl.1 ⟨⟨dX5_placeInReel_11, dX5_placeInReel_14⟩, Or.inr ⟨dX5_placeInReel_15, dX5_placeInReel_18, dX5_placeInReel_21⟩⟩ (Nat.le_of_ble_eq_true rfl) (Nat.le_of_ble_eq_true rfl) (by show _ ≤ 1; omega) (by show _ ≤ 6; omega) (by omega) (by omega) rfl
theorem c_X5_placeInReel {l : Launch} (hll : l.stackTraces = false) {G : GG} {A : Nat → Prop} {ad : AD} {st : XS} {x1 : Nat} {r : (Nat ⊕ Int32)} {st' : XS} (h : f_X5_placeInReel st x1 = some (r, st')) : vx_Met l yX5_placeInReel (Cond.code yX5_placeInReel cX5_placeInReel 3 (some .int) :: TG) ({ frames := 6, cells := 1, slots := 6, locals := 100 } : Room) (PX G A ad st [.ref (ad 0 0), .ref (ad 1 x1)]) (QXr G A ad (ovw (fun x => some (.int x)) r) st') (QXx G A ad (ovw (fun x => some (.int x)) r) st') 1 6 A :=
  xx_of (own := RX5) hll (by decide +kernel) rfl (Nat.le_of_ble_eq_true rfl) fun p e s m below meth c ls B hM hS hl => w_X5_placeInReel B _ _ _ _ _ _ _ (Nat.le_of_ble_eq_true rfl) (Nat.le_of_ble_eq_true rfl) h hM hS hl
set_option maxHeartbeats 4000000 in
set_option maxRecDepth 100000 in
theorem w_X5_drop {p : Program} {l : Launch} {e : Env} {s : State} {m : MethodId} {args : Array Value} {below : List Frame} {meth : Method} {c : Code} {G : GG} {A : Nat → Prop} {ad : AD} (B : XB G A ad p l s m args meth c cX5_drop 4 RX5 (some .int)) {r : (Nat ⊕ Int32)} {st' : XS} : ∀ (cells slots : Nat) (st : XS) (x1 : Int32) (H : Heap) (locs : List Loc) (ls : Array Slot), cells + 2 ≤ 2 → slots + 12 ≤ 12 → f_X5_drop st x1 = some (r, st') → XW G A ad st H → va_S A s.heap H locs → lv_has ls 4 [(0, .ref (ad 0 0)), (1, .int x1)] → W p l e ({ frames := 8, cells := 2, slots := 12, locals := 400 } : Room) s m args below meth c H locs cells slots (vx_MQ below (QXr G A ad (ovw (fun x => some (.int x)) r) st') (QXx G A ad (ovw (fun x => some (.int x)) r) st') args s 2 12 A) (F0 m 0 ls []) := by
  have ⟨⟨hx, hb, hr, hml, hown, hT, hlocks, hK⟩, hnt, hST, hA, hll⟩ := B
  intro cells slots st x1 H locs ls hc hs h hM hS hl
  rw [f_X5_drop] at h
  refine lv_aload_n hx hb dX5_drop_0 rfl (lv_at hl 0 rfl) ?_
  refine lv_iload_n hx hb dX5_drop_1 rfl (lv_at hl 1 rfl) ?_
  rcases bdx_e h with ⟨k4, t2, e3, h⟩ | ⟨r1, t2, e3, h⟩
  · cases h
    exact xx_goV B hM hS (xw_recv (xb_vk B) hM 0 0 (Or.inl xv_0) (fun gh => ⟨_, rfl⟩) rfl) [.int x1] (n := 1) (c_X5_madeShot B.2.2.2.2 e3) wm_RX5_93 wi_yX5_madeShot ws_yX5_madeShot wn_RX5 wc_yX5_madeShot rfl rfl (by decide +kernel) ⟨Nat.le_of_ble_eq_true rfl, Nat.le_of_ble_eq_true rfl⟩ ⟨(by show _ ≤ 2; omega), (by show _ ≤ 12; omega)⟩ rfl hl.1 (Nat.le_of_ble_eq_true rfl) rfl dX5_drop_2 (by omega) (by omega) rfl
  · refine xx_callV B hM hS (xw_recv (xb_vk B) hM 0 0 (Or.inl xv_0) (fun gh => ⟨_, rfl⟩) rfl) [.int x1] (n := 1) (v := (some (.ref (ad 1 r1)))) (c_X5_madeShot B.2.2.2.2 e3) wm_RX5_93 wi_yX5_madeShot ws_yX5_madeShot wn_RX5 wc_yX5_madeShot rfl rfl (by decide +kernel) ⟨Nat.le_of_ble_eq_true rfl, Nat.le_of_ble_eq_true rfl⟩ ⟨(by show _ ≤ 2; omega), (by show _ ≤ 12; omega)⟩ rfl hl.1 (Nat.le_of_ble_eq_true rfl) rfl dX5_drop_2 (fun H locs hM hS => ?_)
    refine lv_astore_n (lv' := [(2, .ref (ad 1 r1)), (0, .ref (ad 0 0)), (1, .int x1)]) hx hb dX5_drop_5 rfl hl (by decide) rfl (fun ls hl => ?_)
    refine lv_aload_n hx hb dX5_drop_6 rfl (lv_at hl 1 rfl) ?_
    refine lv_aload_n hx hb dX5_drop_7 rfl (lv_at hl 0 rfl) ?_
    rcases bdx_e h with ⟨k8, t6, e7, h⟩ | ⟨r5, t6, e7, h⟩
    · cases h
      exact xx_goV B hM hS (xw_recv (xb_vk B) hM 0 0 (Or.inl xv_0) (fun gh => ⟨_, rfl⟩) rfl) [.ref (ad 1 r1)] (n := 1) (c_X5_placeInReel B.2.2.2.2 e7) wm_RX5_97 wi_yX5_placeInReel ws_yX5_placeInReel wn_RX5 wc_yX5_placeInReel rfl rfl (by decide +kernel) ⟨Nat.le_of_ble_eq_true rfl, Nat.le_of_ble_eq_true rfl⟩ ⟨(by show _ ≤ 2; omega), (by show _ ≤ 12; omega)⟩ rfl hl.1 (Nat.le_of_ble_eq_true rfl) rfl dX5_drop_8 (by omega) (by omega) rfl
    · refine xx_callV B hM hS (xw_recv (xb_vk B) hM 0 0 (Or.inl xv_0) (fun gh => ⟨_, rfl⟩) rfl) [.ref (ad 1 r1)] (n := 1) (v := (some (.int r5))) (c_X5_placeInReel B.2.2.2.2 e7) wm_RX5_97 wi_yX5_placeInReel ws_yX5_placeInReel wn_RX5 wc_yX5_placeInReel rfl rfl (by decide +kernel) ⟨Nat.le_of_ble_eq_true rfl, Nat.le_of_ble_eq_true rfl⟩ ⟨(by show _ ≤ 2; omega), (by show _ ≤ 12; omega)⟩ rfl hl.1 (Nat.le_of_ble_eq_true rfl) rfl dX5_drop_8 (fun H locs hM hS => ?_)
      refine lv_istore_n (lv' := [(3, .int r5), (2, .ref (ad 1 r1)), (0, .ref (ad 0 0)), (1, .int x1)]) hx hb dX5_drop_11 rfl hl (by decide) rfl (fun ls hl => ?_)
      refine lv_aload_n hx hb dX5_drop_12 rfl (lv_at hl 2 rfl) ?_
      refine xw_get B.1 hM 0 0 xv_0 (ci := 6) (N := 6) (fs := fTR ad t6) (C := RX5) (T := TX5) (fun _ => rfl) rfl inX5 1 (by decide) wf_RX5_16 rfl (v := .ref (ad 13 1)) rfl dX5_drop_13 ?_
      refine lv_iload_n hx hb dX5_drop_16 rfl (lv_at hl 0 rfl) ?_
      obtain ⟨g9, h⟩ := gd_e h
      refine xw_lremove B hM hS 1 (by decide) wm_RX5_101 g9 ⟨Nat.le_of_ble_eq_true rfl, Nat.le_of_ble_eq_true rfl⟩ ⟨(by show _ ≤ 2; omega), (by show _ ≤ 12; omega)⟩ hl.1 (Nat.le_of_ble_eq_true rfl) dX5_drop_17 (fun H locs hM hS => ?_)
      refine lv_pop hx hb dX5_drop_20 rfl ?_
      refine lv_aload_n hx hb dX5_drop_21 rfl (lv_at hl 1 rfl) ?_
      refine lv_dup hx hb dX5_drop_22 rfl ?_
      obtain ⟨v10, h⟩ := gd_e h
      refine xw_get B.1 hM 1 r1 (xv_s (k := 1) (by decide) v10) (ci := 5) (N := 12) (fs := fSh ad (sL t6 1 ((xL t6 1).eraseIdx r5.toNatClampNeg)) r1) (C := RX4) (T := TX4) (fun _ => rfl) rfl inX4 6 (by decide) wf_RX5_105 rfl (v := .int (xF (sL t6 1 ((xL t6 1).eraseIdx r5.toNatClampNeg)) 1 r1 6)) rfl dX5_drop_23 ?_
      refine lv_iconst (v := 1) hx hb dX5_drop_26 (by decide) ?_
      refine lv_iadd hx hb dX5_drop_27 ?_
      refine xw_putF B.1 hM hS 1 r1 1 (Or.inr (Or.inl ⟨rfl, rfl⟩)) (xv_s (k := 1) (by decide) v10) (ci := 5) (N := 12) (fs := fSh ad (sL t6 1 ((xL t6 1).eraseIdx r5.toNatClampNeg)) r1) (C := RX4) (T := TX4) (fun _ => rfl) rfl inX4 tyX4_ok nmX4 6 (by decide) wf_RX5_105 rfl rfl rfl rfl (Nat.le_of_ble_eq_true rfl) (fun _ => by simp [enX, fSh, sF, xF, xU]) dX5_drop_28 (fun H locs hM hS => ?_)
      refine lv_aload_n hx hb dX5_drop_31 rfl (lv_at hl 1 rfl) ?_
      refine lv_iconst (v := (-1)) hx hb dX5_drop_32 (by decide) ?_
      refine xw_putF B.1 hM hS 1 r1 1 (Or.inr (Or.inl ⟨rfl, rfl⟩)) (xv_s (k := 1) (by decide) v10) (ci := 5) (N := 12) (fs := fSh ad (sF (sL t6 1 ((xL t6 1).eraseIdx r5.toNatClampNeg)) 1 r1 6 ((xF (sL t6 1 ((xL t6 1).eraseIdx r5.toNatClampNeg)) 1 r1 6) + 1)) r1) (C := RX4) (T := TX4) (fun _ => rfl) rfl inX4 tyX4_ok nmX4 9 (by decide) wf_RX5_108 rfl rfl rfl rfl (Nat.le_of_ble_eq_true rfl) (fun _ => by simp [enX, fSh, sF, xF, xU]) dX5_drop_33 (fun H locs hM hS => ?_)
      refine lv_iload_n hx hb dX5_drop_36 rfl (lv_at hl 0 rfl) ?_
      cases h
      exact xx_iret B hM hS (by omega) (by omega) dX5_drop_37 rfl
theorem c_X5_drop {l : Launch} (hll : l.stackTraces = false) {G : GG} {A : Nat → Prop} {ad : AD} {st : XS} {x1 : Int32} {r : (Nat ⊕ Int32)} {st' : XS} (h : f_X5_drop st x1 = some (r, st')) : vx_Met l yX5_drop (Cond.code yX5_drop cX5_drop 4 (some .int) :: TG) ({ frames := 8, cells := 2, slots := 12, locals := 400 } : Room) (PX G A ad st [.ref (ad 0 0), .int x1]) (QXr G A ad (ovw (fun x => some (.int x)) r) st') (QXx G A ad (ovw (fun x => some (.int x)) r) st') 2 12 A :=
  xx_of (own := RX5) hll (by decide +kernel) rfl (Nat.le_of_ble_eq_true rfl) fun p e s m below meth c ls B hM hS hl => w_X5_drop B _ _ _ _ _ _ _ (Nat.le_of_ble_eq_true rfl) (Nat.le_of_ble_eq_true rfl) h hM hS hl
set_option maxHeartbeats 4000000 in
set_option maxRecDepth 100000 in
theorem w_X5_move_21 {p : Program} {l : Launch} {e : Env} {s : State} {m : MethodId} {args : Array Value} {below : List Frame} {meth : Method} {c : Code} {G : GG} {A : Nat → Prop} {ad : AD} (B : XB G A ad p l s m args meth c cX5_move 5 RX5 (some .int)) {r : (Nat ⊕ Int32)} {st' : XS} : ∀ (cells slots : Nat) (st : XS) (H : Heap) (locs : List Loc) (ls : Array Slot), cells + 1 ≤ 3 → slots + 6 ≤ 112 → f_X5_move_21 st = some (r, st') → XW G A ad st H → va_S A s.heap H locs → lv_has ls 5 [] → W p l e ({ frames := 8, cells := 3, slots := 112, locals := 400 } : Room) s m args below meth c H locs cells slots (vx_MQ below (QXr G A ad (ovw (fun x => some (.int x)) r) st') (QXx G A ad (ovw (fun x => some (.int x)) r) st') args s 3 112 A) (F0 m 21 ls []) := by
  have ⟨⟨hx, hb, hr, hml, hown, hT, hlocks, hK⟩, hnt, hST, hA, hll⟩ := B
  intro cells slots st  H locs ls hc hs h hM hS hl
  rw [f_X5_move_21] at h
  cases h
  exact xw_throw (k := 0) (ik := 41) (ic := 45) (is := 43) (text := "no such place") B hM hS wk_RX5_41 wn_java_lang_IllegalArgumentException at_0 an_0 ag_0 (by decide +kernel) (by decide +kernel) hl.1 ⟨⟨dX5_move_21, dX5_move_24⟩, Or.inl ⟨dX5_move_25, dX5_move_27, dX5_move_30⟩⟩ (Nat.le_of_ble_eq_true rfl) (Nat.le_of_ble_eq_true rfl) (by show _ ≤ 3; omega) (by show _ ≤ 112; omega) (by omega) (by omega) rfl
set_option maxHeartbeats 4000000 in
set_option maxRecDepth 100000 in
theorem w_X5_move {p : Program} {l : Launch} {e : Env} {s : State} {m : MethodId} {args : Array Value} {below : List Frame} {meth : Method} {c : Code} {G : GG} {A : Nat → Prop} {ad : AD} (B : XB G A ad p l s m args meth c cX5_move 5 RX5 (some .int)) {r : (Nat ⊕ Int32)} {st' : XS} : ∀ (cells slots : Nat) (st : XS) (x1 : Int32) (x2 : Int32) (H : Heap) (locs : List Loc) (ls : Array Slot), cells + 3 ≤ 3 → slots + 112 ≤ 112 → f_X5_move st x1 x2 = some (r, st') → XW G A ad st H → va_S A s.heap H locs → lv_has ls 5 [(0, .ref (ad 0 0)), (1, .int x1), (2, .int x2)] → W p l e ({ frames := 8, cells := 3, slots := 112, locals := 400 } : Room) s m args below meth c H locs cells slots (vx_MQ below (QXr G A ad (ovw (fun x => some (.int x)) r) st') (QXx G A ad (ovw (fun x => some (.int x)) r) st') args s 3 112 A) (F0 m 0 ls []) := by
  have ⟨⟨hx, hb, hr, hml, hown, hT, hlocks, hK⟩, hnt, hST, hA, hll⟩ := B
  intro cells slots st x1 x2 H locs ls hc hs h hM hS hl
  rw [f_X5_move] at h
  refine lv_aload_n hx hb dX5_move_0 rfl (lv_at hl 0 rfl) ?_
  refine lv_iload_n hx hb dX5_move_1 rfl (lv_at hl 1 rfl) ?_
  rcases bdx_e h with ⟨k4, t2, e3, h⟩ | ⟨r1, t2, e3, h⟩
  · cases h
    exact xx_goV B hM hS (xw_recv (xb_vk B) hM 0 0 (Or.inl xv_0) (fun gh => ⟨_, rfl⟩) rfl) [.int x1] (n := 1) (c_X5_madeShot B.2.2.2.2 e3) wm_RX5_93 wi_yX5_madeShot ws_yX5_madeShot wn_RX5 wc_yX5_madeShot rfl rfl (by decide +kernel) ⟨Nat.le_of_ble_eq_true rfl, Nat.le_of_ble_eq_true rfl⟩ ⟨(by show _ ≤ 3; omega), (by show _ ≤ 112; omega)⟩ rfl hl.1 (Nat.le_of_ble_eq_true rfl) rfl dX5_move_2 (by omega) (by omega) rfl
  · refine xx_callV B hM hS (xw_recv (xb_vk B) hM 0 0 (Or.inl xv_0) (fun gh => ⟨_, rfl⟩) rfl) [.int x1] (n := 1) (v := (some (.ref (ad 1 r1)))) (c_X5_madeShot B.2.2.2.2 e3) wm_RX5_93 wi_yX5_madeShot ws_yX5_madeShot wn_RX5 wc_yX5_madeShot rfl rfl (by decide +kernel) ⟨Nat.le_of_ble_eq_true rfl, Nat.le_of_ble_eq_true rfl⟩ ⟨(by show _ ≤ 3; omega), (by show _ ≤ 112; omega)⟩ rfl hl.1 (Nat.le_of_ble_eq_true rfl) rfl dX5_move_2 (fun H locs hM hS => ?_)
    refine lv_astore_n (lv' := [(3, .ref (ad 1 r1)), (0, .ref (ad 0 0)), (1, .int x1), (2, .int x2)]) hx hb dX5_move_5 rfl hl (by decide) rfl (fun ls hl => ?_)
    refine lv_iload_n hx hb dX5_move_6 rfl (lv_at hl 3 rfl) ?_
    refine lv_if_lt (tgt := 21) hx hb dX5_move_7 (by decide) (fun c5 => ?_) (fun c5 => ?_)
    · have h := bi_t c5 h
      exact w_X5_move_21 B _ _ _ _ _ _ (by omega) (by omega) h hM hS (lv_sub hl [] rfl)
    · have h := bi_f c5 h
      refine lv_iload_n hx hb dX5_move_10 rfl (lv_at hl 3 rfl) ?_
      refine lv_aload_n hx hb dX5_move_11 rfl (lv_at hl 1 rfl) ?_
      refine xw_get B.1 hM 0 0 xv_0 (ci := 6) (N := 6) (fs := fTR ad t2) (C := RX5) (T := TX5) (fun _ => rfl) rfl inX5 1 (by decide) wf_RX5_16 rfl (v := .ref (ad 13 1)) rfl dX5_move_12 ?_
      refine xw_size B hM hS 1 (by decide) wm_RX5_37 ⟨Nat.le_of_ble_eq_true rfl, Nat.le_of_ble_eq_true rfl⟩ ⟨(by show _ ≤ 3; omega), (by show _ ≤ 112; omega)⟩ hl.1 (Nat.le_of_ble_eq_true rfl) dX5_move_15 ?_
      refine lv_icmp_lt (tgt := 31) hx hb dX5_move_18 (by decide) (fun c6 => ?_) (fun c6 => ?_)
      · have h := bi_t c6 h
        refine lv_aload_n hx hb dX5_move_31 rfl (lv_at hl 1 rfl) ?_
        refine lv_aload_n hx hb dX5_move_32 rfl (lv_at hl 0 rfl) ?_
        rcases bdx_e h with ⟨k10, t8, e9, h⟩ | ⟨r7, t8, e9, h⟩
        · cases h
          exact xx_goV B hM hS (xw_recv (xb_vk B) hM 0 0 (Or.inl xv_0) (fun gh => ⟨_, rfl⟩) rfl) [.ref (ad 1 r1)] (n := 1) (c_X5_placeInReel B.2.2.2.2 e9) wm_RX5_97 wi_yX5_placeInReel ws_yX5_placeInReel wn_RX5 wc_yX5_placeInReel rfl rfl (by decide +kernel) ⟨Nat.le_of_ble_eq_true rfl, Nat.le_of_ble_eq_true rfl⟩ ⟨(by show _ ≤ 3; omega), (by show _ ≤ 112; omega)⟩ rfl hl.1 (Nat.le_of_ble_eq_true rfl) rfl dX5_move_33 (by omega) (by omega) rfl
        · refine xx_callV B hM hS (xw_recv (xb_vk B) hM 0 0 (Or.inl xv_0) (fun gh => ⟨_, rfl⟩) rfl) [.ref (ad 1 r1)] (n := 1) (v := (some (.int r7))) (c_X5_placeInReel B.2.2.2.2 e9) wm_RX5_97 wi_yX5_placeInReel ws_yX5_placeInReel wn_RX5 wc_yX5_placeInReel rfl rfl (by decide +kernel) ⟨Nat.le_of_ble_eq_true rfl, Nat.le_of_ble_eq_true rfl⟩ ⟨(by show _ ≤ 3; omega), (by show _ ≤ 112; omega)⟩ rfl hl.1 (Nat.le_of_ble_eq_true rfl) rfl dX5_move_33 (fun H locs hM hS => ?_)
          refine lv_istore (lv' := [(4, .int r7), (3, .ref (ad 1 r1)), (0, .ref (ad 0 0)), (1, .int x1), (2, .int x2)]) hx hb dX5_move_36 hl (by decide) rfl (fun ls hl => ?_)
          refine lv_aload_n hx hb dX5_move_38 rfl (lv_at hl 2 rfl) ?_
          refine xw_get B.1 hM 0 0 xv_0 (ci := 6) (N := 6) (fs := fTR ad t8) (C := RX5) (T := TX5) (fun _ => rfl) rfl inX5 1 (by decide) wf_RX5_16 rfl (v := .ref (ad 13 1)) rfl dX5_move_39 ?_
          refine lv_iload hx hb dX5_move_42 (lv_at hl 0 rfl) ?_
          obtain ⟨g11, h⟩ := gd_e h
          refine xw_lremove B hM hS 1 (by decide) wm_RX5_101 g11 ⟨Nat.le_of_ble_eq_true rfl, Nat.le_of_ble_eq_true rfl⟩ ⟨(by show _ ≤ 3; omega), (by show _ ≤ 112; omega)⟩ hl.1 (Nat.le_of_ble_eq_true rfl) dX5_move_44 (fun H locs hM hS => ?_)
          refine lv_pop hx hb dX5_move_47 rfl ?_
          refine lv_aload_n hx hb dX5_move_48 rfl (lv_at hl 2 rfl) ?_
          refine xw_get B.1 hM 0 0 xv_0 (ci := 6) (N := 6) (fs := fTR ad (sL t8 1 ((xL t8 1).eraseIdx r7.toNatClampNeg))) (C := RX5) (T := TX5) (fun _ => rfl) rfl inX5 1 (by decide) wf_RX5_16 rfl (v := .ref (ad 13 1)) rfl dX5_move_49 ?_
          refine lv_iload_n hx hb dX5_move_52 rfl (lv_at hl 4 rfl) ?_
          refine lv_aload_n hx hb dX5_move_53 rfl (lv_at hl 1 rfl) ?_
          obtain ⟨v13, h⟩ := gd_e h
          obtain ⟨g14, h⟩ := gd_e h
          obtain ⟨g12, h⟩ := gd_e h
          refine xw_laddAt B hM hS 1 (by decide) wm_RX5_87 (x := r1) v13 g14 g12 ⟨Nat.le_of_ble_eq_true rfl, Nat.le_of_ble_eq_true rfl⟩ ⟨(by show _ ≤ 3; omega), (by show _ ≤ 112; omega)⟩ hl.1 (Nat.le_of_ble_eq_true rfl) dX5_move_54 (fun H locs hM hS => ?_)
          refine lv_iload hx hb dX5_move_57 (lv_at hl 0 rfl) ?_
          cases h
          exact xx_iret B hM hS (by omega) (by omega) dX5_move_59 rfl
      · have h := bi_f c6 h
        exact w_X5_move_21 B _ _ _ _ _ _ (by omega) (by omega) h hM hS (lv_sub hl [] rfl)
theorem c_X5_move {l : Launch} (hll : l.stackTraces = false) {G : GG} {A : Nat → Prop} {ad : AD} {st : XS} {x1 : Int32} {x2 : Int32} {r : (Nat ⊕ Int32)} {st' : XS} (h : f_X5_move st x1 x2 = some (r, st')) : vx_Met l yX5_move (Cond.code yX5_move cX5_move 5 (some .int) :: TG) ({ frames := 8, cells := 3, slots := 112, locals := 400 } : Room) (PX G A ad st [.ref (ad 0 0), .int x1, .int x2]) (QXr G A ad (ovw (fun x => some (.int x)) r) st') (QXx G A ad (ovw (fun x => some (.int x)) r) st') 3 112 A :=
  xx_of (own := RX5) hll (by decide +kernel) rfl (Nat.le_of_ble_eq_true rfl) fun p e s m below meth c ls B hM hS hl => w_X5_move B _ _ _ _ _ _ _ _ (Nat.le_of_ble_eq_true rfl) (Nat.le_of_ble_eq_true rfl) h hM hS hl
set_option maxHeartbeats 4000000 in
set_option maxRecDepth 100000 in
theorem w_X5_shots {p : Program} {l : Launch} {e : Env} {s : State} {m : MethodId} {args : Array Value} {below : List Frame} {meth : Method} {c : Code} {G : GG} {A : Nat → Prop} {ad : AD} (B : XB G A ad p l s m args meth c cX5_shots 1 RX5 (some .int)) {r : Int32} {st' : XS} : ∀ (st : XS) (H : Heap) (locs : List Loc) (ls : Array Slot), f_X5_shots st = some (r, st') → XW G A ad st H → va_S A s.heap H locs → lv_has ls 1 [(0, .ref (ad 0 0))] → W p l e ({ frames := 1, cells := 0, slots := 0, locals := 20 } : Room) s m args below meth c H locs 0 0 (MQ below (QX G A ad (some (.int r)) st') args s 0 0 A) (F0 m 0 ls []) := by
  have ⟨⟨hx, hb, hr, hml, hown, hT, hlocks, hK⟩, hnt, hST, hA, hll⟩ := B
  intro st  H locs ls h hM hS hl
  rw [f_X5_shots] at h
  refine lv_aload_n hx hb dX5_shots_0 rfl (lv_at hl 0 rfl) ?_
  refine xw_get B.1 hM 0 0 xv_0 (ci := 6) (N := 6) (fs := fTR ad st) (C := RX5) (T := TX5) (fun _ => rfl) rfl inX5 1 (by decide) wf_RX5_16 rfl (v := .ref (ad 13 1)) rfl dX5_shots_1 ?_
  refine xw_size B hM hS 1 (by decide) wm_RX5_37 ⟨Nat.le_of_ble_eq_true rfl, Nat.le_of_ble_eq_true rfl⟩ ⟨Nat.le_refl 0, Nat.le_refl 0⟩ hl.1 (Nat.le_of_ble_eq_true rfl) dX5_shots_4 ?_
  cases h
  exact xw_iret B hM hS (Nat.le_refl 0) (Nat.le_refl 0) dX5_shots_7
theorem c_X5_shots {l : Launch} (hll : l.stackTraces = false) {G : GG} {A : Nat → Prop} {ad : AD} {st : XS} {r : Int32} {st' : XS} (h : f_X5_shots st = some (r, st')) : Met l yX5_shots (Cond.code yX5_shots cX5_shots 1 (some .int) :: TG) ({ frames := 1, cells := 0, slots := 0, locals := 20 } : Room) (PX G A ad st [.ref (ad 0 0)]) (QX G A ad (some (.int r)) st') 0 0 A :=
  xw_of (own := RX5) hll (by decide +kernel) rfl (Nat.le_of_ble_eq_true rfl) fun p e s m below meth c ls B hM hS hl => w_X5_shots B _ _ _ _ h hM hS hl
set_option maxHeartbeats 4000000 in
set_option maxRecDepth 100000 in
theorem w_X5_at_15 {p : Program} {l : Launch} {e : Env} {s : State} {m : MethodId} {args : Array Value} {below : List Frame} {meth : Method} {c : Code} {G : GG} {A : Nat → Prop} {ad : AD} (B : XB G A ad p l s m args meth c cX5_at 2 RX5 (some .int)) {r : (Nat ⊕ Int32)} {st' : XS} : ∀ (cells slots : Nat) (st : XS) (H : Heap) (locs : List Loc) (ls : Array Slot), cells + 1 ≤ 1 → slots + 6 ≤ 6 → f_X5_at_15 st = some (r, st') → XW G A ad st H → va_S A s.heap H locs → lv_has ls 2 [] → W p l e ({ frames := 6, cells := 1, slots := 6, locals := 100 } : Room) s m args below meth c H locs cells slots (vx_MQ below (QXr G A ad (ovw (fun x => some (.int x)) r) st') (QXx G A ad (ovw (fun x => some (.int x)) r) st') args s 1 6 A) (F0 m 15 ls []) := by
  have ⟨⟨hx, hb, hr, hml, hown, hT, hlocks, hK⟩, hnt, hST, hA, hll⟩ := B
  intro cells slots st  H locs ls hc hs h hM hS hl
  rw [f_X5_at_15] at h
  cases h
  exact xw_throwN (is := 113) (text := "no shot at this place") B hM hS (by decide +kernel) hl.1 ⟨⟨dX5_at_15, dX5_at_18⟩, Or.inl ⟨dX5_at_19, dX5_at_21, dX5_at_24⟩⟩ (Nat.le_of_ble_eq_true rfl) (Nat.le_of_ble_eq_true rfl) (by show _ ≤ 1; omega) (by show _ ≤ 6; omega) (by omega) (by omega) rfl
set_option maxHeartbeats 4000000 in
set_option maxRecDepth 100000 in
theorem w_X5_at {p : Program} {l : Launch} {e : Env} {s : State} {m : MethodId} {args : Array Value} {below : List Frame} {meth : Method} {c : Code} {G : GG} {A : Nat → Prop} {ad : AD} (B : XB G A ad p l s m args meth c cX5_at 2 RX5 (some .int)) {r : (Nat ⊕ Int32)} {st' : XS} : ∀ (cells slots : Nat) (st : XS) (x1 : Int32) (H : Heap) (locs : List Loc) (ls : Array Slot), cells + 1 ≤ 1 → slots + 6 ≤ 6 → f_X5_at st x1 = some (r, st') → XW G A ad st H → va_S A s.heap H locs → lv_has ls 2 [(0, .ref (ad 0 0)), (1, .int x1)] → W p l e ({ frames := 6, cells := 1, slots := 6, locals := 100 } : Room) s m args below meth c H locs cells slots (vx_MQ below (QXr G A ad (ovw (fun x => some (.int x)) r) st') (QXx G A ad (ovw (fun x => some (.int x)) r) st') args s 1 6 A) (F0 m 0 ls []) := by
  have ⟨⟨hx, hb, hr, hml, hown, hT, hlocks, hK⟩, hnt, hST, hA, hll⟩ := B
  intro cells slots st x1 H locs ls hc hs h hM hS hl
  rw [f_X5_at] at h
  refine lv_iload_n hx hb dX5_at_0 rfl (lv_at hl 1 rfl) ?_
  refine lv_if_lt (tgt := 15) hx hb dX5_at_1 (by decide) (fun c1 => ?_) (fun c1 => ?_)
  · have h := bi_t c1 h
    exact w_X5_at_15 B _ _ _ _ _ _ (by omega) (by omega) h hM hS (lv_sub hl [] rfl)
  · have h := bi_f c1 h
    refine lv_iload_n hx hb dX5_at_4 rfl (lv_at hl 1 rfl) ?_
    refine lv_aload_n hx hb dX5_at_5 rfl (lv_at hl 0 rfl) ?_
    refine xw_get B.1 hM 0 0 xv_0 (ci := 6) (N := 6) (fs := fTR ad st) (C := RX5) (T := TX5) (fun _ => rfl) rfl inX5 1 (by decide) wf_RX5_16 rfl (v := .ref (ad 13 1)) rfl dX5_at_6 ?_
    refine xw_size B hM hS 1 (by decide) wm_RX5_37 ⟨Nat.le_of_ble_eq_true rfl, Nat.le_of_ble_eq_true rfl⟩ ⟨(by show _ ≤ 1; omega), (by show _ ≤ 6; omega)⟩ hl.1 (Nat.le_of_ble_eq_true rfl) dX5_at_9 ?_
    refine lv_icmp_lt (tgt := 25) hx hb dX5_at_12 (by decide) (fun c2 => ?_) (fun c2 => ?_)
    · have h := bi_t c2 h
      refine lv_aload_n hx hb dX5_at_25 rfl (lv_at hl 0 rfl) ?_
      refine xw_get B.1 hM 0 0 xv_0 (ci := 6) (N := 6) (fs := fTR ad st) (C := RX5) (T := TX5) (fun _ => rfl) rfl inX5 1 (by decide) wf_RX5_16 rfl (v := .ref (ad 13 1)) rfl dX5_at_26 ?_
      refine lv_iload_n hx hb dX5_at_29 rfl (lv_at hl 1 rfl) ?_
      obtain ⟨g3, h⟩ := gd_e h
      refine xw_lget B hM hS 1 (by decide) wm_RX5_116 g3 ⟨Nat.le_of_ble_eq_true rfl, Nat.le_of_ble_eq_true rfl⟩ ⟨(by show _ ≤ 1; omega), (by show _ ≤ 6; omega)⟩ hl.1 (Nat.le_of_ble_eq_true rfl) dX5_at_30 ?_
      obtain ⟨v4, h⟩ := gd_e h
      refine xw_castShot B.1 hM v4 wk_RX5_70 dX5_at_33 ?_
      refine xw_get B.1 hM 1 ((xL st 1).getD x1.toNatClampNeg 0) (xv_s (k := 1) (by decide) v4) (ci := 5) (N := 12) (fs := fSh ad st ((xL st 1).getD x1.toNatClampNeg 0)) (C := RX4) (T := TX4) (fun _ => rfl) rfl inX4 0 (by decide) wf_RX5_90 rfl (v := .int (nI ((xL st 1).getD x1.toNatClampNeg 0))) rfl dX5_at_36 ?_
      cases h
      exact xx_iret B hM hS (by omega) (by omega) dX5_at_39 rfl
    · have h := bi_f c2 h
      exact w_X5_at_15 B _ _ _ _ _ _ (by omega) (by omega) h hM hS (lv_sub hl [] rfl)
theorem c_X5_at {l : Launch} (hll : l.stackTraces = false) {G : GG} {A : Nat → Prop} {ad : AD} {st : XS} {x1 : Int32} {r : (Nat ⊕ Int32)} {st' : XS} (h : f_X5_at st x1 = some (r, st')) : vx_Met l yX5_at (Cond.code yX5_at cX5_at 2 (some .int) :: TG) ({ frames := 6, cells := 1, slots := 6, locals := 100 } : Room) (PX G A ad st [.ref (ad 0 0), .int x1]) (QXr G A ad (ovw (fun x => some (.int x)) r) st') (QXx G A ad (ovw (fun x => some (.int x)) r) st') 1 6 A :=
  xx_of (own := RX5) hll (by decide +kernel) rfl (Nat.le_of_ble_eq_true rfl) fun p e s m below meth c ls B hM hS hl => w_X5_at B _ _ _ _ _ _ _ (Nat.le_of_ble_eq_true rfl) (Nat.le_of_ble_eq_true rfl) h hM hS hl
set_option maxHeartbeats 4000000 in
set_option maxRecDepth 100000 in
theorem w_X5_foundPlace {p : Program} {l : Launch} {e : Env} {s : State} {m : MethodId} {args : Array Value} {below : List Frame} {meth : Method} {c : Code} {G : GG} {A : Nat → Prop} {ad : AD} (B : XB G A ad p l s m args meth c cX5_foundPlace 3 RX5 (some .int)) {r : (Nat ⊕ Int32)} {st' : XS} : ∀ (cells slots : Nat) (st : XS) (x1 : Nat) (H : Heap) (locs : List Loc) (ls : Array Slot), cells + 1 ≤ 1 → slots + 6 ≤ 6 → f_X5_foundPlace st x1 = some (r, st') → XW G A ad st H → va_S A s.heap H locs → lv_has ls 3 [(0, .ref (ad 0 0)), (1, .ref (ad 1 x1))] → W p l e ({ frames := 6, cells := 1, slots := 6, locals := 100 } : Room) s m args below meth c H locs cells slots (vx_MQ below (QXr G A ad (ovw (fun x => some (.int x)) r) st') (QXx G A ad (ovw (fun x => some (.int x)) r) st') args s 1 6 A) (F0 m 0 ls []) := by
  have ⟨⟨hx, hb, hr, hml, hown, hT, hlocks, hK⟩, hnt, hST, hA, hll⟩ := B
  intro cells slots st x1 H locs ls hc hs h hM hS hl
  rw [f_X5_foundPlace] at h
  refine lv_aload_n hx hb dX5_foundPlace_0 rfl (lv_at hl 0 rfl) ?_
  refine lv_aload_n hx hb dX5_foundPlace_1 rfl (lv_at hl 1 rfl) ?_
  obtain ⟨r1, t2, e3, h⟩ := bd_e h
  refine xw_callV B hM hS (xw_recv (xb_vk B) hM 0 0 (Or.inl xv_0) (fun gh => ⟨_, rfl⟩) rfl) [.ref (ad 1 x1)] (n := 1) (v := (some (.int r1))) (c_X5_placeOf B.2.2.2.2 e3) wm_RX5_327 wi_yX5_placeOf ws_yX5_placeOf wn_RX5 wc_yX5_placeOf rfl rfl (by decide +kernel) ⟨Nat.le_of_ble_eq_true rfl, Nat.le_of_ble_eq_true rfl⟩ ⟨(by show _ ≤ 1; omega), (by show _ ≤ 6; omega)⟩ rfl hl.1 (Nat.le_of_ble_eq_true rfl) rfl dX5_foundPlace_2 (fun H locs hM hS => ?_)
  refine lv_istore_n (lv' := [(2, .int r1), (0, .ref (ad 0 0)), (1, .ref (ad 1 x1))]) hx hb dX5_foundPlace_5 rfl hl (by decide) rfl (fun ls hl => ?_)
  refine lv_iload_n hx hb dX5_foundPlace_6 rfl (lv_at hl 0 rfl) ?_
  refine lv_iconst (v := (-1)) hx hb dX5_foundPlace_7 (by decide) ?_
  refine lv_icmp_ne (tgt := 22) hx hb dX5_foundPlace_8 (by decide) (fun c4 => ?_) (fun c4 => ?_)
  · have h := bi_f c4 h
    refine lv_iload_n hx hb dX5_foundPlace_22 rfl (lv_at hl 0 rfl) ?_
    cases h
    exact xx_iret B hM hS (by omega) (by omega) dX5_foundPlace_23 rfl
  · have h := bi_t c4 h
    cases h
    exact xw_throwN (is := 330) (text := "the shot is not in the reel") B hM hS (by decide +kernel) hl.1 ⟨⟨dX5_foundPlace_11, dX5_foundPlace_14⟩, Or.inr ⟨dX5_foundPlace_15, dX5_foundPlace_18, dX5_foundPlace_21⟩⟩ (Nat.le_of_ble_eq_true rfl) (Nat.le_of_ble_eq_true rfl) (by show _ ≤ 1; omega) (by show _ ≤ 6; omega) (by omega) (by omega) rfl
theorem c_X5_foundPlace {l : Launch} (hll : l.stackTraces = false) {G : GG} {A : Nat → Prop} {ad : AD} {st : XS} {x1 : Nat} {r : (Nat ⊕ Int32)} {st' : XS} (h : f_X5_foundPlace st x1 = some (r, st')) : vx_Met l yX5_foundPlace (Cond.code yX5_foundPlace cX5_foundPlace 3 (some .int) :: TG) ({ frames := 6, cells := 1, slots := 6, locals := 100 } : Room) (PX G A ad st [.ref (ad 0 0), .ref (ad 1 x1)]) (QXr G A ad (ovw (fun x => some (.int x)) r) st') (QXx G A ad (ovw (fun x => some (.int x)) r) st') 1 6 A :=
  xx_of (own := RX5) hll (by decide +kernel) rfl (Nat.le_of_ble_eq_true rfl) fun p e s m below meth c ls B hM hS hl => w_X5_foundPlace B _ _ _ _ _ _ _ (Nat.le_of_ble_eq_true rfl) (Nat.le_of_ble_eq_true rfl) h hM hS hl
set_option maxHeartbeats 4000000 in
set_option maxRecDepth 100000 in
theorem w_X5_place {p : Program} {l : Launch} {e : Env} {s : State} {m : MethodId} {args : Array Value} {below : List Frame} {meth : Method} {c : Code} {G : GG} {A : Nat → Prop} {ad : AD} (B : XB G A ad p l s m args meth c cX5_place 2 RX5 (some .int)) {r : (Nat ⊕ Int32)} {st' : XS} : ∀ (cells slots : Nat) (st : XS) (x1 : Int32) (H : Heap) (locs : List Loc) (ls : Array Slot), cells + 2 ≤ 2 → slots + 12 ≤ 12 → f_X5_place st x1 = some (r, st') → XW G A ad st H → va_S A s.heap H locs → lv_has ls 2 [(0, .ref (ad 0 0)), (1, .int x1)] → W p l e ({ frames := 7, cells := 2, slots := 12, locals := 122 } : Room) s m args below meth c H locs cells slots (vx_MQ below (QXr G A ad (ovw (fun x => some (.int x)) r) st') (QXx G A ad (ovw (fun x => some (.int x)) r) st') args s 2 12 A) (F0 m 0 ls []) := by
  have ⟨⟨hx, hb, hr, hml, hown, hT, hlocks, hK⟩, hnt, hST, hA, hll⟩ := B
  intro cells slots st x1 H locs ls hc hs h hM hS hl
  rw [f_X5_place] at h
  refine lv_aload_n hx hb dX5_place_0 rfl (lv_at hl 0 rfl) ?_
  refine lv_aload_n hx hb dX5_place_1 rfl (lv_at hl 0 rfl) ?_
  refine lv_iload_n hx hb dX5_place_2 rfl (lv_at hl 1 rfl) ?_
  rcases bdx_e h with ⟨k4, t2, e3, h⟩ | ⟨r1, t2, e3, h⟩
  · cases h
    exact xx_goV B hM hS (xw_recv (xb_vk B) hM 0 0 (Or.inl xv_0) (fun gh => ⟨_, rfl⟩) rfl) [.int x1] (n := 1) (c_X5_madeShot B.2.2.2.2 e3) wm_RX5_93 wi_yX5_madeShot ws_yX5_madeShot wn_RX5 wc_yX5_madeShot rfl rfl (by decide +kernel) ⟨Nat.le_of_ble_eq_true rfl, Nat.le_of_ble_eq_true rfl⟩ ⟨(by show _ ≤ 2; omega), (by show _ ≤ 12; omega)⟩ rfl hl.1 (Nat.le_of_ble_eq_true rfl) rfl dX5_place_3 (by omega) (by omega) rfl
  · refine xx_callV B hM hS (xw_recv (xb_vk B) hM 0 0 (Or.inl xv_0) (fun gh => ⟨_, rfl⟩) rfl) [.int x1] (n := 1) (v := (some (.ref (ad 1 r1)))) (c_X5_madeShot B.2.2.2.2 e3) wm_RX5_93 wi_yX5_madeShot ws_yX5_madeShot wn_RX5 wc_yX5_madeShot rfl rfl (by decide +kernel) ⟨Nat.le_of_ble_eq_true rfl, Nat.le_of_ble_eq_true rfl⟩ ⟨(by show _ ≤ 2; omega), (by show _ ≤ 12; omega)⟩ rfl hl.1 (Nat.le_of_ble_eq_true rfl) rfl dX5_place_3 (fun H locs hM hS => ?_)
    rcases bdx_e h with ⟨k8, t6, e7, h⟩ | ⟨r5, t6, e7, h⟩
    · cases h
      exact xx_goV B hM hS (xw_recv (xb_vk B) hM 0 0 (Or.inl xv_0) (fun gh => ⟨_, rfl⟩) rfl) [.ref (ad 1 r1)] (n := 1) (c_X5_foundPlace B.2.2.2.2 e7) wm_RX5_119 wi_yX5_foundPlace ws_yX5_foundPlace wn_RX5 wc_yX5_foundPlace rfl rfl (by decide +kernel) ⟨Nat.le_of_ble_eq_true rfl, Nat.le_of_ble_eq_true rfl⟩ ⟨(by show _ ≤ 2; omega), (by show _ ≤ 12; omega)⟩ rfl hl.1 (Nat.le_of_ble_eq_true rfl) rfl dX5_place_6 (by omega) (by omega) rfl
    · refine xx_callV B hM hS (xw_recv (xb_vk B) hM 0 0 (Or.inl xv_0) (fun gh => ⟨_, rfl⟩) rfl) [.ref (ad 1 r1)] (n := 1) (v := (some (.int r5))) (c_X5_foundPlace B.2.2.2.2 e7) wm_RX5_119 wi_yX5_foundPlace ws_yX5_foundPlace wn_RX5 wc_yX5_foundPlace rfl rfl (by decide +kernel) ⟨Nat.le_of_ble_eq_true rfl, Nat.le_of_ble_eq_true rfl⟩ ⟨(by show _ ≤ 2; omega), (by show _ ≤ 12; omega)⟩ rfl hl.1 (Nat.le_of_ble_eq_true rfl) rfl dX5_place_6 (fun H locs hM hS => ?_)
      cases h
      exact xx_iret B hM hS (by omega) (by omega) dX5_place_9 rfl
theorem c_X5_place {l : Launch} (hll : l.stackTraces = false) {G : GG} {A : Nat → Prop} {ad : AD} {st : XS} {x1 : Int32} {r : (Nat ⊕ Int32)} {st' : XS} (h : f_X5_place st x1 = some (r, st')) : vx_Met l yX5_place (Cond.code yX5_place cX5_place 2 (some .int) :: TG) ({ frames := 7, cells := 2, slots := 12, locals := 122 } : Room) (PX G A ad st [.ref (ad 0 0), .int x1]) (QXr G A ad (ovw (fun x => some (.int x)) r) st') (QXx G A ad (ovw (fun x => some (.int x)) r) st') 2 12 A :=
  xx_of (own := RX5) hll (by decide +kernel) rfl (Nat.le_of_ble_eq_true rfl) fun p e s m below meth c ls B hM hS hl => w_X5_place B _ _ _ _ _ _ _ (Nat.le_of_ble_eq_true rfl) (Nat.le_of_ble_eq_true rfl) h hM hS hl
set_option maxHeartbeats 4000000 in
set_option maxRecDepth 100000 in
theorem w_X5_checkCamera_38 {p : Program} {l : Launch} {e : Env} {s : State} {m : MethodId} {args : Array Value} {below : List Frame} {meth : Method} {c : Code} {G : GG} {A : Nat → Prop} {ad : AD} (B : XB G A ad p l s m args meth c cX5_checkCamera 2 RX5 none) {r : (Nat ⊕ Unit)} {st' : XS} : ∀ (cells slots : Nat) (st : XS) (H : Heap) (locs : List Loc) (ls : Array Slot), cells + 1 ≤ 1 → slots + 6 ≤ 6 → f_X5_checkCamera_38 st = some (r, st') → XW G A ad st H → va_S A s.heap H locs → lv_has ls 2 [] → W p l e ({ frames := 6, cells := 1, slots := 6, locals := 100 } : Room) s m args below meth c H locs cells slots (vx_MQ below (QXr G A ad (ovw (fun _ => none) r) st') (QXx G A ad (ovw (fun _ => none) r) st') args s 1 6 A) (F0 m 38 ls []) := by
  have ⟨⟨hx, hb, hr, hml, hown, hT, hlocks, hK⟩, hnt, hST, hA, hll⟩ := B
  intro cells slots st  H locs ls hc hs h hM hS hl
  rw [f_X5_checkCamera_38] at h
  cases h
  exact xw_throw (k := 0) (ik := 41) (ic := 45) (is := 339) (text := "no such lens") B hM hS wk_RX5_41 wn_java_lang_IllegalArgumentException at_0 an_0 ag_0 (by decide +kernel) (by decide +kernel) hl.1 ⟨⟨dX5_checkCamera_38, dX5_checkCamera_41⟩, Or.inr ⟨dX5_checkCamera_42, dX5_checkCamera_45, dX5_checkCamera_48⟩⟩ (Nat.le_of_ble_eq_true rfl) (Nat.le_of_ble_eq_true rfl) (by show _ ≤ 1; omega) (by show _ ≤ 6; omega) (by omega) (by omega) rfl
set_option maxHeartbeats 4000000 in
set_option maxRecDepth 100000 in
theorem w_X5_checkCamera_29 {p : Program} {l : Launch} {e : Env} {s : State} {m : MethodId} {args : Array Value} {below : List Frame} {meth : Method} {c : Code} {G : GG} {A : Nat → Prop} {ad : AD} (B : XB G A ad p l s m args meth c cX5_checkCamera 2 RX5 none) {r : (Nat ⊕ Unit)} {st' : XS} : ∀ (cells slots : Nat) (st : XS) (x1 : Int32) (H : Heap) (locs : List Loc) (ls : Array Slot), cells + 1 ≤ 1 → slots + 6 ≤ 6 → f_X5_checkCamera_29 st x1 = some (r, st') → XW G A ad st H → va_S A s.heap H locs → lv_has ls 2 [(1, .int x1)] → W p l e ({ frames := 6, cells := 1, slots := 6, locals := 100 } : Room) s m args below meth c H locs cells slots (vx_MQ below (QXr G A ad (ovw (fun _ => none) r) st') (QXx G A ad (ovw (fun _ => none) r) st') args s 1 6 A) (F0 m 29 ls []) := by
  have ⟨⟨hx, hb, hr, hml, hown, hT, hlocks, hK⟩, hnt, hST, hA, hll⟩ := B
  intro cells slots st x1 H locs ls hc hs h hM hS hl
  rw [f_X5_checkCamera_29] at h
  refine lv_iload_n hx hb dX5_checkCamera_29 rfl (lv_at hl 0 rfl) ?_
  refine lv_if_lt (tgt := 38) hx hb dX5_checkCamera_30 (by decide) (fun c1 => ?_) (fun c1 => ?_)
  · have h := bi_t c1 h
    exact w_X5_checkCamera_38 B _ _ _ _ _ _ (by omega) (by omega) h hM hS (lv_sub hl [] rfl)
  · have h := bi_f c1 h
    refine lv_iload_n hx hb dX5_checkCamera_33 rfl (lv_at hl 0 rfl) ?_
    refine lv_iconst (v := 5) hx hb dX5_checkCamera_34 (by decide) ?_
    refine lv_icmp_lt (tgt := 49) hx hb dX5_checkCamera_35 (by decide) (fun c2 => ?_) (fun c2 => ?_)
    · have h := bi_t c2 h
      cases h
      exact xx_vret B hM hS (by omega) (by omega) dX5_checkCamera_49 rfl
    · have h := bi_f c2 h
      exact w_X5_checkCamera_38 B _ _ _ _ _ _ (by omega) (by omega) h hM hS (lv_sub hl [] rfl)
set_option maxHeartbeats 4000000 in
set_option maxRecDepth 100000 in
theorem w_X5_checkCamera {p : Program} {l : Launch} {e : Env} {s : State} {m : MethodId} {args : Array Value} {below : List Frame} {meth : Method} {c : Code} {G : GG} {A : Nat → Prop} {ad : AD} (B : XB G A ad p l s m args meth c cX5_checkCamera 2 RX5 none) {r : (Nat ⊕ Unit)} {st' : XS} : ∀ (cells slots : Nat) (st : XS) (x0 : Int32) (x1 : Int32) (H : Heap) (locs : List Loc) (ls : Array Slot), cells + 1 ≤ 1 → slots + 6 ≤ 6 → f_X5_checkCamera st x0 x1 = some (r, st') → XW G A ad st H → va_S A s.heap H locs → lv_has ls 2 [(0, .int x0), (1, .int x1)] → W p l e ({ frames := 6, cells := 1, slots := 6, locals := 100 } : Room) s m args below meth c H locs cells slots (vx_MQ below (QXr G A ad (ovw (fun _ => none) r) st') (QXx G A ad (ovw (fun _ => none) r) st') args s 1 6 A) (F0 m 0 ls []) := by
  have ⟨⟨hx, hb, hr, hml, hown, hT, hlocks, hK⟩, hnt, hST, hA, hll⟩ := B
  intro cells slots st x0 x1 H locs ls hc hs h hM hS hl
  rw [f_X5_checkCamera] at h
  refine lv_iload_n hx hb dX5_checkCamera_0 rfl (lv_at hl 0 rfl) ?_
  refine lv_bipush (v := 115) hx hb dX5_checkCamera_1 (by decide) ?_
  refine lv_icmp_eq (tgt := 29) hx hb dX5_checkCamera_3 (by decide) (fun c1 => ?_) (fun c1 => ?_)
  · have h := bi_t c1 h
    exact w_X5_checkCamera_29 B _ _ _ _ _ _ _ (by omega) (by omega) h hM hS (lv_sub hl [1] rfl)
  · have h := bi_f c1 h
    refine lv_iload_n hx hb dX5_checkCamera_6 rfl (lv_at hl 0 rfl) ?_
    refine lv_bipush (v := 110) hx hb dX5_checkCamera_7 (by decide) ?_
    refine lv_icmp_eq (tgt := 29) hx hb dX5_checkCamera_9 (by decide) (fun c2 => ?_) (fun c2 => ?_)
    · have h := bi_t c2 h
      exact w_X5_checkCamera_29 B _ _ _ _ _ _ _ (by omega) (by omega) h hM hS (lv_sub hl [1] rfl)
    · have h := bi_f c2 h
      refine lv_iload_n hx hb dX5_checkCamera_12 rfl (lv_at hl 0 rfl) ?_
      refine lv_bipush (v := 48) hx hb dX5_checkCamera_13 (by decide) ?_
      refine lv_icmp_eq (tgt := 29) hx hb dX5_checkCamera_15 (by decide) (fun c3 => ?_) (fun c3 => ?_)
      · have h := bi_t c3 h
        exact w_X5_checkCamera_29 B _ _ _ _ _ _ _ (by omega) (by omega) h hM hS (lv_sub hl [1] rfl)
      · have h := bi_f c3 h
        cases h
        exact xw_throw (k := 0) (ik := 41) (ic := 45) (is := 337) (text := "no such side") B hM hS wk_RX5_41 wn_java_lang_IllegalArgumentException at_0 an_0 ag_0 (by decide +kernel) (by decide +kernel) hl.1 ⟨⟨dX5_checkCamera_18, dX5_checkCamera_21⟩, Or.inr ⟨dX5_checkCamera_22, dX5_checkCamera_25, dX5_checkCamera_28⟩⟩ (Nat.le_of_ble_eq_true rfl) (Nat.le_of_ble_eq_true rfl) (by show _ ≤ 1; omega) (by show _ ≤ 6; omega) (by omega) (by omega) rfl
theorem c_X5_checkCamera {l : Launch} (hll : l.stackTraces = false) {G : GG} {A : Nat → Prop} {ad : AD} {st : XS} {x0 : Int32} {x1 : Int32} {r : (Nat ⊕ Unit)} {st' : XS} (h : f_X5_checkCamera st x0 x1 = some (r, st')) : vx_Met l yX5_checkCamera (Cond.code yX5_checkCamera cX5_checkCamera 2 none :: TG) ({ frames := 6, cells := 1, slots := 6, locals := 100 } : Room) (PX G A ad st [.int x0, .int x1]) (QXr G A ad (ovw (fun _ => none) r) st') (QXx G A ad (ovw (fun _ => none) r) st') 1 6 A :=
  xx_of (own := RX5) hll (by decide +kernel) rfl (Nat.le_of_ble_eq_true rfl) fun p e s m below meth c ls B hM hS hl => w_X5_checkCamera B _ _ _ _ _ _ _ _ (Nat.le_of_ble_eq_true rfl) (Nat.le_of_ble_eq_true rfl) h hM hS hl
set_option maxHeartbeats 4000000 in
set_option maxRecDepth 100000 in
theorem w_X5_checkInReel {p : Program} {l : Launch} {e : Env} {s : State} {m : MethodId} {args : Array Value} {below : List Frame} {meth : Method} {c : Code} {G : GG} {A : Nat → Prop} {ad : AD} (B : XB G A ad p l s m args meth c cX5_checkInReel 2 RX5 none) {r : (Nat ⊕ Unit)} {st' : XS} : ∀ (cells slots : Nat) (st : XS) (x1 : Nat) (H : Heap) (locs : List Loc) (ls : Array Slot), cells + 1 ≤ 1 → slots + 6 ≤ 6 → f_X5_checkInReel st x1 = some (r, st') → XW G A ad st H → va_S A s.heap H locs → lv_has ls 2 [(0, .ref (ad 0 0)), (1, .ref (ad 1 x1))] → W p l e ({ frames := 7, cells := 1, slots := 6, locals := 122 } : Room) s m args below meth c H locs cells slots (vx_MQ below (QXr G A ad (ovw (fun _ => none) r) st') (QXx G A ad (ovw (fun _ => none) r) st') args s 1 6 A) (F0 m 0 ls []) := by
  have ⟨⟨hx, hb, hr, hml, hown, hT, hlocks, hK⟩, hnt, hST, hA, hll⟩ := B
  intro cells slots st x1 H locs ls hc hs h hM hS hl
  rw [f_X5_checkInReel] at h
  refine lv_aload_n hx hb dX5_checkInReel_0 rfl (lv_at hl 0 rfl) ?_
  refine lv_aload_n hx hb dX5_checkInReel_1 rfl (lv_at hl 1 rfl) ?_
  rcases bdx_e h with ⟨k4, t2, e3, h⟩ | ⟨r1, t2, e3, h⟩
  · cases h
    exact xx_goV B hM hS (xw_recv (xb_vk B) hM 0 0 (Or.inl xv_0) (fun gh => ⟨_, rfl⟩) rfl) [.ref (ad 1 x1)] (n := 1) (c_X5_placeInReel B.2.2.2.2 e3) wm_RX5_97 wi_yX5_placeInReel ws_yX5_placeInReel wn_RX5 wc_yX5_placeInReel rfl rfl (by decide +kernel) ⟨Nat.le_of_ble_eq_true rfl, Nat.le_of_ble_eq_true rfl⟩ ⟨(by show _ ≤ 1; omega), (by show _ ≤ 6; omega)⟩ rfl hl.1 (Nat.le_of_ble_eq_true rfl) rfl dX5_checkInReel_2 (by omega) (by omega) rfl
  · refine xx_callV B hM hS (xw_recv (xb_vk B) hM 0 0 (Or.inl xv_0) (fun gh => ⟨_, rfl⟩) rfl) [.ref (ad 1 x1)] (n := 1) (v := (some (.int r1))) (c_X5_placeInReel B.2.2.2.2 e3) wm_RX5_97 wi_yX5_placeInReel ws_yX5_placeInReel wn_RX5 wc_yX5_placeInReel rfl rfl (by decide +kernel) ⟨Nat.le_of_ble_eq_true rfl, Nat.le_of_ble_eq_true rfl⟩ ⟨(by show _ ≤ 1; omega), (by show _ ≤ 6; omega)⟩ rfl hl.1 (Nat.le_of_ble_eq_true rfl) rfl dX5_checkInReel_2 (fun H locs hM hS => ?_)
    refine lv_pop hx hb dX5_checkInReel_5 rfl ?_
    cases h
    exact xx_vret B hM hS (by omega) (by omega) dX5_checkInReel_6 rfl
theorem c_X5_checkInReel {l : Launch} (hll : l.stackTraces = false) {G : GG} {A : Nat → Prop} {ad : AD} {st : XS} {x1 : Nat} {r : (Nat ⊕ Unit)} {st' : XS} (h : f_X5_checkInReel st x1 = some (r, st')) : vx_Met l yX5_checkInReel (Cond.code yX5_checkInReel cX5_checkInReel 2 none :: TG) ({ frames := 7, cells := 1, slots := 6, locals := 122 } : Room) (PX G A ad st [.ref (ad 0 0), .ref (ad 1 x1)]) (QXr G A ad (ovw (fun _ => none) r) st') (QXx G A ad (ovw (fun _ => none) r) st') 1 6 A :=
  xx_of (own := RX5) hll (by decide +kernel) rfl (Nat.le_of_ble_eq_true rfl) fun p e s m below meth c ls B hM hS hl => w_X5_checkInReel B _ _ _ _ _ _ _ (Nat.le_of_ble_eq_true rfl) (Nat.le_of_ble_eq_true rfl) h hM hS hl
set_option maxHeartbeats 4000000 in
set_option maxRecDepth 100000 in
theorem w_X5_camera {p : Program} {l : Launch} {e : Env} {s : State} {m : MethodId} {args : Array Value} {below : List Frame} {meth : Method} {c : Code} {G : GG} {A : Nat → Prop} {ad : AD} (B : XB G A ad p l s m args meth c cX5_camera 5 RX5 (some .int)) {r : (Nat ⊕ Int32)} {st' : XS} : ∀ (cells slots : Nat) (st : XS) (x1 : Int32) (x2 : Int32) (x3 : Int32) (H : Heap) (locs : List Loc) (ls : Array Slot), cells + 3 ≤ 3 → slots + 18 ≤ 18 → f_X5_camera st x1 x2 x3 = some (r, st') → XW G A ad st H → va_S A s.heap H locs → lv_has ls 5 [(0, .ref (ad 0 0)), (1, .int x1), (2, .int x2), (3, .int x3)] → W p l e ({ frames := 8, cells := 3, slots := 18, locals := 143 } : Room) s m args below meth c H locs cells slots (vx_MQ below (QXr G A ad (ovw (fun x => some (.int x)) r) st') (QXx G A ad (ovw (fun x => some (.int x)) r) st') args s 3 18 A) (F0 m 0 ls []) := by
  have ⟨⟨hx, hb, hr, hml, hown, hT, hlocks, hK⟩, hnt, hST, hA, hll⟩ := B
  intro cells slots st x1 x2 x3 H locs ls hc hs h hM hS hl
  rw [f_X5_camera] at h
  refine lv_aload_n hx hb dX5_camera_0 rfl (lv_at hl 0 rfl) ?_
  refine lv_iload_n hx hb dX5_camera_1 rfl (lv_at hl 1 rfl) ?_
  rcases bdx_e h with ⟨k4, t2, e3, h⟩ | ⟨r1, t2, e3, h⟩
  · cases h
    exact xx_goV B hM hS (xw_recv (xb_vk B) hM 0 0 (Or.inl xv_0) (fun gh => ⟨_, rfl⟩) rfl) [.int x1] (n := 1) (c_X5_madeShot B.2.2.2.2 e3) wm_RX5_93 wi_yX5_madeShot ws_yX5_madeShot wn_RX5 wc_yX5_madeShot rfl rfl (by decide +kernel) ⟨Nat.le_of_ble_eq_true rfl, Nat.le_of_ble_eq_true rfl⟩ ⟨(by show _ ≤ 3; omega), (by show _ ≤ 18; omega)⟩ rfl hl.1 (Nat.le_of_ble_eq_true rfl) rfl dX5_camera_2 (by omega) (by omega) rfl
  · refine xx_callV B hM hS (xw_recv (xb_vk B) hM 0 0 (Or.inl xv_0) (fun gh => ⟨_, rfl⟩) rfl) [.int x1] (n := 1) (v := (some (.ref (ad 1 r1)))) (c_X5_madeShot B.2.2.2.2 e3) wm_RX5_93 wi_yX5_madeShot ws_yX5_madeShot wn_RX5 wc_yX5_madeShot rfl rfl (by decide +kernel) ⟨Nat.le_of_ble_eq_true rfl, Nat.le_of_ble_eq_true rfl⟩ ⟨(by show _ ≤ 3; omega), (by show _ ≤ 18; omega)⟩ rfl hl.1 (Nat.le_of_ble_eq_true rfl) rfl dX5_camera_2 (fun H locs hM hS => ?_)
    refine lv_astore (lv' := [(4, .ref (ad 1 r1)), (0, .ref (ad 0 0)), (1, .int x1), (2, .int x2), (3, .int x3)]) hx hb dX5_camera_5 hl (by decide) rfl (fun ls hl => ?_)
    refine lv_iload_n hx hb dX5_camera_7 rfl (lv_at hl 3 rfl) ?_
    refine lv_iload_n hx hb dX5_camera_8 rfl (lv_at hl 4 rfl) ?_
    rcases bdx_e h with ⟨k8, t6, e7, h⟩ | ⟨r5, t6, e7, h⟩
    · cases h
      exact xx_goS B hM hS [.int x2, .int x3] (n := 2) (c_X5_checkCamera B.2.2.2.2 e7) wm_RX5_29 wt_yX5_checkCamera wn_RX5 wc_yX5_checkCamera rfl rfl (by decide +kernel) ⟨Nat.le_of_ble_eq_true rfl, Nat.le_of_ble_eq_true rfl⟩ ⟨(by show _ ≤ 3; omega), (by show _ ≤ 18; omega)⟩ rfl hl.1 (Nat.le_of_ble_eq_true rfl) rfl dX5_camera_9 (by omega) (by omega) rfl
    · refine xx_callS B hM hS [.int x2, .int x3] (n := 2) (v := none) (c_X5_checkCamera B.2.2.2.2 e7) wm_RX5_29 wt_yX5_checkCamera wn_RX5 wc_yX5_checkCamera rfl rfl (by decide +kernel) ⟨Nat.le_of_ble_eq_true rfl, Nat.le_of_ble_eq_true rfl⟩ ⟨(by show _ ≤ 3; omega), (by show _ ≤ 18; omega)⟩ rfl hl.1 (Nat.le_of_ble_eq_true rfl) rfl dX5_camera_9 (fun H locs hM hS => ?_)
      refine lv_aload_n hx hb dX5_camera_12 rfl (lv_at hl 1 rfl) ?_
      refine lv_aload hx hb dX5_camera_13 (lv_at hl 0 rfl) ?_
      rcases bdx_e h with ⟨k12, t10, e11, h⟩ | ⟨r9, t10, e11, h⟩
      · cases h
        exact xx_goV B hM hS (xw_recv (xb_vk B) hM 0 0 (Or.inl xv_0) (fun gh => ⟨_, rfl⟩) rfl) [.ref (ad 1 r1)] (n := 1) (c_X5_checkInReel B.2.2.2.2 e11) wm_RX5_122 wi_yX5_checkInReel ws_yX5_checkInReel wn_RX5 wc_yX5_checkInReel rfl rfl (by decide +kernel) ⟨Nat.le_of_ble_eq_true rfl, Nat.le_of_ble_eq_true rfl⟩ ⟨(by show _ ≤ 3; omega), (by show _ ≤ 18; omega)⟩ rfl hl.1 (Nat.le_of_ble_eq_true rfl) rfl dX5_camera_15 (by omega) (by omega) rfl
      · refine xx_callV B hM hS (xw_recv (xb_vk B) hM 0 0 (Or.inl xv_0) (fun gh => ⟨_, rfl⟩) rfl) [.ref (ad 1 r1)] (n := 1) (v := none) (c_X5_checkInReel B.2.2.2.2 e11) wm_RX5_122 wi_yX5_checkInReel ws_yX5_checkInReel wn_RX5 wc_yX5_checkInReel rfl rfl (by decide +kernel) ⟨Nat.le_of_ble_eq_true rfl, Nat.le_of_ble_eq_true rfl⟩ ⟨(by show _ ≤ 3; omega), (by show _ ≤ 18; omega)⟩ rfl hl.1 (Nat.le_of_ble_eq_true rfl) rfl dX5_camera_15 (fun H locs hM hS => ?_)
        refine lv_aload hx hb dX5_camera_18 (lv_at hl 0 rfl) ?_
        refine lv_iload_n hx hb dX5_camera_20 rfl (lv_at hl 3 rfl) ?_
        refine lv_iload_n hx hb dX5_camera_21 rfl (lv_at hl 4 rfl) ?_
        obtain ⟨v13, h⟩ := gd_e h
        obtain ⟨r14, t15, e16, h⟩ := bd_e h
        refine xw_callV B hM hS (xw_recv (xb_vk B) hM 1 r1 (Or.inl (xv_s (k := 1) (by decide) v13)) (fun gh => ⟨_, rfl⟩) rfl) [.int x2, .int x3] (n := 2) (v := none) (c_X4_film B.2.2.2.2 e16) wm_RX5_126 wi_yX4_film ws_yX4_film wn_RX4 wc_yX4_film rfl rfl (by decide +kernel) ⟨Nat.le_of_ble_eq_true rfl, Nat.le_of_ble_eq_true rfl⟩ ⟨(by show _ ≤ 3; omega), (by show _ ≤ 18; omega)⟩ rfl hl.1 (Nat.le_of_ble_eq_true rfl) rfl dX5_camera_22 (fun H locs hM hS => ?_)
        refine lv_aload hx hb dX5_camera_25 (lv_at hl 0 rfl) ?_
        obtain ⟨v17, h⟩ := gd_e h
        refine xw_get B.1 hM 1 r1 (xv_s (k := 1) (by decide) v17) (ci := 5) (N := 12) (fs := fSh ad t15 r1) (C := RX4) (T := TX4) (fun _ => rfl) rfl inX4 6 (by decide) wf_RX5_105 rfl (v := .int (xF t15 1 r1 6)) rfl dX5_camera_27 ?_
        cases h
        exact xx_iret B hM hS (by omega) (by omega) dX5_camera_30 rfl
theorem c_X5_camera {l : Launch} (hll : l.stackTraces = false) {G : GG} {A : Nat → Prop} {ad : AD} {st : XS} {x1 : Int32} {x2 : Int32} {x3 : Int32} {r : (Nat ⊕ Int32)} {st' : XS} (h : f_X5_camera st x1 x2 x3 = some (r, st')) : vx_Met l yX5_camera (Cond.code yX5_camera cX5_camera 5 (some .int) :: TG) ({ frames := 8, cells := 3, slots := 18, locals := 143 } : Room) (PX G A ad st [.ref (ad 0 0), .int x1, .int x2, .int x3]) (QXr G A ad (ovw (fun x => some (.int x)) r) st') (QXx G A ad (ovw (fun x => some (.int x)) r) st') 3 18 A :=
  xx_of (own := RX5) hll (by decide +kernel) rfl (Nat.le_of_ble_eq_true rfl) fun p e s m below meth c ls B hM hS hl => w_X5_camera B _ _ _ _ _ _ _ _ _ (Nat.le_of_ble_eq_true rfl) (Nat.le_of_ble_eq_true rfl) h hM hS hl
set_option maxHeartbeats 4000000 in
set_option maxRecDepth 100000 in
theorem w_X5_checkLength_12 {p : Program} {l : Launch} {e : Env} {s : State} {m : MethodId} {args : Array Value} {below : List Frame} {meth : Method} {c : Code} {G : GG} {A : Nat → Prop} {ad : AD} (B : XB G A ad p l s m args meth c cX5_checkLength 1 RX5 none) {r : (Nat ⊕ Unit)} {st' : XS} : ∀ (cells slots : Nat) (st : XS) (H : Heap) (locs : List Loc) (ls : Array Slot), cells + 1 ≤ 1 → slots + 6 ≤ 6 → f_X5_checkLength_12 st = some (r, st') → XW G A ad st H → va_S A s.heap H locs → lv_has ls 1 [] → W p l e ({ frames := 6, cells := 1, slots := 6, locals := 100 } : Room) s m args below meth c H locs cells slots (vx_MQ below (QXr G A ad (ovw (fun _ => none) r) st') (QXx G A ad (ovw (fun _ => none) r) st') args s 1 6 A) (F0 m 12 ls []) := by
  have ⟨⟨hx, hb, hr, hml, hown, hT, hlocks, hK⟩, hnt, hST, hA, hll⟩ := B
  intro cells slots st  H locs ls hc hs h hM hS hl
  rw [f_X5_checkLength_12] at h
  cases h
  exact xw_throw (k := 0) (ik := 41) (ic := 45) (is := 185) (text := "no such length") B hM hS wk_RX5_41 wn_java_lang_IllegalArgumentException at_0 an_0 ag_0 (by decide +kernel) (by decide +kernel) hl.1 ⟨⟨dX5_checkLength_12, dX5_checkLength_15⟩, Or.inl ⟨dX5_checkLength_16, dX5_checkLength_18, dX5_checkLength_21⟩⟩ (Nat.le_of_ble_eq_true rfl) (Nat.le_of_ble_eq_true rfl) (by show _ ≤ 1; omega) (by show _ ≤ 6; omega) (by omega) (by omega) rfl
set_option maxHeartbeats 4000000 in
set_option maxRecDepth 100000 in
theorem w_X5_checkLength {p : Program} {l : Launch} {e : Env} {s : State} {m : MethodId} {args : Array Value} {below : List Frame} {meth : Method} {c : Code} {G : GG} {A : Nat → Prop} {ad : AD} (B : XB G A ad p l s m args meth c cX5_checkLength 1 RX5 none) {r : (Nat ⊕ Unit)} {st' : XS} : ∀ (cells slots : Nat) (st : XS) (x0 : Int32) (H : Heap) (locs : List Loc) (ls : Array Slot), cells + 1 ≤ 1 → slots + 6 ≤ 6 → f_X5_checkLength st x0 = some (r, st') → XW G A ad st H → va_S A s.heap H locs → lv_has ls 1 [(0, .int x0)] → W p l e ({ frames := 6, cells := 1, slots := 6, locals := 100 } : Room) s m args below meth c H locs cells slots (vx_MQ below (QXr G A ad (ovw (fun _ => none) r) st') (QXx G A ad (ovw (fun _ => none) r) st') args s 1 6 A) (F0 m 0 ls []) := by
  have ⟨⟨hx, hb, hr, hml, hown, hT, hlocks, hK⟩, hnt, hST, hA, hll⟩ := B
  intro cells slots st x0 H locs ls hc hs h hM hS hl
  rw [f_X5_checkLength] at h
  refine lv_iload_n hx hb dX5_checkLength_0 rfl (lv_at hl 0 rfl) ?_
  refine lv_iconst (v := 1) hx hb dX5_checkLength_1 (by decide) ?_
  refine lv_icmp_lt (tgt := 12) hx hb dX5_checkLength_2 (by decide) (fun c1 => ?_) (fun c1 => ?_)
  · have h := bi_t c1 h
    exact w_X5_checkLength_12 B _ _ _ _ _ _ (by omega) (by omega) h hM hS (lv_sub hl [] rfl)
  · have h := bi_f c1 h
    refine lv_iload_n hx hb dX5_checkLength_5 rfl (lv_at hl 0 rfl) ?_
    refine lv_sipush (v := 240) hx hb dX5_checkLength_6 (by decide) ?_
    refine lv_icmp_le (tgt := 22) hx hb dX5_checkLength_9 (by decide) (fun c2 => ?_) (fun c2 => ?_)
    · have h := bi_t c2 h
      cases h
      exact xx_vret B hM hS (by omega) (by omega) dX5_checkLength_22 rfl
    · have h := bi_f c2 h
      exact w_X5_checkLength_12 B _ _ _ _ _ _ (by omega) (by omega) h hM hS (lv_sub hl [] rfl)
theorem c_X5_checkLength {l : Launch} (hll : l.stackTraces = false) {G : GG} {A : Nat → Prop} {ad : AD} {st : XS} {x0 : Int32} {r : (Nat ⊕ Unit)} {st' : XS} (h : f_X5_checkLength st x0 = some (r, st')) : vx_Met l yX5_checkLength (Cond.code yX5_checkLength cX5_checkLength 1 none :: TG) ({ frames := 6, cells := 1, slots := 6, locals := 100 } : Room) (PX G A ad st [.int x0]) (QXr G A ad (ovw (fun _ => none) r) st') (QXx G A ad (ovw (fun _ => none) r) st') 1 6 A :=
  xx_of (own := RX5) hll (by decide +kernel) rfl (Nat.le_of_ble_eq_true rfl) fun p e s m below meth c ls B hM hS hl => w_X5_checkLength B _ _ _ _ _ _ _ (Nat.le_of_ble_eq_true rfl) (Nat.le_of_ble_eq_true rfl) h hM hS hl
set_option maxHeartbeats 4000000 in
set_option maxRecDepth 100000 in
theorem w_X5_length {p : Program} {l : Launch} {e : Env} {s : State} {m : MethodId} {args : Array Value} {below : List Frame} {meth : Method} {c : Code} {G : GG} {A : Nat → Prop} {ad : AD} (B : XB G A ad p l s m args meth c cX5_length 4 RX5 (some .int)) {r : (Nat ⊕ Int32)} {st' : XS} : ∀ (cells slots : Nat) (st : XS) (x1 : Int32) (x2 : Int32) (H : Heap) (locs : List Loc) (ls : Array Slot), cells + 3 ≤ 3 → slots + 18 ≤ 18 → f_X5_length st x1 x2 = some (r, st') → XW G A ad st H → va_S A s.heap H locs → lv_has ls 4 [(0, .ref (ad 0 0)), (1, .int x1), (2, .int x2)] → W p l e ({ frames := 8, cells := 3, slots := 18, locals := 143 } : Room) s m args below meth c H locs cells slots (vx_MQ below (QXr G A ad (ovw (fun x => some (.int x)) r) st') (QXx G A ad (ovw (fun x => some (.int x)) r) st') args s 3 18 A) (F0 m 0 ls []) := by
  have ⟨⟨hx, hb, hr, hml, hown, hT, hlocks, hK⟩, hnt, hST, hA, hll⟩ := B
  intro cells slots st x1 x2 H locs ls hc hs h hM hS hl
  rw [f_X5_length] at h
  refine lv_aload_n hx hb dX5_length_0 rfl (lv_at hl 0 rfl) ?_
  refine lv_iload_n hx hb dX5_length_1 rfl (lv_at hl 1 rfl) ?_
  rcases bdx_e h with ⟨k4, t2, e3, h⟩ | ⟨r1, t2, e3, h⟩
  · cases h
    exact xx_goV B hM hS (xw_recv (xb_vk B) hM 0 0 (Or.inl xv_0) (fun gh => ⟨_, rfl⟩) rfl) [.int x1] (n := 1) (c_X5_madeShot B.2.2.2.2 e3) wm_RX5_93 wi_yX5_madeShot ws_yX5_madeShot wn_RX5 wc_yX5_madeShot rfl rfl (by decide +kernel) ⟨Nat.le_of_ble_eq_true rfl, Nat.le_of_ble_eq_true rfl⟩ ⟨(by show _ ≤ 3; omega), (by show _ ≤ 18; omega)⟩ rfl hl.1 (Nat.le_of_ble_eq_true rfl) rfl dX5_length_2 (by omega) (by omega) rfl
  · refine xx_callV B hM hS (xw_recv (xb_vk B) hM 0 0 (Or.inl xv_0) (fun gh => ⟨_, rfl⟩) rfl) [.int x1] (n := 1) (v := (some (.ref (ad 1 r1)))) (c_X5_madeShot B.2.2.2.2 e3) wm_RX5_93 wi_yX5_madeShot ws_yX5_madeShot wn_RX5 wc_yX5_madeShot rfl rfl (by decide +kernel) ⟨Nat.le_of_ble_eq_true rfl, Nat.le_of_ble_eq_true rfl⟩ ⟨(by show _ ≤ 3; omega), (by show _ ≤ 18; omega)⟩ rfl hl.1 (Nat.le_of_ble_eq_true rfl) rfl dX5_length_2 (fun H locs hM hS => ?_)
    refine lv_astore_n (lv' := [(3, .ref (ad 1 r1)), (0, .ref (ad 0 0)), (1, .int x1), (2, .int x2)]) hx hb dX5_length_5 rfl hl (by decide) rfl (fun ls hl => ?_)
    refine lv_iload_n hx hb dX5_length_6 rfl (lv_at hl 3 rfl) ?_
    rcases bdx_e h with ⟨k8, t6, e7, h⟩ | ⟨r5, t6, e7, h⟩
    · cases h
      exact xx_goS B hM hS [.int x2] (n := 1) (c_X5_checkLength B.2.2.2.2 e7) wm_RX5_33 wt_yX5_checkLength wn_RX5 wc_yX5_checkLength rfl rfl (by decide +kernel) ⟨Nat.le_of_ble_eq_true rfl, Nat.le_of_ble_eq_true rfl⟩ ⟨(by show _ ≤ 3; omega), (by show _ ≤ 18; omega)⟩ rfl hl.1 (Nat.le_of_ble_eq_true rfl) rfl dX5_length_7 (by omega) (by omega) rfl
    · refine xx_callS B hM hS [.int x2] (n := 1) (v := none) (c_X5_checkLength B.2.2.2.2 e7) wm_RX5_33 wt_yX5_checkLength wn_RX5 wc_yX5_checkLength rfl rfl (by decide +kernel) ⟨Nat.le_of_ble_eq_true rfl, Nat.le_of_ble_eq_true rfl⟩ ⟨(by show _ ≤ 3; omega), (by show _ ≤ 18; omega)⟩ rfl hl.1 (Nat.le_of_ble_eq_true rfl) rfl dX5_length_7 (fun H locs hM hS => ?_)
      refine lv_aload_n hx hb dX5_length_10 rfl (lv_at hl 1 rfl) ?_
      refine lv_aload_n hx hb dX5_length_11 rfl (lv_at hl 0 rfl) ?_
      rcases bdx_e h with ⟨k12, t10, e11, h⟩ | ⟨r9, t10, e11, h⟩
      · cases h
        exact xx_goV B hM hS (xw_recv (xb_vk B) hM 0 0 (Or.inl xv_0) (fun gh => ⟨_, rfl⟩) rfl) [.ref (ad 1 r1)] (n := 1) (c_X5_checkInReel B.2.2.2.2 e11) wm_RX5_122 wi_yX5_checkInReel ws_yX5_checkInReel wn_RX5 wc_yX5_checkInReel rfl rfl (by decide +kernel) ⟨Nat.le_of_ble_eq_true rfl, Nat.le_of_ble_eq_true rfl⟩ ⟨(by show _ ≤ 3; omega), (by show _ ≤ 18; omega)⟩ rfl hl.1 (Nat.le_of_ble_eq_true rfl) rfl dX5_length_12 (by omega) (by omega) rfl
      · refine xx_callV B hM hS (xw_recv (xb_vk B) hM 0 0 (Or.inl xv_0) (fun gh => ⟨_, rfl⟩) rfl) [.ref (ad 1 r1)] (n := 1) (v := none) (c_X5_checkInReel B.2.2.2.2 e11) wm_RX5_122 wi_yX5_checkInReel ws_yX5_checkInReel wn_RX5 wc_yX5_checkInReel rfl rfl (by decide +kernel) ⟨Nat.le_of_ble_eq_true rfl, Nat.le_of_ble_eq_true rfl⟩ ⟨(by show _ ≤ 3; omega), (by show _ ≤ 18; omega)⟩ rfl hl.1 (Nat.le_of_ble_eq_true rfl) rfl dX5_length_12 (fun H locs hM hS => ?_)
        refine lv_aload_n hx hb dX5_length_15 rfl (lv_at hl 0 rfl) ?_
        refine lv_iload_n hx hb dX5_length_16 rfl (lv_at hl 3 rfl) ?_
        obtain ⟨v13, h⟩ := gd_e h
        obtain ⟨r14, t15, e16, h⟩ := bd_e h
        refine xw_callV B hM hS (xw_recv (xb_vk B) hM 1 r1 (Or.inl (xv_s (k := 1) (by decide) v13)) (fun gh => ⟨_, rfl⟩) rfl) [.int x2] (n := 1) (v := (some (.int r14))) (c_X4_changeLength B.2.2.2.2 e16) wm_RX5_129 wi_yX4_changeLength ws_yX4_changeLength wn_RX4 wc_yX4_changeLength rfl rfl (by decide +kernel) ⟨Nat.le_of_ble_eq_true rfl, Nat.le_of_ble_eq_true rfl⟩ ⟨(by show _ ≤ 3; omega), (by show _ ≤ 18; omega)⟩ rfl hl.1 (Nat.le_of_ble_eq_true rfl) rfl dX5_length_17 (fun H locs hM hS => ?_)
        cases h
        exact xx_iret B hM hS (by omega) (by omega) dX5_length_20 rfl
theorem c_X5_length {l : Launch} (hll : l.stackTraces = false) {G : GG} {A : Nat → Prop} {ad : AD} {st : XS} {x1 : Int32} {x2 : Int32} {r : (Nat ⊕ Int32)} {st' : XS} (h : f_X5_length st x1 x2 = some (r, st')) : vx_Met l yX5_length (Cond.code yX5_length cX5_length 4 (some .int) :: TG) ({ frames := 8, cells := 3, slots := 18, locals := 143 } : Room) (PX G A ad st [.ref (ad 0 0), .int x1, .int x2]) (QXr G A ad (ovw (fun x => some (.int x)) r) st') (QXx G A ad (ovw (fun x => some (.int x)) r) st') 3 18 A :=
  xx_of (own := RX5) hll (by decide +kernel) rfl (Nat.le_of_ble_eq_true rfl) fun p e s m below meth c ls B hM hS hl => w_X5_length B _ _ _ _ _ _ _ _ (Nat.le_of_ble_eq_true rfl) (Nat.le_of_ble_eq_true rfl) h hM hS hl
set_option maxHeartbeats 4000000 in
set_option maxRecDepth 100000 in
theorem w_X5_checkCharacter_9 {p : Program} {l : Launch} {e : Env} {s : State} {m : MethodId} {args : Array Value} {below : List Frame} {meth : Method} {c : Code} {G : GG} {A : Nat → Prop} {ad : AD} (B : XB G A ad p l s m args meth c cX5_checkCharacter 1 RX5 none) {r : (Nat ⊕ Unit)} {st' : XS} : ∀ (cells slots : Nat) (st : XS) (H : Heap) (locs : List Loc) (ls : Array Slot), cells + 1 ≤ 1 → slots + 6 ≤ 6 → f_X5_checkCharacter_9 st = some (r, st') → XW G A ad st H → va_S A s.heap H locs → lv_has ls 1 [] → W p l e ({ frames := 6, cells := 1, slots := 6, locals := 100 } : Room) s m args below meth c H locs cells slots (vx_MQ below (QXr G A ad (ovw (fun _ => none) r) st') (QXx G A ad (ovw (fun _ => none) r) st') args s 1 6 A) (F0 m 9 ls []) := by
  have ⟨⟨hx, hb, hr, hml, hown, hT, hlocks, hK⟩, hnt, hST, hA, hll⟩ := B
  intro cells slots st  H locs ls hc hs h hM hS hl
  rw [f_X5_checkCharacter_9] at h
  cases h
  exact xw_throw (k := 0) (ik := 41) (ic := 45) (is := 341) (text := "no such character") B hM hS wk_RX5_41 wn_java_lang_IllegalArgumentException at_0 an_0 ag_0 (by decide +kernel) (by decide +kernel) hl.1 ⟨⟨dX5_checkCharacter_9, dX5_checkCharacter_12⟩, Or.inr ⟨dX5_checkCharacter_13, dX5_checkCharacter_16, dX5_checkCharacter_19⟩⟩ (Nat.le_of_ble_eq_true rfl) (Nat.le_of_ble_eq_true rfl) (by show _ ≤ 1; omega) (by show _ ≤ 6; omega) (by omega) (by omega) rfl
set_option maxHeartbeats 4000000 in
set_option maxRecDepth 100000 in
theorem w_X5_checkCharacter {p : Program} {l : Launch} {e : Env} {s : State} {m : MethodId} {args : Array Value} {below : List Frame} {meth : Method} {c : Code} {G : GG} {A : Nat → Prop} {ad : AD} (B : XB G A ad p l s m args meth c cX5_checkCharacter 1 RX5 none) {r : (Nat ⊕ Unit)} {st' : XS} : ∀ (cells slots : Nat) (st : XS) (x0 : Int32) (H : Heap) (locs : List Loc) (ls : Array Slot), cells + 1 ≤ 1 → slots + 6 ≤ 6 → f_X5_checkCharacter st x0 = some (r, st') → XW G A ad st H → va_S A s.heap H locs → lv_has ls 1 [(0, .int x0)] → W p l e ({ frames := 6, cells := 1, slots := 6, locals := 100 } : Room) s m args below meth c H locs cells slots (vx_MQ below (QXr G A ad (ovw (fun _ => none) r) st') (QXx G A ad (ovw (fun _ => none) r) st') args s 1 6 A) (F0 m 0 ls []) := by
  have ⟨⟨hx, hb, hr, hml, hown, hT, hlocks, hK⟩, hnt, hST, hA, hll⟩ := B
  intro cells slots st x0 H locs ls hc hs h hM hS hl
  rw [f_X5_checkCharacter] at h
  refine lv_iload_n hx hb dX5_checkCharacter_0 rfl (lv_at hl 0 rfl) ?_
  refine lv_if_lt (tgt := 9) hx hb dX5_checkCharacter_1 (by decide) (fun c1 => ?_) (fun c1 => ?_)
  · have h := bi_t c1 h
    exact w_X5_checkCharacter_9 B _ _ _ _ _ _ (by omega) (by omega) h hM hS (lv_sub hl [] rfl)
  · have h := bi_f c1 h
    refine lv_iload_n hx hb dX5_checkCharacter_4 rfl (lv_at hl 0 rfl) ?_
    refine lv_iconst (v := 4) hx hb dX5_checkCharacter_5 (by decide) ?_
    refine lv_icmp_lt (tgt := 20) hx hb dX5_checkCharacter_6 (by decide) (fun c2 => ?_) (fun c2 => ?_)
    · have h := bi_t c2 h
      cases h
      exact xx_vret B hM hS (by omega) (by omega) dX5_checkCharacter_20 rfl
    · have h := bi_f c2 h
      exact w_X5_checkCharacter_9 B _ _ _ _ _ _ (by omega) (by omega) h hM hS (lv_sub hl [] rfl)
theorem c_X5_checkCharacter {l : Launch} (hll : l.stackTraces = false) {G : GG} {A : Nat → Prop} {ad : AD} {st : XS} {x0 : Int32} {r : (Nat ⊕ Unit)} {st' : XS} (h : f_X5_checkCharacter st x0 = some (r, st')) : vx_Met l yX5_checkCharacter (Cond.code yX5_checkCharacter cX5_checkCharacter 1 none :: TG) ({ frames := 6, cells := 1, slots := 6, locals := 100 } : Room) (PX G A ad st [.int x0]) (QXr G A ad (ovw (fun _ => none) r) st') (QXx G A ad (ovw (fun _ => none) r) st') 1 6 A :=
  xx_of (own := RX5) hll (by decide +kernel) rfl (Nat.le_of_ble_eq_true rfl) fun p e s m below meth c ls B hM hS hl => w_X5_checkCharacter B _ _ _ _ _ _ _ (Nat.le_of_ble_eq_true rfl) (Nat.le_of_ble_eq_true rfl) h hM hS hl
set_option maxHeartbeats 4000000 in
set_option maxRecDepth 100000 in
theorem w_X5_isPosition_23 {p : Program} {l : Launch} {e : Env} {s : State} {m : MethodId} {args : Array Value} {below : List Frame} {meth : Method} {c : Code} {G : GG} {A : Nat → Prop} {ad : AD} (B : XB G A ad p l s m args meth c cX5_isPosition 1 RX5 (some .boolean)) {r : Int32} {st' : XS} : ∀ (st : XS) (y0 : Int32) (H : Heap) (locs : List Loc) (ls : Array Slot), f_X5_isPosition_23 st y0 = some (r, st') → XW G A ad st H → va_S A s.heap H locs → lv_has ls 1 [] → W p l e ({ frames := 0, cells := 0, slots := 0, locals := 0 } : Room) s m args below meth c H locs 0 0 (MQ below (QX G A ad (some (.int r)) st') args s 0 0 A) (F0 m 23 ls [.int y0]) := by
  have ⟨⟨hx, hb, hr, hml, hown, hT, hlocks, hK⟩, hnt, hST, hA, hll⟩ := B
  intro st y0 H locs ls h hM hS hl
  rw [f_X5_isPosition_23] at h
  obtain ⟨g1, h⟩ := gd_e h
  cases h
  exact xw_zret B hM hS (Nat.le_refl 0) (Nat.le_refl 0) g1 dX5_isPosition_23
set_option maxHeartbeats 4000000 in
set_option maxRecDepth 100000 in
theorem w_X5_isPosition_18 {p : Program} {l : Launch} {e : Env} {s : State} {m : MethodId} {args : Array Value} {below : List Frame} {meth : Method} {c : Code} {G : GG} {A : Nat → Prop} {ad : AD} (B : XB G A ad p l s m args meth c cX5_isPosition 1 RX5 (some .boolean)) {r : Int32} {st' : XS} : ∀ (st : XS) (H : Heap) (locs : List Loc) (ls : Array Slot), f_X5_isPosition_18 st = some (r, st') → XW G A ad st H → va_S A s.heap H locs → lv_has ls 1 [] → W p l e ({ frames := 0, cells := 0, slots := 0, locals := 0 } : Room) s m args below meth c H locs 0 0 (MQ below (QX G A ad (some (.int r)) st') args s 0 0 A) (F0 m 18 ls []) := by
  have ⟨⟨hx, hb, hr, hml, hown, hT, hlocks, hK⟩, hnt, hST, hA, hll⟩ := B
  intro st  H locs ls h hM hS hl
  rw [f_X5_isPosition_18] at h
  refine lv_iconst (v := 1) hx hb dX5_isPosition_18 (by decide) ?_
  refine lv_goto (tgt := 23) hx hb dX5_isPosition_19 (by decide) ?_
  exact w_X5_isPosition_23 B _ _ _ _ _ h hM hS (lv_sub hl [] rfl)
set_option maxHeartbeats 4000000 in
set_option maxRecDepth 100000 in
theorem w_X5_isPosition {p : Program} {l : Launch} {e : Env} {s : State} {m : MethodId} {args : Array Value} {below : List Frame} {meth : Method} {c : Code} {G : GG} {A : Nat → Prop} {ad : AD} (B : XB G A ad p l s m args meth c cX5_isPosition 1 RX5 (some .boolean)) {r : Int32} {st' : XS} : ∀ (st : XS) (x0 : Int32) (H : Heap) (locs : List Loc) (ls : Array Slot), f_X5_isPosition st x0 = some (r, st') → XW G A ad st H → va_S A s.heap H locs → lv_has ls 1 [(0, .int x0)] → W p l e ({ frames := 0, cells := 0, slots := 0, locals := 0 } : Room) s m args below meth c H locs 0 0 (MQ below (QX G A ad (some (.int r)) st') args s 0 0 A) (F0 m 0 ls []) := by
  have ⟨⟨hx, hb, hr, hml, hown, hT, hlocks, hK⟩, hnt, hST, hA, hll⟩ := B
  intro st x0 H locs ls h hM hS hl
  rw [f_X5_isPosition] at h
  refine lv_iload_n hx hb dX5_isPosition_0 rfl (lv_at hl 0 rfl) ?_
  refine lv_bipush (v := 108) hx hb dX5_isPosition_1 (by decide) ?_
  refine lv_icmp_eq (tgt := 18) hx hb dX5_isPosition_3 (by decide) (fun c1 => ?_) (fun c1 => ?_)
  · have h := bi_t c1 h
    exact w_X5_isPosition_18 B _ _ _ _ h hM hS (lv_sub hl [] rfl)
  · have h := bi_f c1 h
    refine lv_iload_n hx hb dX5_isPosition_6 rfl (lv_at hl 0 rfl) ?_
    refine lv_bipush (v := 99) hx hb dX5_isPosition_7 (by decide) ?_
    refine lv_icmp_eq (tgt := 18) hx hb dX5_isPosition_9 (by decide) (fun c2 => ?_) (fun c2 => ?_)
    · have h := bi_t c2 h
      exact w_X5_isPosition_18 B _ _ _ _ h hM hS (lv_sub hl [] rfl)
    · have h := bi_f c2 h
      refine lv_iload_n hx hb dX5_isPosition_12 rfl (lv_at hl 0 rfl) ?_
      refine lv_bipush (v := 114) hx hb dX5_isPosition_13 (by decide) ?_
      refine lv_icmp_ne (tgt := 22) hx hb dX5_isPosition_15 (by decide) (fun c3 => ?_) (fun c3 => ?_)
      · have h := bi_f c3 h
        refine lv_iconst (v := 0) hx hb dX5_isPosition_22 (by decide) ?_
        exact w_X5_isPosition_23 B _ _ _ _ _ h hM hS (lv_sub hl [] rfl)
      · have h := bi_t c3 h
        exact w_X5_isPosition_18 B _ _ _ _ h hM hS (lv_sub hl [] rfl)
theorem c_X5_isPosition {l : Launch} (hll : l.stackTraces = false) {G : GG} {A : Nat → Prop} {ad : AD} {st : XS} {x0 : Int32} {r : Int32} {st' : XS} (h : f_X5_isPosition st x0 = some (r, st')) : Met l yX5_isPosition (Cond.code yX5_isPosition cX5_isPosition 1 (some .boolean) :: TG) ({ frames := 0, cells := 0, slots := 0, locals := 0 } : Room) (PX G A ad st [.int x0]) (QX G A ad (some (.int r)) st') 0 0 A :=
  xw_of (own := RX5) hll (by decide +kernel) rfl (Nat.le_of_ble_eq_true rfl) fun p e s m below meth c ls B hM hS hl => w_X5_isPosition B _ _ _ _ _ h hM hS hl
set_option maxHeartbeats 4000000 in
set_option maxRecDepth 100000 in
theorem w_J6_bitCount_0f7a4 {p : Program} {l : Launch} {e : Env} {s : State} {m : MethodId} {args : Array Value} {below : List Frame} {meth : Method} {c : Code} {G : GG} {A : Nat → Prop} {ad : AD} (B : XB G A ad p l s m args meth c cJ6_bitCount_0f7a4 1 RJ6 (some .int)) {r : Int32} {st' : XS} : ∀ (st : XS) (x0 : Int32) (H : Heap) (locs : List Loc) (ls : Array Slot), f_J6_bitCount_0f7a4 st x0 = some (r, st') → XW G A ad st H → va_S A s.heap H locs → lv_has ls 1 [(0, .int x0)] → W p l e ({ frames := 0, cells := 0, slots := 0, locals := 0 } : Room) s m args below meth c H locs 0 0 (MQ below (QX G A ad (some (.int r)) st') args s 0 0 A) (F0 m 0 ls []) := by
  have ⟨⟨hx, hb, hr, hml, hown, hT, hlocks, hK⟩, hnt, hST, hA, hll⟩ := B
  intro st x0 H locs ls h hM hS hl
  rw [f_J6_bitCount_0f7a4] at h
  refine lv_iload_n hx hb dJ6_bitCount_0f7a4_0 rfl (lv_at hl 0 rfl) ?_
  refine lv_iload_n hx hb dJ6_bitCount_0f7a4_1 rfl (lv_at hl 0 rfl) ?_
  refine lv_iconst (v := 1) hx hb dJ6_bitCount_0f7a4_2 (by decide) ?_
  refine lv_iushr hx hb dJ6_bitCount_0f7a4_3 rfl ?_
  refine lv_ldcw (v := 1431655765) hx hb hown (hT _ wq_RJ6_265) dJ6_bitCount_0f7a4_4 ?_
  refine lv_iand hx hb dJ6_bitCount_0f7a4_7 ?_
  refine lv_isub hx hb dJ6_bitCount_0f7a4_8 ?_
  refine lv_istore_n (lv' := [(0, .int (x0 - (((Int32.toUInt32 x0 >>> (Int32.toUInt32 1 &&& Int32.toUInt32 31)).toInt32) &&& 1431655765)))]) hx hb dJ6_bitCount_0f7a4_9 rfl hl (by decide) rfl (fun ls hl => ?_)
  refine lv_iload_n hx hb dJ6_bitCount_0f7a4_10 rfl (lv_at hl 0 rfl) ?_
  refine lv_ldcw (v := 858993459) hx hb hown (hT _ wq_RJ6_266) dJ6_bitCount_0f7a4_11 ?_
  refine lv_iand hx hb dJ6_bitCount_0f7a4_14 ?_
  refine lv_iload_n hx hb dJ6_bitCount_0f7a4_15 rfl (lv_at hl 0 rfl) ?_
  refine lv_iconst (v := 2) hx hb dJ6_bitCount_0f7a4_16 (by decide) ?_
  refine lv_iushr hx hb dJ6_bitCount_0f7a4_17 rfl ?_
  refine lv_ldcw (v := 858993459) hx hb hown (hT _ wq_RJ6_266) dJ6_bitCount_0f7a4_18 ?_
  refine lv_iand hx hb dJ6_bitCount_0f7a4_21 ?_
  refine lv_iadd hx hb dJ6_bitCount_0f7a4_22 ?_
  refine lv_istore_n (lv' := [(0, .int (((x0 - (((Int32.toUInt32 x0 >>> (Int32.toUInt32 1 &&& Int32.toUInt32 31)).toInt32) &&& 1431655765)) &&& 858993459) + (((Int32.toUInt32 (x0 - (((Int32.toUInt32 x0 >>> (Int32.toUInt32 1 &&& Int32.toUInt32 31)).toInt32) &&& 1431655765)) >>> (Int32.toUInt32 2 &&& Int32.toUInt32 31)).toInt32) &&& 858993459)))]) hx hb dJ6_bitCount_0f7a4_23 rfl hl (by decide) rfl (fun ls hl => ?_)
  refine lv_iload_n hx hb dJ6_bitCount_0f7a4_24 rfl (lv_at hl 0 rfl) ?_
  refine lv_iload_n hx hb dJ6_bitCount_0f7a4_25 rfl (lv_at hl 0 rfl) ?_
  refine lv_iconst (v := 4) hx hb dJ6_bitCount_0f7a4_26 (by decide) ?_
  refine lv_iushr hx hb dJ6_bitCount_0f7a4_27 rfl ?_
  refine lv_iadd hx hb dJ6_bitCount_0f7a4_28 ?_
  refine lv_ldcw (v := 252645135) hx hb hown (hT _ wq_RJ6_267) dJ6_bitCount_0f7a4_29 ?_
  refine lv_iand hx hb dJ6_bitCount_0f7a4_32 ?_
  refine lv_istore_n (lv' := [(0, .int (((((x0 - (((Int32.toUInt32 x0 >>> (Int32.toUInt32 1 &&& Int32.toUInt32 31)).toInt32) &&& 1431655765)) &&& 858993459) + (((Int32.toUInt32 (x0 - (((Int32.toUInt32 x0 >>> (Int32.toUInt32 1 &&& Int32.toUInt32 31)).toInt32) &&& 1431655765)) >>> (Int32.toUInt32 2 &&& Int32.toUInt32 31)).toInt32) &&& 858993459)) + ((Int32.toUInt32 (((x0 - (((Int32.toUInt32 x0 >>> (Int32.toUInt32 1 &&& Int32.toUInt32 31)).toInt32) &&& 1431655765)) &&& 858993459) + (((Int32.toUInt32 (x0 - (((Int32.toUInt32 x0 >>> (Int32.toUInt32 1 &&& Int32.toUInt32 31)).toInt32) &&& 1431655765)) >>> (Int32.toUInt32 2 &&& Int32.toUInt32 31)).toInt32) &&& 858993459)) >>> (Int32.toUInt32 4 &&& Int32.toUInt32 31)).toInt32)) &&& 252645135))]) hx hb dJ6_bitCount_0f7a4_33 rfl hl (by decide) rfl (fun ls hl => ?_)
  refine lv_iload_n hx hb dJ6_bitCount_0f7a4_34 rfl (lv_at hl 0 rfl) ?_
  refine lv_iload_n hx hb dJ6_bitCount_0f7a4_35 rfl (lv_at hl 0 rfl) ?_
  refine lv_bipush (v := 8) hx hb dJ6_bitCount_0f7a4_36 (by decide) ?_
  refine lv_iushr hx hb dJ6_bitCount_0f7a4_38 rfl ?_
  refine lv_iadd hx hb dJ6_bitCount_0f7a4_39 ?_
  refine lv_istore_n (lv' := [(0, .int ((((((x0 - (((Int32.toUInt32 x0 >>> (Int32.toUInt32 1 &&& Int32.toUInt32 31)).toInt32) &&& 1431655765)) &&& 858993459) + (((Int32.toUInt32 (x0 - (((Int32.toUInt32 x0 >>> (Int32.toUInt32 1 &&& Int32.toUInt32 31)).toInt32) &&& 1431655765)) >>> (Int32.toUInt32 2 &&& Int32.toUInt32 31)).toInt32) &&& 858993459)) + ((Int32.toUInt32 (((x0 - (((Int32.toUInt32 x0 >>> (Int32.toUInt32 1 &&& Int32.toUInt32 31)).toInt32) &&& 1431655765)) &&& 858993459) + (((Int32.toUInt32 (x0 - (((Int32.toUInt32 x0 >>> (Int32.toUInt32 1 &&& Int32.toUInt32 31)).toInt32) &&& 1431655765)) >>> (Int32.toUInt32 2 &&& Int32.toUInt32 31)).toInt32) &&& 858993459)) >>> (Int32.toUInt32 4 &&& Int32.toUInt32 31)).toInt32)) &&& 252645135) + ((Int32.toUInt32 (((((x0 - (((Int32.toUInt32 x0 >>> (Int32.toUInt32 1 &&& Int32.toUInt32 31)).toInt32) &&& 1431655765)) &&& 858993459) + (((Int32.toUInt32 (x0 - (((Int32.toUInt32 x0 >>> (Int32.toUInt32 1 &&& Int32.toUInt32 31)).toInt32) &&& 1431655765)) >>> (Int32.toUInt32 2 &&& Int32.toUInt32 31)).toInt32) &&& 858993459)) + ((Int32.toUInt32 (((x0 - (((Int32.toUInt32 x0 >>> (Int32.toUInt32 1 &&& Int32.toUInt32 31)).toInt32) &&& 1431655765)) &&& 858993459) + (((Int32.toUInt32 (x0 - (((Int32.toUInt32 x0 >>> (Int32.toUInt32 1 &&& Int32.toUInt32 31)).toInt32) &&& 1431655765)) >>> (Int32.toUInt32 2 &&& Int32.toUInt32 31)).toInt32) &&& 858993459)) >>> (Int32.toUInt32 4 &&& Int32.toUInt32 31)).toInt32)) &&& 252645135) >>> (Int32.toUInt32 8 &&& Int32.toUInt32 31)).toInt32)))]) hx hb dJ6_bitCount_0f7a4_40 rfl hl (by decide) rfl (fun ls hl => ?_)
  refine lv_iload_n hx hb dJ6_bitCount_0f7a4_41 rfl (lv_at hl 0 rfl) ?_
  refine lv_iload_n hx hb dJ6_bitCount_0f7a4_42 rfl (lv_at hl 0 rfl) ?_
  refine lv_bipush (v := 16) hx hb dJ6_bitCount_0f7a4_43 (by decide) ?_
  refine lv_iushr hx hb dJ6_bitCount_0f7a4_45 rfl ?_
  refine lv_iadd hx hb dJ6_bitCount_0f7a4_46 ?_
  refine lv_istore_n (lv' := [(0, .int (((((((x0 - (((Int32.toUInt32 x0 >>> (Int32.toUInt32 1 &&& Int32.toUInt32 31)).toInt32) &&& 1431655765)) &&& 858993459) + (((Int32.toUInt32 (x0 - (((Int32.toUInt32 x0 >>> (Int32.toUInt32 1 &&& Int32.toUInt32 31)).toInt32) &&& 1431655765)) >>> (Int32.toUInt32 2 &&& Int32.toUInt32 31)).toInt32) &&& 858993459)) + ((Int32.toUInt32 (((x0 - (((Int32.toUInt32 x0 >>> (Int32.toUInt32 1 &&& Int32.toUInt32 31)).toInt32) &&& 1431655765)) &&& 858993459) + (((Int32.toUInt32 (x0 - (((Int32.toUInt32 x0 >>> (Int32.toUInt32 1 &&& Int32.toUInt32 31)).toInt32) &&& 1431655765)) >>> (Int32.toUInt32 2 &&& Int32.toUInt32 31)).toInt32) &&& 858993459)) >>> (Int32.toUInt32 4 &&& Int32.toUInt32 31)).toInt32)) &&& 252645135) + ((Int32.toUInt32 (((((x0 - (((Int32.toUInt32 x0 >>> (Int32.toUInt32 1 &&& Int32.toUInt32 31)).toInt32) &&& 1431655765)) &&& 858993459) + (((Int32.toUInt32 (x0 - (((Int32.toUInt32 x0 >>> (Int32.toUInt32 1 &&& Int32.toUInt32 31)).toInt32) &&& 1431655765)) >>> (Int32.toUInt32 2 &&& Int32.toUInt32 31)).toInt32) &&& 858993459)) + ((Int32.toUInt32 (((x0 - (((Int32.toUInt32 x0 >>> (Int32.toUInt32 1 &&& Int32.toUInt32 31)).toInt32) &&& 1431655765)) &&& 858993459) + (((Int32.toUInt32 (x0 - (((Int32.toUInt32 x0 >>> (Int32.toUInt32 1 &&& Int32.toUInt32 31)).toInt32) &&& 1431655765)) >>> (Int32.toUInt32 2 &&& Int32.toUInt32 31)).toInt32) &&& 858993459)) >>> (Int32.toUInt32 4 &&& Int32.toUInt32 31)).toInt32)) &&& 252645135) >>> (Int32.toUInt32 8 &&& Int32.toUInt32 31)).toInt32)) + ((Int32.toUInt32 ((((((x0 - (((Int32.toUInt32 x0 >>> (Int32.toUInt32 1 &&& Int32.toUInt32 31)).toInt32) &&& 1431655765)) &&& 858993459) + (((Int32.toUInt32 (x0 - (((Int32.toUInt32 x0 >>> (Int32.toUInt32 1 &&& Int32.toUInt32 31)).toInt32) &&& 1431655765)) >>> (Int32.toUInt32 2 &&& Int32.toUInt32 31)).toInt32) &&& 858993459)) + ((Int32.toUInt32 (((x0 - (((Int32.toUInt32 x0 >>> (Int32.toUInt32 1 &&& Int32.toUInt32 31)).toInt32) &&& 1431655765)) &&& 858993459) + (((Int32.toUInt32 (x0 - (((Int32.toUInt32 x0 >>> (Int32.toUInt32 1 &&& Int32.toUInt32 31)).toInt32) &&& 1431655765)) >>> (Int32.toUInt32 2 &&& Int32.toUInt32 31)).toInt32) &&& 858993459)) >>> (Int32.toUInt32 4 &&& Int32.toUInt32 31)).toInt32)) &&& 252645135) + ((Int32.toUInt32 (((((x0 - (((Int32.toUInt32 x0 >>> (Int32.toUInt32 1 &&& Int32.toUInt32 31)).toInt32) &&& 1431655765)) &&& 858993459) + (((Int32.toUInt32 (x0 - (((Int32.toUInt32 x0 >>> (Int32.toUInt32 1 &&& Int32.toUInt32 31)).toInt32) &&& 1431655765)) >>> (Int32.toUInt32 2 &&& Int32.toUInt32 31)).toInt32) &&& 858993459)) + ((Int32.toUInt32 (((x0 - (((Int32.toUInt32 x0 >>> (Int32.toUInt32 1 &&& Int32.toUInt32 31)).toInt32) &&& 1431655765)) &&& 858993459) + (((Int32.toUInt32 (x0 - (((Int32.toUInt32 x0 >>> (Int32.toUInt32 1 &&& Int32.toUInt32 31)).toInt32) &&& 1431655765)) >>> (Int32.toUInt32 2 &&& Int32.toUInt32 31)).toInt32) &&& 858993459)) >>> (Int32.toUInt32 4 &&& Int32.toUInt32 31)).toInt32)) &&& 252645135) >>> (Int32.toUInt32 8 &&& Int32.toUInt32 31)).toInt32)) >>> (Int32.toUInt32 16 &&& Int32.toUInt32 31)).toInt32)))]) hx hb dJ6_bitCount_0f7a4_47 rfl hl (by decide) rfl (fun ls hl => ?_)
  refine lv_iload_n hx hb dJ6_bitCount_0f7a4_48 rfl (lv_at hl 0 rfl) ?_
  refine lv_bipush (v := 63) hx hb dJ6_bitCount_0f7a4_49 (by decide) ?_
  refine lv_iand hx hb dJ6_bitCount_0f7a4_51 ?_
  cases h
  exact xw_iret B hM hS (Nat.le_refl 0) (Nat.le_refl 0) dJ6_bitCount_0f7a4_52
theorem c_J6_bitCount_0f7a4 {l : Launch} (hll : l.stackTraces = false) {G : GG} {A : Nat → Prop} {ad : AD} {st : XS} {x0 : Int32} {r : Int32} {st' : XS} (h : f_J6_bitCount_0f7a4 st x0 = some (r, st')) : Met l yJ6_bitCount_0f7a4 (Cond.code yJ6_bitCount_0f7a4 cJ6_bitCount_0f7a4 1 (some .int) :: TG) ({ frames := 0, cells := 0, slots := 0, locals := 0 } : Room) (PX G A ad st [.int x0]) (QX G A ad (some (.int r)) st') 0 0 A :=
  xw_of (own := RJ6) hll (by decide +kernel) rfl (Nat.le_of_ble_eq_true rfl) fun p e s m below meth c ls B hM hS hl => w_J6_bitCount_0f7a4 B _ _ _ _ _ h hM hS hl
set_option maxHeartbeats 4000000 in
set_option maxRecDepth 100000 in
theorem w_X5_stand_72 {p : Program} {l : Launch} {e : Env} {s : State} {m : MethodId} {args : Array Value} {below : List Frame} {meth : Method} {c : Code} {G : GG} {A : Nat → Prop} {ad : AD} (B : XB G A ad p l s m args meth c cX5_stand 6 RX5 (some .int)) {r : (Nat ⊕ Int32)} {st' : XS} : ∀ (cells slots : Nat) (st : XS) (x5 : Nat) (H : Heap) (locs : List Loc) (ls : Array Slot), cells + 0 ≤ 3 → slots + 0 ≤ 18 → f_X5_stand_72 st x5 = some (r, st') → XW G A ad st H → va_S A s.heap H locs → lv_has ls 6 [(5, .ref (ad 1 x5))] → W p l e ({ frames := 8, cells := 3, slots := 18, locals := 143 } : Room) s m args below meth c H locs cells slots (vx_MQ below (QXr G A ad (ovw (fun x => some (.int x)) r) st') (QXx G A ad (ovw (fun x => some (.int x)) r) st') args s 3 18 A) (F0 m 72 ls []) := by
  have ⟨⟨hx, hb, hr, hml, hown, hT, hlocks, hK⟩, hnt, hST, hA, hll⟩ := B
  intro cells slots st x5 H locs ls hc hs h hM hS hl
  rw [f_X5_stand_72] at h
  refine lv_aload hx hb dX5_stand_72 (lv_at hl 0 rfl) ?_
  obtain ⟨v1, h⟩ := gd_e h
  refine xw_get B.1 hM 1 x5 (xv_s (k := 1) (by decide) v1) (ci := 5) (N := 12) (fs := fSh ad st x5) (C := RX4) (T := TX4) (fun _ => rfl) rfl inX4 1 (by decide) wf_RX5_148 rfl (v := .ref (ad 2 x5)) rfl dX5_stand_74 ?_
  obtain ⟨r2, t3, e4, h⟩ := bd_e h
  refine xw_callV B hM hS (xw_recv (xb_vk B) hM 2 x5 (Or.inl (xv_s (k := 2) (by decide) v1)) (fun gh => ⟨_, rfl⟩) rfl) [] (n := 0) (v := (some (.int r2))) (c_X0_members B.2.2.2.2 e4) wm_RX5_152 wi_yX0_members ws_yX0_members wn_RX0 wc_yX0_members rfl rfl (by decide +kernel) ⟨Nat.le_of_ble_eq_true rfl, Nat.le_of_ble_eq_true rfl⟩ ⟨(by show _ ≤ 3; omega), (by show _ ≤ 18; omega)⟩ rfl hl.1 (Nat.le_of_ble_eq_true rfl) rfl dX5_stand_77 (fun H locs hM hS => ?_)
  obtain ⟨r5, t6, e7, h⟩ := bd_e h
  refine xw_callSO B hM hS [.int r2] (n := 1) (v := (some (.int r5))) (c_J6_bitCount_0f7a4 B.2.2.2.2 e7) wm_RX5_157 wt_yJ6_bitCount_0f7a4 wn_RJ6 wc_yJ6_bitCount_0f7a4 rfl rfl (by decide +kernel) ⟨Nat.le_of_ble_eq_true rfl, Nat.le_of_ble_eq_true rfl⟩ ⟨(by show _ ≤ 3; omega), (by show _ ≤ 18; omega)⟩ rfl hl.1 (Nat.le_of_ble_eq_true rfl) rfl dX5_stand_80 (fun H locs hM hS => ?_)
  cases h
  exact xx_iret B hM hS (by omega) (by omega) dX5_stand_83 rfl
set_option maxHeartbeats 4000000 in
set_option maxRecDepth 100000 in
theorem w_X5_stand_42 {p : Program} {l : Launch} {e : Env} {s : State} {m : MethodId} {args : Array Value} {below : List Frame} {meth : Method} {c : Code} {G : GG} {A : Nat → Prop} {ad : AD} (B : XB G A ad p l s m args meth c cX5_stand 6 RX5 (some .int)) {r : (Nat ⊕ Int32)} {st' : XS} : ∀ (cells slots : Nat) (st : XS) (x2 : Int32) (x3 : Int32) (x4 : Int32) (x5 : Nat) (H : Heap) (locs : List Loc) (ls : Array Slot), cells + 1 ≤ 3 → slots + 6 ≤ 18 → f_X5_stand_42 st x2 x3 x4 x5 = some (r, st') → XW G A ad st H → va_S A s.heap H locs → lv_has ls 6 [(0, .ref (ad 0 0)), (2, .int x2), (3, .int x3), (4, .int x4), (5, .ref (ad 1 x5))] → W p l e ({ frames := 8, cells := 3, slots := 18, locals := 143 } : Room) s m args below meth c H locs cells slots (vx_MQ below (QXr G A ad (ovw (fun x => some (.int x)) r) st') (QXx G A ad (ovw (fun x => some (.int x)) r) st') args s 3 18 A) (F0 m 42 ls []) := by
  have ⟨⟨hx, hb, hr, hml, hown, hT, hlocks, hK⟩, hnt, hST, hA, hll⟩ := B
  intro cells slots st x2 x3 x4 x5 H locs ls hc hs h hM hS hl
  rw [f_X5_stand_42] at h
  refine lv_aload_n hx hb dX5_stand_42 rfl (lv_at hl 0 rfl) ?_
  refine lv_aload hx hb dX5_stand_43 (lv_at hl 4 rfl) ?_
  rcases bdx_e h with ⟨k4, t2, e3, h⟩ | ⟨r1, t2, e3, h⟩
  · cases h
    exact xx_goV B hM hS (xw_recv (xb_vk B) hM 0 0 (Or.inl xv_0) (fun gh => ⟨_, rfl⟩) rfl) [.ref (ad 1 x5)] (n := 1) (c_X5_checkInReel B.2.2.2.2 e3) wm_RX5_122 wi_yX5_checkInReel ws_yX5_checkInReel wn_RX5 wc_yX5_checkInReel rfl rfl (by decide +kernel) ⟨Nat.le_of_ble_eq_true rfl, Nat.le_of_ble_eq_true rfl⟩ ⟨(by show _ ≤ 3; omega), (by show _ ≤ 18; omega)⟩ rfl hl.1 (Nat.le_of_ble_eq_true rfl) rfl dX5_stand_45 (by omega) (by omega) rfl
  · refine xx_callV B hM hS (xw_recv (xb_vk B) hM 0 0 (Or.inl xv_0) (fun gh => ⟨_, rfl⟩) rfl) [.ref (ad 1 x5)] (n := 1) (v := none) (c_X5_checkInReel B.2.2.2.2 e3) wm_RX5_122 wi_yX5_checkInReel ws_yX5_checkInReel wn_RX5 wc_yX5_checkInReel rfl rfl (by decide +kernel) ⟨Nat.le_of_ble_eq_true rfl, Nat.le_of_ble_eq_true rfl⟩ ⟨(by show _ ≤ 3; omega), (by show _ ≤ 18; omega)⟩ rfl hl.1 (Nat.le_of_ble_eq_true rfl) rfl dX5_stand_45 (fun H locs hM hS => ?_)
    refine lv_iload_n hx hb dX5_stand_48 rfl (lv_at hl 2 rfl) ?_
    refine lv_bipush (v := 45) hx hb dX5_stand_49 (by decide) ?_
    refine lv_icmp_ne (tgt := 63) hx hb dX5_stand_51 (by decide) (fun c5 => ?_) (fun c5 => ?_)
    · have h := bi_f c5 h
      refine lv_aload hx hb dX5_stand_63 (lv_at hl 4 rfl) ?_
      refine lv_iload_n hx hb dX5_stand_65 rfl (lv_at hl 1 rfl) ?_
      refine lv_iload_n hx hb dX5_stand_66 rfl (lv_at hl 2 rfl) ?_
      refine lv_iload hx hb dX5_stand_67 (lv_at hl 3 rfl) ?_
      obtain ⟨v6, h⟩ := gd_e h
      obtain ⟨r7, t8, e9, h⟩ := bd_e h
      refine xw_callV B hM hS (xw_recv (xb_vk B) hM 1 x5 (Or.inl (xv_s (k := 1) (by decide) v6)) (fun gh => ⟨_, rfl⟩) rfl) [.int x2, .int x3, .int x4] (n := 3) (v := none) (c_X4_putIn B.2.2.2.2 e9) wm_RX5_144 wi_yX4_putIn ws_yX4_putIn wn_RX4 wc_yX4_putIn rfl rfl (by decide +kernel) ⟨Nat.le_of_ble_eq_true rfl, Nat.le_of_ble_eq_true rfl⟩ ⟨(by show _ ≤ 3; omega), (by show _ ≤ 18; omega)⟩ rfl hl.1 (Nat.le_of_ble_eq_true rfl) rfl dX5_stand_69 (fun H locs hM hS => ?_)
      exact w_X5_stand_72 B _ _ _ _ _ _ _ (by omega) (by omega) h hM hS (lv_sub hl [4] rfl)
    · have h := bi_t c5 h
      refine lv_aload hx hb dX5_stand_54 (lv_at hl 4 rfl) ?_
      refine lv_iload_n hx hb dX5_stand_56 rfl (lv_at hl 1 rfl) ?_
      obtain ⟨v10, h⟩ := gd_e h
      obtain ⟨r11, t12, e13, h⟩ := bd_e h
      refine xw_callV B hM hS (xw_recv (xb_vk B) hM 1 x5 (Or.inl (xv_s (k := 1) (by decide) v10)) (fun gh => ⟨_, rfl⟩) rfl) [.int x2] (n := 1) (v := none) (c_X4_takeOut B.2.2.2.2 e13) wm_RX5_141 wi_yX4_takeOut ws_yX4_takeOut wn_RX4 wc_yX4_takeOut rfl rfl (by decide +kernel) ⟨Nat.le_of_ble_eq_true rfl, Nat.le_of_ble_eq_true rfl⟩ ⟨(by show _ ≤ 3; omega), (by show _ ≤ 18; omega)⟩ rfl hl.1 (Nat.le_of_ble_eq_true rfl) rfl dX5_stand_57 (fun H locs hM hS => ?_)
      refine lv_goto (tgt := 72) hx hb dX5_stand_60 (by decide) ?_
      exact w_X5_stand_72 B _ _ _ _ _ _ _ (by omega) (by omega) h hM hS (lv_sub hl [4] rfl)
set_option maxHeartbeats 4000000 in
set_option maxRecDepth 100000 in
theorem w_X5_stand_32 {p : Program} {l : Launch} {e : Env} {s : State} {m : MethodId} {args : Array Value} {below : List Frame} {meth : Method} {c : Code} {G : GG} {A : Nat → Prop} {ad : AD} (B : XB G A ad p l s m args meth c cX5_stand 6 RX5 (some .int)) {r : (Nat ⊕ Int32)} {st' : XS} : ∀ (cells slots : Nat) (st : XS) (H : Heap) (locs : List Loc) (ls : Array Slot), cells + 1 ≤ 3 → slots + 6 ≤ 18 → f_X5_stand_32 st = some (r, st') → XW G A ad st H → va_S A s.heap H locs → lv_has ls 6 [] → W p l e ({ frames := 8, cells := 3, slots := 18, locals := 143 } : Room) s m args below meth c H locs cells slots (vx_MQ below (QXr G A ad (ovw (fun x => some (.int x)) r) st') (QXx G A ad (ovw (fun x => some (.int x)) r) st') args s 3 18 A) (F0 m 32 ls []) := by
  have ⟨⟨hx, hb, hr, hml, hown, hT, hlocks, hK⟩, hnt, hST, hA, hll⟩ := B
  intro cells slots st  H locs ls hc hs h hM hS hl
  rw [f_X5_stand_32] at h
  cases h
  exact xw_throw (k := 0) (ik := 41) (ic := 45) (is := 139) (text := "no such place or gaze") B hM hS wk_RX5_41 wn_java_lang_IllegalArgumentException at_0 an_0 ag_0 (by decide +kernel) (by decide +kernel) hl.1 ⟨⟨dX5_stand_32, dX5_stand_35⟩, Or.inl ⟨dX5_stand_36, dX5_stand_38, dX5_stand_41⟩⟩ (Nat.le_of_ble_eq_true rfl) (Nat.le_of_ble_eq_true rfl) (by show _ ≤ 3; omega) (by show _ ≤ 18; omega) (by omega) (by omega) rfl
set_option maxHeartbeats 4000000 in
set_option maxRecDepth 100000 in
theorem w_X5_stand {p : Program} {l : Launch} {e : Env} {s : State} {m : MethodId} {args : Array Value} {below : List Frame} {meth : Method} {c : Code} {G : GG} {A : Nat → Prop} {ad : AD} (B : XB G A ad p l s m args meth c cX5_stand 6 RX5 (some .int)) {r : (Nat ⊕ Int32)} {st' : XS} : ∀ (cells slots : Nat) (st : XS) (x1 : Int32) (x2 : Int32) (x3 : Int32) (x4 : Int32) (H : Heap) (locs : List Loc) (ls : Array Slot), cells + 3 ≤ 3 → slots + 18 ≤ 18 → f_X5_stand st x1 x2 x3 x4 = some (r, st') → XW G A ad st H → va_S A s.heap H locs → lv_has ls 6 [(0, .ref (ad 0 0)), (1, .int x1), (2, .int x2), (3, .int x3), (4, .int x4)] → W p l e ({ frames := 8, cells := 3, slots := 18, locals := 143 } : Room) s m args below meth c H locs cells slots (vx_MQ below (QXr G A ad (ovw (fun x => some (.int x)) r) st') (QXx G A ad (ovw (fun x => some (.int x)) r) st') args s 3 18 A) (F0 m 0 ls []) := by
  have ⟨⟨hx, hb, hr, hml, hown, hT, hlocks, hK⟩, hnt, hST, hA, hll⟩ := B
  intro cells slots st x1 x2 x3 x4 H locs ls hc hs h hM hS hl
  rw [f_X5_stand] at h
  refine lv_aload_n hx hb dX5_stand_0 rfl (lv_at hl 0 rfl) ?_
  refine lv_iload_n hx hb dX5_stand_1 rfl (lv_at hl 1 rfl) ?_
  rcases bdx_e h with ⟨k4, t2, e3, h⟩ | ⟨r1, t2, e3, h⟩
  · cases h
    exact xx_goV B hM hS (xw_recv (xb_vk B) hM 0 0 (Or.inl xv_0) (fun gh => ⟨_, rfl⟩) rfl) [.int x1] (n := 1) (c_X5_madeShot B.2.2.2.2 e3) wm_RX5_93 wi_yX5_madeShot ws_yX5_madeShot wn_RX5 wc_yX5_madeShot rfl rfl (by decide +kernel) ⟨Nat.le_of_ble_eq_true rfl, Nat.le_of_ble_eq_true rfl⟩ ⟨(by show _ ≤ 3; omega), (by show _ ≤ 18; omega)⟩ rfl hl.1 (Nat.le_of_ble_eq_true rfl) rfl dX5_stand_2 (by omega) (by omega) rfl
  · refine xx_callV B hM hS (xw_recv (xb_vk B) hM 0 0 (Or.inl xv_0) (fun gh => ⟨_, rfl⟩) rfl) [.int x1] (n := 1) (v := (some (.ref (ad 1 r1)))) (c_X5_madeShot B.2.2.2.2 e3) wm_RX5_93 wi_yX5_madeShot ws_yX5_madeShot wn_RX5 wc_yX5_madeShot rfl rfl (by decide +kernel) ⟨Nat.le_of_ble_eq_true rfl, Nat.le_of_ble_eq_true rfl⟩ ⟨(by show _ ≤ 3; omega), (by show _ ≤ 18; omega)⟩ rfl hl.1 (Nat.le_of_ble_eq_true rfl) rfl dX5_stand_2 (fun H locs hM hS => ?_)
    refine lv_astore (lv' := [(5, .ref (ad 1 r1)), (0, .ref (ad 0 0)), (1, .int x1), (2, .int x2), (3, .int x3), (4, .int x4)]) hx hb dX5_stand_5 hl (by decide) rfl (fun ls hl => ?_)
    refine lv_iload_n hx hb dX5_stand_7 rfl (lv_at hl 3 rfl) ?_
    rcases bdx_e h with ⟨k8, t6, e7, h⟩ | ⟨r5, t6, e7, h⟩
    · cases h
      exact xx_goS B hM hS [.int x2] (n := 1) (c_X5_checkCharacter B.2.2.2.2 e7) wm_RX5_132 wt_yX5_checkCharacter wn_RX5 wc_yX5_checkCharacter rfl rfl (by decide +kernel) ⟨Nat.le_of_ble_eq_true rfl, Nat.le_of_ble_eq_true rfl⟩ ⟨(by show _ ≤ 3; omega), (by show _ ≤ 18; omega)⟩ rfl hl.1 (Nat.le_of_ble_eq_true rfl) rfl dX5_stand_8 (by omega) (by omega) rfl
    · refine xx_callS B hM hS [.int x2] (n := 1) (v := none) (c_X5_checkCharacter B.2.2.2.2 e7) wm_RX5_132 wt_yX5_checkCharacter wn_RX5 wc_yX5_checkCharacter rfl rfl (by decide +kernel) ⟨Nat.le_of_ble_eq_true rfl, Nat.le_of_ble_eq_true rfl⟩ ⟨(by show _ ≤ 3; omega), (by show _ ≤ 18; omega)⟩ rfl hl.1 (Nat.le_of_ble_eq_true rfl) rfl dX5_stand_8 (fun H locs hM hS => ?_)
      refine lv_iload_n hx hb dX5_stand_11 rfl (lv_at hl 4 rfl) ?_
      refine lv_bipush (v := 45) hx hb dX5_stand_12 (by decide) ?_
      refine lv_icmp_eq (tgt := 42) hx hb dX5_stand_14 (by decide) (fun c9 => ?_) (fun c9 => ?_)
      · have h := bi_t c9 h
        exact w_X5_stand_42 B _ _ _ _ _ _ _ _ _ _ (by omega) (by omega) h hM hS (lv_sub hl [1, 3, 4, 5, 0] rfl)
      · have h := bi_f c9 h
        refine lv_iload_n hx hb dX5_stand_17 rfl (lv_at hl 4 rfl) ?_
        obtain ⟨r10, t11, e12, h⟩ := bd_e h
        refine xw_callS B hM hS [.int x3] (n := 1) (v := (some (.int r10))) (c_X5_isPosition B.2.2.2.2 e12) wm_RX5_135 wt_yX5_isPosition wn_RX5 wc_yX5_isPosition rfl rfl (by decide +kernel) ⟨Nat.le_of_ble_eq_true rfl, Nat.le_of_ble_eq_true rfl⟩ ⟨(by show _ ≤ 3; omega), (by show _ ≤ 18; omega)⟩ rfl hl.1 (Nat.le_of_ble_eq_true rfl) rfl dX5_stand_18 (fun H locs hM hS => ?_)
        refine lv_if_eq (tgt := 32) hx hb dX5_stand_21 (by decide) (fun c13 => ?_) (fun c13 => ?_)
        · have h := bi_t c13 h
          exact w_X5_stand_32 B _ _ _ _ _ _ (by omega) (by omega) h hM hS (lv_sub hl [] rfl)
        · have h := bi_f c13 h
          refine lv_iload hx hb dX5_stand_24 (lv_at hl 5 rfl) ?_
          obtain ⟨r14, t15, e16, h⟩ := bd_e h
          refine xw_callS B hM hS [.int x4] (n := 1) (v := (some (.int r14))) (c_X5_isPosition B.2.2.2.2 e16) wm_RX5_135 wt_yX5_isPosition wn_RX5 wc_yX5_isPosition rfl rfl (by decide +kernel) ⟨Nat.le_of_ble_eq_true rfl, Nat.le_of_ble_eq_true rfl⟩ ⟨(by show _ ≤ 3; omega), (by show _ ≤ 18; omega)⟩ rfl hl.1 (Nat.le_of_ble_eq_true rfl) rfl dX5_stand_26 (fun H locs hM hS => ?_)
          refine lv_if_ne (tgt := 42) hx hb dX5_stand_29 (by decide) (fun c17 => ?_) (fun c17 => ?_)
          · have h := bi_f c17 h
            exact w_X5_stand_42 B _ _ _ _ _ _ _ _ _ _ (by omega) (by omega) h hM hS (lv_sub hl [1, 3, 4, 5, 0] rfl)
          · have h := bi_t c17 h
            exact w_X5_stand_32 B _ _ _ _ _ _ (by omega) (by omega) h hM hS (lv_sub hl [] rfl)
theorem c_X5_stand {l : Launch} (hll : l.stackTraces = false) {G : GG} {A : Nat → Prop} {ad : AD} {st : XS} {x1 : Int32} {x2 : Int32} {x3 : Int32} {x4 : Int32} {r : (Nat ⊕ Int32)} {st' : XS} (h : f_X5_stand st x1 x2 x3 x4 = some (r, st')) : vx_Met l yX5_stand (Cond.code yX5_stand cX5_stand 6 (some .int) :: TG) ({ frames := 8, cells := 3, slots := 18, locals := 143 } : Room) (PX G A ad st [.ref (ad 0 0), .int x1, .int x2, .int x3, .int x4]) (QXr G A ad (ovw (fun x => some (.int x)) r) st') (QXx G A ad (ovw (fun x => some (.int x)) r) st') 3 18 A :=
  xx_of (own := RX5) hll (by decide +kernel) rfl (Nat.le_of_ble_eq_true rfl) fun p e s m below meth c ls B hM hS hl => w_X5_stand B _ _ _ _ _ _ _ _ _ _ (Nat.le_of_ble_eq_true rfl) (Nat.le_of_ble_eq_true rfl) h hM hS hl
set_option maxHeartbeats 4000000 in
set_option maxRecDepth 100000 in
theorem w_X5_shotForEdge_40 {p : Program} {l : Launch} {e : Env} {s : State} {m : MethodId} {args : Array Value} {below : List Frame} {meth : Method} {c : Code} {G : GG} {A : Nat → Prop} {ad : AD} (B : XB G A ad p l s m args meth c cX5_shotForEdge 5 RX5 (some (.object "ThumbnailRow$Shot"))) {r : (Nat ⊕ Nat)} {st' : XS} : ∀ (cells slots : Nat) (st : XS) (x2 : Int32) (x4 : Nat) (H : Heap) (locs : List Loc) (ls : Array Slot), cells + 2 ≤ 4 → slots + 12 ≤ 24 → f_X5_shotForEdge_40 st x2 x4 = some (r, st') → XW G A ad st H → va_S A s.heap H locs → lv_has ls 5 [(0, .ref (ad 0 0)), (2, .int x2), (4, .ref (ad 1 x4))] → W p l e ({ frames := 8, cells := 4, slots := 24, locals := 143 } : Room) s m args below meth c H locs cells slots (vx_MQ below (QXr G A ad (ovw (fun x => some (.ref (ad 1 x))) r) st') (QXx G A ad (ovw (fun x => some (.ref (ad 1 x))) r) st') args s 4 24 A) (F0 m 40 ls []) := by
  have ⟨⟨hx, hb, hr, hml, hown, hT, hlocks, hK⟩, hnt, hST, hA, hll⟩ := B
  intro cells slots st x2 x4 H locs ls hc hs h hM hS hl
  rw [f_X5_shotForEdge_40] at h
  refine lv_aload_n hx hb dX5_shotForEdge_40 rfl (lv_at hl 0 rfl) ?_
  refine lv_aload hx hb dX5_shotForEdge_41 (lv_at hl 2 rfl) ?_
  rcases bdx_e h with ⟨k4, t2, e3, h⟩ | ⟨r1, t2, e3, h⟩
  · cases h
    exact xx_goV B hM hS (xw_recv (xb_vk B) hM 0 0 (Or.inl xv_0) (fun gh => ⟨_, rfl⟩) rfl) [.ref (ad 1 x4)] (n := 1) (c_X5_checkInReel B.2.2.2.2 e3) wm_RX5_122 wi_yX5_checkInReel ws_yX5_checkInReel wn_RX5 wc_yX5_checkInReel rfl rfl (by decide +kernel) ⟨Nat.le_of_ble_eq_true rfl, Nat.le_of_ble_eq_true rfl⟩ ⟨(by show _ ≤ 4; omega), (by show _ ≤ 24; omega)⟩ rfl hl.1 (Nat.le_of_ble_eq_true rfl) rfl dX5_shotForEdge_43 (by omega) (by omega) rfl
  · refine xx_callV B hM hS (xw_recv (xb_vk B) hM 0 0 (Or.inl xv_0) (fun gh => ⟨_, rfl⟩) rfl) [.ref (ad 1 x4)] (n := 1) (v := none) (c_X5_checkInReel B.2.2.2.2 e3) wm_RX5_122 wi_yX5_checkInReel ws_yX5_checkInReel wn_RX5 wc_yX5_checkInReel rfl rfl (by decide +kernel) ⟨Nat.le_of_ble_eq_true rfl, Nat.le_of_ble_eq_true rfl⟩ ⟨(by show _ ≤ 4; omega), (by show _ ≤ 24; omega)⟩ rfl hl.1 (Nat.le_of_ble_eq_true rfl) rfl dX5_shotForEdge_43 (fun H locs hM hS => ?_)
    refine lv_aload hx hb dX5_shotForEdge_46 (lv_at hl 2 rfl) ?_
    obtain ⟨v5, h⟩ := gd_e h
    refine xw_get B.1 hM 1 x4 (xv_s (k := 1) (by decide) v5) (ci := 5) (N := 12) (fs := fSh ad t2 x4) (C := RX4) (T := TX4) (fun _ => rfl) rfl inX4 1 (by decide) wf_RX5_148 rfl (v := .ref (ad 2 x4)) rfl dX5_shotForEdge_48 ?_
    refine lv_iload_n hx hb dX5_shotForEdge_51 rfl (lv_at hl 1 rfl) ?_
    obtain ⟨r6, t7, e8, h⟩ := bd_e h
    refine xw_callV B hM hS (xw_recv (xb_vk B) hM 2 x4 (Or.inl (xv_s (k := 2) (by decide) v5)) (fun gh => ⟨_, rfl⟩) rfl) [.int x2] (n := 1) (v := (some (.int r6))) (c_X0_has B.2.2.2.2 e8) wm_RX5_345 wi_yX0_has ws_yX0_has wn_RX0 wc_yX0_has rfl rfl (by decide +kernel) ⟨Nat.le_of_ble_eq_true rfl, Nat.le_of_ble_eq_true rfl⟩ ⟨(by show _ ≤ 4; omega), (by show _ ≤ 24; omega)⟩ rfl hl.1 (Nat.le_of_ble_eq_true rfl) rfl dX5_shotForEdge_52 (fun H locs hM hS => ?_)
    refine lv_if_ne (tgt := 69) hx hb dX5_shotForEdge_55 (by decide) (fun c9 => ?_) (fun c9 => ?_)
    · have h := bi_f c9 h
      refine lv_aload hx hb dX5_shotForEdge_69 (lv_at hl 2 rfl) ?_
      cases h
      exact xx_aret B hM hS (by omega) (by omega) dX5_shotForEdge_71 rfl
    · have h := bi_t c9 h
      cases h
      exact xw_throw (k := 1) (ik := 60) (ic := 64) (is := 349) (text := "the character is not in the shot") B hM hS wk_RX5_60 wn_java_lang_UnsupportedOperationException at_1 an_1 ag_1 (by decide +kernel) (by decide +kernel) hl.1 ⟨⟨dX5_shotForEdge_58, dX5_shotForEdge_61⟩, Or.inr ⟨dX5_shotForEdge_62, dX5_shotForEdge_65, dX5_shotForEdge_68⟩⟩ (Nat.le_of_ble_eq_true rfl) (Nat.le_of_ble_eq_true rfl) (by show _ ≤ 4; omega) (by show _ ≤ 24; omega) (by omega) (by omega) rfl
set_option maxHeartbeats 4000000 in
set_option maxRecDepth 100000 in
theorem w_X5_shotForEdge {p : Program} {l : Launch} {e : Env} {s : State} {m : MethodId} {args : Array Value} {below : List Frame} {meth : Method} {c : Code} {G : GG} {A : Nat → Prop} {ad : AD} (B : XB G A ad p l s m args meth c cX5_shotForEdge 5 RX5 (some (.object "ThumbnailRow$Shot"))) {r : (Nat ⊕ Nat)} {st' : XS} : ∀ (cells slots : Nat) (st : XS) (x1 : Int32) (x2 : Int32) (x3 : Int32) (H : Heap) (locs : List Loc) (ls : Array Slot), cells + 4 ≤ 4 → slots + 24 ≤ 24 → f_X5_shotForEdge st x1 x2 x3 = some (r, st') → XW G A ad st H → va_S A s.heap H locs → lv_has ls 5 [(0, .ref (ad 0 0)), (1, .int x1), (2, .int x2), (3, .int x3)] → W p l e ({ frames := 8, cells := 4, slots := 24, locals := 143 } : Room) s m args below meth c H locs cells slots (vx_MQ below (QXr G A ad (ovw (fun x => some (.ref (ad 1 x))) r) st') (QXx G A ad (ovw (fun x => some (.ref (ad 1 x))) r) st') args s 4 24 A) (F0 m 0 ls []) := by
  have ⟨⟨hx, hb, hr, hml, hown, hT, hlocks, hK⟩, hnt, hST, hA, hll⟩ := B
  intro cells slots st x1 x2 x3 H locs ls hc hs h hM hS hl
  rw [f_X5_shotForEdge] at h
  refine lv_aload_n hx hb dX5_shotForEdge_0 rfl (lv_at hl 0 rfl) ?_
  refine lv_iload_n hx hb dX5_shotForEdge_1 rfl (lv_at hl 1 rfl) ?_
  rcases bdx_e h with ⟨k4, t2, e3, h⟩ | ⟨r1, t2, e3, h⟩
  · cases h
    exact xx_goV B hM hS (xw_recv (xb_vk B) hM 0 0 (Or.inl xv_0) (fun gh => ⟨_, rfl⟩) rfl) [.int x1] (n := 1) (c_X5_madeShot B.2.2.2.2 e3) wm_RX5_93 wi_yX5_madeShot ws_yX5_madeShot wn_RX5 wc_yX5_madeShot rfl rfl (by decide +kernel) ⟨Nat.le_of_ble_eq_true rfl, Nat.le_of_ble_eq_true rfl⟩ ⟨(by show _ ≤ 4; omega), (by show _ ≤ 24; omega)⟩ rfl hl.1 (Nat.le_of_ble_eq_true rfl) rfl dX5_shotForEdge_2 (by omega) (by omega) rfl
  · refine xx_callV B hM hS (xw_recv (xb_vk B) hM 0 0 (Or.inl xv_0) (fun gh => ⟨_, rfl⟩) rfl) [.int x1] (n := 1) (v := (some (.ref (ad 1 r1)))) (c_X5_madeShot B.2.2.2.2 e3) wm_RX5_93 wi_yX5_madeShot ws_yX5_madeShot wn_RX5 wc_yX5_madeShot rfl rfl (by decide +kernel) ⟨Nat.le_of_ble_eq_true rfl, Nat.le_of_ble_eq_true rfl⟩ ⟨(by show _ ≤ 4; omega), (by show _ ≤ 24; omega)⟩ rfl hl.1 (Nat.le_of_ble_eq_true rfl) rfl dX5_shotForEdge_2 (fun H locs hM hS => ?_)
    refine lv_astore (lv' := [(4, .ref (ad 1 r1)), (0, .ref (ad 0 0)), (1, .int x1), (2, .int x2), (3, .int x3)]) hx hb dX5_shotForEdge_5 hl (by decide) rfl (fun ls hl => ?_)
    refine lv_iload_n hx hb dX5_shotForEdge_7 rfl (lv_at hl 3 rfl) ?_
    rcases bdx_e h with ⟨k8, t6, e7, h⟩ | ⟨r5, t6, e7, h⟩
    · cases h
      exact xx_goS B hM hS [.int x2] (n := 1) (c_X5_checkCharacter B.2.2.2.2 e7) wm_RX5_132 wt_yX5_checkCharacter wn_RX5 wc_yX5_checkCharacter rfl rfl (by decide +kernel) ⟨Nat.le_of_ble_eq_true rfl, Nat.le_of_ble_eq_true rfl⟩ ⟨(by show _ ≤ 4; omega), (by show _ ≤ 24; omega)⟩ rfl hl.1 (Nat.le_of_ble_eq_true rfl) rfl dX5_shotForEdge_8 (by omega) (by omega) rfl
    · refine xx_callS B hM hS [.int x2] (n := 1) (v := none) (c_X5_checkCharacter B.2.2.2.2 e7) wm_RX5_132 wt_yX5_checkCharacter wn_RX5 wc_yX5_checkCharacter rfl rfl (by decide +kernel) ⟨Nat.le_of_ble_eq_true rfl, Nat.le_of_ble_eq_true rfl⟩ ⟨(by show _ ≤ 4; omega), (by show _ ≤ 24; omega)⟩ rfl hl.1 (Nat.le_of_ble_eq_true rfl) rfl dX5_shotForEdge_8 (fun H locs hM hS => ?_)
      refine lv_iload_n hx hb dX5_shotForEdge_11 rfl (lv_at hl 4 rfl) ?_
      refine lv_bipush (v := 108) hx hb dX5_shotForEdge_12 (by decide) ?_
      refine lv_icmp_eq (tgt := 40) hx hb dX5_shotForEdge_14 (by decide) (fun c9 => ?_) (fun c9 => ?_)
      · have h := bi_t c9 h
        exact w_X5_shotForEdge_40 B _ _ _ _ _ _ _ _ (by omega) (by omega) h hM hS (lv_sub hl [1, 3, 0] rfl)
      · have h := bi_f c9 h
        refine lv_iload_n hx hb dX5_shotForEdge_17 rfl (lv_at hl 4 rfl) ?_
        refine lv_bipush (v := 114) hx hb dX5_shotForEdge_18 (by decide) ?_
        refine lv_icmp_eq (tgt := 40) hx hb dX5_shotForEdge_20 (by decide) (fun c10 => ?_) (fun c10 => ?_)
        · have h := bi_t c10 h
          exact w_X5_shotForEdge_40 B _ _ _ _ _ _ _ _ (by omega) (by omega) h hM hS (lv_sub hl [1, 3, 0] rfl)
        · have h := bi_f c10 h
          refine lv_iload_n hx hb dX5_shotForEdge_23 rfl (lv_at hl 4 rfl) ?_
          refine lv_bipush (v := 45) hx hb dX5_shotForEdge_24 (by decide) ?_
          refine lv_icmp_eq (tgt := 40) hx hb dX5_shotForEdge_26 (by decide) (fun c11 => ?_) (fun c11 => ?_)
          · have h := bi_t c11 h
            exact w_X5_shotForEdge_40 B _ _ _ _ _ _ _ _ (by omega) (by omega) h hM hS (lv_sub hl [1, 3, 0] rfl)
          · have h := bi_f c11 h
            cases h
            exact xw_throw (k := 0) (ik := 41) (ic := 45) (is := 343) (text := "no such edge") B hM hS wk_RX5_41 wn_java_lang_IllegalArgumentException at_0 an_0 ag_0 (by decide +kernel) (by decide +kernel) hl.1 ⟨⟨dX5_shotForEdge_29, dX5_shotForEdge_32⟩, Or.inr ⟨dX5_shotForEdge_33, dX5_shotForEdge_36, dX5_shotForEdge_39⟩⟩ (Nat.le_of_ble_eq_true rfl) (Nat.le_of_ble_eq_true rfl) (by show _ ≤ 4; omega) (by show _ ≤ 24; omega) (by omega) (by omega) rfl
theorem c_X5_shotForEdge {l : Launch} (hll : l.stackTraces = false) {G : GG} {A : Nat → Prop} {ad : AD} {st : XS} {x1 : Int32} {x2 : Int32} {x3 : Int32} {r : (Nat ⊕ Nat)} {st' : XS} (h : f_X5_shotForEdge st x1 x2 x3 = some (r, st')) : vx_Met l yX5_shotForEdge (Cond.code yX5_shotForEdge cX5_shotForEdge 5 (some (.object "ThumbnailRow$Shot")) :: TG) ({ frames := 8, cells := 4, slots := 24, locals := 143 } : Room) (PX G A ad st [.ref (ad 0 0), .int x1, .int x2, .int x3]) (QXr G A ad (ovw (fun x => some (.ref (ad 1 x))) r) st') (QXx G A ad (ovw (fun x => some (.ref (ad 1 x))) r) st') 4 24 A :=
  xx_of (own := RX5) hll (by decide +kernel) rfl (Nat.le_of_ble_eq_true rfl) fun p e s m below meth c ls B hM hS hl => w_X5_shotForEdge B _ _ _ _ _ _ _ _ _ (Nat.le_of_ble_eq_true rfl) (Nat.le_of_ble_eq_true rfl) h hM hS hl
set_option maxHeartbeats 4000000 in
set_option maxRecDepth 100000 in
theorem w_X5_enters {p : Program} {l : Launch} {e : Env} {s : State} {m : MethodId} {args : Array Value} {below : List Frame} {meth : Method} {c : Code} {G : GG} {A : Nat → Prop} {ad : AD} (B : XB G A ad p l s m args meth c cX5_enters 5 RX5 (some .char)) {r : (Nat ⊕ Int32)} {st' : XS} : ∀ (cells slots : Nat) (st : XS) (x1 : Int32) (x2 : Int32) (x3 : Int32) (H : Heap) (locs : List Loc) (ls : Array Slot), cells + 4 ≤ 4 → slots + 24 ≤ 24 → f_X5_enters st x1 x2 x3 = some (r, st') → XW G A ad st H → va_S A s.heap H locs → lv_has ls 5 [(0, .ref (ad 0 0)), (1, .int x1), (2, .int x2), (3, .int x3)] → W p l e ({ frames := 9, cells := 4, slots := 24, locals := 167 } : Room) s m args below meth c H locs cells slots (vx_MQ below (QXr G A ad (ovw (fun x => some (.int x)) r) st') (QXx G A ad (ovw (fun x => some (.int x)) r) st') args s 4 24 A) (F0 m 0 ls []) := by
  have ⟨⟨hx, hb, hr, hml, hown, hT, hlocks, hK⟩, hnt, hST, hA, hll⟩ := B
  intro cells slots st x1 x2 x3 H locs ls hc hs h hM hS hl
  rw [f_X5_enters] at h
  refine lv_aload_n hx hb dX5_enters_0 rfl (lv_at hl 0 rfl) ?_
  refine lv_iload_n hx hb dX5_enters_1 rfl (lv_at hl 1 rfl) ?_
  refine lv_iload_n hx hb dX5_enters_2 rfl (lv_at hl 2 rfl) ?_
  refine lv_iload_n hx hb dX5_enters_3 rfl (lv_at hl 3 rfl) ?_
  rcases bdx_e h with ⟨k4, t2, e3, h⟩ | ⟨r1, t2, e3, h⟩
  · cases h
    exact xx_goV B hM hS (xw_recv (xb_vk B) hM 0 0 (Or.inl xv_0) (fun gh => ⟨_, rfl⟩) rfl) [.int x1, .int x2, .int x3] (n := 3) (c_X5_shotForEdge B.2.2.2.2 e3) wm_RX5_162 wi_yX5_shotForEdge ws_yX5_shotForEdge wn_RX5 wc_yX5_shotForEdge rfl rfl (by decide +kernel) ⟨Nat.le_of_ble_eq_true rfl, Nat.le_of_ble_eq_true rfl⟩ ⟨(by show _ ≤ 4; omega), (by show _ ≤ 24; omega)⟩ rfl hl.1 (Nat.le_of_ble_eq_true rfl) rfl dX5_enters_4 (by omega) (by omega) rfl
  · refine xx_callV B hM hS (xw_recv (xb_vk B) hM 0 0 (Or.inl xv_0) (fun gh => ⟨_, rfl⟩) rfl) [.int x1, .int x2, .int x3] (n := 3) (v := (some (.ref (ad 1 r1)))) (c_X5_shotForEdge B.2.2.2.2 e3) wm_RX5_162 wi_yX5_shotForEdge ws_yX5_shotForEdge wn_RX5 wc_yX5_shotForEdge rfl rfl (by decide +kernel) ⟨Nat.le_of_ble_eq_true rfl, Nat.le_of_ble_eq_true rfl⟩ ⟨(by show _ ≤ 4; omega), (by show _ ≤ 24; omega)⟩ rfl hl.1 (Nat.le_of_ble_eq_true rfl) rfl dX5_enters_4 (fun H locs hM hS => ?_)
    refine lv_astore (lv' := [(4, .ref (ad 1 r1)), (0, .ref (ad 0 0)), (1, .int x1), (2, .int x2), (3, .int x3)]) hx hb dX5_enters_7 hl (by decide) rfl (fun ls hl => ?_)
    refine lv_aload hx hb dX5_enters_9 (lv_at hl 0 rfl) ?_
    refine lv_aload hx hb dX5_enters_11 (lv_at hl 0 rfl) ?_
    obtain ⟨v5, h⟩ := gd_e h
    refine xw_get B.1 hM 1 r1 (xv_s (k := 1) (by decide) v5) (ci := 5) (N := 12) (fs := fSh ad t2 r1) (C := RX4) (T := TX4) (fun _ => rfl) rfl inX4 1 (by decide) wf_RX5_148 rfl (v := .ref (ad 2 r1)) rfl dX5_enters_13 ?_
    refine xw_get B.1 hM 2 r1 (xv_s (k := 2) (by decide) v5) (ci := 1) (N := 4) (fs := fCa ad r1) (C := RX0) (T := TX0) (fun _ => rfl) rfl inX0 2 (by decide) wf_RX5_166 rfl (v := .ref (ad 6 r1)) rfl dX5_enters_16 ?_
    refine lv_iload_n hx hb dX5_enters_19 rfl (lv_at hl 3 rfl) ?_
    refine lv_iload_n hx hb dX5_enters_20 rfl (lv_at hl 4 rfl) ?_
    obtain ⟨r6, t7, e8, h⟩ := bd_e h
    refine xw_callV B hM hS (xw_recv (xb_vk B) hM 1 r1 (Or.inl (xv_s (k := 1) (by decide) v5)) (fun gh => ⟨_, rfl⟩) rfl) [.ref (ad 6 r1), .int x2, .int x3] (n := 3) (v := (some (.int r6))) (c_X4_changeEdge B.2.2.2.2 e8) wm_RX5_170 wi_yX4_changeEdge ws_yX4_changeEdge wn_RX4 wc_yX4_changeEdge rfl rfl (by decide +kernel) ⟨Nat.le_of_ble_eq_true rfl, Nat.le_of_ble_eq_true rfl⟩ ⟨(by show _ ≤ 4; omega), (by show _ ≤ 24; omega)⟩ rfl hl.1 (Nat.le_of_ble_eq_true rfl) rfl dX5_enters_21 (fun H locs hM hS => ?_)
    obtain ⟨g9, h⟩ := gd_e h
    cases h
    exact xx_zret B hM hS (by omega) (by omega) g9 dX5_enters_24 rfl
theorem c_X5_enters {l : Launch} (hll : l.stackTraces = false) {G : GG} {A : Nat → Prop} {ad : AD} {st : XS} {x1 : Int32} {x2 : Int32} {x3 : Int32} {r : (Nat ⊕ Int32)} {st' : XS} (h : f_X5_enters st x1 x2 x3 = some (r, st')) : vx_Met l yX5_enters (Cond.code yX5_enters cX5_enters 5 (some .char) :: TG) ({ frames := 9, cells := 4, slots := 24, locals := 167 } : Room) (PX G A ad st [.ref (ad 0 0), .int x1, .int x2, .int x3]) (QXr G A ad (ovw (fun x => some (.int x)) r) st') (QXx G A ad (ovw (fun x => some (.int x)) r) st') 4 24 A :=
  xx_of (own := RX5) hll (by decide +kernel) rfl (Nat.le_of_ble_eq_true rfl) fun p e s m below meth c ls B hM hS hl => w_X5_enters B _ _ _ _ _ _ _ _ _ (Nat.le_of_ble_eq_true rfl) (Nat.le_of_ble_eq_true rfl) h hM hS hl
set_option maxHeartbeats 4000000 in
set_option maxRecDepth 100000 in
theorem w_X5_leaves {p : Program} {l : Launch} {e : Env} {s : State} {m : MethodId} {args : Array Value} {below : List Frame} {meth : Method} {c : Code} {G : GG} {A : Nat → Prop} {ad : AD} (B : XB G A ad p l s m args meth c cX5_leaves 5 RX5 (some .char)) {r : (Nat ⊕ Int32)} {st' : XS} : ∀ (cells slots : Nat) (st : XS) (x1 : Int32) (x2 : Int32) (x3 : Int32) (H : Heap) (locs : List Loc) (ls : Array Slot), cells + 4 ≤ 4 → slots + 24 ≤ 24 → f_X5_leaves st x1 x2 x3 = some (r, st') → XW G A ad st H → va_S A s.heap H locs → lv_has ls 5 [(0, .ref (ad 0 0)), (1, .int x1), (2, .int x2), (3, .int x3)] → W p l e ({ frames := 9, cells := 4, slots := 24, locals := 167 } : Room) s m args below meth c H locs cells slots (vx_MQ below (QXr G A ad (ovw (fun x => some (.int x)) r) st') (QXx G A ad (ovw (fun x => some (.int x)) r) st') args s 4 24 A) (F0 m 0 ls []) := by
  have ⟨⟨hx, hb, hr, hml, hown, hT, hlocks, hK⟩, hnt, hST, hA, hll⟩ := B
  intro cells slots st x1 x2 x3 H locs ls hc hs h hM hS hl
  rw [f_X5_leaves] at h
  refine lv_aload_n hx hb dX5_leaves_0 rfl (lv_at hl 0 rfl) ?_
  refine lv_iload_n hx hb dX5_leaves_1 rfl (lv_at hl 1 rfl) ?_
  refine lv_iload_n hx hb dX5_leaves_2 rfl (lv_at hl 2 rfl) ?_
  refine lv_iload_n hx hb dX5_leaves_3 rfl (lv_at hl 3 rfl) ?_
  rcases bdx_e h with ⟨k4, t2, e3, h⟩ | ⟨r1, t2, e3, h⟩
  · cases h
    exact xx_goV B hM hS (xw_recv (xb_vk B) hM 0 0 (Or.inl xv_0) (fun gh => ⟨_, rfl⟩) rfl) [.int x1, .int x2, .int x3] (n := 3) (c_X5_shotForEdge B.2.2.2.2 e3) wm_RX5_162 wi_yX5_shotForEdge ws_yX5_shotForEdge wn_RX5 wc_yX5_shotForEdge rfl rfl (by decide +kernel) ⟨Nat.le_of_ble_eq_true rfl, Nat.le_of_ble_eq_true rfl⟩ ⟨(by show _ ≤ 4; omega), (by show _ ≤ 24; omega)⟩ rfl hl.1 (Nat.le_of_ble_eq_true rfl) rfl dX5_leaves_4 (by omega) (by omega) rfl
  · refine xx_callV B hM hS (xw_recv (xb_vk B) hM 0 0 (Or.inl xv_0) (fun gh => ⟨_, rfl⟩) rfl) [.int x1, .int x2, .int x3] (n := 3) (v := (some (.ref (ad 1 r1)))) (c_X5_shotForEdge B.2.2.2.2 e3) wm_RX5_162 wi_yX5_shotForEdge ws_yX5_shotForEdge wn_RX5 wc_yX5_shotForEdge rfl rfl (by decide +kernel) ⟨Nat.le_of_ble_eq_true rfl, Nat.le_of_ble_eq_true rfl⟩ ⟨(by show _ ≤ 4; omega), (by show _ ≤ 24; omega)⟩ rfl hl.1 (Nat.le_of_ble_eq_true rfl) rfl dX5_leaves_4 (fun H locs hM hS => ?_)
    refine lv_astore (lv' := [(4, .ref (ad 1 r1)), (0, .ref (ad 0 0)), (1, .int x1), (2, .int x2), (3, .int x3)]) hx hb dX5_leaves_7 hl (by decide) rfl (fun ls hl => ?_)
    refine lv_aload hx hb dX5_leaves_9 (lv_at hl 0 rfl) ?_
    refine lv_aload hx hb dX5_leaves_11 (lv_at hl 0 rfl) ?_
    obtain ⟨v5, h⟩ := gd_e h
    refine xw_get B.1 hM 1 r1 (xv_s (k := 1) (by decide) v5) (ci := 5) (N := 12) (fs := fSh ad t2 r1) (C := RX4) (T := TX4) (fun _ => rfl) rfl inX4 1 (by decide) wf_RX5_148 rfl (v := .ref (ad 2 r1)) rfl dX5_leaves_13 ?_
    refine xw_get B.1 hM 2 r1 (xv_s (k := 2) (by decide) v5) (ci := 1) (N := 4) (fs := fCa ad r1) (C := RX0) (T := TX0) (fun _ => rfl) rfl inX0 3 (by decide) wf_RX5_174 rfl (v := .ref (ad 7 r1)) rfl dX5_leaves_16 ?_
    refine lv_iload_n hx hb dX5_leaves_19 rfl (lv_at hl 3 rfl) ?_
    refine lv_iload_n hx hb dX5_leaves_20 rfl (lv_at hl 4 rfl) ?_
    obtain ⟨r6, t7, e8, h⟩ := bd_e h
    refine xw_callV B hM hS (xw_recv (xb_vk B) hM 1 r1 (Or.inl (xv_s (k := 1) (by decide) v5)) (fun gh => ⟨_, rfl⟩) rfl) [.ref (ad 7 r1), .int x2, .int x3] (n := 3) (v := (some (.int r6))) (c_X4_changeEdge B.2.2.2.2 e8) wm_RX5_170 wi_yX4_changeEdge ws_yX4_changeEdge wn_RX4 wc_yX4_changeEdge rfl rfl (by decide +kernel) ⟨Nat.le_of_ble_eq_true rfl, Nat.le_of_ble_eq_true rfl⟩ ⟨(by show _ ≤ 4; omega), (by show _ ≤ 24; omega)⟩ rfl hl.1 (Nat.le_of_ble_eq_true rfl) rfl dX5_leaves_21 (fun H locs hM hS => ?_)
    obtain ⟨g9, h⟩ := gd_e h
    cases h
    exact xx_zret B hM hS (by omega) (by omega) g9 dX5_leaves_24 rfl
theorem c_X5_leaves {l : Launch} (hll : l.stackTraces = false) {G : GG} {A : Nat → Prop} {ad : AD} {st : XS} {x1 : Int32} {x2 : Int32} {x3 : Int32} {r : (Nat ⊕ Int32)} {st' : XS} (h : f_X5_leaves st x1 x2 x3 = some (r, st')) : vx_Met l yX5_leaves (Cond.code yX5_leaves cX5_leaves 5 (some .char) :: TG) ({ frames := 9, cells := 4, slots := 24, locals := 167 } : Room) (PX G A ad st [.ref (ad 0 0), .int x1, .int x2, .int x3]) (QXr G A ad (ovw (fun x => some (.int x)) r) st') (QXx G A ad (ovw (fun x => some (.int x)) r) st') 4 24 A :=
  xx_of (own := RX5) hll (by decide +kernel) rfl (Nat.le_of_ble_eq_true rfl) fun p e s m below meth c ls B hM hS hl => w_X5_leaves B _ _ _ _ _ _ _ _ _ (Nat.le_of_ble_eq_true rfl) (Nat.le_of_ble_eq_true rfl) h hM hS hl
set_option maxHeartbeats 4000000 in
set_option maxRecDepth 100000 in
theorem w_X5_version {p : Program} {l : Launch} {e : Env} {s : State} {m : MethodId} {args : Array Value} {below : List Frame} {meth : Method} {c : Code} {G : GG} {A : Nat → Prop} {ad : AD} (B : XB G A ad p l s m args meth c cX5_version 2 RX5 (some .int)) {r : (Nat ⊕ Int32)} {st' : XS} : ∀ (cells slots : Nat) (st : XS) (x1 : Int32) (H : Heap) (locs : List Loc) (ls : Array Slot), cells + 1 ≤ 1 → slots + 6 ≤ 6 → f_X5_version st x1 = some (r, st') → XW G A ad st H → va_S A s.heap H locs → lv_has ls 2 [(0, .ref (ad 0 0)), (1, .int x1)] → W p l e ({ frames := 7, cells := 1, slots := 6, locals := 121 } : Room) s m args below meth c H locs cells slots (vx_MQ below (QXr G A ad (ovw (fun x => some (.int x)) r) st') (QXx G A ad (ovw (fun x => some (.int x)) r) st') args s 1 6 A) (F0 m 0 ls []) := by
  have ⟨⟨hx, hb, hr, hml, hown, hT, hlocks, hK⟩, hnt, hST, hA, hll⟩ := B
  intro cells slots st x1 H locs ls hc hs h hM hS hl
  rw [f_X5_version] at h
  refine lv_aload_n hx hb dX5_version_0 rfl (lv_at hl 0 rfl) ?_
  refine lv_iload_n hx hb dX5_version_1 rfl (lv_at hl 1 rfl) ?_
  rcases bdx_e h with ⟨k4, t2, e3, h⟩ | ⟨r1, t2, e3, h⟩
  · cases h
    exact xx_goV B hM hS (xw_recv (xb_vk B) hM 0 0 (Or.inl xv_0) (fun gh => ⟨_, rfl⟩) rfl) [.int x1] (n := 1) (c_X5_madeShot B.2.2.2.2 e3) wm_RX5_93 wi_yX5_madeShot ws_yX5_madeShot wn_RX5 wc_yX5_madeShot rfl rfl (by decide +kernel) ⟨Nat.le_of_ble_eq_true rfl, Nat.le_of_ble_eq_true rfl⟩ ⟨(by show _ ≤ 1; omega), (by show _ ≤ 6; omega)⟩ rfl hl.1 (Nat.le_of_ble_eq_true rfl) rfl dX5_version_2 (by omega) (by omega) rfl
  · refine xx_callV B hM hS (xw_recv (xb_vk B) hM 0 0 (Or.inl xv_0) (fun gh => ⟨_, rfl⟩) rfl) [.int x1] (n := 1) (v := (some (.ref (ad 1 r1)))) (c_X5_madeShot B.2.2.2.2 e3) wm_RX5_93 wi_yX5_madeShot ws_yX5_madeShot wn_RX5 wc_yX5_madeShot rfl rfl (by decide +kernel) ⟨Nat.le_of_ble_eq_true rfl, Nat.le_of_ble_eq_true rfl⟩ ⟨(by show _ ≤ 1; omega), (by show _ ≤ 6; omega)⟩ rfl hl.1 (Nat.le_of_ble_eq_true rfl) rfl dX5_version_2 (fun H locs hM hS => ?_)
    obtain ⟨v5, h⟩ := gd_e h
    refine xw_get B.1 hM 1 r1 (xv_s (k := 1) (by decide) v5) (ci := 5) (N := 12) (fs := fSh ad t2 r1) (C := RX4) (T := TX4) (fun _ => rfl) rfl inX4 6 (by decide) wf_RX5_105 rfl (v := .int (xF t2 1 r1 6)) rfl dX5_version_5 ?_
    cases h
    exact xx_iret B hM hS (by omega) (by omega) dX5_version_8 rfl
theorem c_X5_version {l : Launch} (hll : l.stackTraces = false) {G : GG} {A : Nat → Prop} {ad : AD} {st : XS} {x1 : Int32} {r : (Nat ⊕ Int32)} {st' : XS} (h : f_X5_version st x1 = some (r, st')) : vx_Met l yX5_version (Cond.code yX5_version cX5_version 2 (some .int) :: TG) ({ frames := 7, cells := 1, slots := 6, locals := 121 } : Room) (PX G A ad st [.ref (ad 0 0), .int x1]) (QXr G A ad (ovw (fun x => some (.int x)) r) st') (QXx G A ad (ovw (fun x => some (.int x)) r) st') 1 6 A :=
  xx_of (own := RX5) hll (by decide +kernel) rfl (Nat.le_of_ble_eq_true rfl) fun p e s m below meth c ls B hM hS hl => w_X5_version B _ _ _ _ _ _ _ (Nat.le_of_ble_eq_true rfl) (Nat.le_of_ble_eq_true rfl) h hM hS hl
set_option maxHeartbeats 4000000 in
set_option maxRecDepth 100000 in
theorem w_X5_beginOf_43 {p : Program} {l : Launch} {e : Env} {s : State} {m : MethodId} {args : Array Value} {below : List Frame} {meth : Method} {c : Code} {G : GG} {A : Nat → Prop} {ad : AD} (B : XB G A ad p l s m args meth c cX5_beginOf 4 RX5 (some .int)) {r : Int32} {st' : XS} : ∀ (st : XS) (x2 : Int32) (H : Heap) (locs : List Loc) (ls : Array Slot), f_X5_beginOf_43 st x2 = some (r, st') → XW G A ad st H → va_S A s.heap H locs → lv_has ls 4 [(2, .int x2)] → W p l e ({ frames := 3, cells := 0, slots := 0, locals := 64 } : Room) s m args below meth c H locs 0 0 (MQ below (QX G A ad (some (.int r)) st') args s 0 0 A) (F0 m 43 ls []) := by
  have ⟨⟨hx, hb, hr, hml, hown, hT, hlocks, hK⟩, hnt, hST, hA, hll⟩ := B
  intro st x2 H locs ls h hM hS hl
  rw [f_X5_beginOf_43] at h
  refine lv_iload_n hx hb dX5_beginOf_43 rfl (lv_at hl 0 rfl) ?_
  cases h
  exact xw_iret B hM hS (Nat.le_refl 0) (Nat.le_refl 0) dX5_beginOf_44
set_option maxHeartbeats 4000000 in
set_option maxRecDepth 100000 in
theorem w_X5_beginOf_4 {p : Program} {l : Launch} {e : Env} {s : State} {m : MethodId} {args : Array Value} {below : List Frame} {meth : Method} {c : Code} {G : GG} {A : Nat → Prop} {ad : AD} (B : XB G A ad p l s m args meth c cX5_beginOf 4 RX5 (some .int)) {r : Int32} {st' : XS} : ∀ (n : Nat) (st : XS) (x1 : Int32) (x2 : Int32) (x3 : Int32) (H : Heap) (locs : List Loc) (ls : Array Slot), f_X5_beginOf_4 n st x1 x2 x3 = some (r, st') → XW G A ad st H → va_S A s.heap H locs → lv_has ls 4 [(0, .ref (ad 0 0)), (1, .int x1), (2, .int x2), (3, .int x3)] → W p l e ({ frames := 3, cells := 0, slots := 0, locals := 64 } : Room) s m args below meth c H locs 0 0 (MQ below (QX G A ad (some (.int r)) st') args s 0 0 A) (F0 m 4 ls []) := by
  have ⟨⟨hx, hb, hr, hml, hown, hT, hlocks, hK⟩, hnt, hST, hA, hll⟩ := B
  intro n
  induction n with
  | zero =>
    intro st x1 x2 x3 H locs ls h
    cases h
  | succ n ih =>
    intro st x1 x2 x3 H locs ls h hM hS hl
    rw [f_X5_beginOf_4] at h
    refine lv_iload_n hx hb dX5_beginOf_4 rfl (lv_at hl 3 rfl) ?_
    refine lv_iload_n hx hb dX5_beginOf_5 rfl (lv_at hl 1 rfl) ?_
    refine lv_icmp_ge (tgt := 43) hx hb dX5_beginOf_6 (by decide) (fun c1 => ?_) (fun c1 => ?_)
    · have h := bi_t c1 h
      exact w_X5_beginOf_43 B _ _ _ _ _ h hM hS (lv_sub hl [2] rfl)
    · have h := bi_f c1 h
      refine lv_iload_n hx hb dX5_beginOf_9 rfl (lv_at hl 3 rfl) ?_
      refine lv_aload_n hx hb dX5_beginOf_10 rfl (lv_at hl 0 rfl) ?_
      refine xw_get B.1 hM 0 0 xv_0 (ci := 6) (N := 6) (fs := fTR ad st) (C := RX5) (T := TX5) (fun _ => rfl) rfl inX5 1 (by decide) wf_RX5_16 rfl (v := .ref (ad 13 1)) rfl dX5_beginOf_11 ?_
      refine xw_size B hM hS 1 (by decide) wm_RX5_37 ⟨Nat.le_of_ble_eq_true rfl, Nat.le_of_ble_eq_true rfl⟩ ⟨Nat.le_refl 0, Nat.le_refl 0⟩ hl.1 (Nat.le_of_ble_eq_true rfl) dX5_beginOf_14 ?_
      refine lv_icmp_ge (tgt := 43) hx hb dX5_beginOf_17 (by decide) (fun c2 => ?_) (fun c2 => ?_)
      · have h := bi_t c2 h
        exact w_X5_beginOf_43 B _ _ _ _ _ h hM hS (lv_sub hl [2] rfl)
      · have h := bi_f c2 h
        refine lv_iload_n hx hb dX5_beginOf_20 rfl (lv_at hl 2 rfl) ?_
        refine lv_aload_n hx hb dX5_beginOf_21 rfl (lv_at hl 0 rfl) ?_
        refine xw_get B.1 hM 0 0 xv_0 (ci := 6) (N := 6) (fs := fTR ad st) (C := RX5) (T := TX5) (fun _ => rfl) rfl inX5 1 (by decide) wf_RX5_16 rfl (v := .ref (ad 13 1)) rfl dX5_beginOf_22 ?_
        refine lv_iload_n hx hb dX5_beginOf_25 rfl (lv_at hl 3 rfl) ?_
        obtain ⟨g3, h⟩ := gd_e h
        refine xw_lget B hM hS 1 (by decide) wm_RX5_116 g3 ⟨Nat.le_of_ble_eq_true rfl, Nat.le_of_ble_eq_true rfl⟩ ⟨Nat.le_refl 0, Nat.le_refl 0⟩ hl.1 (Nat.le_of_ble_eq_true rfl) dX5_beginOf_26 ?_
        obtain ⟨v4, h⟩ := gd_e h
        refine xw_castShot B.1 hM v4 wk_RX5_70 dX5_beginOf_29 ?_
        refine xw_get B.1 hM 1 ((xL st 1).getD x3.toNatClampNeg 0) (xv_s (k := 1) (by decide) v4) (ci := 5) (N := 12) (fs := fSh ad st ((xL st 1).getD x3.toNatClampNeg 0)) (C := RX4) (T := TX4) (fun _ => rfl) rfl inX4 5 (by decide) wf_RX5_187 rfl (v := .int (xF st 1 ((xL st 1).getD x3.toNatClampNeg 0) 5)) rfl dX5_beginOf_32 ?_
        refine lv_iadd hx hb dX5_beginOf_35 ?_
        refine lv_istore_n (lv' := [(2, .int (x2 + (xF st 1 ((xL st 1).getD x3.toNatClampNeg 0) 5))), (0, .ref (ad 0 0)), (1, .int x1), (3, .int x3)]) hx hb dX5_beginOf_36 rfl hl (by decide) rfl (fun ls hl => ?_)
        refine lv_iinc (v := (x3 + 1)) (lv' := [(3, .int (x3 + 1)), (2, .int (x2 + (xF st 1 ((xL st 1).getD x3.toNatClampNeg 0) 5))), (0, .ref (ad 0 0)), (1, .int x1)]) hx hb dX5_beginOf_37 hl (k := 3) rfl rfl (by decide) rfl (fun ls hl => ?_)
        refine lv_goto (tgt := 4) hx hb dX5_beginOf_40 (by decide) ?_
        exact ih _ _ _ _ _ _ _ h hM hS (lv_sub hl [2, 3, 1, 0] rfl)
set_option maxHeartbeats 4000000 in
set_option maxRecDepth 100000 in
theorem w_X5_beginOf {p : Program} {l : Launch} {e : Env} {s : State} {m : MethodId} {args : Array Value} {below : List Frame} {meth : Method} {c : Code} {G : GG} {A : Nat → Prop} {ad : AD} (B : XB G A ad p l s m args meth c cX5_beginOf 4 RX5 (some .int)) {r : Int32} {st' : XS} : ∀ (st : XS) (x1 : Int32) (H : Heap) (locs : List Loc) (ls : Array Slot), f_X5_beginOf st x1 = some (r, st') → XW G A ad st H → va_S A s.heap H locs → lv_has ls 4 [(0, .ref (ad 0 0)), (1, .int x1)] → W p l e ({ frames := 3, cells := 0, slots := 0, locals := 64 } : Room) s m args below meth c H locs 0 0 (MQ below (QX G A ad (some (.int r)) st') args s 0 0 A) (F0 m 0 ls []) := by
  have ⟨⟨hx, hb, hr, hml, hown, hT, hlocks, hK⟩, hnt, hST, hA, hll⟩ := B
  intro st x1 H locs ls h hM hS hl
  rw [f_X5_beginOf] at h
  refine lv_iconst (v := 0) hx hb dX5_beginOf_0 (by decide) ?_
  refine lv_istore_n (lv' := [(2, .int 0), (0, .ref (ad 0 0)), (1, .int x1)]) hx hb dX5_beginOf_1 rfl hl (by decide) rfl (fun ls hl => ?_)
  refine lv_iconst (v := 0) hx hb dX5_beginOf_2 (by decide) ?_
  refine lv_istore_n (lv' := [(3, .int 0), (2, .int 0), (0, .ref (ad 0 0)), (1, .int x1)]) hx hb dX5_beginOf_3 rfl hl (by decide) rfl (fun ls hl => ?_)
  exact w_X5_beginOf_4 B FU _ _ _ _ _ _ _ h hM hS (lv_sub hl [2, 3, 1, 0] rfl)
theorem c_X5_beginOf {l : Launch} (hll : l.stackTraces = false) {G : GG} {A : Nat → Prop} {ad : AD} {st : XS} {x1 : Int32} {r : Int32} {st' : XS} (h : f_X5_beginOf st x1 = some (r, st')) : Met l yX5_beginOf (Cond.code yX5_beginOf cX5_beginOf 4 (some .int) :: TG) ({ frames := 3, cells := 0, slots := 0, locals := 64 } : Room) (PX G A ad st [.ref (ad 0 0), .int x1]) (QX G A ad (some (.int r)) st') 0 0 A :=
  xw_of (own := RX5) hll (by decide +kernel) rfl (Nat.le_of_ble_eq_true rfl) fun p e s m below meth c ls B hM hS hl => w_X5_beginOf B _ _ _ _ _ h hM hS hl
set_option maxHeartbeats 4000000 in
set_option maxRecDepth 100000 in
theorem w_X5_time {p : Program} {l : Launch} {e : Env} {s : State} {m : MethodId} {args : Array Value} {below : List Frame} {meth : Method} {c : Code} {G : GG} {A : Nat → Prop} {ad : AD} (B : XB G A ad p l s m args meth c cX5_time 2 RX5 (some .int)) {r : (Nat ⊕ Int32)} {st' : XS} : ∀ (cells slots : Nat) (st : XS) (x1 : Int32) (H : Heap) (locs : List Loc) (ls : Array Slot), cells + 2 ≤ 2 → slots + 12 ≤ 12 → f_X5_time st x1 = some (r, st') → XW G A ad st H → va_S A s.heap H locs → lv_has ls 2 [(0, .ref (ad 0 0)), (1, .int x1)] → W p l e ({ frames := 7, cells := 2, slots := 12, locals := 122 } : Room) s m args below meth c H locs cells slots (vx_MQ below (QXr G A ad (ovw (fun x => some (.int x)) r) st') (QXx G A ad (ovw (fun x => some (.int x)) r) st') args s 2 12 A) (F0 m 0 ls []) := by
  have ⟨⟨hx, hb, hr, hml, hown, hT, hlocks, hK⟩, hnt, hST, hA, hll⟩ := B
  intro cells slots st x1 H locs ls hc hs h hM hS hl
  rw [f_X5_time] at h
  refine lv_aload_n hx hb dX5_time_0 rfl (lv_at hl 0 rfl) ?_
  refine lv_aload_n hx hb dX5_time_1 rfl (lv_at hl 0 rfl) ?_
  refine lv_aload_n hx hb dX5_time_2 rfl (lv_at hl 0 rfl) ?_
  refine lv_iload_n hx hb dX5_time_3 rfl (lv_at hl 1 rfl) ?_
  rcases bdx_e h with ⟨k4, t2, e3, h⟩ | ⟨r1, t2, e3, h⟩
  · cases h
    exact xx_goV B hM hS (xw_recv (xb_vk B) hM 0 0 (Or.inl xv_0) (fun gh => ⟨_, rfl⟩) rfl) [.int x1] (n := 1) (c_X5_madeShot B.2.2.2.2 e3) wm_RX5_93 wi_yX5_madeShot ws_yX5_madeShot wn_RX5 wc_yX5_madeShot rfl rfl (by decide +kernel) ⟨Nat.le_of_ble_eq_true rfl, Nat.le_of_ble_eq_true rfl⟩ ⟨(by show _ ≤ 2; omega), (by show _ ≤ 12; omega)⟩ rfl hl.1 (Nat.le_of_ble_eq_true rfl) rfl dX5_time_4 (by omega) (by omega) rfl
  · refine xx_callV B hM hS (xw_recv (xb_vk B) hM 0 0 (Or.inl xv_0) (fun gh => ⟨_, rfl⟩) rfl) [.int x1] (n := 1) (v := (some (.ref (ad 1 r1)))) (c_X5_madeShot B.2.2.2.2 e3) wm_RX5_93 wi_yX5_madeShot ws_yX5_madeShot wn_RX5 wc_yX5_madeShot rfl rfl (by decide +kernel) ⟨Nat.le_of_ble_eq_true rfl, Nat.le_of_ble_eq_true rfl⟩ ⟨(by show _ ≤ 2; omega), (by show _ ≤ 12; omega)⟩ rfl hl.1 (Nat.le_of_ble_eq_true rfl) rfl dX5_time_4 (fun H locs hM hS => ?_)
    rcases bdx_e h with ⟨k8, t6, e7, h⟩ | ⟨r5, t6, e7, h⟩
    · cases h
      exact xx_goV B hM hS (xw_recv (xb_vk B) hM 0 0 (Or.inl xv_0) (fun gh => ⟨_, rfl⟩) rfl) [.ref (ad 1 r1)] (n := 1) (c_X5_foundPlace B.2.2.2.2 e7) wm_RX5_119 wi_yX5_foundPlace ws_yX5_foundPlace wn_RX5 wc_yX5_foundPlace rfl rfl (by decide +kernel) ⟨Nat.le_of_ble_eq_true rfl, Nat.le_of_ble_eq_true rfl⟩ ⟨(by show _ ≤ 2; omega), (by show _ ≤ 12; omega)⟩ rfl hl.1 (Nat.le_of_ble_eq_true rfl) rfl dX5_time_7 (by omega) (by omega) rfl
    · refine xx_callV B hM hS (xw_recv (xb_vk B) hM 0 0 (Or.inl xv_0) (fun gh => ⟨_, rfl⟩) rfl) [.ref (ad 1 r1)] (n := 1) (v := (some (.int r5))) (c_X5_foundPlace B.2.2.2.2 e7) wm_RX5_119 wi_yX5_foundPlace ws_yX5_foundPlace wn_RX5 wc_yX5_foundPlace rfl rfl (by decide +kernel) ⟨Nat.le_of_ble_eq_true rfl, Nat.le_of_ble_eq_true rfl⟩ ⟨(by show _ ≤ 2; omega), (by show _ ≤ 12; omega)⟩ rfl hl.1 (Nat.le_of_ble_eq_true rfl) rfl dX5_time_7 (fun H locs hM hS => ?_)
      obtain ⟨r9, t10, e11, h⟩ := bd_e h
      refine xw_callV B hM hS (xw_recv (xb_vk B) hM 0 0 (Or.inl xv_0) (fun gh => ⟨_, rfl⟩) rfl) [.int r5] (n := 1) (v := (some (.int r9))) (c_X5_beginOf B.2.2.2.2 e11) wm_RX5_177 wi_yX5_beginOf ws_yX5_beginOf wn_RX5 wc_yX5_beginOf rfl rfl (by decide +kernel) ⟨Nat.le_of_ble_eq_true rfl, Nat.le_of_ble_eq_true rfl⟩ ⟨(by show _ ≤ 2; omega), (by show _ ≤ 12; omega)⟩ rfl hl.1 (Nat.le_of_ble_eq_true rfl) rfl dX5_time_10 (fun H locs hM hS => ?_)
      cases h
      exact xx_iret B hM hS (by omega) (by omega) dX5_time_13 rfl
theorem c_X5_time {l : Launch} (hll : l.stackTraces = false) {G : GG} {A : Nat → Prop} {ad : AD} {st : XS} {x1 : Int32} {r : (Nat ⊕ Int32)} {st' : XS} (h : f_X5_time st x1 = some (r, st')) : vx_Met l yX5_time (Cond.code yX5_time cX5_time 2 (some .int) :: TG) ({ frames := 7, cells := 2, slots := 12, locals := 122 } : Room) (PX G A ad st [.ref (ad 0 0), .int x1]) (QXr G A ad (ovw (fun x => some (.int x)) r) st') (QXx G A ad (ovw (fun x => some (.int x)) r) st') 2 12 A :=
  xx_of (own := RX5) hll (by decide +kernel) rfl (Nat.le_of_ble_eq_true rfl) fun p e s m below meth c ls B hM hS hl => w_X5_time B _ _ _ _ _ _ _ (Nat.le_of_ble_eq_true rfl) (Nat.le_of_ble_eq_true rfl) h hM hS hl
set_option maxHeartbeats 4000000 in
set_option maxRecDepth 100000 in
theorem w_X5_indexSeen_62 {p : Program} {l : Launch} {e : Env} {s : State} {m : MethodId} {args : Array Value} {below : List Frame} {meth : Method} {c : Code} {G : GG} {A : Nat → Prop} {ad : AD} (B : XB G A ad p l s m args meth c cX5_indexSeen 4 RX5 (some .int)) {r : Int32} {st' : XS} : ∀ (st : XS) (H : Heap) (locs : List Loc) (ls : Array Slot), f_X5_indexSeen_62 st = some (r, st') → XW G A ad st H → va_S A s.heap H locs → lv_has ls 4 [] → W p l e ({ frames := 3, cells := 0, slots := 0, locals := 64 } : Room) s m args below meth c H locs 0 0 (MQ below (QX G A ad (some (.int r)) st') args s 0 0 A) (F0 m 62 ls []) := by
  have ⟨⟨hx, hb, hr, hml, hown, hT, hlocks, hK⟩, hnt, hST, hA, hll⟩ := B
  intro st  H locs ls h hM hS hl
  rw [f_X5_indexSeen_62] at h
  refine lv_iconst (v := (-1)) hx hb dX5_indexSeen_62 (by decide) ?_
  cases h
  exact xw_iret B hM hS (Nat.le_refl 0) (Nat.le_refl 0) dX5_indexSeen_63
set_option maxHeartbeats 4000000 in
set_option maxRecDepth 100000 in
theorem w_X5_indexSeen_4 {p : Program} {l : Launch} {e : Env} {s : State} {m : MethodId} {args : Array Value} {below : List Frame} {meth : Method} {c : Code} {G : GG} {A : Nat → Prop} {ad : AD} (B : XB G A ad p l s m args meth c cX5_indexSeen 4 RX5 (some .int)) {r : Int32} {st' : XS} : ∀ (n : Nat) (st : XS) (x1 : Int32) (x2 : Int32) (x3 : Int32) (H : Heap) (locs : List Loc) (ls : Array Slot), f_X5_indexSeen_4 n st x1 x2 x3 = some (r, st') → XW G A ad st H → va_S A s.heap H locs → lv_has ls 4 [(0, .ref (ad 0 0)), (1, .int x1), (2, .int x2), (3, .int x3)] → W p l e ({ frames := 3, cells := 0, slots := 0, locals := 64 } : Room) s m args below meth c H locs 0 0 (MQ below (QX G A ad (some (.int r)) st') args s 0 0 A) (F0 m 4 ls []) := by
  have ⟨⟨hx, hb, hr, hml, hown, hT, hlocks, hK⟩, hnt, hST, hA, hll⟩ := B
  intro n
  induction n with
  | zero =>
    intro st x1 x2 x3 H locs ls h
    cases h
  | succ n ih =>
    intro st x1 x2 x3 H locs ls h hM hS hl
    rw [f_X5_indexSeen_4] at h
    refine lv_iload_n hx hb dX5_indexSeen_4 rfl (lv_at hl 3 rfl) ?_
    refine lv_aload_n hx hb dX5_indexSeen_5 rfl (lv_at hl 0 rfl) ?_
    refine xw_get B.1 hM 0 0 xv_0 (ci := 6) (N := 6) (fs := fTR ad st) (C := RX5) (T := TX5) (fun _ => rfl) rfl inX5 1 (by decide) wf_RX5_16 rfl (v := .ref (ad 13 1)) rfl dX5_indexSeen_6 ?_
    refine xw_size B hM hS 1 (by decide) wm_RX5_37 ⟨Nat.le_of_ble_eq_true rfl, Nat.le_of_ble_eq_true rfl⟩ ⟨Nat.le_refl 0, Nat.le_refl 0⟩ hl.1 (Nat.le_of_ble_eq_true rfl) dX5_indexSeen_9 ?_
    refine lv_icmp_ge (tgt := 62) hx hb dX5_indexSeen_12 (by decide) (fun c1 => ?_) (fun c1 => ?_)
    · have h := bi_t c1 h
      exact w_X5_indexSeen_62 B _ _ _ _ h hM hS (lv_sub hl [] rfl)
    · have h := bi_f c1 h
      refine lv_iload_n hx hb dX5_indexSeen_15 rfl (lv_at hl 1 rfl) ?_
      refine lv_if_lt (tgt := 62) hx hb dX5_indexSeen_16 (by decide) (fun c2 => ?_) (fun c2 => ?_)
      · have h := bi_t c2 h
        exact w_X5_indexSeen_62 B _ _ _ _ h hM hS (lv_sub hl [] rfl)
      · have h := bi_f c2 h
        refine lv_iload_n hx hb dX5_indexSeen_19 rfl (lv_at hl 2 rfl) ?_
        refine lv_aload_n hx hb dX5_indexSeen_20 rfl (lv_at hl 0 rfl) ?_
        refine xw_get B.1 hM 0 0 xv_0 (ci := 6) (N := 6) (fs := fTR ad st) (C := RX5) (T := TX5) (fun _ => rfl) rfl inX5 1 (by decide) wf_RX5_16 rfl (v := .ref (ad 13 1)) rfl dX5_indexSeen_21 ?_
        refine lv_iload_n hx hb dX5_indexSeen_24 rfl (lv_at hl 3 rfl) ?_
        obtain ⟨g3, h⟩ := gd_e h
        refine xw_lget B hM hS 1 (by decide) wm_RX5_116 g3 ⟨Nat.le_of_ble_eq_true rfl, Nat.le_of_ble_eq_true rfl⟩ ⟨Nat.le_refl 0, Nat.le_refl 0⟩ hl.1 (Nat.le_of_ble_eq_true rfl) dX5_indexSeen_25 ?_
        obtain ⟨v4, h⟩ := gd_e h
        refine xw_castShot B.1 hM v4 wk_RX5_70 dX5_indexSeen_28 ?_
        refine xw_get B.1 hM 1 ((xL st 1).getD x3.toNatClampNeg 0) (xv_s (k := 1) (by decide) v4) (ci := 5) (N := 12) (fs := fSh ad st ((xL st 1).getD x3.toNatClampNeg 0)) (C := RX4) (T := TX4) (fun _ => rfl) rfl inX4 5 (by decide) wf_RX5_187 rfl (v := .int (xF st 1 ((xL st 1).getD x3.toNatClampNeg 0) 5)) rfl dX5_indexSeen_31 ?_
        refine lv_iadd hx hb dX5_indexSeen_34 ?_
        refine lv_istore_n (lv' := [(2, .int (x2 + (xF st 1 ((xL st 1).getD x3.toNatClampNeg 0) 5))), (0, .ref (ad 0 0)), (1, .int x1), (3, .int x3)]) hx hb dX5_indexSeen_35 rfl hl (by decide) rfl (fun ls hl => ?_)
        refine lv_iload_n hx hb dX5_indexSeen_36 rfl (lv_at hl 2 rfl) ?_
        refine lv_iload_n hx hb dX5_indexSeen_37 rfl (lv_at hl 0 rfl) ?_
        refine lv_icmp_ge (tgt := 56) hx hb dX5_indexSeen_38 (by decide) (fun c5 => ?_) (fun c5 => ?_)
        · have h := bi_t c5 h
          refine lv_iinc (v := (x3 + 1)) (lv' := [(3, .int (x3 + 1)), (2, .int (x2 + (xF st 1 ((xL st 1).getD x3.toNatClampNeg 0) 5))), (0, .ref (ad 0 0)), (1, .int x1)]) hx hb dX5_indexSeen_56 hl (k := 3) rfl rfl (by decide) rfl (fun ls hl => ?_)
          refine lv_goto (tgt := 4) hx hb dX5_indexSeen_59 (by decide) ?_
          exact ih _ _ _ _ _ _ _ h hM hS (lv_sub hl [2, 3, 1, 0] rfl)
        · have h := bi_f c5 h
          refine lv_aload_n hx hb dX5_indexSeen_41 rfl (lv_at hl 1 rfl) ?_
          refine xw_get B.1 hM 0 0 xv_0 (ci := 6) (N := 6) (fs := fTR ad st) (C := RX5) (T := TX5) (fun _ => rfl) rfl inX5 1 (by decide) wf_RX5_16 rfl (v := .ref (ad 13 1)) rfl dX5_indexSeen_42 ?_
          refine lv_iload_n hx hb dX5_indexSeen_45 rfl (lv_at hl 3 rfl) ?_
          obtain ⟨g6, h⟩ := gd_e h
          refine xw_lget B hM hS 1 (by decide) wm_RX5_116 g6 ⟨Nat.le_of_ble_eq_true rfl, Nat.le_of_ble_eq_true rfl⟩ ⟨Nat.le_refl 0, Nat.le_refl 0⟩ hl.1 (Nat.le_of_ble_eq_true rfl) dX5_indexSeen_46 ?_
          refine xw_castShot B.1 hM v4 wk_RX5_70 dX5_indexSeen_49 ?_
          refine xw_get B.1 hM 1 ((xL st 1).getD x3.toNatClampNeg 0) (xv_s (k := 1) (by decide) v4) (ci := 5) (N := 12) (fs := fSh ad st ((xL st 1).getD x3.toNatClampNeg 0)) (C := RX4) (T := TX4) (fun _ => rfl) rfl inX4 0 (by decide) wf_RX5_90 rfl (v := .int (nI ((xL st 1).getD x3.toNatClampNeg 0))) rfl dX5_indexSeen_52 ?_
          cases h
          exact xw_iret B hM hS (Nat.le_refl 0) (Nat.le_refl 0) dX5_indexSeen_55
set_option maxHeartbeats 4000000 in
set_option maxRecDepth 100000 in
theorem w_X5_indexSeen {p : Program} {l : Launch} {e : Env} {s : State} {m : MethodId} {args : Array Value} {below : List Frame} {meth : Method} {c : Code} {G : GG} {A : Nat → Prop} {ad : AD} (B : XB G A ad p l s m args meth c cX5_indexSeen 4 RX5 (some .int)) {r : Int32} {st' : XS} : ∀ (st : XS) (x1 : Int32) (H : Heap) (locs : List Loc) (ls : Array Slot), f_X5_indexSeen st x1 = some (r, st') → XW G A ad st H → va_S A s.heap H locs → lv_has ls 4 [(0, .ref (ad 0 0)), (1, .int x1)] → W p l e ({ frames := 3, cells := 0, slots := 0, locals := 64 } : Room) s m args below meth c H locs 0 0 (MQ below (QX G A ad (some (.int r)) st') args s 0 0 A) (F0 m 0 ls []) := by
  have ⟨⟨hx, hb, hr, hml, hown, hT, hlocks, hK⟩, hnt, hST, hA, hll⟩ := B
  intro st x1 H locs ls h hM hS hl
  rw [f_X5_indexSeen] at h
  refine lv_iconst (v := 0) hx hb dX5_indexSeen_0 (by decide) ?_
  refine lv_istore_n (lv' := [(2, .int 0), (0, .ref (ad 0 0)), (1, .int x1)]) hx hb dX5_indexSeen_1 rfl hl (by decide) rfl (fun ls hl => ?_)
  refine lv_iconst (v := 0) hx hb dX5_indexSeen_2 (by decide) ?_
  refine lv_istore_n (lv' := [(3, .int 0), (2, .int 0), (0, .ref (ad 0 0)), (1, .int x1)]) hx hb dX5_indexSeen_3 rfl hl (by decide) rfl (fun ls hl => ?_)
  exact w_X5_indexSeen_4 B FU _ _ _ _ _ _ _ h hM hS (lv_sub hl [2, 3, 1, 0] rfl)
theorem c_X5_indexSeen {l : Launch} (hll : l.stackTraces = false) {G : GG} {A : Nat → Prop} {ad : AD} {st : XS} {x1 : Int32} {r : Int32} {st' : XS} (h : f_X5_indexSeen st x1 = some (r, st')) : Met l yX5_indexSeen (Cond.code yX5_indexSeen cX5_indexSeen 4 (some .int) :: TG) ({ frames := 3, cells := 0, slots := 0, locals := 64 } : Room) (PX G A ad st [.ref (ad 0 0), .int x1]) (QX G A ad (some (.int r)) st') 0 0 A :=
  xw_of (own := RX5) hll (by decide +kernel) rfl (Nat.le_of_ble_eq_true rfl) fun p e s m below meth c ls B hM hS hl => w_X5_indexSeen B _ _ _ _ _ h hM hS hl
set_option maxHeartbeats 4000000 in
set_option maxRecDepth 100000 in
theorem w_X5_seen {p : Program} {l : Launch} {e : Env} {s : State} {m : MethodId} {args : Array Value} {below : List Frame} {meth : Method} {c : Code} {G : GG} {A : Nat → Prop} {ad : AD} (B : XB G A ad p l s m args meth c cX5_seen 3 RX5 (some .int)) {r : (Nat ⊕ Int32)} {st' : XS} : ∀ (cells slots : Nat) (st : XS) (x1 : Int32) (H : Heap) (locs : List Loc) (ls : Array Slot), cells + 1 ≤ 1 → slots + 6 ≤ 6 → f_X5_seen st x1 = some (r, st') → XW G A ad st H → va_S A s.heap H locs → lv_has ls 3 [(0, .ref (ad 0 0)), (1, .int x1)] → W p l e ({ frames := 6, cells := 1, slots := 6, locals := 100 } : Room) s m args below meth c H locs cells slots (vx_MQ below (QXr G A ad (ovw (fun x => some (.int x)) r) st') (QXx G A ad (ovw (fun x => some (.int x)) r) st') args s 1 6 A) (F0 m 0 ls []) := by
  have ⟨⟨hx, hb, hr, hml, hown, hT, hlocks, hK⟩, hnt, hST, hA, hll⟩ := B
  intro cells slots st x1 H locs ls hc hs h hM hS hl
  rw [f_X5_seen] at h
  refine lv_aload_n hx hb dX5_seen_0 rfl (lv_at hl 0 rfl) ?_
  refine lv_iload_n hx hb dX5_seen_1 rfl (lv_at hl 1 rfl) ?_
  obtain ⟨r1, t2, e3, h⟩ := bd_e h
  refine xw_callV B hM hS (xw_recv (xb_vk B) hM 0 0 (Or.inl xv_0) (fun gh => ⟨_, rfl⟩) rfl) [.int x1] (n := 1) (v := (some (.int r1))) (c_X5_indexSeen B.2.2.2.2 e3) wm_RX5_180 wi_yX5_indexSeen ws_yX5_indexSeen wn_RX5 wc_yX5_indexSeen rfl rfl (by decide +kernel) ⟨Nat.le_of_ble_eq_true rfl, Nat.le_of_ble_eq_true rfl⟩ ⟨(by show _ ≤ 1; omega), (by show _ ≤ 6; omega)⟩ rfl hl.1 (Nat.le_of_ble_eq_true rfl) rfl dX5_seen_2 (fun H locs hM hS => ?_)
  refine lv_istore_n (lv' := [(2, .int r1), (0, .ref (ad 0 0)), (1, .int x1)]) hx hb dX5_seen_5 rfl hl (by decide) rfl (fun ls hl => ?_)
  refine lv_iload_n hx hb dX5_seen_6 rfl (lv_at hl 0 rfl) ?_
  refine lv_iconst (v := (-1)) hx hb dX5_seen_7 (by decide) ?_
  refine lv_icmp_ne (tgt := 21) hx hb dX5_seen_8 (by decide) (fun c4 => ?_) (fun c4 => ?_)
  · have h := bi_f c4 h
    refine lv_iload_n hx hb dX5_seen_21 rfl (lv_at hl 0 rfl) ?_
    cases h
    exact xx_iret B hM hS (by omega) (by omega) dX5_seen_22 rfl
  · have h := bi_t c4 h
    cases h
    exact xw_throwN (is := 183) (text := "no shot is seen then") B hM hS (by decide +kernel) hl.1 ⟨⟨dX5_seen_11, dX5_seen_14⟩, Or.inl ⟨dX5_seen_15, dX5_seen_17, dX5_seen_20⟩⟩ (Nat.le_of_ble_eq_true rfl) (Nat.le_of_ble_eq_true rfl) (by show _ ≤ 1; omega) (by show _ ≤ 6; omega) (by omega) (by omega) rfl
theorem c_X5_seen {l : Launch} (hll : l.stackTraces = false) {G : GG} {A : Nat → Prop} {ad : AD} {st : XS} {x1 : Int32} {r : (Nat ⊕ Int32)} {st' : XS} (h : f_X5_seen st x1 = some (r, st')) : vx_Met l yX5_seen (Cond.code yX5_seen cX5_seen 3 (some .int) :: TG) ({ frames := 6, cells := 1, slots := 6, locals := 100 } : Room) (PX G A ad st [.ref (ad 0 0), .int x1]) (QXr G A ad (ovw (fun x => some (.int x)) r) st') (QXx G A ad (ovw (fun x => some (.int x)) r) st') 1 6 A :=
  xx_of (own := RX5) hll (by decide +kernel) rfl (Nat.le_of_ble_eq_true rfl) fun p e s m below meth c ls B hM hS hl => w_X5_seen B _ _ _ _ _ _ _ (Nat.le_of_ble_eq_true rfl) (Nat.le_of_ble_eq_true rfl) h hM hS hl
set_option maxHeartbeats 4000000 in
set_option maxRecDepth 100000 in
theorem w_X5_ended_66 {p : Program} {l : Launch} {e : Env} {s : State} {m : MethodId} {args : Array Value} {below : List Frame} {meth : Method} {c : Code} {G : GG} {A : Nat → Prop} {ad : AD} (B : XB G A ad p l s m args meth c cX5_ended 5 RX5 (some .int)) {r : (Nat ⊕ Int32)} {st' : XS} {k28 : XS → Int32 → Int32 → Int32 → Int32 → Option ((Nat ⊕ Int32) × XS)} (hk28 : ∀ (cells slots : Nat) (st : XS) (x1 : Int32) (x2 : Int32) (x3 : Int32) (x4 : Int32) (H : Heap) (locs : List Loc) (ls : Array Slot), cells + 0 ≤ 1 → slots + 0 ≤ 6 → k28 st x1 x2 x3 x4 = some (r, st') → XW G A ad st H → va_S A s.heap H locs → lv_has ls 5 [(0, .ref (ad 0 0)), (1, .int x1), (2, .int x2), (3, .int x3), (4, .int x4)] → W p l e ({ frames := 6, cells := 1, slots := 6, locals := 100 } : Room) s m args below meth c H locs cells slots (vx_MQ below (QXr G A ad (ovw (fun x => some (.int x)) r) st') (QXx G A ad (ovw (fun x => some (.int x)) r) st') args s 1 6 A) (F0 m 28 ls [])) : ∀ (cells slots : Nat) (st : XS) (x1 : Int32) (x2 : Int32) (x3 : Int32) (x4 : Int32) (H : Heap) (locs : List Loc) (ls : Array Slot), cells + 0 ≤ 1 → slots + 0 ≤ 6 → f_X5_ended_66 k28 st x1 x2 x3 x4 = some (r, st') → XW G A ad st H → va_S A s.heap H locs → lv_has ls 5 [(0, .ref (ad 0 0)), (1, .int x1), (2, .int x2), (3, .int x3), (4, .int x4)] → W p l e ({ frames := 6, cells := 1, slots := 6, locals := 100 } : Room) s m args below meth c H locs cells slots (vx_MQ below (QXr G A ad (ovw (fun x => some (.int x)) r) st') (QXx G A ad (ovw (fun x => some (.int x)) r) st') args s 1 6 A) (F0 m 66 ls []) := by
  have ⟨⟨hx, hb, hr, hml, hown, hT, hlocks, hK⟩, hnt, hST, hA, hll⟩ := B
  intro cells slots st x1 x2 x3 x4 H locs ls hc hs h hM hS hl
  rw [f_X5_ended_66] at h
  refine lv_iinc (v := (x4 + 1)) (lv' := [(4, .int (x4 + 1)), (0, .ref (ad 0 0)), (1, .int x1), (2, .int x2), (3, .int x3)]) hx hb dX5_ended_66 hl (k := 4) rfl rfl (by decide) rfl (fun ls hl => ?_)
  refine lv_goto (tgt := 28) hx hb dX5_ended_69 (by decide) ?_
  exact hk28 _ _ _ _ _ _ _ _ _ _ (by omega) (by omega) h hM hS (lv_sub hl [1, 2, 3, 4, 0] rfl)
set_option maxHeartbeats 4000000 in
set_option maxRecDepth 100000 in
theorem w_X5_ended_28 {p : Program} {l : Launch} {e : Env} {s : State} {m : MethodId} {args : Array Value} {below : List Frame} {meth : Method} {c : Code} {G : GG} {A : Nat → Prop} {ad : AD} (B : XB G A ad p l s m args meth c cX5_ended 5 RX5 (some .int)) {r : (Nat ⊕ Int32)} {st' : XS} : ∀ (n : Nat) (cells slots : Nat) (st : XS) (x1 : Int32) (x2 : Int32) (x3 : Int32) (x4 : Int32) (H : Heap) (locs : List Loc) (ls : Array Slot), cells + 0 ≤ 1 → slots + 0 ≤ 6 → f_X5_ended_28 n st x1 x2 x3 x4 = some (r, st') → XW G A ad st H → va_S A s.heap H locs → lv_has ls 5 [(0, .ref (ad 0 0)), (1, .int x1), (2, .int x2), (3, .int x3), (4, .int x4)] → W p l e ({ frames := 6, cells := 1, slots := 6, locals := 100 } : Room) s m args below meth c H locs cells slots (vx_MQ below (QXr G A ad (ovw (fun x => some (.int x)) r) st') (QXx G A ad (ovw (fun x => some (.int x)) r) st') args s 1 6 A) (F0 m 28 ls []) := by
  have ⟨⟨hx, hb, hr, hml, hown, hT, hlocks, hK⟩, hnt, hST, hA, hll⟩ := B
  intro n
  induction n with
  | zero =>
    intro cells slots st x1 x2 x3 x4 H locs ls hc hs h
    cases h
  | succ n ih =>
    intro cells slots st x1 x2 x3 x4 H locs ls hc hs h hM hS hl
    rw [f_X5_ended_28] at h
    refine lv_iload hx hb dX5_ended_28 (lv_at hl 4 rfl) ?_
    refine lv_aload_n hx hb dX5_ended_30 rfl (lv_at hl 0 rfl) ?_
    refine xw_get B.1 hM 0 0 xv_0 (ci := 6) (N := 6) (fs := fTR ad st) (C := RX5) (T := TX5) (fun _ => rfl) rfl inX5 1 (by decide) wf_RX5_16 rfl (v := .ref (ad 13 1)) rfl dX5_ended_31 ?_
    refine xw_size B hM hS 1 (by decide) wm_RX5_37 ⟨Nat.le_of_ble_eq_true rfl, Nat.le_of_ble_eq_true rfl⟩ ⟨(by show _ ≤ 1; omega), (by show _ ≤ 6; omega)⟩ hl.1 (Nat.le_of_ble_eq_true rfl) dX5_ended_34 ?_
    refine lv_icmp_ge (tgt := 72) hx hb dX5_ended_37 (by decide) (fun c1 => ?_) (fun c1 => ?_)
    · have h := bi_t c1 h
      refine lv_iload_n hx hb dX5_ended_72 rfl (lv_at hl 2 rfl) ?_
      cases h
      exact xx_iret B hM hS (by omega) (by omega) dX5_ended_73 rfl
    · have h := bi_f c1 h
      refine lv_iload_n hx hb dX5_ended_40 rfl (lv_at hl 3 rfl) ?_
      refine lv_aload_n hx hb dX5_ended_41 rfl (lv_at hl 0 rfl) ?_
      refine xw_get B.1 hM 0 0 xv_0 (ci := 6) (N := 6) (fs := fTR ad st) (C := RX5) (T := TX5) (fun _ => rfl) rfl inX5 1 (by decide) wf_RX5_16 rfl (v := .ref (ad 13 1)) rfl dX5_ended_42 ?_
      refine lv_iload hx hb dX5_ended_45 (lv_at hl 4 rfl) ?_
      obtain ⟨g2, h⟩ := gd_e h
      refine xw_lget B hM hS 1 (by decide) wm_RX5_116 g2 ⟨Nat.le_of_ble_eq_true rfl, Nat.le_of_ble_eq_true rfl⟩ ⟨(by show _ ≤ 1; omega), (by show _ ≤ 6; omega)⟩ hl.1 (Nat.le_of_ble_eq_true rfl) dX5_ended_47 ?_
      obtain ⟨v3, h⟩ := gd_e h
      refine xw_castShot B.1 hM v3 wk_RX5_70 dX5_ended_50 ?_
      refine xw_get B.1 hM 1 ((xL st 1).getD x4.toNatClampNeg 0) (xv_s (k := 1) (by decide) v3) (ci := 5) (N := 12) (fs := fSh ad st ((xL st 1).getD x4.toNatClampNeg 0)) (C := RX4) (T := TX4) (fun _ => rfl) rfl inX4 5 (by decide) wf_RX5_187 rfl (v := .int (xF st 1 ((xL st 1).getD x4.toNatClampNeg 0) 5)) rfl dX5_ended_53 ?_
      refine lv_iadd hx hb dX5_ended_56 ?_
      refine lv_istore_n (lv' := [(3, .int (x3 + (xF st 1 ((xL st 1).getD x4.toNatClampNeg 0) 5))), (0, .ref (ad 0 0)), (1, .int x1), (2, .int x2), (4, .int x4)]) hx hb dX5_ended_57 rfl hl (by decide) rfl (fun ls hl => ?_)
      refine lv_iload_n hx hb dX5_ended_58 rfl (lv_at hl 0 rfl) ?_
      refine lv_iload_n hx hb dX5_ended_59 rfl (lv_at hl 2 rfl) ?_
      refine lv_icmp_gt (tgt := 66) hx hb dX5_ended_60 (by decide) (fun c4 => ?_) (fun c4 => ?_)
      · have h := bi_t c4 h
        exact w_X5_ended_66 B ih _ _ _ _ _ _ _ _ _ _ (by omega) (by omega) h hM hS (lv_sub hl [1, 2, 3, 0, 4] rfl)
      · have h := bi_f c4 h
        refine lv_iinc (v := (x2 + 1)) (lv' := [(2, .int (x2 + 1)), (3, .int (x3 + (xF st 1 ((xL st 1).getD x4.toNatClampNeg 0) 5))), (0, .ref (ad 0 0)), (1, .int x1), (4, .int x4)]) hx hb dX5_ended_63 hl (k := 3) rfl rfl (by decide) rfl (fun ls hl => ?_)
        exact w_X5_ended_66 B ih _ _ _ _ _ _ _ _ _ _ (by omega) (by omega) h hM hS (lv_sub hl [2, 3, 0, 1, 4] rfl)
set_option maxHeartbeats 4000000 in
set_option maxRecDepth 100000 in
theorem w_X5_ended_11 {p : Program} {l : Launch} {e : Env} {s : State} {m : MethodId} {args : Array Value} {below : List Frame} {meth : Method} {c : Code} {G : GG} {A : Nat → Prop} {ad : AD} (B : XB G A ad p l s m args meth c cX5_ended 5 RX5 (some .int)) {r : (Nat ⊕ Int32)} {st' : XS} : ∀ (cells slots : Nat) (st : XS) (H : Heap) (locs : List Loc) (ls : Array Slot), cells + 1 ≤ 1 → slots + 6 ≤ 6 → f_X5_ended_11 st = some (r, st') → XW G A ad st H → va_S A s.heap H locs → lv_has ls 5 [] → W p l e ({ frames := 6, cells := 1, slots := 6, locals := 100 } : Room) s m args below meth c H locs cells slots (vx_MQ below (QXr G A ad (ovw (fun x => some (.int x)) r) st') (QXx G A ad (ovw (fun x => some (.int x)) r) st') args s 1 6 A) (F0 m 11 ls []) := by
  have ⟨⟨hx, hb, hr, hml, hown, hT, hlocks, hK⟩, hnt, hST, hA, hll⟩ := B
  intro cells slots st  H locs ls hc hs h hM hS hl
  rw [f_X5_ended_11] at h
  cases h
  exact xw_throw (k := 0) (ik := 41) (ic := 45) (is := 185) (text := "no such length") B hM hS wk_RX5_41 wn_java_lang_IllegalArgumentException at_0 an_0 ag_0 (by decide +kernel) (by decide +kernel) hl.1 ⟨⟨dX5_ended_11, dX5_ended_14⟩, Or.inl ⟨dX5_ended_15, dX5_ended_17, dX5_ended_20⟩⟩ (Nat.le_of_ble_eq_true rfl) (Nat.le_of_ble_eq_true rfl) (by show _ ≤ 1; omega) (by show _ ≤ 6; omega) (by omega) (by omega) rfl
set_option maxHeartbeats 4000000 in
set_option maxRecDepth 100000 in
theorem w_X5_ended {p : Program} {l : Launch} {e : Env} {s : State} {m : MethodId} {args : Array Value} {below : List Frame} {meth : Method} {c : Code} {G : GG} {A : Nat → Prop} {ad : AD} (B : XB G A ad p l s m args meth c cX5_ended 5 RX5 (some .int)) {r : (Nat ⊕ Int32)} {st' : XS} : ∀ (cells slots : Nat) (st : XS) (x1 : Int32) (H : Heap) (locs : List Loc) (ls : Array Slot), cells + 1 ≤ 1 → slots + 6 ≤ 6 → f_X5_ended st x1 = some (r, st') → XW G A ad st H → va_S A s.heap H locs → lv_has ls 5 [(0, .ref (ad 0 0)), (1, .int x1)] → W p l e ({ frames := 6, cells := 1, slots := 6, locals := 100 } : Room) s m args below meth c H locs cells slots (vx_MQ below (QXr G A ad (ovw (fun x => some (.int x)) r) st') (QXx G A ad (ovw (fun x => some (.int x)) r) st') args s 1 6 A) (F0 m 0 ls []) := by
  have ⟨⟨hx, hb, hr, hml, hown, hT, hlocks, hK⟩, hnt, hST, hA, hll⟩ := B
  intro cells slots st x1 H locs ls hc hs h hM hS hl
  rw [f_X5_ended] at h
  refine lv_iload_n hx hb dX5_ended_0 rfl (lv_at hl 1 rfl) ?_
  refine lv_if_lt (tgt := 11) hx hb dX5_ended_1 (by decide) (fun c1 => ?_) (fun c1 => ?_)
  · have h := bi_t c1 h
    exact w_X5_ended_11 B _ _ _ _ _ _ (by omega) (by omega) h hM hS (lv_sub hl [] rfl)
  · have h := bi_f c1 h
    refine lv_iload_n hx hb dX5_ended_4 rfl (lv_at hl 1 rfl) ?_
    refine lv_sipush (v := 9999) hx hb dX5_ended_5 (by decide) ?_
    refine lv_icmp_le (tgt := 21) hx hb dX5_ended_8 (by decide) (fun c2 => ?_) (fun c2 => ?_)
    · have h := bi_t c2 h
      refine lv_iconst (v := 0) hx hb dX5_ended_21 (by decide) ?_
      refine lv_istore_n (lv' := [(2, .int 0), (0, .ref (ad 0 0)), (1, .int x1)]) hx hb dX5_ended_22 rfl hl (by decide) rfl (fun ls hl => ?_)
      refine lv_iconst (v := 0) hx hb dX5_ended_23 (by decide) ?_
      refine lv_istore_n (lv' := [(3, .int 0), (2, .int 0), (0, .ref (ad 0 0)), (1, .int x1)]) hx hb dX5_ended_24 rfl hl (by decide) rfl (fun ls hl => ?_)
      refine lv_iconst (v := 0) hx hb dX5_ended_25 (by decide) ?_
      refine lv_istore (lv' := [(4, .int 0), (3, .int 0), (2, .int 0), (0, .ref (ad 0 0)), (1, .int x1)]) hx hb dX5_ended_26 hl (by decide) rfl (fun ls hl => ?_)
      exact w_X5_ended_28 B FU _ _ _ _ _ _ _ _ _ _ (by omega) (by omega) h hM hS (lv_sub hl [3, 4, 2, 1, 0] rfl)
    · have h := bi_f c2 h
      exact w_X5_ended_11 B _ _ _ _ _ _ (by omega) (by omega) h hM hS (lv_sub hl [] rfl)
theorem c_X5_ended {l : Launch} (hll : l.stackTraces = false) {G : GG} {A : Nat → Prop} {ad : AD} {st : XS} {x1 : Int32} {r : (Nat ⊕ Int32)} {st' : XS} (h : f_X5_ended st x1 = some (r, st')) : vx_Met l yX5_ended (Cond.code yX5_ended cX5_ended 5 (some .int) :: TG) ({ frames := 6, cells := 1, slots := 6, locals := 100 } : Room) (PX G A ad st [.ref (ad 0 0), .int x1]) (QXr G A ad (ovw (fun x => some (.int x)) r) st') (QXx G A ad (ovw (fun x => some (.int x)) r) st') 1 6 A :=
  xx_of (own := RX5) hll (by decide +kernel) rfl (Nat.le_of_ble_eq_true rfl) fun p e s m below meth c ls B hM hS hl => w_X5_ended B _ _ _ _ _ _ _ (Nat.le_of_ble_eq_true rfl) (Nat.le_of_ble_eq_true rfl) h hM hS hl
