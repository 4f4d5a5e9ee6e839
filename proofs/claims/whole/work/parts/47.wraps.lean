/-! The wrappers, walked by program. -/
def louI (f : Nat → Int64) (r : Nat ⊕ Int32) : Nat → Int64 := match r with
  | .inl _ => f
  | .inr x => vp_updL f 0 x.toInt64
def louZ (f : Nat → Int64) (r : Nat ⊕ Int32) : Nat → Int64 := match r with
  | .inl _ => f
  | .inr x => vp_updL f 0 (if x = 0 then 0 else 1)
def louF (f : Nat → UInt64) (r : Nat ⊕ UInt32) : Nat → UInt64 := match r with
  | .inl _ => f
  | .inr x => vf_upd f 0 (FP.f2d x)
def louD (f : Nat → UInt64) (r : Nat ⊕ UInt64) : Nat → UInt64 := match r with
  | .inl _ => f
  | .inr x => vf_upd f 0 x
theorem louZ_0 {f : Nat → Int64} {x : Int32} (h : x = 0) : louZ f (.inr x) = vp_updL f 0 0 := by show vp_updL f 0 (if x = 0 then 0 else 1) = _; rw [if_pos h]
theorem louZ_1 {f : Nat → Int64} {x : Int32} (h : ¬ x = 0) : louZ f (.inr x) = vp_updL f 0 1 := by show vp_updL f 0 (if x = 0 then 0 else 1) = _; rw [if_neg h]
set_option maxHeartbeats 4000000 in
set_option maxRecDepth 100000 in
theorem c_L_shot {l : Launch} (hll : l.stackTraces = false) {G : GG} {A : Nat → Prop} {ad : AD} {st : XS} {x1 : Int32} {x2 : Int32} {x3 : Int32} {x4 : Int32} {r : Nat ⊕ Int32} {st' : XS} {o : Nat} {f : Nat → Int64} (h : f_X5_shot st x1 x2 x3 x4 = some (r, st')) (hL : ∀ k, r = .inl k → k ∈ [0, 1, 2]) : Met l yL_shot (Cond.codeWith yL_shot cL_shot 7 (some .int) [(0, 14, 17, 13), (0, 14, 21, 15), (0, 14, 25, 17)] :: TG) { frames := 9, cells := 11, slots := 248, locals := 427 } (PWr G A ad st o (.inl (G.2 3, 1, .inr (.inl f))) [.ref (ad 0 0), .int x1, .int x2, .int x3, .int x4, .ref o]) (QWr G A ad (lwc [0, 1, 2] r) st' o (.inl (G.2 3, 1, .inr (.inl (louI f r))))) 11 248 (fun q => A q ∨ q = o) := by
  cases r with
  | inl k =>
    have hk := hL k rfl
    clear hL
    simp only [List.mem_cons, List.not_mem_nil, or_false] at hk
    rcases hk with rfl | rfl | rfl
    · refine xl_of (hh := [(0, 14, 17, 13), (0, 14, 21, 15), (0, 14, 25, 17)]) (by decide +kernel) rfl (Nat.le_of_ble_eq_true rfl) fun p e s m below meth c ls B tab hM hO ho hS hl => ?_
      have ⟨⟨hx, hb, hr, hml, hown, hT, hlocks, hK⟩, hST, hNC, hA⟩ := B
      have hl : lv_has ls 7 [(0, .ref (ad 0 0)), (1, .int x1), (2, .int x2), (3, .int x3), (4, .int x4), (5, .ref o)] := hl
      refine lv_aload hx hb dL_shot_0 (lv_at hl 5 rfl) ?_
      refine lv_iconst (v := 0) hx hb dL_shot_2 (by decide) ?_
      refine lv_aload_n hx hb dL_shot_3 rfl (lv_at hl 0 rfl) ?_
      refine lv_iload_n hx hb dL_shot_4 rfl (lv_at hl 1 rfl) ?_
      refine lv_iload_n hx hb dL_shot_5 rfl (lv_at hl 2 rfl) ?_
      refine lv_iload_n hx hb dL_shot_6 rfl (lv_at hl 3 rfl) ?_
      refine lv_iload hx hb dL_shot_7 (lv_at hl 4 rfl) ?_
      refine xl_thr (xl_run B hM hS [.int x1, .int x2, .int x3, .int x4] (n := 4) (c_X5_shot hll h) wm_RL_7 wi_yX5_shot ws_yX5_shot wn_RX5 wc_yX5_shot rfl rfl (by decide +kernel) ⟨Nat.le_of_ble_eq_true rfl, Nat.le_of_ble_eq_true rfl⟩ ⟨Nat.le_of_ble_eq_true rfl, Nat.le_of_ble_eq_true rfl⟩ rfl hl.1 (Nat.le_of_ble_eq_true rfl) rfl dL_shot_9) hS B [] (te (0, 14, 17, 13)) [te (0, 14, 21, 15), te (0, 14, 25, 17)] (tab.trans rfl) (fun z hz => by cases hz) (by decide) (by decide) (by decide) wk_RL_13 (fun ad2 q9 H locs hae hM hS hz hk9 => ?_)
      have hO := hO.kept (hk9 _ hO.lt ho)
      refine lv_astore (lv' := [(6, .ref q9), (0, .ref (ad 0 0)), (1, .int x1), (2, .int x2), (3, .int x3), (4, .int x4), (5, .ref o)]) hx hb dL_shot_17 hl (by decide) rfl (fun ls hl => ?_)
      refine lv_iconst (v := 1) hx hb dL_shot_19 (by decide) ?_
      exact xl_end B hae hM hO (xl_wide hS) (Nat.le_of_ble_eq_true rfl) (Nat.le_of_ble_eq_true rfl) rfl dL_shot_20
    · refine xl_of (hh := [(0, 14, 17, 13), (0, 14, 21, 15), (0, 14, 25, 17)]) (by decide +kernel) rfl (Nat.le_of_ble_eq_true rfl) fun p e s m below meth c ls B tab hM hO ho hS hl => ?_
      have ⟨⟨hx, hb, hr, hml, hown, hT, hlocks, hK⟩, hST, hNC, hA⟩ := B
      have hl : lv_has ls 7 [(0, .ref (ad 0 0)), (1, .int x1), (2, .int x2), (3, .int x3), (4, .int x4), (5, .ref o)] := hl
      refine lv_aload hx hb dL_shot_0 (lv_at hl 5 rfl) ?_
      refine lv_iconst (v := 0) hx hb dL_shot_2 (by decide) ?_
      refine lv_aload_n hx hb dL_shot_3 rfl (lv_at hl 0 rfl) ?_
      refine lv_iload_n hx hb dL_shot_4 rfl (lv_at hl 1 rfl) ?_
      refine lv_iload_n hx hb dL_shot_5 rfl (lv_at hl 2 rfl) ?_
      refine lv_iload_n hx hb dL_shot_6 rfl (lv_at hl 3 rfl) ?_
      refine lv_iload hx hb dL_shot_7 (lv_at hl 4 rfl) ?_
      refine xl_thr (xl_run B hM hS [.int x1, .int x2, .int x3, .int x4] (n := 4) (c_X5_shot hll h) wm_RL_7 wi_yX5_shot ws_yX5_shot wn_RX5 wc_yX5_shot rfl rfl (by decide +kernel) ⟨Nat.le_of_ble_eq_true rfl, Nat.le_of_ble_eq_true rfl⟩ ⟨Nat.le_of_ble_eq_true rfl, Nat.le_of_ble_eq_true rfl⟩ rfl hl.1 (Nat.le_of_ble_eq_true rfl) rfl dL_shot_9) hS B [te (0, 14, 17, 13)] (te (0, 14, 21, 15)) [te (0, 14, 25, 17)] (tab.trans rfl) (List.forall_mem_cons.mpr ⟨⟨by decide, 0, by decide, by decide, wk_RL_13⟩, fun z hz => by cases hz⟩) (by decide) (by decide) (by decide) wk_RL_15 (fun ad2 q9 H locs hae hM hS hz hk9 => ?_)
      have hO := hO.kept (hk9 _ hO.lt ho)
      refine lv_astore (lv' := [(6, .ref q9), (0, .ref (ad 0 0)), (1, .int x1), (2, .int x2), (3, .int x3), (4, .int x4), (5, .ref o)]) hx hb dL_shot_21 hl (by decide) rfl (fun ls hl => ?_)
      refine lv_iconst (v := 2) hx hb dL_shot_23 (by decide) ?_
      exact xl_end B hae hM hO (xl_wide hS) (Nat.le_of_ble_eq_true rfl) (Nat.le_of_ble_eq_true rfl) rfl dL_shot_24
    · refine xl_of (hh := [(0, 14, 17, 13), (0, 14, 21, 15), (0, 14, 25, 17)]) (by decide +kernel) rfl (Nat.le_of_ble_eq_true rfl) fun p e s m below meth c ls B tab hM hO ho hS hl => ?_
      have ⟨⟨hx, hb, hr, hml, hown, hT, hlocks, hK⟩, hST, hNC, hA⟩ := B
      have hl : lv_has ls 7 [(0, .ref (ad 0 0)), (1, .int x1), (2, .int x2), (3, .int x3), (4, .int x4), (5, .ref o)] := hl
      refine lv_aload hx hb dL_shot_0 (lv_at hl 5 rfl) ?_
      refine lv_iconst (v := 0) hx hb dL_shot_2 (by decide) ?_
      refine lv_aload_n hx hb dL_shot_3 rfl (lv_at hl 0 rfl) ?_
      refine lv_iload_n hx hb dL_shot_4 rfl (lv_at hl 1 rfl) ?_
      refine lv_iload_n hx hb dL_shot_5 rfl (lv_at hl 2 rfl) ?_
      refine lv_iload_n hx hb dL_shot_6 rfl (lv_at hl 3 rfl) ?_
      refine lv_iload hx hb dL_shot_7 (lv_at hl 4 rfl) ?_
      refine xl_thr (xl_run B hM hS [.int x1, .int x2, .int x3, .int x4] (n := 4) (c_X5_shot hll h) wm_RL_7 wi_yX5_shot ws_yX5_shot wn_RX5 wc_yX5_shot rfl rfl (by decide +kernel) ⟨Nat.le_of_ble_eq_true rfl, Nat.le_of_ble_eq_true rfl⟩ ⟨Nat.le_of_ble_eq_true rfl, Nat.le_of_ble_eq_true rfl⟩ rfl hl.1 (Nat.le_of_ble_eq_true rfl) rfl dL_shot_9) hS B [te (0, 14, 17, 13), te (0, 14, 21, 15)] (te (0, 14, 25, 17)) [] (tab.trans rfl) (List.forall_mem_cons.mpr ⟨⟨by decide, 0, by decide, by decide, wk_RL_13⟩, List.forall_mem_cons.mpr ⟨⟨by decide, 1, by decide, by decide, wk_RL_15⟩, fun z hz => by cases hz⟩⟩) (by decide) (by decide) (by decide) wk_RL_17 (fun ad2 q9 H locs hae hM hS hz hk9 => ?_)
      have hO := hO.kept (hk9 _ hO.lt ho)
      refine lv_astore (lv' := [(6, .ref q9), (0, .ref (ad 0 0)), (1, .int x1), (2, .int x2), (3, .int x3), (4, .int x4), (5, .ref o)]) hx hb dL_shot_25 hl (by decide) rfl (fun ls hl => ?_)
      refine lv_iconst (v := 3) hx hb dL_shot_27 (by decide) ?_
      exact xl_end B hae hM hO (xl_wide hS) (Nat.le_of_ble_eq_true rfl) (Nat.le_of_ble_eq_true rfl) rfl dL_shot_28
  | inr x =>
    clear hL
    refine xl_of (hh := [(0, 14, 17, 13), (0, 14, 21, 15), (0, 14, 25, 17)]) (by decide +kernel) rfl (Nat.le_of_ble_eq_true rfl) fun p e s m below meth c ls B tab hM hO ho hS hl => ?_
    have ⟨⟨hx, hb, hr, hml, hown, hT, hlocks, hK⟩, hST, hNC, hA⟩ := B
    have hl : lv_has ls 7 [(0, .ref (ad 0 0)), (1, .int x1), (2, .int x2), (3, .int x3), (4, .int x4), (5, .ref o)] := hl
    refine lv_aload hx hb dL_shot_0 (lv_at hl 5 rfl) ?_
    refine lv_iconst (v := 0) hx hb dL_shot_2 (by decide) ?_
    refine lv_aload_n hx hb dL_shot_3 rfl (lv_at hl 0 rfl) ?_
    refine lv_iload_n hx hb dL_shot_4 rfl (lv_at hl 1 rfl) ?_
    refine lv_iload_n hx hb dL_shot_5 rfl (lv_at hl 2 rfl) ?_
    refine lv_iload_n hx hb dL_shot_6 rfl (lv_at hl 3 rfl) ?_
    refine lv_iload hx hb dL_shot_7 (lv_at hl 4 rfl) ?_
    refine xl_ret (xl_run B hM hS [.int x1, .int x2, .int x3, .int x4] (n := 4) (c_X5_shot hll h) wm_RL_7 wi_yX5_shot ws_yX5_shot wn_RX5 wc_yX5_shot rfl rfl (by decide +kernel) ⟨Nat.le_of_ble_eq_true rfl, Nat.le_of_ble_eq_true rfl⟩ ⟨Nat.le_of_ble_eq_true rfl, Nat.le_of_ble_eq_true rfl⟩ rfl hl.1 (Nat.le_of_ble_eq_true rfl) rfl dL_shot_9) hS (fun ad2 H locs hae hM hS hz hk9 => ?_)
    have hO := hO.kept (hk9 _ hO.lt ho)
    refine lv_i2l hx hb dL_shot_12 rfl ?_
    refine xl_last B hM hS ho hO dL_shot_13 (fun H locs hM hO hS => ?_)
    refine lv_goto (tgt := 29) hx hb dL_shot_14 (by decide) ?_
    refine lv_iconst (v := 0) hx hb dL_shot_29 (by decide) ?_
    exact xl_end B hae hM hO hS (Nat.le_of_ble_eq_true rfl) (Nat.le_of_ble_eq_true rfl) rfl dL_shot_30
set_option maxHeartbeats 4000000 in
set_option maxRecDepth 100000 in
theorem c_L_drop {l : Launch} (hll : l.stackTraces = false) {G : GG} {A : Nat → Prop} {ad : AD} {st : XS} {x1 : Int32} {r : Nat ⊕ Int32} {st' : XS} {o : Nat} {f : Nat → Int64} (h : f_X5_drop st x1 = some (r, st')) (hL : ∀ k, r = .inl k → k ∈ [3, 1]) : Met l yL_drop (Cond.codeWith yL_drop cL_drop 4 (some .int) [(0, 9, 12, 23), (0, 9, 15, 15)] :: TG) { frames := 9, cells := 2, slots := 12, locals := 423 } (PWr G A ad st o (.inl (G.2 3, 1, .inr (.inl f))) [.ref (ad 0 0), .int x1, .ref o]) (QWr G A ad (lwc [3, 1] r) st' o (.inl (G.2 3, 1, .inr (.inl (louI f r))))) 2 12 (fun q => A q ∨ q = o) := by
  cases r with
  | inl k =>
    have hk := hL k rfl
    clear hL
    simp only [List.mem_cons, List.not_mem_nil, or_false] at hk
    rcases hk with rfl | rfl
    · refine xl_of (hh := [(0, 9, 12, 23), (0, 9, 15, 15)]) (by decide +kernel) rfl (Nat.le_of_ble_eq_true rfl) fun p e s m below meth c ls B tab hM hO ho hS hl => ?_
      have ⟨⟨hx, hb, hr, hml, hown, hT, hlocks, hK⟩, hST, hNC, hA⟩ := B
      have hl : lv_has ls 4 [(0, .ref (ad 0 0)), (1, .int x1), (2, .ref o)] := hl
      refine lv_aload_n hx hb dL_drop_0 rfl (lv_at hl 2 rfl) ?_
      refine lv_iconst (v := 0) hx hb dL_drop_1 (by decide) ?_
      refine lv_aload_n hx hb dL_drop_2 rfl (lv_at hl 0 rfl) ?_
      refine lv_iload_n hx hb dL_drop_3 rfl (lv_at hl 1 rfl) ?_
      refine xl_thr (xl_run B hM hS [.int x1] (n := 1) (xe_met (c_X5_drop hll h)) wm_RL_19 wi_yX5_drop ws_yX5_drop wn_RX5 wc_yX5_drop rfl rfl (by decide +kernel) ⟨Nat.le_of_ble_eq_true rfl, Nat.le_of_ble_eq_true rfl⟩ ⟨Nat.le_of_ble_eq_true rfl, Nat.le_of_ble_eq_true rfl⟩ rfl hl.1 (Nat.le_of_ble_eq_true rfl) rfl dL_drop_4) hS B [] (te (0, 9, 12, 23)) [te (0, 9, 15, 15)] (tab.trans rfl) (fun z hz => by cases hz) (by decide) (by decide) (by decide) wk_RL_23 (fun ad2 q9 H locs hae hM hS hz hk9 => ?_)
      have hO := hO.kept (hk9 _ hO.lt ho)
      refine lv_astore_n (lv' := [(3, .ref q9), (0, .ref (ad 0 0)), (1, .int x1), (2, .ref o)]) hx hb dL_drop_12 rfl hl (by decide) rfl (fun ls hl => ?_)
      refine lv_iconst (v := 1) hx hb dL_drop_13 (by decide) ?_
      exact xl_end B hae hM hO (xl_wide hS) (Nat.le_of_ble_eq_true rfl) (Nat.le_of_ble_eq_true rfl) rfl dL_drop_14
    · refine xl_of (hh := [(0, 9, 12, 23), (0, 9, 15, 15)]) (by decide +kernel) rfl (Nat.le_of_ble_eq_true rfl) fun p e s m below meth c ls B tab hM hO ho hS hl => ?_
      have ⟨⟨hx, hb, hr, hml, hown, hT, hlocks, hK⟩, hST, hNC, hA⟩ := B
      have hl : lv_has ls 4 [(0, .ref (ad 0 0)), (1, .int x1), (2, .ref o)] := hl
      refine lv_aload_n hx hb dL_drop_0 rfl (lv_at hl 2 rfl) ?_
      refine lv_iconst (v := 0) hx hb dL_drop_1 (by decide) ?_
      refine lv_aload_n hx hb dL_drop_2 rfl (lv_at hl 0 rfl) ?_
      refine lv_iload_n hx hb dL_drop_3 rfl (lv_at hl 1 rfl) ?_
      refine xl_thr (xl_run B hM hS [.int x1] (n := 1) (xe_met (c_X5_drop hll h)) wm_RL_19 wi_yX5_drop ws_yX5_drop wn_RX5 wc_yX5_drop rfl rfl (by decide +kernel) ⟨Nat.le_of_ble_eq_true rfl, Nat.le_of_ble_eq_true rfl⟩ ⟨Nat.le_of_ble_eq_true rfl, Nat.le_of_ble_eq_true rfl⟩ rfl hl.1 (Nat.le_of_ble_eq_true rfl) rfl dL_drop_4) hS B [te (0, 9, 12, 23)] (te (0, 9, 15, 15)) [] (tab.trans rfl) (List.forall_mem_cons.mpr ⟨⟨by decide, 3, by decide, by decide, wk_RL_23⟩, fun z hz => by cases hz⟩) (by decide) (by decide) (by decide) wk_RL_15 (fun ad2 q9 H locs hae hM hS hz hk9 => ?_)
      have hO := hO.kept (hk9 _ hO.lt ho)
      refine lv_astore_n (lv' := [(3, .ref q9), (0, .ref (ad 0 0)), (1, .int x1), (2, .ref o)]) hx hb dL_drop_15 rfl hl (by decide) rfl (fun ls hl => ?_)
      refine lv_iconst (v := 2) hx hb dL_drop_16 (by decide) ?_
      exact xl_end B hae hM hO (xl_wide hS) (Nat.le_of_ble_eq_true rfl) (Nat.le_of_ble_eq_true rfl) rfl dL_drop_17
  | inr x =>
    clear hL
    refine xl_of (hh := [(0, 9, 12, 23), (0, 9, 15, 15)]) (by decide +kernel) rfl (Nat.le_of_ble_eq_true rfl) fun p e s m below meth c ls B tab hM hO ho hS hl => ?_
    have ⟨⟨hx, hb, hr, hml, hown, hT, hlocks, hK⟩, hST, hNC, hA⟩ := B
    have hl : lv_has ls 4 [(0, .ref (ad 0 0)), (1, .int x1), (2, .ref o)] := hl
    refine lv_aload_n hx hb dL_drop_0 rfl (lv_at hl 2 rfl) ?_
    refine lv_iconst (v := 0) hx hb dL_drop_1 (by decide) ?_
    refine lv_aload_n hx hb dL_drop_2 rfl (lv_at hl 0 rfl) ?_
    refine lv_iload_n hx hb dL_drop_3 rfl (lv_at hl 1 rfl) ?_
    refine xl_ret (xl_run B hM hS [.int x1] (n := 1) (xe_met (c_X5_drop hll h)) wm_RL_19 wi_yX5_drop ws_yX5_drop wn_RX5 wc_yX5_drop rfl rfl (by decide +kernel) ⟨Nat.le_of_ble_eq_true rfl, Nat.le_of_ble_eq_true rfl⟩ ⟨Nat.le_of_ble_eq_true rfl, Nat.le_of_ble_eq_true rfl⟩ rfl hl.1 (Nat.le_of_ble_eq_true rfl) rfl dL_drop_4) hS (fun ad2 H locs hae hM hS hz hk9 => ?_)
    have hO := hO.kept (hk9 _ hO.lt ho)
    refine lv_i2l hx hb dL_drop_7 rfl ?_
    refine xl_last B hM hS ho hO dL_drop_8 (fun H locs hM hO hS => ?_)
    refine lv_goto (tgt := 18) hx hb dL_drop_9 (by decide) ?_
    refine lv_iconst (v := 0) hx hb dL_drop_18 (by decide) ?_
    exact xl_end B hae hM hO hS (Nat.le_of_ble_eq_true rfl) (Nat.le_of_ble_eq_true rfl) rfl dL_drop_19
set_option maxHeartbeats 4000000 in
set_option maxRecDepth 100000 in
theorem c_L_move {l : Launch} (hll : l.stackTraces = false) {G : GG} {A : Nat → Prop} {ad : AD} {st : XS} {x1 : Int32} {x2 : Int32} {r : Nat ⊕ Int32} {st' : XS} {o : Nat} {f : Nat → Int64} (h : f_X5_move st x1 x2 = some (r, st')) (hL : ∀ k, r = .inl k → k ∈ [3, 0, 1]) : Met l yL_move (Cond.codeWith yL_move cL_move 5 (some .int) [(0, 10, 13, 23), (0, 10, 17, 13), (0, 10, 21, 15)] :: TG) { frames := 9, cells := 3, slots := 112, locals := 424 } (PWr G A ad st o (.inl (G.2 3, 1, .inr (.inl f))) [.ref (ad 0 0), .int x1, .int x2, .ref o]) (QWr G A ad (lwc [3, 0, 1] r) st' o (.inl (G.2 3, 1, .inr (.inl (louI f r))))) 3 112 (fun q => A q ∨ q = o) := by
  cases r with
  | inl k =>
    have hk := hL k rfl
    clear hL
    simp only [List.mem_cons, List.not_mem_nil, or_false] at hk
    rcases hk with rfl | rfl | rfl
    · refine xl_of (hh := [(0, 10, 13, 23), (0, 10, 17, 13), (0, 10, 21, 15)]) (by decide +kernel) rfl (Nat.le_of_ble_eq_true rfl) fun p e s m below meth c ls B tab hM hO ho hS hl => ?_
      have ⟨⟨hx, hb, hr, hml, hown, hT, hlocks, hK⟩, hST, hNC, hA⟩ := B
      have hl : lv_has ls 5 [(0, .ref (ad 0 0)), (1, .int x1), (2, .int x2), (3, .ref o)] := hl
      refine lv_aload_n hx hb dL_move_0 rfl (lv_at hl 3 rfl) ?_
      refine lv_iconst (v := 0) hx hb dL_move_1 (by decide) ?_
      refine lv_aload_n hx hb dL_move_2 rfl (lv_at hl 0 rfl) ?_
      refine lv_iload_n hx hb dL_move_3 rfl (lv_at hl 1 rfl) ?_
      refine lv_iload_n hx hb dL_move_4 rfl (lv_at hl 2 rfl) ?_
      refine xl_thr (xl_run B hM hS [.int x1, .int x2] (n := 2) (xe_met (c_X5_move hll h)) wm_RL_25 wi_yX5_move ws_yX5_move wn_RX5 wc_yX5_move rfl rfl (by decide +kernel) ⟨Nat.le_of_ble_eq_true rfl, Nat.le_of_ble_eq_true rfl⟩ ⟨Nat.le_of_ble_eq_true rfl, Nat.le_of_ble_eq_true rfl⟩ rfl hl.1 (Nat.le_of_ble_eq_true rfl) rfl dL_move_5) hS B [] (te (0, 10, 13, 23)) [te (0, 10, 17, 13), te (0, 10, 21, 15)] (tab.trans rfl) (fun z hz => by cases hz) (by decide) (by decide) (by decide) wk_RL_23 (fun ad2 q9 H locs hae hM hS hz hk9 => ?_)
      have hO := hO.kept (hk9 _ hO.lt ho)
      refine lv_astore (lv' := [(4, .ref q9), (0, .ref (ad 0 0)), (1, .int x1), (2, .int x2), (3, .ref o)]) hx hb dL_move_13 hl (by decide) rfl (fun ls hl => ?_)
      refine lv_iconst (v := 1) hx hb dL_move_15 (by decide) ?_
      exact xl_end B hae hM hO (xl_wide hS) (Nat.le_of_ble_eq_true rfl) (Nat.le_of_ble_eq_true rfl) rfl dL_move_16
    · refine xl_of (hh := [(0, 10, 13, 23), (0, 10, 17, 13), (0, 10, 21, 15)]) (by decide +kernel) rfl (Nat.le_of_ble_eq_true rfl) fun p e s m below meth c ls B tab hM hO ho hS hl => ?_
      have ⟨⟨hx, hb, hr, hml, hown, hT, hlocks, hK⟩, hST, hNC, hA⟩ := B
      have hl : lv_has ls 5 [(0, .ref (ad 0 0)), (1, .int x1), (2, .int x2), (3, .ref o)] := hl
      refine lv_aload_n hx hb dL_move_0 rfl (lv_at hl 3 rfl) ?_
      refine lv_iconst (v := 0) hx hb dL_move_1 (by decide) ?_
      refine lv_aload_n hx hb dL_move_2 rfl (lv_at hl 0 rfl) ?_
      refine lv_iload_n hx hb dL_move_3 rfl (lv_at hl 1 rfl) ?_
      refine lv_iload_n hx hb dL_move_4 rfl (lv_at hl 2 rfl) ?_
      refine xl_thr (xl_run B hM hS [.int x1, .int x2] (n := 2) (xe_met (c_X5_move hll h)) wm_RL_25 wi_yX5_move ws_yX5_move wn_RX5 wc_yX5_move rfl rfl (by decide +kernel) ⟨Nat.le_of_ble_eq_true rfl, Nat.le_of_ble_eq_true rfl⟩ ⟨Nat.le_of_ble_eq_true rfl, Nat.le_of_ble_eq_true rfl⟩ rfl hl.1 (Nat.le_of_ble_eq_true rfl) rfl dL_move_5) hS B [te (0, 10, 13, 23)] (te (0, 10, 17, 13)) [te (0, 10, 21, 15)] (tab.trans rfl) (List.forall_mem_cons.mpr ⟨⟨by decide, 3, by decide, by decide, wk_RL_23⟩, fun z hz => by cases hz⟩) (by decide) (by decide) (by decide) wk_RL_13 (fun ad2 q9 H locs hae hM hS hz hk9 => ?_)
      have hO := hO.kept (hk9 _ hO.lt ho)
      refine lv_astore (lv' := [(4, .ref q9), (0, .ref (ad 0 0)), (1, .int x1), (2, .int x2), (3, .ref o)]) hx hb dL_move_17 hl (by decide) rfl (fun ls hl => ?_)
      refine lv_iconst (v := 2) hx hb dL_move_19 (by decide) ?_
      exact xl_end B hae hM hO (xl_wide hS) (Nat.le_of_ble_eq_true rfl) (Nat.le_of_ble_eq_true rfl) rfl dL_move_20
    · refine xl_of (hh := [(0, 10, 13, 23), (0, 10, 17, 13), (0, 10, 21, 15)]) (by decide +kernel) rfl (Nat.le_of_ble_eq_true rfl) fun p e s m below meth c ls B tab hM hO ho hS hl => ?_
      have ⟨⟨hx, hb, hr, hml, hown, hT, hlocks, hK⟩, hST, hNC, hA⟩ := B
      have hl : lv_has ls 5 [(0, .ref (ad 0 0)), (1, .int x1), (2, .int x2), (3, .ref o)] := hl
      refine lv_aload_n hx hb dL_move_0 rfl (lv_at hl 3 rfl) ?_
      refine lv_iconst (v := 0) hx hb dL_move_1 (by decide) ?_
      refine lv_aload_n hx hb dL_move_2 rfl (lv_at hl 0 rfl) ?_
      refine lv_iload_n hx hb dL_move_3 rfl (lv_at hl 1 rfl) ?_
      refine lv_iload_n hx hb dL_move_4 rfl (lv_at hl 2 rfl) ?_
      refine xl_thr (xl_run B hM hS [.int x1, .int x2] (n := 2) (xe_met (c_X5_move hll h)) wm_RL_25 wi_yX5_move ws_yX5_move wn_RX5 wc_yX5_move rfl rfl (by decide +kernel) ⟨Nat.le_of_ble_eq_true rfl, Nat.le_of_ble_eq_true rfl⟩ ⟨Nat.le_of_ble_eq_true rfl, Nat.le_of_ble_eq_true rfl⟩ rfl hl.1 (Nat.le_of_ble_eq_true rfl) rfl dL_move_5) hS B [te (0, 10, 13, 23), te (0, 10, 17, 13)] (te (0, 10, 21, 15)) [] (tab.trans rfl) (List.forall_mem_cons.mpr ⟨⟨by decide, 3, by decide, by decide, wk_RL_23⟩, List.forall_mem_cons.mpr ⟨⟨by decide, 0, by decide, by decide, wk_RL_13⟩, fun z hz => by cases hz⟩⟩) (by decide) (by decide) (by decide) wk_RL_15 (fun ad2 q9 H locs hae hM hS hz hk9 => ?_)
      have hO := hO.kept (hk9 _ hO.lt ho)
      refine lv_astore (lv' := [(4, .ref q9), (0, .ref (ad 0 0)), (1, .int x1), (2, .int x2), (3, .ref o)]) hx hb dL_move_21 hl (by decide) rfl (fun ls hl => ?_)
      refine lv_iconst (v := 3) hx hb dL_move_23 (by decide) ?_
      exact xl_end B hae hM hO (xl_wide hS) (Nat.le_of_ble_eq_true rfl) (Nat.le_of_ble_eq_true rfl) rfl dL_move_24
  | inr x =>
    clear hL
    refine xl_of (hh := [(0, 10, 13, 23), (0, 10, 17, 13), (0, 10, 21, 15)]) (by decide +kernel) rfl (Nat.le_of_ble_eq_true rfl) fun p e s m below meth c ls B tab hM hO ho hS hl => ?_
    have ⟨⟨hx, hb, hr, hml, hown, hT, hlocks, hK⟩, hST, hNC, hA⟩ := B
    have hl : lv_has ls 5 [(0, .ref (ad 0 0)), (1, .int x1), (2, .int x2), (3, .ref o)] := hl
    refine lv_aload_n hx hb dL_move_0 rfl (lv_at hl 3 rfl) ?_
    refine lv_iconst (v := 0) hx hb dL_move_1 (by decide) ?_
    refine lv_aload_n hx hb dL_move_2 rfl (lv_at hl 0 rfl) ?_
    refine lv_iload_n hx hb dL_move_3 rfl (lv_at hl 1 rfl) ?_
    refine lv_iload_n hx hb dL_move_4 rfl (lv_at hl 2 rfl) ?_
    refine xl_ret (xl_run B hM hS [.int x1, .int x2] (n := 2) (xe_met (c_X5_move hll h)) wm_RL_25 wi_yX5_move ws_yX5_move wn_RX5 wc_yX5_move rfl rfl (by decide +kernel) ⟨Nat.le_of_ble_eq_true rfl, Nat.le_of_ble_eq_true rfl⟩ ⟨Nat.le_of_ble_eq_true rfl, Nat.le_of_ble_eq_true rfl⟩ rfl hl.1 (Nat.le_of_ble_eq_true rfl) rfl dL_move_5) hS (fun ad2 H locs hae hM hS hz hk9 => ?_)
    have hO := hO.kept (hk9 _ hO.lt ho)
    refine lv_i2l hx hb dL_move_8 rfl ?_
    refine xl_last B hM hS ho hO dL_move_9 (fun H locs hM hO hS => ?_)
    refine lv_goto (tgt := 25) hx hb dL_move_10 (by decide) ?_
    refine lv_iconst (v := 0) hx hb dL_move_25 (by decide) ?_
    exact xl_end B hae hM hO hS (Nat.le_of_ble_eq_true rfl) (Nat.le_of_ble_eq_true rfl) rfl dL_move_26
set_option maxHeartbeats 4000000 in
set_option maxRecDepth 100000 in
theorem c_L_at {l : Launch} (hll : l.stackTraces = false) {G : GG} {A : Nat → Prop} {ad : AD} {st : XS} {x1 : Int32} {r : Nat ⊕ Int32} {st' : XS} {o : Nat} {f : Nat → Int64} (h : f_X5_at st x1 = some (r, st')) (hL : ∀ k, r = .inl k → k ∈ [4]) : Met l yL_at (Cond.codeWith yL_at cL_at 4 (some .int) [(0, 9, 12, 32)] :: TG) { frames := 7, cells := 1, slots := 6, locals := 121 } (PWr G A ad st o (.inl (G.2 3, 1, .inr (.inl f))) [.ref (ad 0 0), .int x1, .ref o]) (QWr G A ad (lwc [4] r) st' o (.inl (G.2 3, 1, .inr (.inl (louI f r))))) 1 6 (fun q => A q ∨ q = o) := by
  cases r with
  | inl k =>
    have hk := hL k rfl
    clear hL
    simp only [List.mem_cons, List.not_mem_nil, or_false] at hk
    rcases hk with rfl
    · refine xl_of (hh := [(0, 9, 12, 32)]) (by decide +kernel) rfl (Nat.le_of_ble_eq_true rfl) fun p e s m below meth c ls B tab hM hO ho hS hl => ?_
      have ⟨⟨hx, hb, hr, hml, hown, hT, hlocks, hK⟩, hST, hNC, hA⟩ := B
      have hl : lv_has ls 4 [(0, .ref (ad 0 0)), (1, .int x1), (2, .ref o)] := hl
      refine lv_aload_n hx hb dL_at_0 rfl (lv_at hl 2 rfl) ?_
      refine lv_iconst (v := 0) hx hb dL_at_1 (by decide) ?_
      refine lv_aload_n hx hb dL_at_2 rfl (lv_at hl 0 rfl) ?_
      refine lv_iload_n hx hb dL_at_3 rfl (lv_at hl 1 rfl) ?_
      refine xl_thr (xl_run B hM hS [.int x1] (n := 1) (xe_met (c_X5_at hll h)) wm_RL_29 wi_yX5_at ws_yX5_at wn_RX5 wc_yX5_at rfl rfl (by decide +kernel) ⟨Nat.le_of_ble_eq_true rfl, Nat.le_of_ble_eq_true rfl⟩ ⟨Nat.le_of_ble_eq_true rfl, Nat.le_of_ble_eq_true rfl⟩ rfl hl.1 (Nat.le_of_ble_eq_true rfl) rfl dL_at_4) hS B [] (te (0, 9, 12, 32)) [] (tab.trans rfl) (fun z hz => by cases hz) (by decide) (by decide) (by decide) wk_RL_32 (fun ad2 q9 H locs hae hM hS hz hk9 => ?_)
      have hO := hO.kept (hk9 _ hO.lt ho)
      refine lv_astore_n (lv' := [(3, .ref q9), (0, .ref (ad 0 0)), (1, .int x1), (2, .ref o)]) hx hb dL_at_12 rfl hl (by decide) rfl (fun ls hl => ?_)
      refine lv_iconst (v := 1) hx hb dL_at_13 (by decide) ?_
      exact xl_end B hae hM hO (xl_wide hS) (Nat.le_of_ble_eq_true rfl) (Nat.le_of_ble_eq_true rfl) rfl dL_at_14
  | inr x =>
    clear hL
    refine xl_of (hh := [(0, 9, 12, 32)]) (by decide +kernel) rfl (Nat.le_of_ble_eq_true rfl) fun p e s m below meth c ls B tab hM hO ho hS hl => ?_
    have ⟨⟨hx, hb, hr, hml, hown, hT, hlocks, hK⟩, hST, hNC, hA⟩ := B
    have hl : lv_has ls 4 [(0, .ref (ad 0 0)), (1, .int x1), (2, .ref o)] := hl
    refine lv_aload_n hx hb dL_at_0 rfl (lv_at hl 2 rfl) ?_
    refine lv_iconst (v := 0) hx hb dL_at_1 (by decide) ?_
    refine lv_aload_n hx hb dL_at_2 rfl (lv_at hl 0 rfl) ?_
    refine lv_iload_n hx hb dL_at_3 rfl (lv_at hl 1 rfl) ?_
    refine xl_ret (xl_run B hM hS [.int x1] (n := 1) (xe_met (c_X5_at hll h)) wm_RL_29 wi_yX5_at ws_yX5_at wn_RX5 wc_yX5_at rfl rfl (by decide +kernel) ⟨Nat.le_of_ble_eq_true rfl, Nat.le_of_ble_eq_true rfl⟩ ⟨Nat.le_of_ble_eq_true rfl, Nat.le_of_ble_eq_true rfl⟩ rfl hl.1 (Nat.le_of_ble_eq_true rfl) rfl dL_at_4) hS (fun ad2 H locs hae hM hS hz hk9 => ?_)
    have hO := hO.kept (hk9 _ hO.lt ho)
    refine lv_i2l hx hb dL_at_7 rfl ?_
    refine xl_last B hM hS ho hO dL_at_8 (fun H locs hM hO hS => ?_)
    refine lv_goto (tgt := 15) hx hb dL_at_9 (by decide) ?_
    refine lv_iconst (v := 0) hx hb dL_at_15 (by decide) ?_
    exact xl_end B hae hM hO hS (Nat.le_of_ble_eq_true rfl) (Nat.le_of_ble_eq_true rfl) rfl dL_at_16
set_option maxHeartbeats 4000000 in
set_option maxRecDepth 100000 in
theorem c_L_place {l : Launch} (hll : l.stackTraces = false) {G : GG} {A : Nat → Prop} {ad : AD} {st : XS} {x1 : Int32} {r : Nat ⊕ Int32} {st' : XS} {o : Nat} {f : Nat → Int64} (h : f_X5_place st x1 = some (r, st')) (hL : ∀ k, r = .inl k → k ∈ [3, 4]) : Met l yL_place (Cond.codeWith yL_place cL_place 4 (some .int) [(0, 9, 12, 23), (0, 9, 15, 32)] :: TG) { frames := 8, cells := 2, slots := 12, locals := 143 } (PWr G A ad st o (.inl (G.2 3, 1, .inr (.inl f))) [.ref (ad 0 0), .int x1, .ref o]) (QWr G A ad (lwc [3, 4] r) st' o (.inl (G.2 3, 1, .inr (.inl (louI f r))))) 2 12 (fun q => A q ∨ q = o) := by
  cases r with
  | inl k =>
    have hk := hL k rfl
    clear hL
    simp only [List.mem_cons, List.not_mem_nil, or_false] at hk
    rcases hk with rfl | rfl
    · refine xl_of (hh := [(0, 9, 12, 23), (0, 9, 15, 32)]) (by decide +kernel) rfl (Nat.le_of_ble_eq_true rfl) fun p e s m below meth c ls B tab hM hO ho hS hl => ?_
      have ⟨⟨hx, hb, hr, hml, hown, hT, hlocks, hK⟩, hST, hNC, hA⟩ := B
      have hl : lv_has ls 4 [(0, .ref (ad 0 0)), (1, .int x1), (2, .ref o)] := hl
      refine lv_aload_n hx hb dL_place_0 rfl (lv_at hl 2 rfl) ?_
      refine lv_iconst (v := 0) hx hb dL_place_1 (by decide) ?_
      refine lv_aload_n hx hb dL_place_2 rfl (lv_at hl 0 rfl) ?_
      refine lv_iload_n hx hb dL_place_3 rfl (lv_at hl 1 rfl) ?_
      refine xl_thr (xl_run B hM hS [.int x1] (n := 1) (xe_met (c_X5_place hll h)) wm_RL_34 wi_yX5_place ws_yX5_place wn_RX5 wc_yX5_place rfl rfl (by decide +kernel) ⟨Nat.le_of_ble_eq_true rfl, Nat.le_of_ble_eq_true rfl⟩ ⟨Nat.le_of_ble_eq_true rfl, Nat.le_of_ble_eq_true rfl⟩ rfl hl.1 (Nat.le_of_ble_eq_true rfl) rfl dL_place_4) hS B [] (te (0, 9, 12, 23)) [te (0, 9, 15, 32)] (tab.trans rfl) (fun z hz => by cases hz) (by decide) (by decide) (by decide) wk_RL_23 (fun ad2 q9 H locs hae hM hS hz hk9 => ?_)
      have hO := hO.kept (hk9 _ hO.lt ho)
      refine lv_astore_n (lv' := [(3, .ref q9), (0, .ref (ad 0 0)), (1, .int x1), (2, .ref o)]) hx hb dL_place_12 rfl hl (by decide) rfl (fun ls hl => ?_)
      refine lv_iconst (v := 1) hx hb dL_place_13 (by decide) ?_
      exact xl_end B hae hM hO (xl_wide hS) (Nat.le_of_ble_eq_true rfl) (Nat.le_of_ble_eq_true rfl) rfl dL_place_14
    · refine xl_of (hh := [(0, 9, 12, 23), (0, 9, 15, 32)]) (by decide +kernel) rfl (Nat.le_of_ble_eq_true rfl) fun p e s m below meth c ls B tab hM hO ho hS hl => ?_
      have ⟨⟨hx, hb, hr, hml, hown, hT, hlocks, hK⟩, hST, hNC, hA⟩ := B
      have hl : lv_has ls 4 [(0, .ref (ad 0 0)), (1, .int x1), (2, .ref o)] := hl
      refine lv_aload_n hx hb dL_place_0 rfl (lv_at hl 2 rfl) ?_
      refine lv_iconst (v := 0) hx hb dL_place_1 (by decide) ?_
      refine lv_aload_n hx hb dL_place_2 rfl (lv_at hl 0 rfl) ?_
      refine lv_iload_n hx hb dL_place_3 rfl (lv_at hl 1 rfl) ?_
      refine xl_thr (xl_run B hM hS [.int x1] (n := 1) (xe_met (c_X5_place hll h)) wm_RL_34 wi_yX5_place ws_yX5_place wn_RX5 wc_yX5_place rfl rfl (by decide +kernel) ⟨Nat.le_of_ble_eq_true rfl, Nat.le_of_ble_eq_true rfl⟩ ⟨Nat.le_of_ble_eq_true rfl, Nat.le_of_ble_eq_true rfl⟩ rfl hl.1 (Nat.le_of_ble_eq_true rfl) rfl dL_place_4) hS B [te (0, 9, 12, 23)] (te (0, 9, 15, 32)) [] (tab.trans rfl) (List.forall_mem_cons.mpr ⟨⟨by decide, 3, by decide, by decide, wk_RL_23⟩, fun z hz => by cases hz⟩) (by decide) (by decide) (by decide) wk_RL_32 (fun ad2 q9 H locs hae hM hS hz hk9 => ?_)
      have hO := hO.kept (hk9 _ hO.lt ho)
      refine lv_astore_n (lv' := [(3, .ref q9), (0, .ref (ad 0 0)), (1, .int x1), (2, .ref o)]) hx hb dL_place_15 rfl hl (by decide) rfl (fun ls hl => ?_)
      refine lv_iconst (v := 2) hx hb dL_place_16 (by decide) ?_
      exact xl_end B hae hM hO (xl_wide hS) (Nat.le_of_ble_eq_true rfl) (Nat.le_of_ble_eq_true rfl) rfl dL_place_17
  | inr x =>
    clear hL
    refine xl_of (hh := [(0, 9, 12, 23), (0, 9, 15, 32)]) (by decide +kernel) rfl (Nat.le_of_ble_eq_true rfl) fun p e s m below meth c ls B tab hM hO ho hS hl => ?_
    have ⟨⟨hx, hb, hr, hml, hown, hT, hlocks, hK⟩, hST, hNC, hA⟩ := B
    have hl : lv_has ls 4 [(0, .ref (ad 0 0)), (1, .int x1), (2, .ref o)] := hl
    refine lv_aload_n hx hb dL_place_0 rfl (lv_at hl 2 rfl) ?_
    refine lv_iconst (v := 0) hx hb dL_place_1 (by decide) ?_
    refine lv_aload_n hx hb dL_place_2 rfl (lv_at hl 0 rfl) ?_
    refine lv_iload_n hx hb dL_place_3 rfl (lv_at hl 1 rfl) ?_
    refine xl_ret (xl_run B hM hS [.int x1] (n := 1) (xe_met (c_X5_place hll h)) wm_RL_34 wi_yX5_place ws_yX5_place wn_RX5 wc_yX5_place rfl rfl (by decide +kernel) ⟨Nat.le_of_ble_eq_true rfl, Nat.le_of_ble_eq_true rfl⟩ ⟨Nat.le_of_ble_eq_true rfl, Nat.le_of_ble_eq_true rfl⟩ rfl hl.1 (Nat.le_of_ble_eq_true rfl) rfl dL_place_4) hS (fun ad2 H locs hae hM hS hz hk9 => ?_)
    have hO := hO.kept (hk9 _ hO.lt ho)
    refine lv_i2l hx hb dL_place_7 rfl ?_
    refine xl_last B hM hS ho hO dL_place_8 (fun H locs hM hO hS => ?_)
    refine lv_goto (tgt := 18) hx hb dL_place_9 (by decide) ?_
    refine lv_iconst (v := 0) hx hb dL_place_18 (by decide) ?_
    exact xl_end B hae hM hO hS (Nat.le_of_ble_eq_true rfl) (Nat.le_of_ble_eq_true rfl) rfl dL_place_19
set_option maxHeartbeats 4000000 in
set_option maxRecDepth 100000 in
theorem c_L_camera {l : Launch} (hll : l.stackTraces = false) {G : GG} {A : Nat → Prop} {ad : AD} {st : XS} {x1 : Int32} {x2 : Int32} {x3 : Int32} {r : Nat ⊕ Int32} {st' : XS} {o : Nat} {f : Nat → Int64} (h : f_X5_camera st x1 x2 x3 = some (r, st')) (hL : ∀ k, r = .inl k → k ∈ [3, 0, 1]) : Met l yL_camera (Cond.codeWith yL_camera cL_camera 6 (some .int) [(0, 12, 15, 23), (0, 12, 19, 13), (0, 12, 23, 15)] :: TG) { frames := 9, cells := 3, slots := 18, locals := 167 } (PWr G A ad st o (.inl (G.2 3, 1, .inr (.inl f))) [.ref (ad 0 0), .int x1, .int x2, .int x3, .ref o]) (QWr G A ad (lwc [3, 0, 1] r) st' o (.inl (G.2 3, 1, .inr (.inl (louI f r))))) 3 18 (fun q => A q ∨ q = o) := by
  cases r with
  | inl k =>
    have hk := hL k rfl
    clear hL
    simp only [List.mem_cons, List.not_mem_nil, or_false] at hk
    rcases hk with rfl | rfl | rfl
    · refine xl_of (hh := [(0, 12, 15, 23), (0, 12, 19, 13), (0, 12, 23, 15)]) (by decide +kernel) rfl (Nat.le_of_ble_eq_true rfl) fun p e s m below meth c ls B tab hM hO ho hS hl => ?_
      have ⟨⟨hx, hb, hr, hml, hown, hT, hlocks, hK⟩, hST, hNC, hA⟩ := B
      have hl : lv_has ls 6 [(0, .ref (ad 0 0)), (1, .int x1), (2, .int x2), (3, .int x3), (4, .ref o)] := hl
      refine lv_aload hx hb dL_camera_0 (lv_at hl 4 rfl) ?_
      refine lv_iconst (v := 0) hx hb dL_camera_2 (by decide) ?_
      refine lv_aload_n hx hb dL_camera_3 rfl (lv_at hl 0 rfl) ?_
      refine lv_iload_n hx hb dL_camera_4 rfl (lv_at hl 1 rfl) ?_
      refine lv_iload_n hx hb dL_camera_5 rfl (lv_at hl 2 rfl) ?_
      refine lv_iload_n hx hb dL_camera_6 rfl (lv_at hl 3 rfl) ?_
      refine xl_thr (xl_run B hM hS [.int x1, .int x2, .int x3] (n := 3) (xe_met (c_X5_camera hll h)) wm_RL_37 wi_yX5_camera ws_yX5_camera wn_RX5 wc_yX5_camera rfl rfl (by decide +kernel) ⟨Nat.le_of_ble_eq_true rfl, Nat.le_of_ble_eq_true rfl⟩ ⟨Nat.le_of_ble_eq_true rfl, Nat.le_of_ble_eq_true rfl⟩ rfl hl.1 (Nat.le_of_ble_eq_true rfl) rfl dL_camera_7) hS B [] (te (0, 12, 15, 23)) [te (0, 12, 19, 13), te (0, 12, 23, 15)] (tab.trans rfl) (fun z hz => by cases hz) (by decide) (by decide) (by decide) wk_RL_23 (fun ad2 q9 H locs hae hM hS hz hk9 => ?_)
      have hO := hO.kept (hk9 _ hO.lt ho)
      refine lv_astore (lv' := [(5, .ref q9), (0, .ref (ad 0 0)), (1, .int x1), (2, .int x2), (3, .int x3), (4, .ref o)]) hx hb dL_camera_15 hl (by decide) rfl (fun ls hl => ?_)
      refine lv_iconst (v := 1) hx hb dL_camera_17 (by decide) ?_
      exact xl_end B hae hM hO (xl_wide hS) (Nat.le_of_ble_eq_true rfl) (Nat.le_of_ble_eq_true rfl) rfl dL_camera_18
    · refine xl_of (hh := [(0, 12, 15, 23), (0, 12, 19, 13), (0, 12, 23, 15)]) (by decide +kernel) rfl (Nat.le_of_ble_eq_true rfl) fun p e s m below meth c ls B tab hM hO ho hS hl => ?_
      have ⟨⟨hx, hb, hr, hml, hown, hT, hlocks, hK⟩, hST, hNC, hA⟩ := B
      have hl : lv_has ls 6 [(0, .ref (ad 0 0)), (1, .int x1), (2, .int x2), (3, .int x3), (4, .ref o)] := hl
      refine lv_aload hx hb dL_camera_0 (lv_at hl 4 rfl) ?_
      refine lv_iconst (v := 0) hx hb dL_camera_2 (by decide) ?_
      refine lv_aload_n hx hb dL_camera_3 rfl (lv_at hl 0 rfl) ?_
      refine lv_iload_n hx hb dL_camera_4 rfl (lv_at hl 1 rfl) ?_
      refine lv_iload_n hx hb dL_camera_5 rfl (lv_at hl 2 rfl) ?_
      refine lv_iload_n hx hb dL_camera_6 rfl (lv_at hl 3 rfl) ?_
      refine xl_thr (xl_run B hM hS [.int x1, .int x2, .int x3] (n := 3) (xe_met (c_X5_camera hll h)) wm_RL_37 wi_yX5_camera ws_yX5_camera wn_RX5 wc_yX5_camera rfl rfl (by decide +kernel) ⟨Nat.le_of_ble_eq_true rfl, Nat.le_of_ble_eq_true rfl⟩ ⟨Nat.le_of_ble_eq_true rfl, Nat.le_of_ble_eq_true rfl⟩ rfl hl.1 (Nat.le_of_ble_eq_true rfl) rfl dL_camera_7) hS B [te (0, 12, 15, 23)] (te (0, 12, 19, 13)) [te (0, 12, 23, 15)] (tab.trans rfl) (List.forall_mem_cons.mpr ⟨⟨by decide, 3, by decide, by decide, wk_RL_23⟩, fun z hz => by cases hz⟩) (by decide) (by decide) (by decide) wk_RL_13 (fun ad2 q9 H locs hae hM hS hz hk9 => ?_)
      have hO := hO.kept (hk9 _ hO.lt ho)
      refine lv_astore (lv' := [(5, .ref q9), (0, .ref (ad 0 0)), (1, .int x1), (2, .int x2), (3, .int x3), (4, .ref o)]) hx hb dL_camera_19 hl (by decide) rfl (fun ls hl => ?_)
      refine lv_iconst (v := 2) hx hb dL_camera_21 (by decide) ?_
      exact xl_end B hae hM hO (xl_wide hS) (Nat.le_of_ble_eq_true rfl) (Nat.le_of_ble_eq_true rfl) rfl dL_camera_22
    · refine xl_of (hh := [(0, 12, 15, 23), (0, 12, 19, 13), (0, 12, 23, 15)]) (by decide +kernel) rfl (Nat.le_of_ble_eq_true rfl) fun p e s m below meth c ls B tab hM hO ho hS hl => ?_
      have ⟨⟨hx, hb, hr, hml, hown, hT, hlocks, hK⟩, hST, hNC, hA⟩ := B
      have hl : lv_has ls 6 [(0, .ref (ad 0 0)), (1, .int x1), (2, .int x2), (3, .int x3), (4, .ref o)] := hl
      refine lv_aload hx hb dL_camera_0 (lv_at hl 4 rfl) ?_
      refine lv_iconst (v := 0) hx hb dL_camera_2 (by decide) ?_
      refine lv_aload_n hx hb dL_camera_3 rfl (lv_at hl 0 rfl) ?_
      refine lv_iload_n hx hb dL_camera_4 rfl (lv_at hl 1 rfl) ?_
      refine lv_iload_n hx hb dL_camera_5 rfl (lv_at hl 2 rfl) ?_
      refine lv_iload_n hx hb dL_camera_6 rfl (lv_at hl 3 rfl) ?_
      refine xl_thr (xl_run B hM hS [.int x1, .int x2, .int x3] (n := 3) (xe_met (c_X5_camera hll h)) wm_RL_37 wi_yX5_camera ws_yX5_camera wn_RX5 wc_yX5_camera rfl rfl (by decide +kernel) ⟨Nat.le_of_ble_eq_true rfl, Nat.le_of_ble_eq_true rfl⟩ ⟨Nat.le_of_ble_eq_true rfl, Nat.le_of_ble_eq_true rfl⟩ rfl hl.1 (Nat.le_of_ble_eq_true rfl) rfl dL_camera_7) hS B [te (0, 12, 15, 23), te (0, 12, 19, 13)] (te (0, 12, 23, 15)) [] (tab.trans rfl) (List.forall_mem_cons.mpr ⟨⟨by decide, 3, by decide, by decide, wk_RL_23⟩, List.forall_mem_cons.mpr ⟨⟨by decide, 0, by decide, by decide, wk_RL_13⟩, fun z hz => by cases hz⟩⟩) (by decide) (by decide) (by decide) wk_RL_15 (fun ad2 q9 H locs hae hM hS hz hk9 => ?_)
      have hO := hO.kept (hk9 _ hO.lt ho)
      refine lv_astore (lv' := [(5, .ref q9), (0, .ref (ad 0 0)), (1, .int x1), (2, .int x2), (3, .int x3), (4, .ref o)]) hx hb dL_camera_23 hl (by decide) rfl (fun ls hl => ?_)
      refine lv_iconst (v := 3) hx hb dL_camera_25 (by decide) ?_
      exact xl_end B hae hM hO (xl_wide hS) (Nat.le_of_ble_eq_true rfl) (Nat.le_of_ble_eq_true rfl) rfl dL_camera_26
  | inr x =>
    clear hL
    refine xl_of (hh := [(0, 12, 15, 23), (0, 12, 19, 13), (0, 12, 23, 15)]) (by decide +kernel) rfl (Nat.le_of_ble_eq_true rfl) fun p e s m below meth c ls B tab hM hO ho hS hl => ?_
    have ⟨⟨hx, hb, hr, hml, hown, hT, hlocks, hK⟩, hST, hNC, hA⟩ := B
    have hl : lv_has ls 6 [(0, .ref (ad 0 0)), (1, .int x1), (2, .int x2), (3, .int x3), (4, .ref o)] := hl
    refine lv_aload hx hb dL_camera_0 (lv_at hl 4 rfl) ?_
    refine lv_iconst (v := 0) hx hb dL_camera_2 (by decide) ?_
    refine lv_aload_n hx hb dL_camera_3 rfl (lv_at hl 0 rfl) ?_
    refine lv_iload_n hx hb dL_camera_4 rfl (lv_at hl 1 rfl) ?_
    refine lv_iload_n hx hb dL_camera_5 rfl (lv_at hl 2 rfl) ?_
    refine lv_iload_n hx hb dL_camera_6 rfl (lv_at hl 3 rfl) ?_
    refine xl_ret (xl_run B hM hS [.int x1, .int x2, .int x3] (n := 3) (xe_met (c_X5_camera hll h)) wm_RL_37 wi_yX5_camera ws_yX5_camera wn_RX5 wc_yX5_camera rfl rfl (by decide +kernel) ⟨Nat.le_of_ble_eq_true rfl, Nat.le_of_ble_eq_true rfl⟩ ⟨Nat.le_of_ble_eq_true rfl, Nat.le_of_ble_eq_true rfl⟩ rfl hl.1 (Nat.le_of_ble_eq_true rfl) rfl dL_camera_7) hS (fun ad2 H locs hae hM hS hz hk9 => ?_)
    have hO := hO.kept (hk9 _ hO.lt ho)
    refine lv_i2l hx hb dL_camera_10 rfl ?_
    refine xl_last B hM hS ho hO dL_camera_11 (fun H locs hM hO hS => ?_)
    refine lv_goto (tgt := 27) hx hb dL_camera_12 (by decide) ?_
    refine lv_iconst (v := 0) hx hb dL_camera_27 (by decide) ?_
    exact xl_end B hae hM hO hS (Nat.le_of_ble_eq_true rfl) (Nat.le_of_ble_eq_true rfl) rfl dL_camera_28
set_option maxHeartbeats 4000000 in
set_option maxRecDepth 100000 in
theorem c_L_length {l : Launch} (hll : l.stackTraces = false) {G : GG} {A : Nat → Prop} {ad : AD} {st : XS} {x1 : Int32} {x2 : Int32} {r : Nat ⊕ Int32} {st' : XS} {o : Nat} {f : Nat → Int64} (h : f_X5_length st x1 x2 = some (r, st')) (hL : ∀ k, r = .inl k → k ∈ [3, 0, 1]) : Met l yL_length (Cond.codeWith yL_length cL_length 5 (some .int) [(0, 10, 13, 23), (0, 10, 17, 13), (0, 10, 21, 15)] :: TG) { frames := 9, cells := 3, slots := 18, locals := 166 } (PWr G A ad st o (.inl (G.2 3, 1, .inr (.inl f))) [.ref (ad 0 0), .int x1, .int x2, .ref o]) (QWr G A ad (lwc [3, 0, 1] r) st' o (.inl (G.2 3, 1, .inr (.inl (louI f r))))) 3 18 (fun q => A q ∨ q = o) := by
  cases r with
  | inl k =>
    have hk := hL k rfl
    clear hL
    simp only [List.mem_cons, List.not_mem_nil, or_false] at hk
    rcases hk with rfl | rfl | rfl
    · refine xl_of (hh := [(0, 10, 13, 23), (0, 10, 17, 13), (0, 10, 21, 15)]) (by decide +kernel) rfl (Nat.le_of_ble_eq_true rfl) fun p e s m below meth c ls B tab hM hO ho hS hl => ?_
      have ⟨⟨hx, hb, hr, hml, hown, hT, hlocks, hK⟩, hST, hNC, hA⟩ := B
      have hl : lv_has ls 5 [(0, .ref (ad 0 0)), (1, .int x1), (2, .int x2), (3, .ref o)] := hl
      refine lv_aload_n hx hb dL_length_0 rfl (lv_at hl 3 rfl) ?_
      refine lv_iconst (v := 0) hx hb dL_length_1 (by decide) ?_
      refine lv_aload_n hx hb dL_length_2 rfl (lv_at hl 0 rfl) ?_
      refine lv_iload_n hx hb dL_length_3 rfl (lv_at hl 1 rfl) ?_
      refine lv_iload_n hx hb dL_length_4 rfl (lv_at hl 2 rfl) ?_
      refine xl_thr (xl_run B hM hS [.int x1, .int x2] (n := 2) (xe_met (c_X5_length hll h)) wm_RL_41 wi_yX5_length ws_yX5_length wn_RX5 wc_yX5_length rfl rfl (by decide +kernel) ⟨Nat.le_of_ble_eq_true rfl, Nat.le_of_ble_eq_true rfl⟩ ⟨Nat.le_of_ble_eq_true rfl, Nat.le_of_ble_eq_true rfl⟩ rfl hl.1 (Nat.le_of_ble_eq_true rfl) rfl dL_length_5) hS B [] (te (0, 10, 13, 23)) [te (0, 10, 17, 13), te (0, 10, 21, 15)] (tab.trans rfl) (fun z hz => by cases hz) (by decide) (by decide) (by decide) wk_RL_23 (fun ad2 q9 H locs hae hM hS hz hk9 => ?_)
      have hO := hO.kept (hk9 _ hO.lt ho)
      refine lv_astore (lv' := [(4, .ref q9), (0, .ref (ad 0 0)), (1, .int x1), (2, .int x2), (3, .ref o)]) hx hb dL_length_13 hl (by decide) rfl (fun ls hl => ?_)
      refine lv_iconst (v := 1) hx hb dL_length_15 (by decide) ?_
      exact xl_end B hae hM hO (xl_wide hS) (Nat.le_of_ble_eq_true rfl) (Nat.le_of_ble_eq_true rfl) rfl dL_length_16
    · refine xl_of (hh := [(0, 10, 13, 23), (0, 10, 17, 13), (0, 10, 21, 15)]) (by decide +kernel) rfl (Nat.le_of_ble_eq_true rfl) fun p e s m below meth c ls B tab hM hO ho hS hl => ?_
      have ⟨⟨hx, hb, hr, hml, hown, hT, hlocks, hK⟩, hST, hNC, hA⟩ := B
      have hl : lv_has ls 5 [(0, .ref (ad 0 0)), (1, .int x1), (2, .int x2), (3, .ref o)] := hl
      refine lv_aload_n hx hb dL_length_0 rfl (lv_at hl 3 rfl) ?_
      refine lv_iconst (v := 0) hx hb dL_length_1 (by decide) ?_
      refine lv_aload_n hx hb dL_length_2 rfl (lv_at hl 0 rfl) ?_
      refine lv_iload_n hx hb dL_length_3 rfl (lv_at hl 1 rfl) ?_
      refine lv_iload_n hx hb dL_length_4 rfl (lv_at hl 2 rfl) ?_
      refine xl_thr (xl_run B hM hS [.int x1, .int x2] (n := 2) (xe_met (c_X5_length hll h)) wm_RL_41 wi_yX5_length ws_yX5_length wn_RX5 wc_yX5_length rfl rfl (by decide +kernel) ⟨Nat.le_of_ble_eq_true rfl, Nat.le_of_ble_eq_true rfl⟩ ⟨Nat.le_of_ble_eq_true rfl, Nat.le_of_ble_eq_true rfl⟩ rfl hl.1 (Nat.le_of_ble_eq_true rfl) rfl dL_length_5) hS B [te (0, 10, 13, 23)] (te (0, 10, 17, 13)) [te (0, 10, 21, 15)] (tab.trans rfl) (List.forall_mem_cons.mpr ⟨⟨by decide, 3, by decide, by decide, wk_RL_23⟩, fun z hz => by cases hz⟩) (by decide) (by decide) (by decide) wk_RL_13 (fun ad2 q9 H locs hae hM hS hz hk9 => ?_)
      have hO := hO.kept (hk9 _ hO.lt ho)
      refine lv_astore (lv' := [(4, .ref q9), (0, .ref (ad 0 0)), (1, .int x1), (2, .int x2), (3, .ref o)]) hx hb dL_length_17 hl (by decide) rfl (fun ls hl => ?_)
      refine lv_iconst (v := 2) hx hb dL_length_19 (by decide) ?_
      exact xl_end B hae hM hO (xl_wide hS) (Nat.le_of_ble_eq_true rfl) (Nat.le_of_ble_eq_true rfl) rfl dL_length_20
    · refine xl_of (hh := [(0, 10, 13, 23), (0, 10, 17, 13), (0, 10, 21, 15)]) (by decide +kernel) rfl (Nat.le_of_ble_eq_true rfl) fun p e s m below meth c ls B tab hM hO ho hS hl => ?_
      have ⟨⟨hx, hb, hr, hml, hown, hT, hlocks, hK⟩, hST, hNC, hA⟩ := B
      have hl : lv_has ls 5 [(0, .ref (ad 0 0)), (1, .int x1), (2, .int x2), (3, .ref o)] := hl
      refine lv_aload_n hx hb dL_length_0 rfl (lv_at hl 3 rfl) ?_
      refine lv_iconst (v := 0) hx hb dL_length_1 (by decide) ?_
      refine lv_aload_n hx hb dL_length_2 rfl (lv_at hl 0 rfl) ?_
      refine lv_iload_n hx hb dL_length_3 rfl (lv_at hl 1 rfl) ?_
      refine lv_iload_n hx hb dL_length_4 rfl (lv_at hl 2 rfl) ?_
      refine xl_thr (xl_run B hM hS [.int x1, .int x2] (n := 2) (xe_met (c_X5_length hll h)) wm_RL_41 wi_yX5_length ws_yX5_length wn_RX5 wc_yX5_length rfl rfl (by decide +kernel) ⟨Nat.le_of_ble_eq_true rfl, Nat.le_of_ble_eq_true rfl⟩ ⟨Nat.le_of_ble_eq_true rfl, Nat.le_of_ble_eq_true rfl⟩ rfl hl.1 (Nat.le_of_ble_eq_true rfl) rfl dL_length_5) hS B [te (0, 10, 13, 23), te (0, 10, 17, 13)] (te (0, 10, 21, 15)) [] (tab.trans rfl) (List.forall_mem_cons.mpr ⟨⟨by decide, 3, by decide, by decide, wk_RL_23⟩, List.forall_mem_cons.mpr ⟨⟨by decide, 0, by decide, by decide, wk_RL_13⟩, fun z hz => by cases hz⟩⟩) (by decide) (by decide) (by decide) wk_RL_15 (fun ad2 q9 H locs hae hM hS hz hk9 => ?_)
      have hO := hO.kept (hk9 _ hO.lt ho)
      refine lv_astore (lv' := [(4, .ref q9), (0, .ref (ad 0 0)), (1, .int x1), (2, .int x2), (3, .ref o)]) hx hb dL_length_21 hl (by decide) rfl (fun ls hl => ?_)
      refine lv_iconst (v := 3) hx hb dL_length_23 (by decide) ?_
      exact xl_end B hae hM hO (xl_wide hS) (Nat.le_of_ble_eq_true rfl) (Nat.le_of_ble_eq_true rfl) rfl dL_length_24
  | inr x =>
    clear hL
    refine xl_of (hh := [(0, 10, 13, 23), (0, 10, 17, 13), (0, 10, 21, 15)]) (by decide +kernel) rfl (Nat.le_of_ble_eq_true rfl) fun p e s m below meth c ls B tab hM hO ho hS hl => ?_
    have ⟨⟨hx, hb, hr, hml, hown, hT, hlocks, hK⟩, hST, hNC, hA⟩ := B
    have hl : lv_has ls 5 [(0, .ref (ad 0 0)), (1, .int x1), (2, .int x2), (3, .ref o)] := hl
    refine lv_aload_n hx hb dL_length_0 rfl (lv_at hl 3 rfl) ?_
    refine lv_iconst (v := 0) hx hb dL_length_1 (by decide) ?_
    refine lv_aload_n hx hb dL_length_2 rfl (lv_at hl 0 rfl) ?_
    refine lv_iload_n hx hb dL_length_3 rfl (lv_at hl 1 rfl) ?_
    refine lv_iload_n hx hb dL_length_4 rfl (lv_at hl 2 rfl) ?_
    refine xl_ret (xl_run B hM hS [.int x1, .int x2] (n := 2) (xe_met (c_X5_length hll h)) wm_RL_41 wi_yX5_length ws_yX5_length wn_RX5 wc_yX5_length rfl rfl (by decide +kernel) ⟨Nat.le_of_ble_eq_true rfl, Nat.le_of_ble_eq_true rfl⟩ ⟨Nat.le_of_ble_eq_true rfl, Nat.le_of_ble_eq_true rfl⟩ rfl hl.1 (Nat.le_of_ble_eq_true rfl) rfl dL_length_5) hS (fun ad2 H locs hae hM hS hz hk9 => ?_)
    have hO := hO.kept (hk9 _ hO.lt ho)
    refine lv_i2l hx hb dL_length_8 rfl ?_
    refine xl_last B hM hS ho hO dL_length_9 (fun H locs hM hO hS => ?_)
    refine lv_goto (tgt := 25) hx hb dL_length_10 (by decide) ?_
    refine lv_iconst (v := 0) hx hb dL_length_25 (by decide) ?_
    exact xl_end B hae hM hO hS (Nat.le_of_ble_eq_true rfl) (Nat.le_of_ble_eq_true rfl) rfl dL_length_26
set_option maxHeartbeats 4000000 in
set_option maxRecDepth 100000 in
theorem c_L_stand {l : Launch} (hll : l.stackTraces = false) {G : GG} {A : Nat → Prop} {ad : AD} {st : XS} {x1 : Int32} {x2 : Int32} {x3 : Int32} {x4 : Int32} {r : Nat ⊕ Int32} {st' : XS} {o : Nat} {f : Nat → Int64} (h : f_X5_stand st x1 x2 x3 x4 = some (r, st')) (hL : ∀ k, r = .inl k → k ∈ [3, 0, 1]) : Met l yL_stand (Cond.codeWith yL_stand cL_stand 7 (some .int) [(0, 14, 17, 23), (0, 14, 21, 13), (0, 14, 25, 15)] :: TG) { frames := 9, cells := 3, slots := 18, locals := 168 } (PWr G A ad st o (.inl (G.2 3, 1, .inr (.inl f))) [.ref (ad 0 0), .int x1, .int x2, .int x3, .int x4, .ref o]) (QWr G A ad (lwc [3, 0, 1] r) st' o (.inl (G.2 3, 1, .inr (.inl (louI f r))))) 3 18 (fun q => A q ∨ q = o) := by
  cases r with
  | inl k =>
    have hk := hL k rfl
    clear hL
    simp only [List.mem_cons, List.not_mem_nil, or_false] at hk
    rcases hk with rfl | rfl | rfl
    · refine xl_of (hh := [(0, 14, 17, 23), (0, 14, 21, 13), (0, 14, 25, 15)]) (by decide +kernel) rfl (Nat.le_of_ble_eq_true rfl) fun p e s m below meth c ls B tab hM hO ho hS hl => ?_
      have ⟨⟨hx, hb, hr, hml, hown, hT, hlocks, hK⟩, hST, hNC, hA⟩ := B
      have hl : lv_has ls 7 [(0, .ref (ad 0 0)), (1, .int x1), (2, .int x2), (3, .int x3), (4, .int x4), (5, .ref o)] := hl
      refine lv_aload hx hb dL_stand_0 (lv_at hl 5 rfl) ?_
      refine lv_iconst (v := 0) hx hb dL_stand_2 (by decide) ?_
      refine lv_aload_n hx hb dL_stand_3 rfl (lv_at hl 0 rfl) ?_
      refine lv_iload_n hx hb dL_stand_4 rfl (lv_at hl 1 rfl) ?_
      refine lv_iload_n hx hb dL_stand_5 rfl (lv_at hl 2 rfl) ?_
      refine lv_iload_n hx hb dL_stand_6 rfl (lv_at hl 3 rfl) ?_
      refine lv_iload hx hb dL_stand_7 (lv_at hl 4 rfl) ?_
      refine xl_thr (xl_run B hM hS [.int x1, .int x2, .int x3, .int x4] (n := 4) (xe_met (c_X5_stand hll h)) wm_RL_44 wi_yX5_stand ws_yX5_stand wn_RX5 wc_yX5_stand rfl rfl (by decide +kernel) ⟨Nat.le_of_ble_eq_true rfl, Nat.le_of_ble_eq_true rfl⟩ ⟨Nat.le_of_ble_eq_true rfl, Nat.le_of_ble_eq_true rfl⟩ rfl hl.1 (Nat.le_of_ble_eq_true rfl) rfl dL_stand_9) hS B [] (te (0, 14, 17, 23)) [te (0, 14, 21, 13), te (0, 14, 25, 15)] (tab.trans rfl) (fun z hz => by cases hz) (by decide) (by decide) (by decide) wk_RL_23 (fun ad2 q9 H locs hae hM hS hz hk9 => ?_)
      have hO := hO.kept (hk9 _ hO.lt ho)
      refine lv_astore (lv' := [(6, .ref q9), (0, .ref (ad 0 0)), (1, .int x1), (2, .int x2), (3, .int x3), (4, .int x4), (5, .ref o)]) hx hb dL_stand_17 hl (by decide) rfl (fun ls hl => ?_)
      refine lv_iconst (v := 1) hx hb dL_stand_19 (by decide) ?_
      exact xl_end B hae hM hO (xl_wide hS) (Nat.le_of_ble_eq_true rfl) (Nat.le_of_ble_eq_true rfl) rfl dL_stand_20
    · refine xl_of (hh := [(0, 14, 17, 23), (0, 14, 21, 13), (0, 14, 25, 15)]) (by decide +kernel) rfl (Nat.le_of_ble_eq_true rfl) fun p e s m below meth c ls B tab hM hO ho hS hl => ?_
      have ⟨⟨hx, hb, hr, hml, hown, hT, hlocks, hK⟩, hST, hNC, hA⟩ := B
      have hl : lv_has ls 7 [(0, .ref (ad 0 0)), (1, .int x1), (2, .int x2), (3, .int x3), (4, .int x4), (5, .ref o)] := hl
      refine lv_aload hx hb dL_stand_0 (lv_at hl 5 rfl) ?_
      refine lv_iconst (v := 0) hx hb dL_stand_2 (by decide) ?_
      refine lv_aload_n hx hb dL_stand_3 rfl (lv_at hl 0 rfl) ?_
      refine lv_iload_n hx hb dL_stand_4 rfl (lv_at hl 1 rfl) ?_
      refine lv_iload_n hx hb dL_stand_5 rfl (lv_at hl 2 rfl) ?_
      refine lv_iload_n hx hb dL_stand_6 rfl (lv_at hl 3 rfl) ?_
      refine lv_iload hx hb dL_stand_7 (lv_at hl 4 rfl) ?_
      refine xl_thr (xl_run B hM hS [.int x1, .int x2, .int x3, .int x4] (n := 4) (xe_met (c_X5_stand hll h)) wm_RL_44 wi_yX5_stand ws_yX5_stand wn_RX5 wc_yX5_stand rfl rfl (by decide +kernel) ⟨Nat.le_of_ble_eq_true rfl, Nat.le_of_ble_eq_true rfl⟩ ⟨Nat.le_of_ble_eq_true rfl, Nat.le_of_ble_eq_true rfl⟩ rfl hl.1 (Nat.le_of_ble_eq_true rfl) rfl dL_stand_9) hS B [te (0, 14, 17, 23)] (te (0, 14, 21, 13)) [te (0, 14, 25, 15)] (tab.trans rfl) (List.forall_mem_cons.mpr ⟨⟨by decide, 3, by decide, by decide, wk_RL_23⟩, fun z hz => by cases hz⟩) (by decide) (by decide) (by decide) wk_RL_13 (fun ad2 q9 H locs hae hM hS hz hk9 => ?_)
      have hO := hO.kept (hk9 _ hO.lt ho)
      refine lv_astore (lv' := [(6, .ref q9), (0, .ref (ad 0 0)), (1, .int x1), (2, .int x2), (3, .int x3), (4, .int x4), (5, .ref o)]) hx hb dL_stand_21 hl (by decide) rfl (fun ls hl => ?_)
      refine lv_iconst (v := 2) hx hb dL_stand_23 (by decide) ?_
      exact xl_end B hae hM hO (xl_wide hS) (Nat.le_of_ble_eq_true rfl) (Nat.le_of_ble_eq_true rfl) rfl dL_stand_24
    · refine xl_of (hh := [(0, 14, 17, 23), (0, 14, 21, 13), (0, 14, 25, 15)]) (by decide +kernel) rfl (Nat.le_of_ble_eq_true rfl) fun p e s m below meth c ls B tab hM hO ho hS hl => ?_
      have ⟨⟨hx, hb, hr, hml, hown, hT, hlocks, hK⟩, hST, hNC, hA⟩ := B
      have hl : lv_has ls 7 [(0, .ref (ad 0 0)), (1, .int x1), (2, .int x2), (3, .int x3), (4, .int x4), (5, .ref o)] := hl
      refine lv_aload hx hb dL_stand_0 (lv_at hl 5 rfl) ?_
      refine lv_iconst (v := 0) hx hb dL_stand_2 (by decide) ?_
      refine lv_aload_n hx hb dL_stand_3 rfl (lv_at hl 0 rfl) ?_
      refine lv_iload_n hx hb dL_stand_4 rfl (lv_at hl 1 rfl) ?_
      refine lv_iload_n hx hb dL_stand_5 rfl (lv_at hl 2 rfl) ?_
      refine lv_iload_n hx hb dL_stand_6 rfl (lv_at hl 3 rfl) ?_
      refine lv_iload hx hb dL_stand_7 (lv_at hl 4 rfl) ?_
      refine xl_thr (xl_run B hM hS [.int x1, .int x2, .int x3, .int x4] (n := 4) (xe_met (c_X5_stand hll h)) wm_RL_44 wi_yX5_stand ws_yX5_stand wn_RX5 wc_yX5_stand rfl rfl (by decide +kernel) ⟨Nat.le_of_ble_eq_true rfl, Nat.le_of_ble_eq_true rfl⟩ ⟨Nat.le_of_ble_eq_true rfl, Nat.le_of_ble_eq_true rfl⟩ rfl hl.1 (Nat.le_of_ble_eq_true rfl) rfl dL_stand_9) hS B [te (0, 14, 17, 23), te (0, 14, 21, 13)] (te (0, 14, 25, 15)) [] (tab.trans rfl) (List.forall_mem_cons.mpr ⟨⟨by decide, 3, by decide, by decide, wk_RL_23⟩, List.forall_mem_cons.mpr ⟨⟨by decide, 0, by decide, by decide, wk_RL_13⟩, fun z hz => by cases hz⟩⟩) (by decide) (by decide) (by decide) wk_RL_15 (fun ad2 q9 H locs hae hM hS hz hk9 => ?_)
      have hO := hO.kept (hk9 _ hO.lt ho)
      refine lv_astore (lv' := [(6, .ref q9), (0, .ref (ad 0 0)), (1, .int x1), (2, .int x2), (3, .int x3), (4, .int x4), (5, .ref o)]) hx hb dL_stand_25 hl (by decide) rfl (fun ls hl => ?_)
      refine lv_iconst (v := 3) hx hb dL_stand_27 (by decide) ?_
      exact xl_end B hae hM hO (xl_wide hS) (Nat.le_of_ble_eq_true rfl) (Nat.le_of_ble_eq_true rfl) rfl dL_stand_28
  | inr x =>
    clear hL
    refine xl_of (hh := [(0, 14, 17, 23), (0, 14, 21, 13), (0, 14, 25, 15)]) (by decide +kernel) rfl (Nat.le_of_ble_eq_true rfl) fun p e s m below meth c ls B tab hM hO ho hS hl => ?_
    have ⟨⟨hx, hb, hr, hml, hown, hT, hlocks, hK⟩, hST, hNC, hA⟩ := B
    have hl : lv_has ls 7 [(0, .ref (ad 0 0)), (1, .int x1), (2, .int x2), (3, .int x3), (4, .int x4), (5, .ref o)] := hl
    refine lv_aload hx hb dL_stand_0 (lv_at hl 5 rfl) ?_
    refine lv_iconst (v := 0) hx hb dL_stand_2 (by decide) ?_
    refine lv_aload_n hx hb dL_stand_3 rfl (lv_at hl 0 rfl) ?_
    refine lv_iload_n hx hb dL_stand_4 rfl (lv_at hl 1 rfl) ?_
    refine lv_iload_n hx hb dL_stand_5 rfl (lv_at hl 2 rfl) ?_
    refine lv_iload_n hx hb dL_stand_6 rfl (lv_at hl 3 rfl) ?_
    refine lv_iload hx hb dL_stand_7 (lv_at hl 4 rfl) ?_
    refine xl_ret (xl_run B hM hS [.int x1, .int x2, .int x3, .int x4] (n := 4) (xe_met (c_X5_stand hll h)) wm_RL_44 wi_yX5_stand ws_yX5_stand wn_RX5 wc_yX5_stand rfl rfl (by decide +kernel) ⟨Nat.le_of_ble_eq_true rfl, Nat.le_of_ble_eq_true rfl⟩ ⟨Nat.le_of_ble_eq_true rfl, Nat.le_of_ble_eq_true rfl⟩ rfl hl.1 (Nat.le_of_ble_eq_true rfl) rfl dL_stand_9) hS (fun ad2 H locs hae hM hS hz hk9 => ?_)
    have hO := hO.kept (hk9 _ hO.lt ho)
    refine lv_i2l hx hb dL_stand_12 rfl ?_
    refine xl_last B hM hS ho hO dL_stand_13 (fun H locs hM hO hS => ?_)
    refine lv_goto (tgt := 29) hx hb dL_stand_14 (by decide) ?_
    refine lv_iconst (v := 0) hx hb dL_stand_29 (by decide) ?_
    exact xl_end B hae hM hO hS (Nat.le_of_ble_eq_true rfl) (Nat.le_of_ble_eq_true rfl) rfl dL_stand_30
set_option maxHeartbeats 4000000 in
set_option maxRecDepth 100000 in
theorem c_L_enters {l : Launch} (hll : l.stackTraces = false) {G : GG} {A : Nat → Prop} {ad : AD} {st : XS} {x1 : Int32} {x2 : Int32} {x3 : Int32} {r : Nat ⊕ Int32} {st' : XS} {o : Nat} {f : Nat → Int64} (h : f_X5_enters st x1 x2 x3 = some (r, st')) (hL : ∀ k, r = .inl k → k ∈ [3, 0, 1]) : Met l yL_enters (Cond.codeWith yL_enters cL_enters 6 (some .int) [(0, 12, 15, 23), (0, 12, 19, 13), (0, 12, 23, 15)] :: TG) { frames := 10, cells := 4, slots := 24, locals := 191 } (PWr G A ad st o (.inl (G.2 3, 1, .inr (.inl f))) [.ref (ad 0 0), .int x1, .int x2, .int x3, .ref o]) (QWr G A ad (lwc [3, 0, 1] r) st' o (.inl (G.2 3, 1, .inr (.inl (louI f r))))) 4 24 (fun q => A q ∨ q = o) := by
  cases r with
  | inl k =>
    have hk := hL k rfl
    clear hL
    simp only [List.mem_cons, List.not_mem_nil, or_false] at hk
    rcases hk with rfl | rfl | rfl
    · refine xl_of (hh := [(0, 12, 15, 23), (0, 12, 19, 13), (0, 12, 23, 15)]) (by decide +kernel) rfl (Nat.le_of_ble_eq_true rfl) fun p e s m below meth c ls B tab hM hO ho hS hl => ?_
      have ⟨⟨hx, hb, hr, hml, hown, hT, hlocks, hK⟩, hST, hNC, hA⟩ := B
      have hl : lv_has ls 6 [(0, .ref (ad 0 0)), (1, .int x1), (2, .int x2), (3, .int x3), (4, .ref o)] := hl
      refine lv_aload hx hb dL_enters_0 (lv_at hl 4 rfl) ?_
      refine lv_iconst (v := 0) hx hb dL_enters_2 (by decide) ?_
      refine lv_aload_n hx hb dL_enters_3 rfl (lv_at hl 0 rfl) ?_
      refine lv_iload_n hx hb dL_enters_4 rfl (lv_at hl 1 rfl) ?_
      refine lv_iload_n hx hb dL_enters_5 rfl (lv_at hl 2 rfl) ?_
      refine lv_iload_n hx hb dL_enters_6 rfl (lv_at hl 3 rfl) ?_
      refine xl_thr (xl_run B hM hS [.int x1, .int x2, .int x3] (n := 3) (xe_met (c_X5_enters hll h)) wm_RL_48 wi_yX5_enters ws_yX5_enters wn_RX5 wc_yX5_enters rfl rfl (by decide +kernel) ⟨Nat.le_of_ble_eq_true rfl, Nat.le_of_ble_eq_true rfl⟩ ⟨Nat.le_of_ble_eq_true rfl, Nat.le_of_ble_eq_true rfl⟩ rfl hl.1 (Nat.le_of_ble_eq_true rfl) rfl dL_enters_7) hS B [] (te (0, 12, 15, 23)) [te (0, 12, 19, 13), te (0, 12, 23, 15)] (tab.trans rfl) (fun z hz => by cases hz) (by decide) (by decide) (by decide) wk_RL_23 (fun ad2 q9 H locs hae hM hS hz hk9 => ?_)
      have hO := hO.kept (hk9 _ hO.lt ho)
      refine lv_astore (lv' := [(5, .ref q9), (0, .ref (ad 0 0)), (1, .int x1), (2, .int x2), (3, .int x3), (4, .ref o)]) hx hb dL_enters_15 hl (by decide) rfl (fun ls hl => ?_)
      refine lv_iconst (v := 1) hx hb dL_enters_17 (by decide) ?_
      exact xl_end B hae hM hO (xl_wide hS) (Nat.le_of_ble_eq_true rfl) (Nat.le_of_ble_eq_true rfl) rfl dL_enters_18
    · refine xl_of (hh := [(0, 12, 15, 23), (0, 12, 19, 13), (0, 12, 23, 15)]) (by decide +kernel) rfl (Nat.le_of_ble_eq_true rfl) fun p e s m below meth c ls B tab hM hO ho hS hl => ?_
      have ⟨⟨hx, hb, hr, hml, hown, hT, hlocks, hK⟩, hST, hNC, hA⟩ := B
      have hl : lv_has ls 6 [(0, .ref (ad 0 0)), (1, .int x1), (2, .int x2), (3, .int x3), (4, .ref o)] := hl
      refine lv_aload hx hb dL_enters_0 (lv_at hl 4 rfl) ?_
      refine lv_iconst (v := 0) hx hb dL_enters_2 (by decide) ?_
      refine lv_aload_n hx hb dL_enters_3 rfl (lv_at hl 0 rfl) ?_
      refine lv_iload_n hx hb dL_enters_4 rfl (lv_at hl 1 rfl) ?_
      refine lv_iload_n hx hb dL_enters_5 rfl (lv_at hl 2 rfl) ?_
      refine lv_iload_n hx hb dL_enters_6 rfl (lv_at hl 3 rfl) ?_
      refine xl_thr (xl_run B hM hS [.int x1, .int x2, .int x3] (n := 3) (xe_met (c_X5_enters hll h)) wm_RL_48 wi_yX5_enters ws_yX5_enters wn_RX5 wc_yX5_enters rfl rfl (by decide +kernel) ⟨Nat.le_of_ble_eq_true rfl, Nat.le_of_ble_eq_true rfl⟩ ⟨Nat.le_of_ble_eq_true rfl, Nat.le_of_ble_eq_true rfl⟩ rfl hl.1 (Nat.le_of_ble_eq_true rfl) rfl dL_enters_7) hS B [te (0, 12, 15, 23)] (te (0, 12, 19, 13)) [te (0, 12, 23, 15)] (tab.trans rfl) (List.forall_mem_cons.mpr ⟨⟨by decide, 3, by decide, by decide, wk_RL_23⟩, fun z hz => by cases hz⟩) (by decide) (by decide) (by decide) wk_RL_13 (fun ad2 q9 H locs hae hM hS hz hk9 => ?_)
      have hO := hO.kept (hk9 _ hO.lt ho)
      refine lv_astore (lv' := [(5, .ref q9), (0, .ref (ad 0 0)), (1, .int x1), (2, .int x2), (3, .int x3), (4, .ref o)]) hx hb dL_enters_19 hl (by decide) rfl (fun ls hl => ?_)
      refine lv_iconst (v := 2) hx hb dL_enters_21 (by decide) ?_
      exact xl_end B hae hM hO (xl_wide hS) (Nat.le_of_ble_eq_true rfl) (Nat.le_of_ble_eq_true rfl) rfl dL_enters_22
    · refine xl_of (hh := [(0, 12, 15, 23), (0, 12, 19, 13), (0, 12, 23, 15)]) (by decide +kernel) rfl (Nat.le_of_ble_eq_true rfl) fun p e s m below meth c ls B tab hM hO ho hS hl => ?_
      have ⟨⟨hx, hb, hr, hml, hown, hT, hlocks, hK⟩, hST, hNC, hA⟩ := B
      have hl : lv_has ls 6 [(0, .ref (ad 0 0)), (1, .int x1), (2, .int x2), (3, .int x3), (4, .ref o)] := hl
      refine lv_aload hx hb dL_enters_0 (lv_at hl 4 rfl) ?_
      refine lv_iconst (v := 0) hx hb dL_enters_2 (by decide) ?_
      refine lv_aload_n hx hb dL_enters_3 rfl (lv_at hl 0 rfl) ?_
      refine lv_iload_n hx hb dL_enters_4 rfl (lv_at hl 1 rfl) ?_
      refine lv_iload_n hx hb dL_enters_5 rfl (lv_at hl 2 rfl) ?_
      refine lv_iload_n hx hb dL_enters_6 rfl (lv_at hl 3 rfl) ?_
      refine xl_thr (xl_run B hM hS [.int x1, .int x2, .int x3] (n := 3) (xe_met (c_X5_enters hll h)) wm_RL_48 wi_yX5_enters ws_yX5_enters wn_RX5 wc_yX5_enters rfl rfl (by decide +kernel) ⟨Nat.le_of_ble_eq_true rfl, Nat.le_of_ble_eq_true rfl⟩ ⟨Nat.le_of_ble_eq_true rfl, Nat.le_of_ble_eq_true rfl⟩ rfl hl.1 (Nat.le_of_ble_eq_true rfl) rfl dL_enters_7) hS B [te (0, 12, 15, 23), te (0, 12, 19, 13)] (te (0, 12, 23, 15)) [] (tab.trans rfl) (List.forall_mem_cons.mpr ⟨⟨by decide, 3, by decide, by decide, wk_RL_23⟩, List.forall_mem_cons.mpr ⟨⟨by decide, 0, by decide, by decide, wk_RL_13⟩, fun z hz => by cases hz⟩⟩) (by decide) (by decide) (by decide) wk_RL_15 (fun ad2 q9 H locs hae hM hS hz hk9 => ?_)
      have hO := hO.kept (hk9 _ hO.lt ho)
      refine lv_astore (lv' := [(5, .ref q9), (0, .ref (ad 0 0)), (1, .int x1), (2, .int x2), (3, .int x3), (4, .ref o)]) hx hb dL_enters_23 hl (by decide) rfl (fun ls hl => ?_)
      refine lv_iconst (v := 3) hx hb dL_enters_25 (by decide) ?_
      exact xl_end B hae hM hO (xl_wide hS) (Nat.le_of_ble_eq_true rfl) (Nat.le_of_ble_eq_true rfl) rfl dL_enters_26
  | inr x =>
    clear hL
    refine xl_of (hh := [(0, 12, 15, 23), (0, 12, 19, 13), (0, 12, 23, 15)]) (by decide +kernel) rfl (Nat.le_of_ble_eq_true rfl) fun p e s m below meth c ls B tab hM hO ho hS hl => ?_
    have ⟨⟨hx, hb, hr, hml, hown, hT, hlocks, hK⟩, hST, hNC, hA⟩ := B
    have hl : lv_has ls 6 [(0, .ref (ad 0 0)), (1, .int x1), (2, .int x2), (3, .int x3), (4, .ref o)] := hl
    refine lv_aload hx hb dL_enters_0 (lv_at hl 4 rfl) ?_
    refine lv_iconst (v := 0) hx hb dL_enters_2 (by decide) ?_
    refine lv_aload_n hx hb dL_enters_3 rfl (lv_at hl 0 rfl) ?_
    refine lv_iload_n hx hb dL_enters_4 rfl (lv_at hl 1 rfl) ?_
    refine lv_iload_n hx hb dL_enters_5 rfl (lv_at hl 2 rfl) ?_
    refine lv_iload_n hx hb dL_enters_6 rfl (lv_at hl 3 rfl) ?_
    refine xl_ret (xl_run B hM hS [.int x1, .int x2, .int x3] (n := 3) (xe_met (c_X5_enters hll h)) wm_RL_48 wi_yX5_enters ws_yX5_enters wn_RX5 wc_yX5_enters rfl rfl (by decide +kernel) ⟨Nat.le_of_ble_eq_true rfl, Nat.le_of_ble_eq_true rfl⟩ ⟨Nat.le_of_ble_eq_true rfl, Nat.le_of_ble_eq_true rfl⟩ rfl hl.1 (Nat.le_of_ble_eq_true rfl) rfl dL_enters_7) hS (fun ad2 H locs hae hM hS hz hk9 => ?_)
    have hO := hO.kept (hk9 _ hO.lt ho)
    refine lv_i2l hx hb dL_enters_10 rfl ?_
    refine xl_last B hM hS ho hO dL_enters_11 (fun H locs hM hO hS => ?_)
    refine lv_goto (tgt := 27) hx hb dL_enters_12 (by decide) ?_
    refine lv_iconst (v := 0) hx hb dL_enters_27 (by decide) ?_
    exact xl_end B hae hM hO hS (Nat.le_of_ble_eq_true rfl) (Nat.le_of_ble_eq_true rfl) rfl dL_enters_28
set_option maxHeartbeats 4000000 in
set_option maxRecDepth 100000 in
theorem c_L_leaves {l : Launch} (hll : l.stackTraces = false) {G : GG} {A : Nat → Prop} {ad : AD} {st : XS} {x1 : Int32} {x2 : Int32} {x3 : Int32} {r : Nat ⊕ Int32} {st' : XS} {o : Nat} {f : Nat → Int64} (h : f_X5_leaves st x1 x2 x3 = some (r, st')) (hL : ∀ k, r = .inl k → k ∈ [3, 0, 1]) : Met l yL_leaves (Cond.codeWith yL_leaves cL_leaves 6 (some .int) [(0, 12, 15, 23), (0, 12, 19, 13), (0, 12, 23, 15)] :: TG) { frames := 10, cells := 4, slots := 24, locals := 191 } (PWr G A ad st o (.inl (G.2 3, 1, .inr (.inl f))) [.ref (ad 0 0), .int x1, .int x2, .int x3, .ref o]) (QWr G A ad (lwc [3, 0, 1] r) st' o (.inl (G.2 3, 1, .inr (.inl (louI f r))))) 4 24 (fun q => A q ∨ q = o) := by
  cases r with
  | inl k =>
    have hk := hL k rfl
    clear hL
    simp only [List.mem_cons, List.not_mem_nil, or_false] at hk
    rcases hk with rfl | rfl | rfl
    · refine xl_of (hh := [(0, 12, 15, 23), (0, 12, 19, 13), (0, 12, 23, 15)]) (by decide +kernel) rfl (Nat.le_of_ble_eq_true rfl) fun p e s m below meth c ls B tab hM hO ho hS hl => ?_
      have ⟨⟨hx, hb, hr, hml, hown, hT, hlocks, hK⟩, hST, hNC, hA⟩ := B
      have hl : lv_has ls 6 [(0, .ref (ad 0 0)), (1, .int x1), (2, .int x2), (3, .int x3), (4, .ref o)] := hl
      refine lv_aload hx hb dL_leaves_0 (lv_at hl 4 rfl) ?_
      refine lv_iconst (v := 0) hx hb dL_leaves_2 (by decide) ?_
      refine lv_aload_n hx hb dL_leaves_3 rfl (lv_at hl 0 rfl) ?_
      refine lv_iload_n hx hb dL_leaves_4 rfl (lv_at hl 1 rfl) ?_
      refine lv_iload_n hx hb dL_leaves_5 rfl (lv_at hl 2 rfl) ?_
      refine lv_iload_n hx hb dL_leaves_6 rfl (lv_at hl 3 rfl) ?_
      refine xl_thr (xl_run B hM hS [.int x1, .int x2, .int x3] (n := 3) (xe_met (c_X5_leaves hll h)) wm_RL_52 wi_yX5_leaves ws_yX5_leaves wn_RX5 wc_yX5_leaves rfl rfl (by decide +kernel) ⟨Nat.le_of_ble_eq_true rfl, Nat.le_of_ble_eq_true rfl⟩ ⟨Nat.le_of_ble_eq_true rfl, Nat.le_of_ble_eq_true rfl⟩ rfl hl.1 (Nat.le_of_ble_eq_true rfl) rfl dL_leaves_7) hS B [] (te (0, 12, 15, 23)) [te (0, 12, 19, 13), te (0, 12, 23, 15)] (tab.trans rfl) (fun z hz => by cases hz) (by decide) (by decide) (by decide) wk_RL_23 (fun ad2 q9 H locs hae hM hS hz hk9 => ?_)
      have hO := hO.kept (hk9 _ hO.lt ho)
      refine lv_astore (lv' := [(5, .ref q9), (0, .ref (ad 0 0)), (1, .int x1), (2, .int x2), (3, .int x3), (4, .ref o)]) hx hb dL_leaves_15 hl (by decide) rfl (fun ls hl => ?_)
      refine lv_iconst (v := 1) hx hb dL_leaves_17 (by decide) ?_
      exact xl_end B hae hM hO (xl_wide hS) (Nat.le_of_ble_eq_true rfl) (Nat.le_of_ble_eq_true rfl) rfl dL_leaves_18
    · refine xl_of (hh := [(0, 12, 15, 23), (0, 12, 19, 13), (0, 12, 23, 15)]) (by decide +kernel) rfl (Nat.le_of_ble_eq_true rfl) fun p e s m below meth c ls B tab hM hO ho hS hl => ?_
      have ⟨⟨hx, hb, hr, hml, hown, hT, hlocks, hK⟩, hST, hNC, hA⟩ := B
      have hl : lv_has ls 6 [(0, .ref (ad 0 0)), (1, .int x1), (2, .int x2), (3, .int x3), (4, .ref o)] := hl
      refine lv_aload hx hb dL_leaves_0 (lv_at hl 4 rfl) ?_
      refine lv_iconst (v := 0) hx hb dL_leaves_2 (by decide) ?_
      refine lv_aload_n hx hb dL_leaves_3 rfl (lv_at hl 0 rfl) ?_
      refine lv_iload_n hx hb dL_leaves_4 rfl (lv_at hl 1 rfl) ?_
      refine lv_iload_n hx hb dL_leaves_5 rfl (lv_at hl 2 rfl) ?_
      refine lv_iload_n hx hb dL_leaves_6 rfl (lv_at hl 3 rfl) ?_
      refine xl_thr (xl_run B hM hS [.int x1, .int x2, .int x3] (n := 3) (xe_met (c_X5_leaves hll h)) wm_RL_52 wi_yX5_leaves ws_yX5_leaves wn_RX5 wc_yX5_leaves rfl rfl (by decide +kernel) ⟨Nat.le_of_ble_eq_true rfl, Nat.le_of_ble_eq_true rfl⟩ ⟨Nat.le_of_ble_eq_true rfl, Nat.le_of_ble_eq_true rfl⟩ rfl hl.1 (Nat.le_of_ble_eq_true rfl) rfl dL_leaves_7) hS B [te (0, 12, 15, 23)] (te (0, 12, 19, 13)) [te (0, 12, 23, 15)] (tab.trans rfl) (List.forall_mem_cons.mpr ⟨⟨by decide, 3, by decide, by decide, wk_RL_23⟩, fun z hz => by cases hz⟩) (by decide) (by decide) (by decide) wk_RL_13 (fun ad2 q9 H locs hae hM hS hz hk9 => ?_)
      have hO := hO.kept (hk9 _ hO.lt ho)
      refine lv_astore (lv' := [(5, .ref q9), (0, .ref (ad 0 0)), (1, .int x1), (2, .int x2), (3, .int x3), (4, .ref o)]) hx hb dL_leaves_19 hl (by decide) rfl (fun ls hl => ?_)
      refine lv_iconst (v := 2) hx hb dL_leaves_21 (by decide) ?_
      exact xl_end B hae hM hO (xl_wide hS) (Nat.le_of_ble_eq_true rfl) (Nat.le_of_ble_eq_true rfl) rfl dL_leaves_22
    · refine xl_of (hh := [(0, 12, 15, 23), (0, 12, 19, 13), (0, 12, 23, 15)]) (by decide +kernel) rfl (Nat.le_of_ble_eq_true rfl) fun p e s m below meth c ls B tab hM hO ho hS hl => ?_
      have ⟨⟨hx, hb, hr, hml, hown, hT, hlocks, hK⟩, hST, hNC, hA⟩ := B
      have hl : lv_has ls 6 [(0, .ref (ad 0 0)), (1, .int x1), (2, .int x2), (3, .int x3), (4, .ref o)] := hl
      refine lv_aload hx hb dL_leaves_0 (lv_at hl 4 rfl) ?_
      refine lv_iconst (v := 0) hx hb dL_leaves_2 (by decide) ?_
      refine lv_aload_n hx hb dL_leaves_3 rfl (lv_at hl 0 rfl) ?_
      refine lv_iload_n hx hb dL_leaves_4 rfl (lv_at hl 1 rfl) ?_
      refine lv_iload_n hx hb dL_leaves_5 rfl (lv_at hl 2 rfl) ?_
      refine lv_iload_n hx hb dL_leaves_6 rfl (lv_at hl 3 rfl) ?_
      refine xl_thr (xl_run B hM hS [.int x1, .int x2, .int x3] (n := 3) (xe_met (c_X5_leaves hll h)) wm_RL_52 wi_yX5_leaves ws_yX5_leaves wn_RX5 wc_yX5_leaves rfl rfl (by decide +kernel) ⟨Nat.le_of_ble_eq_true rfl, Nat.le_of_ble_eq_true rfl⟩ ⟨Nat.le_of_ble_eq_true rfl, Nat.le_of_ble_eq_true rfl⟩ rfl hl.1 (Nat.le_of_ble_eq_true rfl) rfl dL_leaves_7) hS B [te (0, 12, 15, 23), te (0, 12, 19, 13)] (te (0, 12, 23, 15)) [] (tab.trans rfl) (List.forall_mem_cons.mpr ⟨⟨by decide, 3, by decide, by decide, wk_RL_23⟩, List.forall_mem_cons.mpr ⟨⟨by decide, 0, by decide, by decide, wk_RL_13⟩, fun z hz => by cases hz⟩⟩) (by decide) (by decide) (by decide) wk_RL_15 (fun ad2 q9 H locs hae hM hS hz hk9 => ?_)
      have hO := hO.kept (hk9 _ hO.lt ho)
      refine lv_astore (lv' := [(5, .ref q9), (0, .ref (ad 0 0)), (1, .int x1), (2, .int x2), (3, .int x3), (4, .ref o)]) hx hb dL_leaves_23 hl (by decide) rfl (fun ls hl => ?_)
      refine lv_iconst (v := 3) hx hb dL_leaves_25 (by decide) ?_
      exact xl_end B hae hM hO (xl_wide hS) (Nat.le_of_ble_eq_true rfl) (Nat.le_of_ble_eq_true rfl) rfl dL_leaves_26
  | inr x =>
    clear hL
    refine xl_of (hh := [(0, 12, 15, 23), (0, 12, 19, 13), (0, 12, 23, 15)]) (by decide +kernel) rfl (Nat.le_of_ble_eq_true rfl) fun p e s m below meth c ls B tab hM hO ho hS hl => ?_
    have ⟨⟨hx, hb, hr, hml, hown, hT, hlocks, hK⟩, hST, hNC, hA⟩ := B
    have hl : lv_has ls 6 [(0, .ref (ad 0 0)), (1, .int x1), (2, .int x2), (3, .int x3), (4, .ref o)] := hl
    refine lv_aload hx hb dL_leaves_0 (lv_at hl 4 rfl) ?_
    refine lv_iconst (v := 0) hx hb dL_leaves_2 (by decide) ?_
    refine lv_aload_n hx hb dL_leaves_3 rfl (lv_at hl 0 rfl) ?_
    refine lv_iload_n hx hb dL_leaves_4 rfl (lv_at hl 1 rfl) ?_
    refine lv_iload_n hx hb dL_leaves_5 rfl (lv_at hl 2 rfl) ?_
    refine lv_iload_n hx hb dL_leaves_6 rfl (lv_at hl 3 rfl) ?_
    refine xl_ret (xl_run B hM hS [.int x1, .int x2, .int x3] (n := 3) (xe_met (c_X5_leaves hll h)) wm_RL_52 wi_yX5_leaves ws_yX5_leaves wn_RX5 wc_yX5_leaves rfl rfl (by decide +kernel) ⟨Nat.le_of_ble_eq_true rfl, Nat.le_of_ble_eq_true rfl⟩ ⟨Nat.le_of_ble_eq_true rfl, Nat.le_of_ble_eq_true rfl⟩ rfl hl.1 (Nat.le_of_ble_eq_true rfl) rfl dL_leaves_7) hS (fun ad2 H locs hae hM hS hz hk9 => ?_)
    have hO := hO.kept (hk9 _ hO.lt ho)
    refine lv_i2l hx hb dL_leaves_10 rfl ?_
    refine xl_last B hM hS ho hO dL_leaves_11 (fun H locs hM hO hS => ?_)
    refine lv_goto (tgt := 27) hx hb dL_leaves_12 (by decide) ?_
    refine lv_iconst (v := 0) hx hb dL_leaves_27 (by decide) ?_
    exact xl_end B hae hM hO hS (Nat.le_of_ble_eq_true rfl) (Nat.le_of_ble_eq_true rfl) rfl dL_leaves_28
set_option maxHeartbeats 4000000 in
set_option maxRecDepth 100000 in
theorem c_L_version {l : Launch} (hll : l.stackTraces = false) {G : GG} {A : Nat → Prop} {ad : AD} {st : XS} {x1 : Int32} {r : Nat ⊕ Int32} {st' : XS} {o : Nat} {f : Nat → Int64} (h : f_X5_version st x1 = some (r, st')) (hL : ∀ k, r = .inl k → k ∈ [3]) : Met l yL_version (Cond.codeWith yL_version cL_version 4 (some .int) [(0, 9, 12, 23)] :: TG) { frames := 8, cells := 1, slots := 6, locals := 142 } (PWr G A ad st o (.inl (G.2 3, 1, .inr (.inl f))) [.ref (ad 0 0), .int x1, .ref o]) (QWr G A ad (lwc [3] r) st' o (.inl (G.2 3, 1, .inr (.inl (louI f r))))) 1 6 (fun q => A q ∨ q = o) := by
  cases r with
  | inl k =>
    have hk := hL k rfl
    clear hL
    simp only [List.mem_cons, List.not_mem_nil, or_false] at hk
    rcases hk with rfl
    · refine xl_of (hh := [(0, 9, 12, 23)]) (by decide +kernel) rfl (Nat.le_of_ble_eq_true rfl) fun p e s m below meth c ls B tab hM hO ho hS hl => ?_
      have ⟨⟨hx, hb, hr, hml, hown, hT, hlocks, hK⟩, hST, hNC, hA⟩ := B
      have hl : lv_has ls 4 [(0, .ref (ad 0 0)), (1, .int x1), (2, .ref o)] := hl
      refine lv_aload_n hx hb dL_version_0 rfl (lv_at hl 2 rfl) ?_
      refine lv_iconst (v := 0) hx hb dL_version_1 (by decide) ?_
      refine lv_aload_n hx hb dL_version_2 rfl (lv_at hl 0 rfl) ?_
      refine lv_iload_n hx hb dL_version_3 rfl (lv_at hl 1 rfl) ?_
      refine xl_thr (xl_run B hM hS [.int x1] (n := 1) (xe_met (c_X5_version hll h)) wm_RL_55 wi_yX5_version ws_yX5_version wn_RX5 wc_yX5_version rfl rfl (by decide +kernel) ⟨Nat.le_of_ble_eq_true rfl, Nat.le_of_ble_eq_true rfl⟩ ⟨Nat.le_of_ble_eq_true rfl, Nat.le_of_ble_eq_true rfl⟩ rfl hl.1 (Nat.le_of_ble_eq_true rfl) rfl dL_version_4) hS B [] (te (0, 9, 12, 23)) [] (tab.trans rfl) (fun z hz => by cases hz) (by decide) (by decide) (by decide) wk_RL_23 (fun ad2 q9 H locs hae hM hS hz hk9 => ?_)
      have hO := hO.kept (hk9 _ hO.lt ho)
      refine lv_astore_n (lv' := [(3, .ref q9), (0, .ref (ad 0 0)), (1, .int x1), (2, .ref o)]) hx hb dL_version_12 rfl hl (by decide) rfl (fun ls hl => ?_)
      refine lv_iconst (v := 1) hx hb dL_version_13 (by decide) ?_
      exact xl_end B hae hM hO (xl_wide hS) (Nat.le_of_ble_eq_true rfl) (Nat.le_of_ble_eq_true rfl) rfl dL_version_14
  | inr x =>
    clear hL
    refine xl_of (hh := [(0, 9, 12, 23)]) (by decide +kernel) rfl (Nat.le_of_ble_eq_true rfl) fun p e s m below meth c ls B tab hM hO ho hS hl => ?_
    have ⟨⟨hx, hb, hr, hml, hown, hT, hlocks, hK⟩, hST, hNC, hA⟩ := B
    have hl : lv_has ls 4 [(0, .ref (ad 0 0)), (1, .int x1), (2, .ref o)] := hl
    refine lv_aload_n hx hb dL_version_0 rfl (lv_at hl 2 rfl) ?_
    refine lv_iconst (v := 0) hx hb dL_version_1 (by decide) ?_
    refine lv_aload_n hx hb dL_version_2 rfl (lv_at hl 0 rfl) ?_
    refine lv_iload_n hx hb dL_version_3 rfl (lv_at hl 1 rfl) ?_
    refine xl_ret (xl_run B hM hS [.int x1] (n := 1) (xe_met (c_X5_version hll h)) wm_RL_55 wi_yX5_version ws_yX5_version wn_RX5 wc_yX5_version rfl rfl (by decide +kernel) ⟨Nat.le_of_ble_eq_true rfl, Nat.le_of_ble_eq_true rfl⟩ ⟨Nat.le_of_ble_eq_true rfl, Nat.le_of_ble_eq_true rfl⟩ rfl hl.1 (Nat.le_of_ble_eq_true rfl) rfl dL_version_4) hS (fun ad2 H locs hae hM hS hz hk9 => ?_)
    have hO := hO.kept (hk9 _ hO.lt ho)
    refine lv_i2l hx hb dL_version_7 rfl ?_
    refine xl_last B hM hS ho hO dL_version_8 (fun H locs hM hO hS => ?_)
    refine lv_goto (tgt := 15) hx hb dL_version_9 (by decide) ?_
    refine lv_iconst (v := 0) hx hb dL_version_15 (by decide) ?_
    exact xl_end B hae hM hO hS (Nat.le_of_ble_eq_true rfl) (Nat.le_of_ble_eq_true rfl) rfl dL_version_16
set_option maxHeartbeats 4000000 in
set_option maxRecDepth 100000 in
theorem c_L_time {l : Launch} (hll : l.stackTraces = false) {G : GG} {A : Nat → Prop} {ad : AD} {st : XS} {x1 : Int32} {r : Nat ⊕ Int32} {st' : XS} {o : Nat} {f : Nat → Int64} (h : f_X5_time st x1 = some (r, st')) (hL : ∀ k, r = .inl k → k ∈ [3, 4]) : Met l yL_time (Cond.codeWith yL_time cL_time 4 (some .int) [(0, 9, 12, 23), (0, 9, 15, 32)] :: TG) { frames := 8, cells := 2, slots := 12, locals := 143 } (PWr G A ad st o (.inl (G.2 3, 1, .inr (.inl f))) [.ref (ad 0 0), .int x1, .ref o]) (QWr G A ad (lwc [3, 4] r) st' o (.inl (G.2 3, 1, .inr (.inl (louI f r))))) 2 12 (fun q => A q ∨ q = o) := by
  cases r with
  | inl k =>
    have hk := hL k rfl
    clear hL
    simp only [List.mem_cons, List.not_mem_nil, or_false] at hk
    rcases hk with rfl | rfl
    · refine xl_of (hh := [(0, 9, 12, 23), (0, 9, 15, 32)]) (by decide +kernel) rfl (Nat.le_of_ble_eq_true rfl) fun p e s m below meth c ls B tab hM hO ho hS hl => ?_
      have ⟨⟨hx, hb, hr, hml, hown, hT, hlocks, hK⟩, hST, hNC, hA⟩ := B
      have hl : lv_has ls 4 [(0, .ref (ad 0 0)), (1, .int x1), (2, .ref o)] := hl
      refine lv_aload_n hx hb dL_time_0 rfl (lv_at hl 2 rfl) ?_
      refine lv_iconst (v := 0) hx hb dL_time_1 (by decide) ?_
      refine lv_aload_n hx hb dL_time_2 rfl (lv_at hl 0 rfl) ?_
      refine lv_iload_n hx hb dL_time_3 rfl (lv_at hl 1 rfl) ?_
      refine xl_thr (xl_run B hM hS [.int x1] (n := 1) (xe_met (c_X5_time hll h)) wm_RL_58 wi_yX5_time ws_yX5_time wn_RX5 wc_yX5_time rfl rfl (by decide +kernel) ⟨Nat.le_of_ble_eq_true rfl, Nat.le_of_ble_eq_true rfl⟩ ⟨Nat.le_of_ble_eq_true rfl, Nat.le_of_ble_eq_true rfl⟩ rfl hl.1 (Nat.le_of_ble_eq_true rfl) rfl dL_time_4) hS B [] (te (0, 9, 12, 23)) [te (0, 9, 15, 32)] (tab.trans rfl) (fun z hz => by cases hz) (by decide) (by decide) (by decide) wk_RL_23 (fun ad2 q9 H locs hae hM hS hz hk9 => ?_)
      have hO := hO.kept (hk9 _ hO.lt ho)
      refine lv_astore_n (lv' := [(3, .ref q9), (0, .ref (ad 0 0)), (1, .int x1), (2, .ref o)]) hx hb dL_time_12 rfl hl (by decide) rfl (fun ls hl => ?_)
      refine lv_iconst (v := 1) hx hb dL_time_13 (by decide) ?_
      exact xl_end B hae hM hO (xl_wide hS) (Nat.le_of_ble_eq_true rfl) (Nat.le_of_ble_eq_true rfl) rfl dL_time_14
    · refine xl_of (hh := [(0, 9, 12, 23), (0, 9, 15, 32)]) (by decide +kernel) rfl (Nat.le_of_ble_eq_true rfl) fun p e s m below meth c ls B tab hM hO ho hS hl => ?_
      have ⟨⟨hx, hb, hr, hml, hown, hT, hlocks, hK⟩, hST, hNC, hA⟩ := B
      have hl : lv_has ls 4 [(0, .ref (ad 0 0)), (1, .int x1), (2, .ref o)] := hl
      refine lv_aload_n hx hb dL_time_0 rfl (lv_at hl 2 rfl) ?_
      refine lv_iconst (v := 0) hx hb dL_time_1 (by decide) ?_
      refine lv_aload_n hx hb dL_time_2 rfl (lv_at hl 0 rfl) ?_
      refine lv_iload_n hx hb dL_time_3 rfl (lv_at hl 1 rfl) ?_
      refine xl_thr (xl_run B hM hS [.int x1] (n := 1) (xe_met (c_X5_time hll h)) wm_RL_58 wi_yX5_time ws_yX5_time wn_RX5 wc_yX5_time rfl rfl (by decide +kernel) ⟨Nat.le_of_ble_eq_true rfl, Nat.le_of_ble_eq_true rfl⟩ ⟨Nat.le_of_ble_eq_true rfl, Nat.le_of_ble_eq_true rfl⟩ rfl hl.1 (Nat.le_of_ble_eq_true rfl) rfl dL_time_4) hS B [te (0, 9, 12, 23)] (te (0, 9, 15, 32)) [] (tab.trans rfl) (List.forall_mem_cons.mpr ⟨⟨by decide, 3, by decide, by decide, wk_RL_23⟩, fun z hz => by cases hz⟩) (by decide) (by decide) (by decide) wk_RL_32 (fun ad2 q9 H locs hae hM hS hz hk9 => ?_)
      have hO := hO.kept (hk9 _ hO.lt ho)
      refine lv_astore_n (lv' := [(3, .ref q9), (0, .ref (ad 0 0)), (1, .int x1), (2, .ref o)]) hx hb dL_time_15 rfl hl (by decide) rfl (fun ls hl => ?_)
      refine lv_iconst (v := 2) hx hb dL_time_16 (by decide) ?_
      exact xl_end B hae hM hO (xl_wide hS) (Nat.le_of_ble_eq_true rfl) (Nat.le_of_ble_eq_true rfl) rfl dL_time_17
  | inr x =>
    clear hL
    refine xl_of (hh := [(0, 9, 12, 23), (0, 9, 15, 32)]) (by decide +kernel) rfl (Nat.le_of_ble_eq_true rfl) fun p e s m below meth c ls B tab hM hO ho hS hl => ?_
    have ⟨⟨hx, hb, hr, hml, hown, hT, hlocks, hK⟩, hST, hNC, hA⟩ := B
    have hl : lv_has ls 4 [(0, .ref (ad 0 0)), (1, .int x1), (2, .ref o)] := hl
    refine lv_aload_n hx hb dL_time_0 rfl (lv_at hl 2 rfl) ?_
    refine lv_iconst (v := 0) hx hb dL_time_1 (by decide) ?_
    refine lv_aload_n hx hb dL_time_2 rfl (lv_at hl 0 rfl) ?_
    refine lv_iload_n hx hb dL_time_3 rfl (lv_at hl 1 rfl) ?_
    refine xl_ret (xl_run B hM hS [.int x1] (n := 1) (xe_met (c_X5_time hll h)) wm_RL_58 wi_yX5_time ws_yX5_time wn_RX5 wc_yX5_time rfl rfl (by decide +kernel) ⟨Nat.le_of_ble_eq_true rfl, Nat.le_of_ble_eq_true rfl⟩ ⟨Nat.le_of_ble_eq_true rfl, Nat.le_of_ble_eq_true rfl⟩ rfl hl.1 (Nat.le_of_ble_eq_true rfl) rfl dL_time_4) hS (fun ad2 H locs hae hM hS hz hk9 => ?_)
    have hO := hO.kept (hk9 _ hO.lt ho)
    refine lv_i2l hx hb dL_time_7 rfl ?_
    refine xl_last B hM hS ho hO dL_time_8 (fun H locs hM hO hS => ?_)
    refine lv_goto (tgt := 18) hx hb dL_time_9 (by decide) ?_
    refine lv_iconst (v := 0) hx hb dL_time_18 (by decide) ?_
    exact xl_end B hae hM hO hS (Nat.le_of_ble_eq_true rfl) (Nat.le_of_ble_eq_true rfl) rfl dL_time_19
set_option maxHeartbeats 4000000 in
set_option maxRecDepth 100000 in
theorem c_L_seen {l : Launch} (hll : l.stackTraces = false) {G : GG} {A : Nat → Prop} {ad : AD} {st : XS} {x1 : Int32} {r : Nat ⊕ Int32} {st' : XS} {o : Nat} {f : Nat → Int64} (h : f_X5_seen st x1 = some (r, st')) (hL : ∀ k, r = .inl k → k ∈ [4]) : Met l yL_seen (Cond.codeWith yL_seen cL_seen 4 (some .int) [(0, 9, 12, 32)] :: TG) { frames := 7, cells := 1, slots := 6, locals := 122 } (PWr G A ad st o (.inl (G.2 3, 1, .inr (.inl f))) [.ref (ad 0 0), .int x1, .ref o]) (QWr G A ad (lwc [4] r) st' o (.inl (G.2 3, 1, .inr (.inl (louI f r))))) 1 6 (fun q => A q ∨ q = o) := by
  cases r with
  | inl k =>
    have hk := hL k rfl
    clear hL
    simp only [List.mem_cons, List.not_mem_nil, or_false] at hk
    rcases hk with rfl
    · refine xl_of (hh := [(0, 9, 12, 32)]) (by decide +kernel) rfl (Nat.le_of_ble_eq_true rfl) fun p e s m below meth c ls B tab hM hO ho hS hl => ?_
      have ⟨⟨hx, hb, hr, hml, hown, hT, hlocks, hK⟩, hST, hNC, hA⟩ := B
      have hl : lv_has ls 4 [(0, .ref (ad 0 0)), (1, .int x1), (2, .ref o)] := hl
      refine lv_aload_n hx hb dL_seen_0 rfl (lv_at hl 2 rfl) ?_
      refine lv_iconst (v := 0) hx hb dL_seen_1 (by decide) ?_
      refine lv_aload_n hx hb dL_seen_2 rfl (lv_at hl 0 rfl) ?_
      refine lv_iload_n hx hb dL_seen_3 rfl (lv_at hl 1 rfl) ?_
      refine xl_thr (xl_run B hM hS [.int x1] (n := 1) (xe_met (c_X5_seen hll h)) wm_RL_61 wi_yX5_seen ws_yX5_seen wn_RX5 wc_yX5_seen rfl rfl (by decide +kernel) ⟨Nat.le_of_ble_eq_true rfl, Nat.le_of_ble_eq_true rfl⟩ ⟨Nat.le_of_ble_eq_true rfl, Nat.le_of_ble_eq_true rfl⟩ rfl hl.1 (Nat.le_of_ble_eq_true rfl) rfl dL_seen_4) hS B [] (te (0, 9, 12, 32)) [] (tab.trans rfl) (fun z hz => by cases hz) (by decide) (by decide) (by decide) wk_RL_32 (fun ad2 q9 H locs hae hM hS hz hk9 => ?_)
      have hO := hO.kept (hk9 _ hO.lt ho)
      refine lv_astore_n (lv' := [(3, .ref q9), (0, .ref (ad 0 0)), (1, .int x1), (2, .ref o)]) hx hb dL_seen_12 rfl hl (by decide) rfl (fun ls hl => ?_)
      refine lv_iconst (v := 1) hx hb dL_seen_13 (by decide) ?_
      exact xl_end B hae hM hO (xl_wide hS) (Nat.le_of_ble_eq_true rfl) (Nat.le_of_ble_eq_true rfl) rfl dL_seen_14
  | inr x =>
    clear hL
    refine xl_of (hh := [(0, 9, 12, 32)]) (by decide +kernel) rfl (Nat.le_of_ble_eq_true rfl) fun p e s m below meth c ls B tab hM hO ho hS hl => ?_
    have ⟨⟨hx, hb, hr, hml, hown, hT, hlocks, hK⟩, hST, hNC, hA⟩ := B
    have hl : lv_has ls 4 [(0, .ref (ad 0 0)), (1, .int x1), (2, .ref o)] := hl
    refine lv_aload_n hx hb dL_seen_0 rfl (lv_at hl 2 rfl) ?_
    refine lv_iconst (v := 0) hx hb dL_seen_1 (by decide) ?_
    refine lv_aload_n hx hb dL_seen_2 rfl (lv_at hl 0 rfl) ?_
    refine lv_iload_n hx hb dL_seen_3 rfl (lv_at hl 1 rfl) ?_
    refine xl_ret (xl_run B hM hS [.int x1] (n := 1) (xe_met (c_X5_seen hll h)) wm_RL_61 wi_yX5_seen ws_yX5_seen wn_RX5 wc_yX5_seen rfl rfl (by decide +kernel) ⟨Nat.le_of_ble_eq_true rfl, Nat.le_of_ble_eq_true rfl⟩ ⟨Nat.le_of_ble_eq_true rfl, Nat.le_of_ble_eq_true rfl⟩ rfl hl.1 (Nat.le_of_ble_eq_true rfl) rfl dL_seen_4) hS (fun ad2 H locs hae hM hS hz hk9 => ?_)
    have hO := hO.kept (hk9 _ hO.lt ho)
    refine lv_i2l hx hb dL_seen_7 rfl ?_
    refine xl_last B hM hS ho hO dL_seen_8 (fun H locs hM hO hS => ?_)
    refine lv_goto (tgt := 15) hx hb dL_seen_9 (by decide) ?_
    refine lv_iconst (v := 0) hx hb dL_seen_15 (by decide) ?_
    exact xl_end B hae hM hO hS (Nat.le_of_ble_eq_true rfl) (Nat.le_of_ble_eq_true rfl) rfl dL_seen_16
set_option maxHeartbeats 4000000 in
set_option maxRecDepth 100000 in
theorem c_L_ended {l : Launch} (hll : l.stackTraces = false) {G : GG} {A : Nat → Prop} {ad : AD} {st : XS} {x1 : Int32} {r : Nat ⊕ Int32} {st' : XS} {o : Nat} {f : Nat → Int64} (h : f_X5_ended st x1 = some (r, st')) (hL : ∀ k, r = .inl k → k ∈ [0]) : Met l yL_ended (Cond.codeWith yL_ended cL_ended 4 (some .int) [(0, 9, 12, 13)] :: TG) { frames := 7, cells := 1, slots := 6, locals := 124 } (PWr G A ad st o (.inl (G.2 3, 1, .inr (.inl f))) [.ref (ad 0 0), .int x1, .ref o]) (QWr G A ad (lwc [0] r) st' o (.inl (G.2 3, 1, .inr (.inl (louI f r))))) 1 6 (fun q => A q ∨ q = o) := by
  cases r with
  | inl k =>
    have hk := hL k rfl
    clear hL
    simp only [List.mem_cons, List.not_mem_nil, or_false] at hk
    rcases hk with rfl
    · refine xl_of (hh := [(0, 9, 12, 13)]) (by decide +kernel) rfl (Nat.le_of_ble_eq_true rfl) fun p e s m below meth c ls B tab hM hO ho hS hl => ?_
      have ⟨⟨hx, hb, hr, hml, hown, hT, hlocks, hK⟩, hST, hNC, hA⟩ := B
      have hl : lv_has ls 4 [(0, .ref (ad 0 0)), (1, .int x1), (2, .ref o)] := hl
      refine lv_aload_n hx hb dL_ended_0 rfl (lv_at hl 2 rfl) ?_
      refine lv_iconst (v := 0) hx hb dL_ended_1 (by decide) ?_
      refine lv_aload_n hx hb dL_ended_2 rfl (lv_at hl 0 rfl) ?_
      refine lv_iload_n hx hb dL_ended_3 rfl (lv_at hl 1 rfl) ?_
      refine xl_thr (xl_run B hM hS [.int x1] (n := 1) (xe_met (c_X5_ended hll h)) wm_RL_64 wi_yX5_ended ws_yX5_ended wn_RX5 wc_yX5_ended rfl rfl (by decide +kernel) ⟨Nat.le_of_ble_eq_true rfl, Nat.le_of_ble_eq_true rfl⟩ ⟨Nat.le_of_ble_eq_true rfl, Nat.le_of_ble_eq_true rfl⟩ rfl hl.1 (Nat.le_of_ble_eq_true rfl) rfl dL_ended_4) hS B [] (te (0, 9, 12, 13)) [] (tab.trans rfl) (fun z hz => by cases hz) (by decide) (by decide) (by decide) wk_RL_13 (fun ad2 q9 H locs hae hM hS hz hk9 => ?_)
      have hO := hO.kept (hk9 _ hO.lt ho)
      refine lv_astore_n (lv' := [(3, .ref q9), (0, .ref (ad 0 0)), (1, .int x1), (2, .ref o)]) hx hb dL_ended_12 rfl hl (by decide) rfl (fun ls hl => ?_)
      refine lv_iconst (v := 1) hx hb dL_ended_13 (by decide) ?_
      exact xl_end B hae hM hO (xl_wide hS) (Nat.le_of_ble_eq_true rfl) (Nat.le_of_ble_eq_true rfl) rfl dL_ended_14
  | inr x =>
    clear hL
    refine xl_of (hh := [(0, 9, 12, 13)]) (by decide +kernel) rfl (Nat.le_of_ble_eq_true rfl) fun p e s m below meth c ls B tab hM hO ho hS hl => ?_
    have ⟨⟨hx, hb, hr, hml, hown, hT, hlocks, hK⟩, hST, hNC, hA⟩ := B
    have hl : lv_has ls 4 [(0, .ref (ad 0 0)), (1, .int x1), (2, .ref o)] := hl
    refine lv_aload_n hx hb dL_ended_0 rfl (lv_at hl 2 rfl) ?_
    refine lv_iconst (v := 0) hx hb dL_ended_1 (by decide) ?_
    refine lv_aload_n hx hb dL_ended_2 rfl (lv_at hl 0 rfl) ?_
    refine lv_iload_n hx hb dL_ended_3 rfl (lv_at hl 1 rfl) ?_
    refine xl_ret (xl_run B hM hS [.int x1] (n := 1) (xe_met (c_X5_ended hll h)) wm_RL_64 wi_yX5_ended ws_yX5_ended wn_RX5 wc_yX5_ended rfl rfl (by decide +kernel) ⟨Nat.le_of_ble_eq_true rfl, Nat.le_of_ble_eq_true rfl⟩ ⟨Nat.le_of_ble_eq_true rfl, Nat.le_of_ble_eq_true rfl⟩ rfl hl.1 (Nat.le_of_ble_eq_true rfl) rfl dL_ended_4) hS (fun ad2 H locs hae hM hS hz hk9 => ?_)
    have hO := hO.kept (hk9 _ hO.lt ho)
    refine lv_i2l hx hb dL_ended_7 rfl ?_
    refine xl_last B hM hS ho hO dL_ended_8 (fun H locs hM hO hS => ?_)
    refine lv_goto (tgt := 15) hx hb dL_ended_9 (by decide) ?_
    refine lv_iconst (v := 0) hx hb dL_ended_15 (by decide) ?_
    exact xl_end B hae hM hO hS (Nat.le_of_ble_eq_true rfl) (Nat.le_of_ble_eq_true rfl) rfl dL_ended_16
set_option maxHeartbeats 4000000 in
set_option maxRecDepth 100000 in
theorem c_L_number {l : Launch} (hll : l.stackTraces = false) {G : GG} {A : Nat → Prop} {ad : AD} {st : XS} {x1 : Int32} {r : Nat ⊕ Int32} {st' : XS} {o : Nat} {f : Nat → Int64} (h : f_X5_number st x1 = some (r, st')) (hL : ∀ k, r = .inl k → k ∈ [3, 4]) : Met l yL_number (Cond.codeWith yL_number cL_number 4 (some .int) [(0, 9, 12, 23), (0, 9, 15, 32)] :: TG) { frames := 8, cells := 2, slots := 12, locals := 151 } (PWr G A ad st o (.inl (G.2 3, 1, .inr (.inl f))) [.ref (ad 0 0), .int x1, .ref o]) (QWr G A ad (lwc [3, 4] r) st' o (.inl (G.2 3, 1, .inr (.inl (louI f r))))) 2 12 (fun q => A q ∨ q = o) := by
  cases r with
  | inl k =>
    have hk := hL k rfl
    clear hL
    simp only [List.mem_cons, List.not_mem_nil, or_false] at hk
    rcases hk with rfl | rfl
    · refine xl_of (hh := [(0, 9, 12, 23), (0, 9, 15, 32)]) (by decide +kernel) rfl (Nat.le_of_ble_eq_true rfl) fun p e s m below meth c ls B tab hM hO ho hS hl => ?_
      have ⟨⟨hx, hb, hr, hml, hown, hT, hlocks, hK⟩, hST, hNC, hA⟩ := B
      have hl : lv_has ls 4 [(0, .ref (ad 0 0)), (1, .int x1), (2, .ref o)] := hl
      refine lv_aload_n hx hb dL_number_0 rfl (lv_at hl 2 rfl) ?_
      refine lv_iconst (v := 0) hx hb dL_number_1 (by decide) ?_
      refine lv_aload_n hx hb dL_number_2 rfl (lv_at hl 0 rfl) ?_
      refine lv_iload_n hx hb dL_number_3 rfl (lv_at hl 1 rfl) ?_
      refine xl_thr (xl_run B hM hS [.int x1] (n := 1) (xe_met (c_X5_number hll h)) wm_RL_67 wi_yX5_number ws_yX5_number wn_RX5 wc_yX5_number rfl rfl (by decide +kernel) ⟨Nat.le_of_ble_eq_true rfl, Nat.le_of_ble_eq_true rfl⟩ ⟨Nat.le_of_ble_eq_true rfl, Nat.le_of_ble_eq_true rfl⟩ rfl hl.1 (Nat.le_of_ble_eq_true rfl) rfl dL_number_4) hS B [] (te (0, 9, 12, 23)) [te (0, 9, 15, 32)] (tab.trans rfl) (fun z hz => by cases hz) (by decide) (by decide) (by decide) wk_RL_23 (fun ad2 q9 H locs hae hM hS hz hk9 => ?_)
      have hO := hO.kept (hk9 _ hO.lt ho)
      refine lv_astore_n (lv' := [(3, .ref q9), (0, .ref (ad 0 0)), (1, .int x1), (2, .ref o)]) hx hb dL_number_12 rfl hl (by decide) rfl (fun ls hl => ?_)
      refine lv_iconst (v := 1) hx hb dL_number_13 (by decide) ?_
      exact xl_end B hae hM hO (xl_wide hS) (Nat.le_of_ble_eq_true rfl) (Nat.le_of_ble_eq_true rfl) rfl dL_number_14
    · refine xl_of (hh := [(0, 9, 12, 23), (0, 9, 15, 32)]) (by decide +kernel) rfl (Nat.le_of_ble_eq_true rfl) fun p e s m below meth c ls B tab hM hO ho hS hl => ?_
      have ⟨⟨hx, hb, hr, hml, hown, hT, hlocks, hK⟩, hST, hNC, hA⟩ := B
      have hl : lv_has ls 4 [(0, .ref (ad 0 0)), (1, .int x1), (2, .ref o)] := hl
      refine lv_aload_n hx hb dL_number_0 rfl (lv_at hl 2 rfl) ?_
      refine lv_iconst (v := 0) hx hb dL_number_1 (by decide) ?_
      refine lv_aload_n hx hb dL_number_2 rfl (lv_at hl 0 rfl) ?_
      refine lv_iload_n hx hb dL_number_3 rfl (lv_at hl 1 rfl) ?_
      refine xl_thr (xl_run B hM hS [.int x1] (n := 1) (xe_met (c_X5_number hll h)) wm_RL_67 wi_yX5_number ws_yX5_number wn_RX5 wc_yX5_number rfl rfl (by decide +kernel) ⟨Nat.le_of_ble_eq_true rfl, Nat.le_of_ble_eq_true rfl⟩ ⟨Nat.le_of_ble_eq_true rfl, Nat.le_of_ble_eq_true rfl⟩ rfl hl.1 (Nat.le_of_ble_eq_true rfl) rfl dL_number_4) hS B [te (0, 9, 12, 23)] (te (0, 9, 15, 32)) [] (tab.trans rfl) (List.forall_mem_cons.mpr ⟨⟨by decide, 3, by decide, by decide, wk_RL_23⟩, fun z hz => by cases hz⟩) (by decide) (by decide) (by decide) wk_RL_32 (fun ad2 q9 H locs hae hM hS hz hk9 => ?_)
      have hO := hO.kept (hk9 _ hO.lt ho)
      refine lv_astore_n (lv' := [(3, .ref q9), (0, .ref (ad 0 0)), (1, .int x1), (2, .ref o)]) hx hb dL_number_15 rfl hl (by decide) rfl (fun ls hl => ?_)
      refine lv_iconst (v := 2) hx hb dL_number_16 (by decide) ?_
      exact xl_end B hae hM hO (xl_wide hS) (Nat.le_of_ble_eq_true rfl) (Nat.le_of_ble_eq_true rfl) rfl dL_number_17
  | inr x =>
    clear hL
    refine xl_of (hh := [(0, 9, 12, 23), (0, 9, 15, 32)]) (by decide +kernel) rfl (Nat.le_of_ble_eq_true rfl) fun p e s m below meth c ls B tab hM hO ho hS hl => ?_
    have ⟨⟨hx, hb, hr, hml, hown, hT, hlocks, hK⟩, hST, hNC, hA⟩ := B
    have hl : lv_has ls 4 [(0, .ref (ad 0 0)), (1, .int x1), (2, .ref o)] := hl
    refine lv_aload_n hx hb dL_number_0 rfl (lv_at hl 2 rfl) ?_
    refine lv_iconst (v := 0) hx hb dL_number_1 (by decide) ?_
    refine lv_aload_n hx hb dL_number_2 rfl (lv_at hl 0 rfl) ?_
    refine lv_iload_n hx hb dL_number_3 rfl (lv_at hl 1 rfl) ?_
    refine xl_ret (xl_run B hM hS [.int x1] (n := 1) (xe_met (c_X5_number hll h)) wm_RL_67 wi_yX5_number ws_yX5_number wn_RX5 wc_yX5_number rfl rfl (by decide +kernel) ⟨Nat.le_of_ble_eq_true rfl, Nat.le_of_ble_eq_true rfl⟩ ⟨Nat.le_of_ble_eq_true rfl, Nat.le_of_ble_eq_true rfl⟩ rfl hl.1 (Nat.le_of_ble_eq_true rfl) rfl dL_number_4) hS (fun ad2 H locs hae hM hS hz hk9 => ?_)
    have hO := hO.kept (hk9 _ hO.lt ho)
    refine lv_i2l hx hb dL_number_7 rfl ?_
    refine xl_last B hM hS ho hO dL_number_8 (fun H locs hM hO hS => ?_)
    refine lv_goto (tgt := 18) hx hb dL_number_9 (by decide) ?_
    refine lv_iconst (v := 0) hx hb dL_number_18 (by decide) ?_
    exact xl_end B hae hM hO hS (Nat.le_of_ble_eq_true rfl) (Nat.le_of_ble_eq_true rfl) rfl dL_number_19
set_option maxHeartbeats 4000000 in
set_option maxRecDepth 100000 in
theorem c_L_letter {l : Launch} (hll : l.stackTraces = false) {G : GG} {A : Nat → Prop} {ad : AD} {st : XS} {x1 : Int32} {r : Nat ⊕ Int32} {st' : XS} {o : Nat} {f : Nat → Int64} (h : f_X5_letter st x1 = some (r, st')) (hL : ∀ k, r = .inl k → k ∈ [3, 4]) : Met l yL_letter (Cond.codeWith yL_letter cL_letter 4 (some .int) [(0, 9, 12, 23), (0, 9, 15, 32)] :: TG) { frames := 8, cells := 2, slots := 12, locals := 152 } (PWr G A ad st o (.inl (G.2 3, 1, .inr (.inl f))) [.ref (ad 0 0), .int x1, .ref o]) (QWr G A ad (lwc [3, 4] r) st' o (.inl (G.2 3, 1, .inr (.inl (louI f r))))) 2 12 (fun q => A q ∨ q = o) := by
  cases r with
  | inl k =>
    have hk := hL k rfl
    clear hL
    simp only [List.mem_cons, List.not_mem_nil, or_false] at hk
    rcases hk with rfl | rfl
    · refine xl_of (hh := [(0, 9, 12, 23), (0, 9, 15, 32)]) (by decide +kernel) rfl (Nat.le_of_ble_eq_true rfl) fun p e s m below meth c ls B tab hM hO ho hS hl => ?_
      have ⟨⟨hx, hb, hr, hml, hown, hT, hlocks, hK⟩, hST, hNC, hA⟩ := B
      have hl : lv_has ls 4 [(0, .ref (ad 0 0)), (1, .int x1), (2, .ref o)] := hl
      refine lv_aload_n hx hb dL_letter_0 rfl (lv_at hl 2 rfl) ?_
      refine lv_iconst (v := 0) hx hb dL_letter_1 (by decide) ?_
      refine lv_aload_n hx hb dL_letter_2 rfl (lv_at hl 0 rfl) ?_
      refine lv_iload_n hx hb dL_letter_3 rfl (lv_at hl 1 rfl) ?_
      refine xl_thr (xl_run B hM hS [.int x1] (n := 1) (xe_met (c_X5_letter hll h)) wm_RL_70 wi_yX5_letter ws_yX5_letter wn_RX5 wc_yX5_letter rfl rfl (by decide +kernel) ⟨Nat.le_of_ble_eq_true rfl, Nat.le_of_ble_eq_true rfl⟩ ⟨Nat.le_of_ble_eq_true rfl, Nat.le_of_ble_eq_true rfl⟩ rfl hl.1 (Nat.le_of_ble_eq_true rfl) rfl dL_letter_4) hS B [] (te (0, 9, 12, 23)) [te (0, 9, 15, 32)] (tab.trans rfl) (fun z hz => by cases hz) (by decide) (by decide) (by decide) wk_RL_23 (fun ad2 q9 H locs hae hM hS hz hk9 => ?_)
      have hO := hO.kept (hk9 _ hO.lt ho)
      refine lv_astore_n (lv' := [(3, .ref q9), (0, .ref (ad 0 0)), (1, .int x1), (2, .ref o)]) hx hb dL_letter_12 rfl hl (by decide) rfl (fun ls hl => ?_)
      refine lv_iconst (v := 1) hx hb dL_letter_13 (by decide) ?_
      exact xl_end B hae hM hO (xl_wide hS) (Nat.le_of_ble_eq_true rfl) (Nat.le_of_ble_eq_true rfl) rfl dL_letter_14
    · refine xl_of (hh := [(0, 9, 12, 23), (0, 9, 15, 32)]) (by decide +kernel) rfl (Nat.le_of_ble_eq_true rfl) fun p e s m below meth c ls B tab hM hO ho hS hl => ?_
      have ⟨⟨hx, hb, hr, hml, hown, hT, hlocks, hK⟩, hST, hNC, hA⟩ := B
      have hl : lv_has ls 4 [(0, .ref (ad 0 0)), (1, .int x1), (2, .ref o)] := hl
      refine lv_aload_n hx hb dL_letter_0 rfl (lv_at hl 2 rfl) ?_
      refine lv_iconst (v := 0) hx hb dL_letter_1 (by decide) ?_
      refine lv_aload_n hx hb dL_letter_2 rfl (lv_at hl 0 rfl) ?_
      refine lv_iload_n hx hb dL_letter_3 rfl (lv_at hl 1 rfl) ?_
      refine xl_thr (xl_run B hM hS [.int x1] (n := 1) (xe_met (c_X5_letter hll h)) wm_RL_70 wi_yX5_letter ws_yX5_letter wn_RX5 wc_yX5_letter rfl rfl (by decide +kernel) ⟨Nat.le_of_ble_eq_true rfl, Nat.le_of_ble_eq_true rfl⟩ ⟨Nat.le_of_ble_eq_true rfl, Nat.le_of_ble_eq_true rfl⟩ rfl hl.1 (Nat.le_of_ble_eq_true rfl) rfl dL_letter_4) hS B [te (0, 9, 12, 23)] (te (0, 9, 15, 32)) [] (tab.trans rfl) (List.forall_mem_cons.mpr ⟨⟨by decide, 3, by decide, by decide, wk_RL_23⟩, fun z hz => by cases hz⟩) (by decide) (by decide) (by decide) wk_RL_32 (fun ad2 q9 H locs hae hM hS hz hk9 => ?_)
      have hO := hO.kept (hk9 _ hO.lt ho)
      refine lv_astore_n (lv' := [(3, .ref q9), (0, .ref (ad 0 0)), (1, .int x1), (2, .ref o)]) hx hb dL_letter_15 rfl hl (by decide) rfl (fun ls hl => ?_)
      refine lv_iconst (v := 2) hx hb dL_letter_16 (by decide) ?_
      exact xl_end B hae hM hO (xl_wide hS) (Nat.le_of_ble_eq_true rfl) (Nat.le_of_ble_eq_true rfl) rfl dL_letter_17
  | inr x =>
    clear hL
    refine xl_of (hh := [(0, 9, 12, 23), (0, 9, 15, 32)]) (by decide +kernel) rfl (Nat.le_of_ble_eq_true rfl) fun p e s m below meth c ls B tab hM hO ho hS hl => ?_
    have ⟨⟨hx, hb, hr, hml, hown, hT, hlocks, hK⟩, hST, hNC, hA⟩ := B
    have hl : lv_has ls 4 [(0, .ref (ad 0 0)), (1, .int x1), (2, .ref o)] := hl
    refine lv_aload_n hx hb dL_letter_0 rfl (lv_at hl 2 rfl) ?_
    refine lv_iconst (v := 0) hx hb dL_letter_1 (by decide) ?_
    refine lv_aload_n hx hb dL_letter_2 rfl (lv_at hl 0 rfl) ?_
    refine lv_iload_n hx hb dL_letter_3 rfl (lv_at hl 1 rfl) ?_
    refine xl_ret (xl_run B hM hS [.int x1] (n := 1) (xe_met (c_X5_letter hll h)) wm_RL_70 wi_yX5_letter ws_yX5_letter wn_RX5 wc_yX5_letter rfl rfl (by decide +kernel) ⟨Nat.le_of_ble_eq_true rfl, Nat.le_of_ble_eq_true rfl⟩ ⟨Nat.le_of_ble_eq_true rfl, Nat.le_of_ble_eq_true rfl⟩ rfl hl.1 (Nat.le_of_ble_eq_true rfl) rfl dL_letter_4) hS (fun ad2 H locs hae hM hS hz hk9 => ?_)
    have hO := hO.kept (hk9 _ hO.lt ho)
    refine lv_i2l hx hb dL_letter_7 rfl ?_
    refine xl_last B hM hS ho hO dL_letter_8 (fun H locs hM hO hS => ?_)
    refine lv_goto (tgt := 18) hx hb dL_letter_9 (by decide) ?_
    refine lv_iconst (v := 0) hx hb dL_letter_18 (by decide) ?_
    exact xl_end B hae hM hO hS (Nat.le_of_ble_eq_true rfl) (Nat.le_of_ble_eq_true rfl) rfl dL_letter_19
set_option maxHeartbeats 4000000 in
set_option maxRecDepth 100000 in
theorem c_L_named {l : Launch} (hll : l.stackTraces = false) {G : GG} {A : Nat → Prop} {ad : AD} {st : XS} {x1 : Int32} {x2 : Int32} {r : Nat ⊕ Int32} {st' : XS} {o : Nat} {f : Nat → Int64} (h : f_X5_named st x1 x2 = some (r, st')) (hL : ∀ k, r = .inl k → k ∈ [4]) : Met l yL_named (Cond.codeWith yL_named cL_named 5 (some .int) [(0, 10, 13, 32)] :: TG) { frames := 7, cells := 1, slots := 6, locals := 123 } (PWr G A ad st o (.inl (G.2 3, 1, .inr (.inl f))) [.ref (ad 0 0), .int x1, .int x2, .ref o]) (QWr G A ad (lwc [4] r) st' o (.inl (G.2 3, 1, .inr (.inl (louI f r))))) 1 6 (fun q => A q ∨ q = o) := by
  cases r with
  | inl k =>
    have hk := hL k rfl
    clear hL
    simp only [List.mem_cons, List.not_mem_nil, or_false] at hk
    rcases hk with rfl
    · refine xl_of (hh := [(0, 10, 13, 32)]) (by decide +kernel) rfl (Nat.le_of_ble_eq_true rfl) fun p e s m below meth c ls B tab hM hO ho hS hl => ?_
      have ⟨⟨hx, hb, hr, hml, hown, hT, hlocks, hK⟩, hST, hNC, hA⟩ := B
      have hl : lv_has ls 5 [(0, .ref (ad 0 0)), (1, .int x1), (2, .int x2), (3, .ref o)] := hl
      refine lv_aload_n hx hb dL_named_0 rfl (lv_at hl 3 rfl) ?_
      refine lv_iconst (v := 0) hx hb dL_named_1 (by decide) ?_
      refine lv_aload_n hx hb dL_named_2 rfl (lv_at hl 0 rfl) ?_
      refine lv_iload_n hx hb dL_named_3 rfl (lv_at hl 1 rfl) ?_
      refine lv_iload_n hx hb dL_named_4 rfl (lv_at hl 2 rfl) ?_
      refine xl_thr (xl_run B hM hS [.int x1, .int x2] (n := 2) (xe_met (c_X5_named hll h)) wm_RL_74 wi_yX5_named ws_yX5_named wn_RX5 wc_yX5_named rfl rfl (by decide +kernel) ⟨Nat.le_of_ble_eq_true rfl, Nat.le_of_ble_eq_true rfl⟩ ⟨Nat.le_of_ble_eq_true rfl, Nat.le_of_ble_eq_true rfl⟩ rfl hl.1 (Nat.le_of_ble_eq_true rfl) rfl dL_named_5) hS B [] (te (0, 10, 13, 32)) [] (tab.trans rfl) (fun z hz => by cases hz) (by decide) (by decide) (by decide) wk_RL_32 (fun ad2 q9 H locs hae hM hS hz hk9 => ?_)
      have hO := hO.kept (hk9 _ hO.lt ho)
      refine lv_astore (lv' := [(4, .ref q9), (0, .ref (ad 0 0)), (1, .int x1), (2, .int x2), (3, .ref o)]) hx hb dL_named_13 hl (by decide) rfl (fun ls hl => ?_)
      refine lv_iconst (v := 1) hx hb dL_named_15 (by decide) ?_
      exact xl_end B hae hM hO (xl_wide hS) (Nat.le_of_ble_eq_true rfl) (Nat.le_of_ble_eq_true rfl) rfl dL_named_16
  | inr x =>
    clear hL
    refine xl_of (hh := [(0, 10, 13, 32)]) (by decide +kernel) rfl (Nat.le_of_ble_eq_true rfl) fun p e s m below meth c ls B tab hM hO ho hS hl => ?_
    have ⟨⟨hx, hb, hr, hml, hown, hT, hlocks, hK⟩, hST, hNC, hA⟩ := B
    have hl : lv_has ls 5 [(0, .ref (ad 0 0)), (1, .int x1), (2, .int x2), (3, .ref o)] := hl
    refine lv_aload_n hx hb dL_named_0 rfl (lv_at hl 3 rfl) ?_
    refine lv_iconst (v := 0) hx hb dL_named_1 (by decide) ?_
    refine lv_aload_n hx hb dL_named_2 rfl (lv_at hl 0 rfl) ?_
    refine lv_iload_n hx hb dL_named_3 rfl (lv_at hl 1 rfl) ?_
    refine lv_iload_n hx hb dL_named_4 rfl (lv_at hl 2 rfl) ?_
    refine xl_ret (xl_run B hM hS [.int x1, .int x2] (n := 2) (xe_met (c_X5_named hll h)) wm_RL_74 wi_yX5_named ws_yX5_named wn_RX5 wc_yX5_named rfl rfl (by decide +kernel) ⟨Nat.le_of_ble_eq_true rfl, Nat.le_of_ble_eq_true rfl⟩ ⟨Nat.le_of_ble_eq_true rfl, Nat.le_of_ble_eq_true rfl⟩ rfl hl.1 (Nat.le_of_ble_eq_true rfl) rfl dL_named_5) hS (fun ad2 H locs hae hM hS hz hk9 => ?_)
    have hO := hO.kept (hk9 _ hO.lt ho)
    refine lv_i2l hx hb dL_named_8 rfl ?_
    refine xl_last B hM hS ho hO dL_named_9 (fun H locs hM hO hS => ?_)
    refine lv_goto (tgt := 17) hx hb dL_named_10 (by decide) ?_
    refine lv_iconst (v := 0) hx hb dL_named_17 (by decide) ?_
    exact xl_end B hae hM hO hS (Nat.le_of_ble_eq_true rfl) (Nat.le_of_ble_eq_true rfl) rfl dL_named_18
set_option maxHeartbeats 4000000 in
set_option maxRecDepth 100000 in
theorem c_L_wrong {l : Launch} (hll : l.stackTraces = false) {G : GG} {A : Nat → Prop} {ad : AD} {st : XS} {x1 : Int32} {r : Nat ⊕ Int32} {st' : XS} {o : Nat} {f : Nat → Int64} (h : f_X5_wrong st x1 = some (r, st')) (hL : ∀ k, r = .inl k → k ∈ [4]) : Met l yL_wrong (Cond.codeWith yL_wrong cL_wrong 4 (some .int) [(0, 9, 12, 32)] :: TG) { frames := 8, cells := 1, slots := 6, locals := 142 } (PWr G A ad st o (.inl (G.2 3, 1, .inr (.inl f))) [.ref (ad 0 0), .int x1, .ref o]) (QWr G A ad (lwc [4] r) st' o (.inl (G.2 3, 1, .inr (.inl (louI f r))))) 1 6 (fun q => A q ∨ q = o) := by
  cases r with
  | inl k =>
    have hk := hL k rfl
    clear hL
    simp only [List.mem_cons, List.not_mem_nil, or_false] at hk
    rcases hk with rfl
    · refine xl_of (hh := [(0, 9, 12, 32)]) (by decide +kernel) rfl (Nat.le_of_ble_eq_true rfl) fun p e s m below meth c ls B tab hM hO ho hS hl => ?_
      have ⟨⟨hx, hb, hr, hml, hown, hT, hlocks, hK⟩, hST, hNC, hA⟩ := B
      have hl : lv_has ls 4 [(0, .ref (ad 0 0)), (1, .int x1), (2, .ref o)] := hl
      refine lv_aload_n hx hb dL_wrong_0 rfl (lv_at hl 2 rfl) ?_
      refine lv_iconst (v := 0) hx hb dL_wrong_1 (by decide) ?_
      refine lv_aload_n hx hb dL_wrong_2 rfl (lv_at hl 0 rfl) ?_
      refine lv_iload_n hx hb dL_wrong_3 rfl (lv_at hl 1 rfl) ?_
      refine xl_thr (xl_run B hM hS [.int x1] (n := 1) (xe_met (c_X5_wrong hll h)) wm_RL_78 wi_yX5_wrong ws_yX5_wrong wn_RX5 wc_yX5_wrong rfl rfl (by decide +kernel) ⟨Nat.le_of_ble_eq_true rfl, Nat.le_of_ble_eq_true rfl⟩ ⟨Nat.le_of_ble_eq_true rfl, Nat.le_of_ble_eq_true rfl⟩ rfl hl.1 (Nat.le_of_ble_eq_true rfl) rfl dL_wrong_4) hS B [] (te (0, 9, 12, 32)) [] (tab.trans rfl) (fun z hz => by cases hz) (by decide) (by decide) (by decide) wk_RL_32 (fun ad2 q9 H locs hae hM hS hz hk9 => ?_)
      have hO := hO.kept (hk9 _ hO.lt ho)
      refine lv_astore_n (lv' := [(3, .ref q9), (0, .ref (ad 0 0)), (1, .int x1), (2, .ref o)]) hx hb dL_wrong_12 rfl hl (by decide) rfl (fun ls hl => ?_)
      refine lv_iconst (v := 1) hx hb dL_wrong_13 (by decide) ?_
      exact xl_end B hae hM hO (xl_wide hS) (Nat.le_of_ble_eq_true rfl) (Nat.le_of_ble_eq_true rfl) rfl dL_wrong_14
  | inr x =>
    clear hL
    refine xl_of (hh := [(0, 9, 12, 32)]) (by decide +kernel) rfl (Nat.le_of_ble_eq_true rfl) fun p e s m below meth c ls B tab hM hO ho hS hl => ?_
    have ⟨⟨hx, hb, hr, hml, hown, hT, hlocks, hK⟩, hST, hNC, hA⟩ := B
    have hl : lv_has ls 4 [(0, .ref (ad 0 0)), (1, .int x1), (2, .ref o)] := hl
    refine lv_aload_n hx hb dL_wrong_0 rfl (lv_at hl 2 rfl) ?_
    refine lv_iconst (v := 0) hx hb dL_wrong_1 (by decide) ?_
    refine lv_aload_n hx hb dL_wrong_2 rfl (lv_at hl 0 rfl) ?_
    refine lv_iload_n hx hb dL_wrong_3 rfl (lv_at hl 1 rfl) ?_
    refine xl_ret (xl_run B hM hS [.int x1] (n := 1) (xe_met (c_X5_wrong hll h)) wm_RL_78 wi_yX5_wrong ws_yX5_wrong wn_RX5 wc_yX5_wrong rfl rfl (by decide +kernel) ⟨Nat.le_of_ble_eq_true rfl, Nat.le_of_ble_eq_true rfl⟩ ⟨Nat.le_of_ble_eq_true rfl, Nat.le_of_ble_eq_true rfl⟩ rfl hl.1 (Nat.le_of_ble_eq_true rfl) rfl dL_wrong_4) hS (fun ad2 H locs hae hM hS hz hk9 => ?_)
    have hO := hO.kept (hk9 _ hO.lt ho)
    refine lv_i2l hx hb dL_wrong_7 rfl ?_
    refine xl_last B hM hS ho hO dL_wrong_8 (fun H locs hM hO hS => ?_)
    refine lv_goto (tgt := 15) hx hb dL_wrong_9 (by decide) ?_
    refine lv_iconst (v := 0) hx hb dL_wrong_15 (by decide) ?_
    exact xl_end B hae hM hO hS (Nat.le_of_ble_eq_true rfl) (Nat.le_of_ble_eq_true rfl) rfl dL_wrong_16
set_option maxHeartbeats 4000000 in
set_option maxRecDepth 100000 in
theorem c_L_excuse {l : Launch} (hll : l.stackTraces = false) {G : GG} {A : Nat → Prop} {ad : AD} {st : XS} {x1 : Int32} {x2 : Int32} {r : Nat ⊕ Int32} {st' : XS} {o : Nat} {f : Nat → Int64} (h : f_X5_excuse st x1 x2 = some (r, st')) (hL : ∀ k, r = .inl k → k ∈ [0, 4]) : Met l yL_excuse (Cond.codeWith yL_excuse cL_excuse 5 (some .int) [(0, 10, 13, 13), (0, 10, 17, 32)] :: TG) { frames := 8, cells := 1, slots := 6, locals := 146 } (PWr G A ad st o (.inl (G.2 3, 1, .inr (.inl f))) [.ref (ad 0 0), .int x1, .int x2, .ref o]) (QWr G A ad (lwc [0, 4] r) st' o (.inl (G.2 3, 1, .inr (.inl (louI f r))))) 1 6 (fun q => A q ∨ q = o) := by
  cases r with
  | inl k =>
    have hk := hL k rfl
    clear hL
    simp only [List.mem_cons, List.not_mem_nil, or_false] at hk
    rcases hk with rfl | rfl
    · refine xl_of (hh := [(0, 10, 13, 13), (0, 10, 17, 32)]) (by decide +kernel) rfl (Nat.le_of_ble_eq_true rfl) fun p e s m below meth c ls B tab hM hO ho hS hl => ?_
      have ⟨⟨hx, hb, hr, hml, hown, hT, hlocks, hK⟩, hST, hNC, hA⟩ := B
      have hl : lv_has ls 5 [(0, .ref (ad 0 0)), (1, .int x1), (2, .int x2), (3, .ref o)] := hl
      refine lv_aload_n hx hb dL_excuse_0 rfl (lv_at hl 3 rfl) ?_
      refine lv_iconst (v := 0) hx hb dL_excuse_1 (by decide) ?_
      refine lv_aload_n hx hb dL_excuse_2 rfl (lv_at hl 0 rfl) ?_
      refine lv_iload_n hx hb dL_excuse_3 rfl (lv_at hl 1 rfl) ?_
      refine lv_iload_n hx hb dL_excuse_4 rfl (lv_at hl 2 rfl) ?_
      refine xl_thr (xl_run B hM hS [.int x1, .int x2] (n := 2) (xe_met (c_X5_excuse hll h)) wm_RL_81 wi_yX5_excuse ws_yX5_excuse wn_RX5 wc_yX5_excuse rfl rfl (by decide +kernel) ⟨Nat.le_of_ble_eq_true rfl, Nat.le_of_ble_eq_true rfl⟩ ⟨Nat.le_of_ble_eq_true rfl, Nat.le_of_ble_eq_true rfl⟩ rfl hl.1 (Nat.le_of_ble_eq_true rfl) rfl dL_excuse_5) hS B [] (te (0, 10, 13, 13)) [te (0, 10, 17, 32)] (tab.trans rfl) (fun z hz => by cases hz) (by decide) (by decide) (by decide) wk_RL_13 (fun ad2 q9 H locs hae hM hS hz hk9 => ?_)
      have hO := hO.kept (hk9 _ hO.lt ho)
      refine lv_astore (lv' := [(4, .ref q9), (0, .ref (ad 0 0)), (1, .int x1), (2, .int x2), (3, .ref o)]) hx hb dL_excuse_13 hl (by decide) rfl (fun ls hl => ?_)
      refine lv_iconst (v := 1) hx hb dL_excuse_15 (by decide) ?_
      exact xl_end B hae hM hO (xl_wide hS) (Nat.le_of_ble_eq_true rfl) (Nat.le_of_ble_eq_true rfl) rfl dL_excuse_16
    · refine xl_of (hh := [(0, 10, 13, 13), (0, 10, 17, 32)]) (by decide +kernel) rfl (Nat.le_of_ble_eq_true rfl) fun p e s m below meth c ls B tab hM hO ho hS hl => ?_
      have ⟨⟨hx, hb, hr, hml, hown, hT, hlocks, hK⟩, hST, hNC, hA⟩ := B
      have hl : lv_has ls 5 [(0, .ref (ad 0 0)), (1, .int x1), (2, .int x2), (3, .ref o)] := hl
      refine lv_aload_n hx hb dL_excuse_0 rfl (lv_at hl 3 rfl) ?_
      refine lv_iconst (v := 0) hx hb dL_excuse_1 (by decide) ?_
      refine lv_aload_n hx hb dL_excuse_2 rfl (lv_at hl 0 rfl) ?_
      refine lv_iload_n hx hb dL_excuse_3 rfl (lv_at hl 1 rfl) ?_
      refine lv_iload_n hx hb dL_excuse_4 rfl (lv_at hl 2 rfl) ?_
      refine xl_thr (xl_run B hM hS [.int x1, .int x2] (n := 2) (xe_met (c_X5_excuse hll h)) wm_RL_81 wi_yX5_excuse ws_yX5_excuse wn_RX5 wc_yX5_excuse rfl rfl (by decide +kernel) ⟨Nat.le_of_ble_eq_true rfl, Nat.le_of_ble_eq_true rfl⟩ ⟨Nat.le_of_ble_eq_true rfl, Nat.le_of_ble_eq_true rfl⟩ rfl hl.1 (Nat.le_of_ble_eq_true rfl) rfl dL_excuse_5) hS B [te (0, 10, 13, 13)] (te (0, 10, 17, 32)) [] (tab.trans rfl) (List.forall_mem_cons.mpr ⟨⟨by decide, 0, by decide, by decide, wk_RL_13⟩, fun z hz => by cases hz⟩) (by decide) (by decide) (by decide) wk_RL_32 (fun ad2 q9 H locs hae hM hS hz hk9 => ?_)
      have hO := hO.kept (hk9 _ hO.lt ho)
      refine lv_astore (lv' := [(4, .ref q9), (0, .ref (ad 0 0)), (1, .int x1), (2, .int x2), (3, .ref o)]) hx hb dL_excuse_17 hl (by decide) rfl (fun ls hl => ?_)
      refine lv_iconst (v := 2) hx hb dL_excuse_19 (by decide) ?_
      exact xl_end B hae hM hO (xl_wide hS) (Nat.le_of_ble_eq_true rfl) (Nat.le_of_ble_eq_true rfl) rfl dL_excuse_20
  | inr x =>
    clear hL
    refine xl_of (hh := [(0, 10, 13, 13), (0, 10, 17, 32)]) (by decide +kernel) rfl (Nat.le_of_ble_eq_true rfl) fun p e s m below meth c ls B tab hM hO ho hS hl => ?_
    have ⟨⟨hx, hb, hr, hml, hown, hT, hlocks, hK⟩, hST, hNC, hA⟩ := B
    have hl : lv_has ls 5 [(0, .ref (ad 0 0)), (1, .int x1), (2, .int x2), (3, .ref o)] := hl
    refine lv_aload_n hx hb dL_excuse_0 rfl (lv_at hl 3 rfl) ?_
    refine lv_iconst (v := 0) hx hb dL_excuse_1 (by decide) ?_
    refine lv_aload_n hx hb dL_excuse_2 rfl (lv_at hl 0 rfl) ?_
    refine lv_iload_n hx hb dL_excuse_3 rfl (lv_at hl 1 rfl) ?_
    refine lv_iload_n hx hb dL_excuse_4 rfl (lv_at hl 2 rfl) ?_
    refine xl_ret (xl_run B hM hS [.int x1, .int x2] (n := 2) (xe_met (c_X5_excuse hll h)) wm_RL_81 wi_yX5_excuse ws_yX5_excuse wn_RX5 wc_yX5_excuse rfl rfl (by decide +kernel) ⟨Nat.le_of_ble_eq_true rfl, Nat.le_of_ble_eq_true rfl⟩ ⟨Nat.le_of_ble_eq_true rfl, Nat.le_of_ble_eq_true rfl⟩ rfl hl.1 (Nat.le_of_ble_eq_true rfl) rfl dL_excuse_5) hS (fun ad2 H locs hae hM hS hz hk9 => ?_)
    have hO := hO.kept (hk9 _ hO.lt ho)
    refine lv_i2l hx hb dL_excuse_8 rfl ?_
    refine xl_last B hM hS ho hO dL_excuse_9 (fun H locs hM hO hS => ?_)
    refine lv_goto (tgt := 21) hx hb dL_excuse_10 (by decide) ?_
    refine lv_iconst (v := 0) hx hb dL_excuse_21 (by decide) ?_
    exact xl_end B hae hM hO hS (Nat.le_of_ble_eq_true rfl) (Nat.le_of_ble_eq_true rfl) rfl dL_excuse_22
set_option maxHeartbeats 4000000 in
set_option maxRecDepth 100000 in
theorem c_L_isBroken {l : Launch} (hll : l.stackTraces = false) {G : GG} {A : Nat → Prop} {ad : AD} {st : XS} {x1 : Int32} {r : Nat ⊕ Int32} {st' : XS} {o : Nat} {f : Nat → Int64} (h : f_X5_isBroken st x1 = some (r, st')) (hL : ∀ k, r = .inl k → k ∈ [4]) : Met l yL_isBroken (Cond.codeWith yL_isBroken cL_isBroken 4 (some .int) [(0, 16, 19, 32)] :: TG) { frames := 8, cells := 1, slots := 6, locals := 142 } (PWr G A ad st o (.inl (G.2 3, 1, .inr (.inl f))) [.ref (ad 0 0), .int x1, .ref o]) (QWr G A ad (lwc [4] r) st' o (.inl (G.2 3, 1, .inr (.inl (louZ f r))))) 1 6 (fun q => A q ∨ q = o) := by
  cases r with
  | inl k =>
    have hk := hL k rfl
    clear hL
    simp only [List.mem_cons, List.not_mem_nil, or_false] at hk
    rcases hk with rfl
    · refine xl_of (hh := [(0, 16, 19, 32)]) (by decide +kernel) rfl (Nat.le_of_ble_eq_true rfl) fun p e s m below meth c ls B tab hM hO ho hS hl => ?_
      have ⟨⟨hx, hb, hr, hml, hown, hT, hlocks, hK⟩, hST, hNC, hA⟩ := B
      have hl : lv_has ls 4 [(0, .ref (ad 0 0)), (1, .int x1), (2, .ref o)] := hl
      refine lv_aload_n hx hb dL_isBroken_0 rfl (lv_at hl 2 rfl) ?_
      refine lv_iconst (v := 0) hx hb dL_isBroken_1 (by decide) ?_
      refine lv_aload_n hx hb dL_isBroken_2 rfl (lv_at hl 0 rfl) ?_
      refine lv_iload_n hx hb dL_isBroken_3 rfl (lv_at hl 1 rfl) ?_
      refine xl_thr (xl_run B hM hS [.int x1] (n := 1) (xe_met (c_X5_isBroken hll h)) wm_RL_85 wi_yX5_isBroken ws_yX5_isBroken wn_RX5 wc_yX5_isBroken rfl rfl (by decide +kernel) ⟨Nat.le_of_ble_eq_true rfl, Nat.le_of_ble_eq_true rfl⟩ ⟨Nat.le_of_ble_eq_true rfl, Nat.le_of_ble_eq_true rfl⟩ rfl hl.1 (Nat.le_of_ble_eq_true rfl) rfl dL_isBroken_4) hS B [] (te (0, 16, 19, 32)) [] (tab.trans rfl) (fun z hz => by cases hz) (by decide) (by decide) (by decide) wk_RL_32 (fun ad2 q9 H locs hae hM hS hz hk9 => ?_)
      have hO := hO.kept (hk9 _ hO.lt ho)
      refine lv_astore_n (lv' := [(3, .ref q9), (0, .ref (ad 0 0)), (1, .int x1), (2, .ref o)]) hx hb dL_isBroken_19 rfl hl (by decide) rfl (fun ls hl => ?_)
      refine lv_iconst (v := 1) hx hb dL_isBroken_20 (by decide) ?_
      exact xl_end B hae hM hO (xl_wide hS) (Nat.le_of_ble_eq_true rfl) (Nat.le_of_ble_eq_true rfl) rfl dL_isBroken_21
  | inr x =>
    clear hL
    by_cases hc9 : x = 0
    · refine xl_of (hh := [(0, 16, 19, 32)]) (by decide +kernel) rfl (Nat.le_of_ble_eq_true rfl) fun p e s m below meth c ls B tab hM hO ho hS hl => ?_
      have ⟨⟨hx, hb, hr, hml, hown, hT, hlocks, hK⟩, hST, hNC, hA⟩ := B
      have hl : lv_has ls 4 [(0, .ref (ad 0 0)), (1, .int x1), (2, .ref o)] := hl
      refine lv_aload_n hx hb dL_isBroken_0 rfl (lv_at hl 2 rfl) ?_
      refine lv_iconst (v := 0) hx hb dL_isBroken_1 (by decide) ?_
      refine lv_aload_n hx hb dL_isBroken_2 rfl (lv_at hl 0 rfl) ?_
      refine lv_iload_n hx hb dL_isBroken_3 rfl (lv_at hl 1 rfl) ?_
      refine xl_ret (xl_run B hM hS [.int x1] (n := 1) (xe_met (c_X5_isBroken hll h)) wm_RL_85 wi_yX5_isBroken ws_yX5_isBroken wn_RX5 wc_yX5_isBroken rfl rfl (by decide +kernel) ⟨Nat.le_of_ble_eq_true rfl, Nat.le_of_ble_eq_true rfl⟩ ⟨Nat.le_of_ble_eq_true rfl, Nat.le_of_ble_eq_true rfl⟩ rfl hl.1 (Nat.le_of_ble_eq_true rfl) rfl dL_isBroken_4) hS (fun ad2 H locs hae hM hS hz hk9 => ?_)
      have hO := hO.kept (hk9 _ hO.lt ho)
      refine lv_if_eq (tgt := 14) hx hb dL_isBroken_7 (by decide) (fun c1 => ?_) (fun c1 => absurd hc9 c1)
      refine lv_lconst (v := 0) hx hb dL_isBroken_14 (by decide) ?_
      refine xl_last B hM hS ho hO dL_isBroken_15 (fun H locs hM hO hS => ?_)
      refine lv_goto (tgt := 22) hx hb dL_isBroken_16 (by decide) ?_
      refine lv_iconst (v := 0) hx hb dL_isBroken_22 (by decide) ?_
      exact xl_end B hae hM (by rw [louZ_0 hc9]; exact hO) hS (Nat.le_of_ble_eq_true rfl) (Nat.le_of_ble_eq_true rfl) rfl dL_isBroken_23
    · refine xl_of (hh := [(0, 16, 19, 32)]) (by decide +kernel) rfl (Nat.le_of_ble_eq_true rfl) fun p e s m below meth c ls B tab hM hO ho hS hl => ?_
      have ⟨⟨hx, hb, hr, hml, hown, hT, hlocks, hK⟩, hST, hNC, hA⟩ := B
      have hl : lv_has ls 4 [(0, .ref (ad 0 0)), (1, .int x1), (2, .ref o)] := hl
      refine lv_aload_n hx hb dL_isBroken_0 rfl (lv_at hl 2 rfl) ?_
      refine lv_iconst (v := 0) hx hb dL_isBroken_1 (by decide) ?_
      refine lv_aload_n hx hb dL_isBroken_2 rfl (lv_at hl 0 rfl) ?_
      refine lv_iload_n hx hb dL_isBroken_3 rfl (lv_at hl 1 rfl) ?_
      refine xl_ret (xl_run B hM hS [.int x1] (n := 1) (xe_met (c_X5_isBroken hll h)) wm_RL_85 wi_yX5_isBroken ws_yX5_isBroken wn_RX5 wc_yX5_isBroken rfl rfl (by decide +kernel) ⟨Nat.le_of_ble_eq_true rfl, Nat.le_of_ble_eq_true rfl⟩ ⟨Nat.le_of_ble_eq_true rfl, Nat.le_of_ble_eq_true rfl⟩ rfl hl.1 (Nat.le_of_ble_eq_true rfl) rfl dL_isBroken_4) hS (fun ad2 H locs hae hM hS hz hk9 => ?_)
      have hO := hO.kept (hk9 _ hO.lt ho)
      refine lv_if_eq (tgt := 14) hx hb dL_isBroken_7 (by decide) (fun c1 => absurd c1 hc9) (fun c1 => ?_)
      refine lv_lconst (v := 1) hx hb dL_isBroken_10 (by decide) ?_
      refine lv_goto (tgt := 15) hx hb dL_isBroken_11 (by decide) ?_
      refine xl_last B hM hS ho hO dL_isBroken_15 (fun H locs hM hO hS => ?_)
      refine lv_goto (tgt := 22) hx hb dL_isBroken_16 (by decide) ?_
      refine lv_iconst (v := 0) hx hb dL_isBroken_22 (by decide) ?_
      exact xl_end B hae hM (by rw [louZ_1 hc9]; exact hO) hS (Nat.le_of_ble_eq_true rfl) (Nat.le_of_ble_eq_true rfl) rfl dL_isBroken_23
set_option maxHeartbeats 4000000 in
set_option maxRecDepth 100000 in
theorem c_L_hand {l : Launch} (hll : l.stackTraces = false) {G : GG} {A : Nat → Prop} {ad : AD} {st : XS} {x1 : Int32} {x2 : Int32} {r : Nat ⊕ Int32} {st' : XS} {o : Nat} {f : Nat → Int64} (h : f_X5_hand st x1 x2 = some (r, st')) (hL : ∀ k, r = .inl k → k ∈ [3, 0, 1]) : Met l yL_hand (Cond.codeWith yL_hand cL_hand 5 (some .int) [(0, 10, 13, 23), (0, 10, 17, 13), (0, 10, 21, 15)] :: TG) { frames := 9, cells := 3, slots := 18, locals := 166 } (PWr G A ad st o (.inl (G.2 3, 1, .inr (.inl f))) [.ref (ad 0 0), .int x1, .int x2, .ref o]) (QWr G A ad (lwc [3, 0, 1] r) st' o (.inl (G.2 3, 1, .inr (.inl (louI f r))))) 3 18 (fun q => A q ∨ q = o) := by
  cases r with
  | inl k =>
    have hk := hL k rfl
    clear hL
    simp only [List.mem_cons, List.not_mem_nil, or_false] at hk
    rcases hk with rfl | rfl | rfl
    · refine xl_of (hh := [(0, 10, 13, 23), (0, 10, 17, 13), (0, 10, 21, 15)]) (by decide +kernel) rfl (Nat.le_of_ble_eq_true rfl) fun p e s m below meth c ls B tab hM hO ho hS hl => ?_
      have ⟨⟨hx, hb, hr, hml, hown, hT, hlocks, hK⟩, hST, hNC, hA⟩ := B
      have hl : lv_has ls 5 [(0, .ref (ad 0 0)), (1, .int x1), (2, .int x2), (3, .ref o)] := hl
      refine lv_aload_n hx hb dL_hand_0 rfl (lv_at hl 3 rfl) ?_
      refine lv_iconst (v := 0) hx hb dL_hand_1 (by decide) ?_
      refine lv_aload_n hx hb dL_hand_2 rfl (lv_at hl 0 rfl) ?_
      refine lv_iload_n hx hb dL_hand_3 rfl (lv_at hl 1 rfl) ?_
      refine lv_iload_n hx hb dL_hand_4 rfl (lv_at hl 2 rfl) ?_
      refine xl_thr (xl_run B hM hS [.int x1, .int x2] (n := 2) (xe_met (c_X5_hand hll h)) wm_RL_89 wi_yX5_hand ws_yX5_hand wn_RX5 wc_yX5_hand rfl rfl (by decide +kernel) ⟨Nat.le_of_ble_eq_true rfl, Nat.le_of_ble_eq_true rfl⟩ ⟨Nat.le_of_ble_eq_true rfl, Nat.le_of_ble_eq_true rfl⟩ rfl hl.1 (Nat.le_of_ble_eq_true rfl) rfl dL_hand_5) hS B [] (te (0, 10, 13, 23)) [te (0, 10, 17, 13), te (0, 10, 21, 15)] (tab.trans rfl) (fun z hz => by cases hz) (by decide) (by decide) (by decide) wk_RL_23 (fun ad2 q9 H locs hae hM hS hz hk9 => ?_)
      have hO := hO.kept (hk9 _ hO.lt ho)
      refine lv_astore (lv' := [(4, .ref q9), (0, .ref (ad 0 0)), (1, .int x1), (2, .int x2), (3, .ref o)]) hx hb dL_hand_13 hl (by decide) rfl (fun ls hl => ?_)
      refine lv_iconst (v := 1) hx hb dL_hand_15 (by decide) ?_
      exact xl_end B hae hM hO (xl_wide hS) (Nat.le_of_ble_eq_true rfl) (Nat.le_of_ble_eq_true rfl) rfl dL_hand_16
    · refine xl_of (hh := [(0, 10, 13, 23), (0, 10, 17, 13), (0, 10, 21, 15)]) (by decide +kernel) rfl (Nat.le_of_ble_eq_true rfl) fun p e s m below meth c ls B tab hM hO ho hS hl => ?_
      have ⟨⟨hx, hb, hr, hml, hown, hT, hlocks, hK⟩, hST, hNC, hA⟩ := B
      have hl : lv_has ls 5 [(0, .ref (ad 0 0)), (1, .int x1), (2, .int x2), (3, .ref o)] := hl
      refine lv_aload_n hx hb dL_hand_0 rfl (lv_at hl 3 rfl) ?_
      refine lv_iconst (v := 0) hx hb dL_hand_1 (by decide) ?_
      refine lv_aload_n hx hb dL_hand_2 rfl (lv_at hl 0 rfl) ?_
      refine lv_iload_n hx hb dL_hand_3 rfl (lv_at hl 1 rfl) ?_
      refine lv_iload_n hx hb dL_hand_4 rfl (lv_at hl 2 rfl) ?_
      refine xl_thr (xl_run B hM hS [.int x1, .int x2] (n := 2) (xe_met (c_X5_hand hll h)) wm_RL_89 wi_yX5_hand ws_yX5_hand wn_RX5 wc_yX5_hand rfl rfl (by decide +kernel) ⟨Nat.le_of_ble_eq_true rfl, Nat.le_of_ble_eq_true rfl⟩ ⟨Nat.le_of_ble_eq_true rfl, Nat.le_of_ble_eq_true rfl⟩ rfl hl.1 (Nat.le_of_ble_eq_true rfl) rfl dL_hand_5) hS B [te (0, 10, 13, 23)] (te (0, 10, 17, 13)) [te (0, 10, 21, 15)] (tab.trans rfl) (List.forall_mem_cons.mpr ⟨⟨by decide, 3, by decide, by decide, wk_RL_23⟩, fun z hz => by cases hz⟩) (by decide) (by decide) (by decide) wk_RL_13 (fun ad2 q9 H locs hae hM hS hz hk9 => ?_)
      have hO := hO.kept (hk9 _ hO.lt ho)
      refine lv_astore (lv' := [(4, .ref q9), (0, .ref (ad 0 0)), (1, .int x1), (2, .int x2), (3, .ref o)]) hx hb dL_hand_17 hl (by decide) rfl (fun ls hl => ?_)
      refine lv_iconst (v := 2) hx hb dL_hand_19 (by decide) ?_
      exact xl_end B hae hM hO (xl_wide hS) (Nat.le_of_ble_eq_true rfl) (Nat.le_of_ble_eq_true rfl) rfl dL_hand_20
    · refine xl_of (hh := [(0, 10, 13, 23), (0, 10, 17, 13), (0, 10, 21, 15)]) (by decide +kernel) rfl (Nat.le_of_ble_eq_true rfl) fun p e s m below meth c ls B tab hM hO ho hS hl => ?_
      have ⟨⟨hx, hb, hr, hml, hown, hT, hlocks, hK⟩, hST, hNC, hA⟩ := B
      have hl : lv_has ls 5 [(0, .ref (ad 0 0)), (1, .int x1), (2, .int x2), (3, .ref o)] := hl
      refine lv_aload_n hx hb dL_hand_0 rfl (lv_at hl 3 rfl) ?_
      refine lv_iconst (v := 0) hx hb dL_hand_1 (by decide) ?_
      refine lv_aload_n hx hb dL_hand_2 rfl (lv_at hl 0 rfl) ?_
      refine lv_iload_n hx hb dL_hand_3 rfl (lv_at hl 1 rfl) ?_
      refine lv_iload_n hx hb dL_hand_4 rfl (lv_at hl 2 rfl) ?_
      refine xl_thr (xl_run B hM hS [.int x1, .int x2] (n := 2) (xe_met (c_X5_hand hll h)) wm_RL_89 wi_yX5_hand ws_yX5_hand wn_RX5 wc_yX5_hand rfl rfl (by decide +kernel) ⟨Nat.le_of_ble_eq_true rfl, Nat.le_of_ble_eq_true rfl⟩ ⟨Nat.le_of_ble_eq_true rfl, Nat.le_of_ble_eq_true rfl⟩ rfl hl.1 (Nat.le_of_ble_eq_true rfl) rfl dL_hand_5) hS B [te (0, 10, 13, 23), te (0, 10, 17, 13)] (te (0, 10, 21, 15)) [] (tab.trans rfl) (List.forall_mem_cons.mpr ⟨⟨by decide, 3, by decide, by decide, wk_RL_23⟩, List.forall_mem_cons.mpr ⟨⟨by decide, 0, by decide, by decide, wk_RL_13⟩, fun z hz => by cases hz⟩⟩) (by decide) (by decide) (by decide) wk_RL_15 (fun ad2 q9 H locs hae hM hS hz hk9 => ?_)
      have hO := hO.kept (hk9 _ hO.lt ho)
      refine lv_astore (lv' := [(4, .ref q9), (0, .ref (ad 0 0)), (1, .int x1), (2, .int x2), (3, .ref o)]) hx hb dL_hand_21 hl (by decide) rfl (fun ls hl => ?_)
      refine lv_iconst (v := 3) hx hb dL_hand_23 (by decide) ?_
      exact xl_end B hae hM hO (xl_wide hS) (Nat.le_of_ble_eq_true rfl) (Nat.le_of_ble_eq_true rfl) rfl dL_hand_24
  | inr x =>
    clear hL
    refine xl_of (hh := [(0, 10, 13, 23), (0, 10, 17, 13), (0, 10, 21, 15)]) (by decide +kernel) rfl (Nat.le_of_ble_eq_true rfl) fun p e s m below meth c ls B tab hM hO ho hS hl => ?_
    have ⟨⟨hx, hb, hr, hml, hown, hT, hlocks, hK⟩, hST, hNC, hA⟩ := B
    have hl : lv_has ls 5 [(0, .ref (ad 0 0)), (1, .int x1), (2, .int x2), (3, .ref o)] := hl
    refine lv_aload_n hx hb dL_hand_0 rfl (lv_at hl 3 rfl) ?_
    refine lv_iconst (v := 0) hx hb dL_hand_1 (by decide) ?_
    refine lv_aload_n hx hb dL_hand_2 rfl (lv_at hl 0 rfl) ?_
    refine lv_iload_n hx hb dL_hand_3 rfl (lv_at hl 1 rfl) ?_
    refine lv_iload_n hx hb dL_hand_4 rfl (lv_at hl 2 rfl) ?_
    refine xl_ret (xl_run B hM hS [.int x1, .int x2] (n := 2) (xe_met (c_X5_hand hll h)) wm_RL_89 wi_yX5_hand ws_yX5_hand wn_RX5 wc_yX5_hand rfl rfl (by decide +kernel) ⟨Nat.le_of_ble_eq_true rfl, Nat.le_of_ble_eq_true rfl⟩ ⟨Nat.le_of_ble_eq_true rfl, Nat.le_of_ble_eq_true rfl⟩ rfl hl.1 (Nat.le_of_ble_eq_true rfl) rfl dL_hand_5) hS (fun ad2 H locs hae hM hS hz hk9 => ?_)
    have hO := hO.kept (hk9 _ hO.lt ho)
    refine lv_i2l hx hb dL_hand_8 rfl ?_
    refine xl_last B hM hS ho hO dL_hand_9 (fun H locs hM hO hS => ?_)
    refine lv_goto (tgt := 25) hx hb dL_hand_10 (by decide) ?_
    refine lv_iconst (v := 0) hx hb dL_hand_25 (by decide) ?_
    exact xl_end B hae hM hO hS (Nat.le_of_ble_eq_true rfl) (Nat.le_of_ble_eq_true rfl) rfl dL_hand_26
set_option maxHeartbeats 4000000 in
set_option maxRecDepth 100000 in
theorem c_L_bring {l : Launch} (hll : l.stackTraces = false) {G : GG} {A : Nat → Prop} {ad : AD} {st : XS} {x1 : Int32} {x2 : Int32} {r : Nat ⊕ Int32} {st' : XS} {o : Nat} {f : Nat → Int64} (h : f_X5_bring st x1 x2 = some (r, st')) (hL : ∀ k, r = .inl k → k ∈ [3, 0, 1]) : Met l yL_bring (Cond.codeWith yL_bring cL_bring 5 (some .int) [(0, 17, 20, 23), (0, 17, 24, 13), (0, 17, 28, 15)] :: TG) { frames := 8, cells := 3, slots := 18, locals := 144 } (PWr G A ad st o (.inl (G.2 3, 1, .inr (.inl f))) [.ref (ad 0 0), .int x1, .int x2, .ref o]) (QWr G A ad (lwc [3, 0, 1] r) st' o (.inl (G.2 3, 1, .inr (.inl (louZ f r))))) 3 18 (fun q => A q ∨ q = o) := by
  cases r with
  | inl k =>
    have hk := hL k rfl
    clear hL
    simp only [List.mem_cons, List.not_mem_nil, or_false] at hk
    rcases hk with rfl | rfl | rfl
    · refine xl_of (hh := [(0, 17, 20, 23), (0, 17, 24, 13), (0, 17, 28, 15)]) (by decide +kernel) rfl (Nat.le_of_ble_eq_true rfl) fun p e s m below meth c ls B tab hM hO ho hS hl => ?_
      have ⟨⟨hx, hb, hr, hml, hown, hT, hlocks, hK⟩, hST, hNC, hA⟩ := B
      have hl : lv_has ls 5 [(0, .ref (ad 0 0)), (1, .int x1), (2, .int x2), (3, .ref o)] := hl
      refine lv_aload_n hx hb dL_bring_0 rfl (lv_at hl 3 rfl) ?_
      refine lv_iconst (v := 0) hx hb dL_bring_1 (by decide) ?_
      refine lv_aload_n hx hb dL_bring_2 rfl (lv_at hl 0 rfl) ?_
      refine lv_iload_n hx hb dL_bring_3 rfl (lv_at hl 1 rfl) ?_
      refine lv_iload_n hx hb dL_bring_4 rfl (lv_at hl 2 rfl) ?_
      refine xl_thr (xl_run B hM hS [.int x1, .int x2] (n := 2) (xe_met (c_X5_bring hll h)) wm_RL_92 wi_yX5_bring ws_yX5_bring wn_RX5 wc_yX5_bring rfl rfl (by decide +kernel) ⟨Nat.le_of_ble_eq_true rfl, Nat.le_of_ble_eq_true rfl⟩ ⟨Nat.le_of_ble_eq_true rfl, Nat.le_of_ble_eq_true rfl⟩ rfl hl.1 (Nat.le_of_ble_eq_true rfl) rfl dL_bring_5) hS B [] (te (0, 17, 20, 23)) [te (0, 17, 24, 13), te (0, 17, 28, 15)] (tab.trans rfl) (fun z hz => by cases hz) (by decide) (by decide) (by decide) wk_RL_23 (fun ad2 q9 H locs hae hM hS hz hk9 => ?_)
      have hO := hO.kept (hk9 _ hO.lt ho)
      refine lv_astore (lv' := [(4, .ref q9), (0, .ref (ad 0 0)), (1, .int x1), (2, .int x2), (3, .ref o)]) hx hb dL_bring_20 hl (by decide) rfl (fun ls hl => ?_)
      refine lv_iconst (v := 1) hx hb dL_bring_22 (by decide) ?_
      exact xl_end B hae hM hO (xl_wide hS) (Nat.le_of_ble_eq_true rfl) (Nat.le_of_ble_eq_true rfl) rfl dL_bring_23
    · refine xl_of (hh := [(0, 17, 20, 23), (0, 17, 24, 13), (0, 17, 28, 15)]) (by decide +kernel) rfl (Nat.le_of_ble_eq_true rfl) fun p e s m below meth c ls B tab hM hO ho hS hl => ?_
      have ⟨⟨hx, hb, hr, hml, hown, hT, hlocks, hK⟩, hST, hNC, hA⟩ := B
      have hl : lv_has ls 5 [(0, .ref (ad 0 0)), (1, .int x1), (2, .int x2), (3, .ref o)] := hl
      refine lv_aload_n hx hb dL_bring_0 rfl (lv_at hl 3 rfl) ?_
      refine lv_iconst (v := 0) hx hb dL_bring_1 (by decide) ?_
      refine lv_aload_n hx hb dL_bring_2 rfl (lv_at hl 0 rfl) ?_
      refine lv_iload_n hx hb dL_bring_3 rfl (lv_at hl 1 rfl) ?_
      refine lv_iload_n hx hb dL_bring_4 rfl (lv_at hl 2 rfl) ?_
      refine xl_thr (xl_run B hM hS [.int x1, .int x2] (n := 2) (xe_met (c_X5_bring hll h)) wm_RL_92 wi_yX5_bring ws_yX5_bring wn_RX5 wc_yX5_bring rfl rfl (by decide +kernel) ⟨Nat.le_of_ble_eq_true rfl, Nat.le_of_ble_eq_true rfl⟩ ⟨Nat.le_of_ble_eq_true rfl, Nat.le_of_ble_eq_true rfl⟩ rfl hl.1 (Nat.le_of_ble_eq_true rfl) rfl dL_bring_5) hS B [te (0, 17, 20, 23)] (te (0, 17, 24, 13)) [te (0, 17, 28, 15)] (tab.trans rfl) (List.forall_mem_cons.mpr ⟨⟨by decide, 3, by decide, by decide, wk_RL_23⟩, fun z hz => by cases hz⟩) (by decide) (by decide) (by decide) wk_RL_13 (fun ad2 q9 H locs hae hM hS hz hk9 => ?_)
      have hO := hO.kept (hk9 _ hO.lt ho)
      refine lv_astore (lv' := [(4, .ref q9), (0, .ref (ad 0 0)), (1, .int x1), (2, .int x2), (3, .ref o)]) hx hb dL_bring_24 hl (by decide) rfl (fun ls hl => ?_)
      refine lv_iconst (v := 2) hx hb dL_bring_26 (by decide) ?_
      exact xl_end B hae hM hO (xl_wide hS) (Nat.le_of_ble_eq_true rfl) (Nat.le_of_ble_eq_true rfl) rfl dL_bring_27
    · refine xl_of (hh := [(0, 17, 20, 23), (0, 17, 24, 13), (0, 17, 28, 15)]) (by decide +kernel) rfl (Nat.le_of_ble_eq_true rfl) fun p e s m below meth c ls B tab hM hO ho hS hl => ?_
      have ⟨⟨hx, hb, hr, hml, hown, hT, hlocks, hK⟩, hST, hNC, hA⟩ := B
      have hl : lv_has ls 5 [(0, .ref (ad 0 0)), (1, .int x1), (2, .int x2), (3, .ref o)] := hl
      refine lv_aload_n hx hb dL_bring_0 rfl (lv_at hl 3 rfl) ?_
      refine lv_iconst (v := 0) hx hb dL_bring_1 (by decide) ?_
      refine lv_aload_n hx hb dL_bring_2 rfl (lv_at hl 0 rfl) ?_
      refine lv_iload_n hx hb dL_bring_3 rfl (lv_at hl 1 rfl) ?_
      refine lv_iload_n hx hb dL_bring_4 rfl (lv_at hl 2 rfl) ?_
      refine xl_thr (xl_run B hM hS [.int x1, .int x2] (n := 2) (xe_met (c_X5_bring hll h)) wm_RL_92 wi_yX5_bring ws_yX5_bring wn_RX5 wc_yX5_bring rfl rfl (by decide +kernel) ⟨Nat.le_of_ble_eq_true rfl, Nat.le_of_ble_eq_true rfl⟩ ⟨Nat.le_of_ble_eq_true rfl, Nat.le_of_ble_eq_true rfl⟩ rfl hl.1 (Nat.le_of_ble_eq_true rfl) rfl dL_bring_5) hS B [te (0, 17, 20, 23), te (0, 17, 24, 13)] (te (0, 17, 28, 15)) [] (tab.trans rfl) (List.forall_mem_cons.mpr ⟨⟨by decide, 3, by decide, by decide, wk_RL_23⟩, List.forall_mem_cons.mpr ⟨⟨by decide, 0, by decide, by decide, wk_RL_13⟩, fun z hz => by cases hz⟩⟩) (by decide) (by decide) (by decide) wk_RL_15 (fun ad2 q9 H locs hae hM hS hz hk9 => ?_)
      have hO := hO.kept (hk9 _ hO.lt ho)
      refine lv_astore (lv' := [(4, .ref q9), (0, .ref (ad 0 0)), (1, .int x1), (2, .int x2), (3, .ref o)]) hx hb dL_bring_28 hl (by decide) rfl (fun ls hl => ?_)
      refine lv_iconst (v := 3) hx hb dL_bring_30 (by decide) ?_
      exact xl_end B hae hM hO (xl_wide hS) (Nat.le_of_ble_eq_true rfl) (Nat.le_of_ble_eq_true rfl) rfl dL_bring_31
  | inr x =>
    clear hL
    by_cases hc9 : x = 0
    · refine xl_of (hh := [(0, 17, 20, 23), (0, 17, 24, 13), (0, 17, 28, 15)]) (by decide +kernel) rfl (Nat.le_of_ble_eq_true rfl) fun p e s m below meth c ls B tab hM hO ho hS hl => ?_
      have ⟨⟨hx, hb, hr, hml, hown, hT, hlocks, hK⟩, hST, hNC, hA⟩ := B
      have hl : lv_has ls 5 [(0, .ref (ad 0 0)), (1, .int x1), (2, .int x2), (3, .ref o)] := hl
      refine lv_aload_n hx hb dL_bring_0 rfl (lv_at hl 3 rfl) ?_
      refine lv_iconst (v := 0) hx hb dL_bring_1 (by decide) ?_
      refine lv_aload_n hx hb dL_bring_2 rfl (lv_at hl 0 rfl) ?_
      refine lv_iload_n hx hb dL_bring_3 rfl (lv_at hl 1 rfl) ?_
      refine lv_iload_n hx hb dL_bring_4 rfl (lv_at hl 2 rfl) ?_
      refine xl_ret (xl_run B hM hS [.int x1, .int x2] (n := 2) (xe_met (c_X5_bring hll h)) wm_RL_92 wi_yX5_bring ws_yX5_bring wn_RX5 wc_yX5_bring rfl rfl (by decide +kernel) ⟨Nat.le_of_ble_eq_true rfl, Nat.le_of_ble_eq_true rfl⟩ ⟨Nat.le_of_ble_eq_true rfl, Nat.le_of_ble_eq_true rfl⟩ rfl hl.1 (Nat.le_of_ble_eq_true rfl) rfl dL_bring_5) hS (fun ad2 H locs hae hM hS hz hk9 => ?_)
      have hO := hO.kept (hk9 _ hO.lt ho)
      refine lv_if_eq (tgt := 15) hx hb dL_bring_8 (by decide) (fun c1 => ?_) (fun c1 => absurd hc9 c1)
      refine lv_lconst (v := 0) hx hb dL_bring_15 (by decide) ?_
      refine xl_last B hM hS ho hO dL_bring_16 (fun H locs hM hO hS => ?_)
      refine lv_goto (tgt := 32) hx hb dL_bring_17 (by decide) ?_
      refine lv_iconst (v := 0) hx hb dL_bring_32 (by decide) ?_
      exact xl_end B hae hM (by rw [louZ_0 hc9]; exact hO) hS (Nat.le_of_ble_eq_true rfl) (Nat.le_of_ble_eq_true rfl) rfl dL_bring_33
    · refine xl_of (hh := [(0, 17, 20, 23), (0, 17, 24, 13), (0, 17, 28, 15)]) (by decide +kernel) rfl (Nat.le_of_ble_eq_true rfl) fun p e s m below meth c ls B tab hM hO ho hS hl => ?_
      have ⟨⟨hx, hb, hr, hml, hown, hT, hlocks, hK⟩, hST, hNC, hA⟩ := B
      have hl : lv_has ls 5 [(0, .ref (ad 0 0)), (1, .int x1), (2, .int x2), (3, .ref o)] := hl
      refine lv_aload_n hx hb dL_bring_0 rfl (lv_at hl 3 rfl) ?_
      refine lv_iconst (v := 0) hx hb dL_bring_1 (by decide) ?_
      refine lv_aload_n hx hb dL_bring_2 rfl (lv_at hl 0 rfl) ?_
      refine lv_iload_n hx hb dL_bring_3 rfl (lv_at hl 1 rfl) ?_
      refine lv_iload_n hx hb dL_bring_4 rfl (lv_at hl 2 rfl) ?_
      refine xl_ret (xl_run B hM hS [.int x1, .int x2] (n := 2) (xe_met (c_X5_bring hll h)) wm_RL_92 wi_yX5_bring ws_yX5_bring wn_RX5 wc_yX5_bring rfl rfl (by decide +kernel) ⟨Nat.le_of_ble_eq_true rfl, Nat.le_of_ble_eq_true rfl⟩ ⟨Nat.le_of_ble_eq_true rfl, Nat.le_of_ble_eq_true rfl⟩ rfl hl.1 (Nat.le_of_ble_eq_true rfl) rfl dL_bring_5) hS (fun ad2 H locs hae hM hS hz hk9 => ?_)
      have hO := hO.kept (hk9 _ hO.lt ho)
      refine lv_if_eq (tgt := 15) hx hb dL_bring_8 (by decide) (fun c1 => absurd c1 hc9) (fun c1 => ?_)
      refine lv_lconst (v := 1) hx hb dL_bring_11 (by decide) ?_
      refine lv_goto (tgt := 16) hx hb dL_bring_12 (by decide) ?_
      refine xl_last B hM hS ho hO dL_bring_16 (fun H locs hM hO hS => ?_)
      refine lv_goto (tgt := 32) hx hb dL_bring_17 (by decide) ?_
      refine lv_iconst (v := 0) hx hb dL_bring_32 (by decide) ?_
      exact xl_end B hae hM (by rw [louZ_1 hc9]; exact hO) hS (Nat.le_of_ble_eq_true rfl) (Nat.le_of_ble_eq_true rfl) rfl dL_bring_33
set_option maxHeartbeats 4000000 in
set_option maxRecDepth 100000 in
theorem c_L_with {l : Launch} (hll : l.stackTraces = false) {G : GG} {A : Nat → Prop} {ad : AD} {st : XS} {x1 : Int32} {r : Nat ⊕ Int32} {st' : XS} {o : Nat} {f : Nat → Int64} (h : f_X5_with st x1 = some (r, st')) (hL : ∀ k, r = .inl k → k ∈ [3, 4]) : Met l yL_with (Cond.codeWith yL_with cL_with 4 (some .int) [(0, 9, 12, 23), (0, 9, 15, 32)] :: TG) { frames := 8, cells := 2, slots := 12, locals := 143 } (PWr G A ad st o (.inl (G.2 3, 1, .inr (.inl f))) [.ref (ad 0 0), .int x1, .ref o]) (QWr G A ad (lwc [3, 4] r) st' o (.inl (G.2 3, 1, .inr (.inl (louI f r))))) 2 12 (fun q => A q ∨ q = o) := by
  cases r with
  | inl k =>
    have hk := hL k rfl
    clear hL
    simp only [List.mem_cons, List.not_mem_nil, or_false] at hk
    rcases hk with rfl | rfl
    · refine xl_of (hh := [(0, 9, 12, 23), (0, 9, 15, 32)]) (by decide +kernel) rfl (Nat.le_of_ble_eq_true rfl) fun p e s m below meth c ls B tab hM hO ho hS hl => ?_
      have ⟨⟨hx, hb, hr, hml, hown, hT, hlocks, hK⟩, hST, hNC, hA⟩ := B
      have hl : lv_has ls 4 [(0, .ref (ad 0 0)), (1, .int x1), (2, .ref o)] := hl
      refine lv_aload_n hx hb dL_with_0 rfl (lv_at hl 2 rfl) ?_
      refine lv_iconst (v := 0) hx hb dL_with_1 (by decide) ?_
      refine lv_aload_n hx hb dL_with_2 rfl (lv_at hl 0 rfl) ?_
      refine lv_iload_n hx hb dL_with_3 rfl (lv_at hl 1 rfl) ?_
      refine xl_thr (xl_run B hM hS [.int x1] (n := 1) (xe_met (c_X5_with hll h)) wm_RL_96 wi_yX5_with ws_yX5_with wn_RX5 wc_yX5_with rfl rfl (by decide +kernel) ⟨Nat.le_of_ble_eq_true rfl, Nat.le_of_ble_eq_true rfl⟩ ⟨Nat.le_of_ble_eq_true rfl, Nat.le_of_ble_eq_true rfl⟩ rfl hl.1 (Nat.le_of_ble_eq_true rfl) rfl dL_with_4) hS B [] (te (0, 9, 12, 23)) [te (0, 9, 15, 32)] (tab.trans rfl) (fun z hz => by cases hz) (by decide) (by decide) (by decide) wk_RL_23 (fun ad2 q9 H locs hae hM hS hz hk9 => ?_)
      have hO := hO.kept (hk9 _ hO.lt ho)
      refine lv_astore_n (lv' := [(3, .ref q9), (0, .ref (ad 0 0)), (1, .int x1), (2, .ref o)]) hx hb dL_with_12 rfl hl (by decide) rfl (fun ls hl => ?_)
      refine lv_iconst (v := 1) hx hb dL_with_13 (by decide) ?_
      exact xl_end B hae hM hO (xl_wide hS) (Nat.le_of_ble_eq_true rfl) (Nat.le_of_ble_eq_true rfl) rfl dL_with_14
    · refine xl_of (hh := [(0, 9, 12, 23), (0, 9, 15, 32)]) (by decide +kernel) rfl (Nat.le_of_ble_eq_true rfl) fun p e s m below meth c ls B tab hM hO ho hS hl => ?_
      have ⟨⟨hx, hb, hr, hml, hown, hT, hlocks, hK⟩, hST, hNC, hA⟩ := B
      have hl : lv_has ls 4 [(0, .ref (ad 0 0)), (1, .int x1), (2, .ref o)] := hl
      refine lv_aload_n hx hb dL_with_0 rfl (lv_at hl 2 rfl) ?_
      refine lv_iconst (v := 0) hx hb dL_with_1 (by decide) ?_
      refine lv_aload_n hx hb dL_with_2 rfl (lv_at hl 0 rfl) ?_
      refine lv_iload_n hx hb dL_with_3 rfl (lv_at hl 1 rfl) ?_
      refine xl_thr (xl_run B hM hS [.int x1] (n := 1) (xe_met (c_X5_with hll h)) wm_RL_96 wi_yX5_with ws_yX5_with wn_RX5 wc_yX5_with rfl rfl (by decide +kernel) ⟨Nat.le_of_ble_eq_true rfl, Nat.le_of_ble_eq_true rfl⟩ ⟨Nat.le_of_ble_eq_true rfl, Nat.le_of_ble_eq_true rfl⟩ rfl hl.1 (Nat.le_of_ble_eq_true rfl) rfl dL_with_4) hS B [te (0, 9, 12, 23)] (te (0, 9, 15, 32)) [] (tab.trans rfl) (List.forall_mem_cons.mpr ⟨⟨by decide, 3, by decide, by decide, wk_RL_23⟩, fun z hz => by cases hz⟩) (by decide) (by decide) (by decide) wk_RL_32 (fun ad2 q9 H locs hae hM hS hz hk9 => ?_)
      have hO := hO.kept (hk9 _ hO.lt ho)
      refine lv_astore_n (lv' := [(3, .ref q9), (0, .ref (ad 0 0)), (1, .int x1), (2, .ref o)]) hx hb dL_with_15 rfl hl (by decide) rfl (fun ls hl => ?_)
      refine lv_iconst (v := 2) hx hb dL_with_16 (by decide) ?_
      exact xl_end B hae hM hO (xl_wide hS) (Nat.le_of_ble_eq_true rfl) (Nat.le_of_ble_eq_true rfl) rfl dL_with_17
  | inr x =>
    clear hL
    refine xl_of (hh := [(0, 9, 12, 23), (0, 9, 15, 32)]) (by decide +kernel) rfl (Nat.le_of_ble_eq_true rfl) fun p e s m below meth c ls B tab hM hO ho hS hl => ?_
    have ⟨⟨hx, hb, hr, hml, hown, hT, hlocks, hK⟩, hST, hNC, hA⟩ := B
    have hl : lv_has ls 4 [(0, .ref (ad 0 0)), (1, .int x1), (2, .ref o)] := hl
    refine lv_aload_n hx hb dL_with_0 rfl (lv_at hl 2 rfl) ?_
    refine lv_iconst (v := 0) hx hb dL_with_1 (by decide) ?_
    refine lv_aload_n hx hb dL_with_2 rfl (lv_at hl 0 rfl) ?_
    refine lv_iload_n hx hb dL_with_3 rfl (lv_at hl 1 rfl) ?_
    refine xl_ret (xl_run B hM hS [.int x1] (n := 1) (xe_met (c_X5_with hll h)) wm_RL_96 wi_yX5_with ws_yX5_with wn_RX5 wc_yX5_with rfl rfl (by decide +kernel) ⟨Nat.le_of_ble_eq_true rfl, Nat.le_of_ble_eq_true rfl⟩ ⟨Nat.le_of_ble_eq_true rfl, Nat.le_of_ble_eq_true rfl⟩ rfl hl.1 (Nat.le_of_ble_eq_true rfl) rfl dL_with_4) hS (fun ad2 H locs hae hM hS hz hk9 => ?_)
    have hO := hO.kept (hk9 _ hO.lt ho)
    refine lv_i2l hx hb dL_with_7 rfl ?_
    refine xl_last B hM hS ho hO dL_with_8 (fun H locs hM hO hS => ?_)
    refine lv_goto (tgt := 18) hx hb dL_with_9 (by decide) ?_
    refine lv_iconst (v := 0) hx hb dL_with_18 (by decide) ?_
    exact xl_end B hae hM hO hS (Nat.le_of_ble_eq_true rfl) (Nat.le_of_ble_eq_true rfl) rfl dL_with_19
set_option maxHeartbeats 4000000 in
set_option maxRecDepth 100000 in
theorem c_L_note {l : Launch} (hll : l.stackTraces = false) {G : GG} {A : Nat → Prop} {ad : AD} {st : XS} {x1 : Int32} {r : Nat ⊕ Int32} {st' : XS} {o : Nat} {f : Nat → Int64} (h : f_X5_note st x1 = some (r, st')) (hL : ∀ k, r = .inl k → k ∈ [3, 1, 2]) : Met l yL_note (Cond.codeWith yL_note cL_note 4 (some .int) [(0, 9, 12, 23), (0, 9, 15, 15), (0, 9, 18, 17)] :: TG) { frames := 9, cells := 4, slots := 115, locals := 422 } (PWr G A ad st o (.inl (G.2 3, 1, .inr (.inl f))) [.ref (ad 0 0), .int x1, .ref o]) (QWr G A ad (lwc [3, 1, 2] r) st' o (.inl (G.2 3, 1, .inr (.inl (louI f r))))) 4 115 (fun q => A q ∨ q = o) := by
  cases r with
  | inl k =>
    have hk := hL k rfl
    clear hL
    simp only [List.mem_cons, List.not_mem_nil, or_false] at hk
    rcases hk with rfl | rfl | rfl
    · refine xl_of (hh := [(0, 9, 12, 23), (0, 9, 15, 15), (0, 9, 18, 17)]) (by decide +kernel) rfl (Nat.le_of_ble_eq_true rfl) fun p e s m below meth c ls B tab hM hO ho hS hl => ?_
      have ⟨⟨hx, hb, hr, hml, hown, hT, hlocks, hK⟩, hST, hNC, hA⟩ := B
      have hl : lv_has ls 4 [(0, .ref (ad 0 0)), (1, .int x1), (2, .ref o)] := hl
      refine lv_aload_n hx hb dL_note_0 rfl (lv_at hl 2 rfl) ?_
      refine lv_iconst (v := 0) hx hb dL_note_1 (by decide) ?_
      refine lv_aload_n hx hb dL_note_2 rfl (lv_at hl 0 rfl) ?_
      refine lv_iload_n hx hb dL_note_3 rfl (lv_at hl 1 rfl) ?_
      refine xl_thr (xl_run B hM hS [.int x1] (n := 1) (c_X5_note hll h) wm_RL_99 wi_yX5_note ws_yX5_note wn_RX5 wc_yX5_note rfl rfl (by decide +kernel) ⟨Nat.le_of_ble_eq_true rfl, Nat.le_of_ble_eq_true rfl⟩ ⟨Nat.le_of_ble_eq_true rfl, Nat.le_of_ble_eq_true rfl⟩ rfl hl.1 (Nat.le_of_ble_eq_true rfl) rfl dL_note_4) hS B [] (te (0, 9, 12, 23)) [te (0, 9, 15, 15), te (0, 9, 18, 17)] (tab.trans rfl) (fun z hz => by cases hz) (by decide) (by decide) (by decide) wk_RL_23 (fun ad2 q9 H locs hae hM hS hz hk9 => ?_)
      have hO := hO.kept (hk9 _ hO.lt ho)
      refine lv_astore_n (lv' := [(3, .ref q9), (0, .ref (ad 0 0)), (1, .int x1), (2, .ref o)]) hx hb dL_note_12 rfl hl (by decide) rfl (fun ls hl => ?_)
      refine lv_iconst (v := 1) hx hb dL_note_13 (by decide) ?_
      exact xl_end B hae hM hO (xl_wide hS) (Nat.le_of_ble_eq_true rfl) (Nat.le_of_ble_eq_true rfl) rfl dL_note_14
    · refine xl_of (hh := [(0, 9, 12, 23), (0, 9, 15, 15), (0, 9, 18, 17)]) (by decide +kernel) rfl (Nat.le_of_ble_eq_true rfl) fun p e s m below meth c ls B tab hM hO ho hS hl => ?_
      have ⟨⟨hx, hb, hr, hml, hown, hT, hlocks, hK⟩, hST, hNC, hA⟩ := B
      have hl : lv_has ls 4 [(0, .ref (ad 0 0)), (1, .int x1), (2, .ref o)] := hl
      refine lv_aload_n hx hb dL_note_0 rfl (lv_at hl 2 rfl) ?_
      refine lv_iconst (v := 0) hx hb dL_note_1 (by decide) ?_
      refine lv_aload_n hx hb dL_note_2 rfl (lv_at hl 0 rfl) ?_
      refine lv_iload_n hx hb dL_note_3 rfl (lv_at hl 1 rfl) ?_
      refine xl_thr (xl_run B hM hS [.int x1] (n := 1) (c_X5_note hll h) wm_RL_99 wi_yX5_note ws_yX5_note wn_RX5 wc_yX5_note rfl rfl (by decide +kernel) ⟨Nat.le_of_ble_eq_true rfl, Nat.le_of_ble_eq_true rfl⟩ ⟨Nat.le_of_ble_eq_true rfl, Nat.le_of_ble_eq_true rfl⟩ rfl hl.1 (Nat.le_of_ble_eq_true rfl) rfl dL_note_4) hS B [te (0, 9, 12, 23)] (te (0, 9, 15, 15)) [te (0, 9, 18, 17)] (tab.trans rfl) (List.forall_mem_cons.mpr ⟨⟨by decide, 3, by decide, by decide, wk_RL_23⟩, fun z hz => by cases hz⟩) (by decide) (by decide) (by decide) wk_RL_15 (fun ad2 q9 H locs hae hM hS hz hk9 => ?_)
      have hO := hO.kept (hk9 _ hO.lt ho)
      refine lv_astore_n (lv' := [(3, .ref q9), (0, .ref (ad 0 0)), (1, .int x1), (2, .ref o)]) hx hb dL_note_15 rfl hl (by decide) rfl (fun ls hl => ?_)
      refine lv_iconst (v := 2) hx hb dL_note_16 (by decide) ?_
      exact xl_end B hae hM hO (xl_wide hS) (Nat.le_of_ble_eq_true rfl) (Nat.le_of_ble_eq_true rfl) rfl dL_note_17
    · refine xl_of (hh := [(0, 9, 12, 23), (0, 9, 15, 15), (0, 9, 18, 17)]) (by decide +kernel) rfl (Nat.le_of_ble_eq_true rfl) fun p e s m below meth c ls B tab hM hO ho hS hl => ?_
      have ⟨⟨hx, hb, hr, hml, hown, hT, hlocks, hK⟩, hST, hNC, hA⟩ := B
      have hl : lv_has ls 4 [(0, .ref (ad 0 0)), (1, .int x1), (2, .ref o)] := hl
      refine lv_aload_n hx hb dL_note_0 rfl (lv_at hl 2 rfl) ?_
      refine lv_iconst (v := 0) hx hb dL_note_1 (by decide) ?_
      refine lv_aload_n hx hb dL_note_2 rfl (lv_at hl 0 rfl) ?_
      refine lv_iload_n hx hb dL_note_3 rfl (lv_at hl 1 rfl) ?_
      refine xl_thr (xl_run B hM hS [.int x1] (n := 1) (c_X5_note hll h) wm_RL_99 wi_yX5_note ws_yX5_note wn_RX5 wc_yX5_note rfl rfl (by decide +kernel) ⟨Nat.le_of_ble_eq_true rfl, Nat.le_of_ble_eq_true rfl⟩ ⟨Nat.le_of_ble_eq_true rfl, Nat.le_of_ble_eq_true rfl⟩ rfl hl.1 (Nat.le_of_ble_eq_true rfl) rfl dL_note_4) hS B [te (0, 9, 12, 23), te (0, 9, 15, 15)] (te (0, 9, 18, 17)) [] (tab.trans rfl) (List.forall_mem_cons.mpr ⟨⟨by decide, 3, by decide, by decide, wk_RL_23⟩, List.forall_mem_cons.mpr ⟨⟨by decide, 1, by decide, by decide, wk_RL_15⟩, fun z hz => by cases hz⟩⟩) (by decide) (by decide) (by decide) wk_RL_17 (fun ad2 q9 H locs hae hM hS hz hk9 => ?_)
      have hO := hO.kept (hk9 _ hO.lt ho)
      refine lv_astore_n (lv' := [(3, .ref q9), (0, .ref (ad 0 0)), (1, .int x1), (2, .ref o)]) hx hb dL_note_18 rfl hl (by decide) rfl (fun ls hl => ?_)
      refine lv_iconst (v := 3) hx hb dL_note_19 (by decide) ?_
      exact xl_end B hae hM hO (xl_wide hS) (Nat.le_of_ble_eq_true rfl) (Nat.le_of_ble_eq_true rfl) rfl dL_note_20
  | inr x =>
    clear hL
    refine xl_of (hh := [(0, 9, 12, 23), (0, 9, 15, 15), (0, 9, 18, 17)]) (by decide +kernel) rfl (Nat.le_of_ble_eq_true rfl) fun p e s m below meth c ls B tab hM hO ho hS hl => ?_
    have ⟨⟨hx, hb, hr, hml, hown, hT, hlocks, hK⟩, hST, hNC, hA⟩ := B
    have hl : lv_has ls 4 [(0, .ref (ad 0 0)), (1, .int x1), (2, .ref o)] := hl
    refine lv_aload_n hx hb dL_note_0 rfl (lv_at hl 2 rfl) ?_
    refine lv_iconst (v := 0) hx hb dL_note_1 (by decide) ?_
    refine lv_aload_n hx hb dL_note_2 rfl (lv_at hl 0 rfl) ?_
    refine lv_iload_n hx hb dL_note_3 rfl (lv_at hl 1 rfl) ?_
    refine xl_ret (xl_run B hM hS [.int x1] (n := 1) (c_X5_note hll h) wm_RL_99 wi_yX5_note ws_yX5_note wn_RX5 wc_yX5_note rfl rfl (by decide +kernel) ⟨Nat.le_of_ble_eq_true rfl, Nat.le_of_ble_eq_true rfl⟩ ⟨Nat.le_of_ble_eq_true rfl, Nat.le_of_ble_eq_true rfl⟩ rfl hl.1 (Nat.le_of_ble_eq_true rfl) rfl dL_note_4) hS (fun ad2 H locs hae hM hS hz hk9 => ?_)
    have hO := hO.kept (hk9 _ hO.lt ho)
    refine lv_i2l hx hb dL_note_7 rfl ?_
    refine xl_last B hM hS ho hO dL_note_8 (fun H locs hM hO hS => ?_)
    refine lv_goto (tgt := 21) hx hb dL_note_9 (by decide) ?_
    refine lv_iconst (v := 0) hx hb dL_note_21 (by decide) ?_
    exact xl_end B hae hM hO hS (Nat.le_of_ble_eq_true rfl) (Nat.le_of_ble_eq_true rfl) rfl dL_note_22
set_option maxHeartbeats 4000000 in
set_option maxRecDepth 100000 in
theorem c_L_noteIs {l : Launch} (hll : l.stackTraces = false) {G : GG} {A : Nat → Prop} {ad : AD} {st : XS} {x1 : Int32} {r : Nat ⊕ Int32} {st' : XS} {o : Nat} {f : Nat → Int64} (h : f_X5_noteIs st x1 = some (r, st')) (hL : ∀ k, r = .inl k → k ∈ [3]) : Met l yL_noteIs (Cond.codeWith yL_noteIs cL_noteIs 4 (some .int) [(0, 9, 12, 23)] :: TG) { frames := 8, cells := 1, slots := 6, locals := 142 } (PWr G A ad st o (.inl (G.2 3, 1, .inr (.inl f))) [.ref (ad 0 0), .int x1, .ref o]) (QWr G A ad (lwc [3] r) st' o (.inl (G.2 3, 1, .inr (.inl (louI f r))))) 1 6 (fun q => A q ∨ q = o) := by
  cases r with
  | inl k =>
    have hk := hL k rfl
    clear hL
    simp only [List.mem_cons, List.not_mem_nil, or_false] at hk
    rcases hk with rfl
    · refine xl_of (hh := [(0, 9, 12, 23)]) (by decide +kernel) rfl (Nat.le_of_ble_eq_true rfl) fun p e s m below meth c ls B tab hM hO ho hS hl => ?_
      have ⟨⟨hx, hb, hr, hml, hown, hT, hlocks, hK⟩, hST, hNC, hA⟩ := B
      have hl : lv_has ls 4 [(0, .ref (ad 0 0)), (1, .int x1), (2, .ref o)] := hl
      refine lv_aload_n hx hb dL_noteIs_0 rfl (lv_at hl 2 rfl) ?_
      refine lv_iconst (v := 0) hx hb dL_noteIs_1 (by decide) ?_
      refine lv_aload_n hx hb dL_noteIs_2 rfl (lv_at hl 0 rfl) ?_
      refine lv_iload_n hx hb dL_noteIs_3 rfl (lv_at hl 1 rfl) ?_
      refine xl_thr (xl_run B hM hS [.int x1] (n := 1) (xe_met (c_X5_noteIs hll h)) wm_RL_102 wi_yX5_noteIs ws_yX5_noteIs wn_RX5 wc_yX5_noteIs rfl rfl (by decide +kernel) ⟨Nat.le_of_ble_eq_true rfl, Nat.le_of_ble_eq_true rfl⟩ ⟨Nat.le_of_ble_eq_true rfl, Nat.le_of_ble_eq_true rfl⟩ rfl hl.1 (Nat.le_of_ble_eq_true rfl) rfl dL_noteIs_4) hS B [] (te (0, 9, 12, 23)) [] (tab.trans rfl) (fun z hz => by cases hz) (by decide) (by decide) (by decide) wk_RL_23 (fun ad2 q9 H locs hae hM hS hz hk9 => ?_)
      have hO := hO.kept (hk9 _ hO.lt ho)
      refine lv_astore_n (lv' := [(3, .ref q9), (0, .ref (ad 0 0)), (1, .int x1), (2, .ref o)]) hx hb dL_noteIs_12 rfl hl (by decide) rfl (fun ls hl => ?_)
      refine lv_iconst (v := 1) hx hb dL_noteIs_13 (by decide) ?_
      exact xl_end B hae hM hO (xl_wide hS) (Nat.le_of_ble_eq_true rfl) (Nat.le_of_ble_eq_true rfl) rfl dL_noteIs_14
  | inr x =>
    clear hL
    refine xl_of (hh := [(0, 9, 12, 23)]) (by decide +kernel) rfl (Nat.le_of_ble_eq_true rfl) fun p e s m below meth c ls B tab hM hO ho hS hl => ?_
    have ⟨⟨hx, hb, hr, hml, hown, hT, hlocks, hK⟩, hST, hNC, hA⟩ := B
    have hl : lv_has ls 4 [(0, .ref (ad 0 0)), (1, .int x1), (2, .ref o)] := hl
    refine lv_aload_n hx hb dL_noteIs_0 rfl (lv_at hl 2 rfl) ?_
    refine lv_iconst (v := 0) hx hb dL_noteIs_1 (by decide) ?_
    refine lv_aload_n hx hb dL_noteIs_2 rfl (lv_at hl 0 rfl) ?_
    refine lv_iload_n hx hb dL_noteIs_3 rfl (lv_at hl 1 rfl) ?_
    refine xl_ret (xl_run B hM hS [.int x1] (n := 1) (xe_met (c_X5_noteIs hll h)) wm_RL_102 wi_yX5_noteIs ws_yX5_noteIs wn_RX5 wc_yX5_noteIs rfl rfl (by decide +kernel) ⟨Nat.le_of_ble_eq_true rfl, Nat.le_of_ble_eq_true rfl⟩ ⟨Nat.le_of_ble_eq_true rfl, Nat.le_of_ble_eq_true rfl⟩ rfl hl.1 (Nat.le_of_ble_eq_true rfl) rfl dL_noteIs_4) hS (fun ad2 H locs hae hM hS hz hk9 => ?_)
    have hO := hO.kept (hk9 _ hO.lt ho)
    refine lv_i2l hx hb dL_noteIs_7 rfl ?_
    refine xl_last B hM hS ho hO dL_noteIs_8 (fun H locs hM hO hS => ?_)
    refine lv_goto (tgt := 15) hx hb dL_noteIs_9 (by decide) ?_
    refine lv_iconst (v := 0) hx hb dL_noteIs_15 (by decide) ?_
    exact xl_end B hae hM hO hS (Nat.le_of_ble_eq_true rfl) (Nat.le_of_ble_eq_true rfl) rfl dL_noteIs_16
set_option maxHeartbeats 4000000 in
set_option maxRecDepth 100000 in
theorem c_L_close {l : Launch} (hll : l.stackTraces = false) {G : GG} {A : Nat → Prop} {ad : AD} {st : XS} {x1 : Int32} {x2 : Int32} {r : Nat ⊕ Int32} {st' : XS} {o : Nat} {f : Nat → Int64} (h : f_X5_close st x1 x2 = some (r, st')) (hL : ∀ k, r = .inl k → k ∈ [3, 1]) : Met l yL_close (Cond.codeWith yL_close cL_close 5 (some .int) [(0, 17, 20, 23), (0, 17, 24, 15)] :: TG) { frames := 8, cells := 2, slots := 12, locals := 144 } (PWr G A ad st o (.inl (G.2 3, 1, .inr (.inl f))) [.ref (ad 0 0), .int x1, .int x2, .ref o]) (QWr G A ad (lwc [3, 1] r) st' o (.inl (G.2 3, 1, .inr (.inl (louZ f r))))) 2 12 (fun q => A q ∨ q = o) := by
  cases r with
  | inl k =>
    have hk := hL k rfl
    clear hL
    simp only [List.mem_cons, List.not_mem_nil, or_false] at hk
    rcases hk with rfl | rfl
    · refine xl_of (hh := [(0, 17, 20, 23), (0, 17, 24, 15)]) (by decide +kernel) rfl (Nat.le_of_ble_eq_true rfl) fun p e s m below meth c ls B tab hM hO ho hS hl => ?_
      have ⟨⟨hx, hb, hr, hml, hown, hT, hlocks, hK⟩, hST, hNC, hA⟩ := B
      have hl : lv_has ls 5 [(0, .ref (ad 0 0)), (1, .int x1), (2, .int x2), (3, .ref o)] := hl
      refine lv_aload_n hx hb dL_close_0 rfl (lv_at hl 3 rfl) ?_
      refine lv_iconst (v := 0) hx hb dL_close_1 (by decide) ?_
      refine lv_aload_n hx hb dL_close_2 rfl (lv_at hl 0 rfl) ?_
      refine lv_iload_n hx hb dL_close_3 rfl (lv_at hl 1 rfl) ?_
      refine lv_iload_n hx hb dL_close_4 rfl (lv_at hl 2 rfl) ?_
      refine xl_thr (xl_run B hM hS [.int x1, .int x2] (n := 2) (xe_met (c_X5_close hll h)) wm_RL_105 wi_yX5_close ws_yX5_close wn_RX5 wc_yX5_close rfl rfl (by decide +kernel) ⟨Nat.le_of_ble_eq_true rfl, Nat.le_of_ble_eq_true rfl⟩ ⟨Nat.le_of_ble_eq_true rfl, Nat.le_of_ble_eq_true rfl⟩ rfl hl.1 (Nat.le_of_ble_eq_true rfl) rfl dL_close_5) hS B [] (te (0, 17, 20, 23)) [te (0, 17, 24, 15)] (tab.trans rfl) (fun z hz => by cases hz) (by decide) (by decide) (by decide) wk_RL_23 (fun ad2 q9 H locs hae hM hS hz hk9 => ?_)
      have hO := hO.kept (hk9 _ hO.lt ho)
      refine lv_astore (lv' := [(4, .ref q9), (0, .ref (ad 0 0)), (1, .int x1), (2, .int x2), (3, .ref o)]) hx hb dL_close_20 hl (by decide) rfl (fun ls hl => ?_)
      refine lv_iconst (v := 1) hx hb dL_close_22 (by decide) ?_
      exact xl_end B hae hM hO (xl_wide hS) (Nat.le_of_ble_eq_true rfl) (Nat.le_of_ble_eq_true rfl) rfl dL_close_23
    · refine xl_of (hh := [(0, 17, 20, 23), (0, 17, 24, 15)]) (by decide +kernel) rfl (Nat.le_of_ble_eq_true rfl) fun p e s m below meth c ls B tab hM hO ho hS hl => ?_
      have ⟨⟨hx, hb, hr, hml, hown, hT, hlocks, hK⟩, hST, hNC, hA⟩ := B
      have hl : lv_has ls 5 [(0, .ref (ad 0 0)), (1, .int x1), (2, .int x2), (3, .ref o)] := hl
      refine lv_aload_n hx hb dL_close_0 rfl (lv_at hl 3 rfl) ?_
      refine lv_iconst (v := 0) hx hb dL_close_1 (by decide) ?_
      refine lv_aload_n hx hb dL_close_2 rfl (lv_at hl 0 rfl) ?_
      refine lv_iload_n hx hb dL_close_3 rfl (lv_at hl 1 rfl) ?_
      refine lv_iload_n hx hb dL_close_4 rfl (lv_at hl 2 rfl) ?_
      refine xl_thr (xl_run B hM hS [.int x1, .int x2] (n := 2) (xe_met (c_X5_close hll h)) wm_RL_105 wi_yX5_close ws_yX5_close wn_RX5 wc_yX5_close rfl rfl (by decide +kernel) ⟨Nat.le_of_ble_eq_true rfl, Nat.le_of_ble_eq_true rfl⟩ ⟨Nat.le_of_ble_eq_true rfl, Nat.le_of_ble_eq_true rfl⟩ rfl hl.1 (Nat.le_of_ble_eq_true rfl) rfl dL_close_5) hS B [te (0, 17, 20, 23)] (te (0, 17, 24, 15)) [] (tab.trans rfl) (List.forall_mem_cons.mpr ⟨⟨by decide, 3, by decide, by decide, wk_RL_23⟩, fun z hz => by cases hz⟩) (by decide) (by decide) (by decide) wk_RL_15 (fun ad2 q9 H locs hae hM hS hz hk9 => ?_)
      have hO := hO.kept (hk9 _ hO.lt ho)
      refine lv_astore (lv' := [(4, .ref q9), (0, .ref (ad 0 0)), (1, .int x1), (2, .int x2), (3, .ref o)]) hx hb dL_close_24 hl (by decide) rfl (fun ls hl => ?_)
      refine lv_iconst (v := 2) hx hb dL_close_26 (by decide) ?_
      exact xl_end B hae hM hO (xl_wide hS) (Nat.le_of_ble_eq_true rfl) (Nat.le_of_ble_eq_true rfl) rfl dL_close_27
  | inr x =>
    clear hL
    by_cases hc9 : x = 0
    · refine xl_of (hh := [(0, 17, 20, 23), (0, 17, 24, 15)]) (by decide +kernel) rfl (Nat.le_of_ble_eq_true rfl) fun p e s m below meth c ls B tab hM hO ho hS hl => ?_
      have ⟨⟨hx, hb, hr, hml, hown, hT, hlocks, hK⟩, hST, hNC, hA⟩ := B
      have hl : lv_has ls 5 [(0, .ref (ad 0 0)), (1, .int x1), (2, .int x2), (3, .ref o)] := hl
      refine lv_aload_n hx hb dL_close_0 rfl (lv_at hl 3 rfl) ?_
      refine lv_iconst (v := 0) hx hb dL_close_1 (by decide) ?_
      refine lv_aload_n hx hb dL_close_2 rfl (lv_at hl 0 rfl) ?_
      refine lv_iload_n hx hb dL_close_3 rfl (lv_at hl 1 rfl) ?_
      refine lv_iload_n hx hb dL_close_4 rfl (lv_at hl 2 rfl) ?_
      refine xl_ret (xl_run B hM hS [.int x1, .int x2] (n := 2) (xe_met (c_X5_close hll h)) wm_RL_105 wi_yX5_close ws_yX5_close wn_RX5 wc_yX5_close rfl rfl (by decide +kernel) ⟨Nat.le_of_ble_eq_true rfl, Nat.le_of_ble_eq_true rfl⟩ ⟨Nat.le_of_ble_eq_true rfl, Nat.le_of_ble_eq_true rfl⟩ rfl hl.1 (Nat.le_of_ble_eq_true rfl) rfl dL_close_5) hS (fun ad2 H locs hae hM hS hz hk9 => ?_)
      have hO := hO.kept (hk9 _ hO.lt ho)
      refine lv_if_eq (tgt := 15) hx hb dL_close_8 (by decide) (fun c1 => ?_) (fun c1 => absurd hc9 c1)
      refine lv_lconst (v := 0) hx hb dL_close_15 (by decide) ?_
      refine xl_last B hM hS ho hO dL_close_16 (fun H locs hM hO hS => ?_)
      refine lv_goto (tgt := 28) hx hb dL_close_17 (by decide) ?_
      refine lv_iconst (v := 0) hx hb dL_close_28 (by decide) ?_
      exact xl_end B hae hM (by rw [louZ_0 hc9]; exact hO) hS (Nat.le_of_ble_eq_true rfl) (Nat.le_of_ble_eq_true rfl) rfl dL_close_29
    · refine xl_of (hh := [(0, 17, 20, 23), (0, 17, 24, 15)]) (by decide +kernel) rfl (Nat.le_of_ble_eq_true rfl) fun p e s m below meth c ls B tab hM hO ho hS hl => ?_
      have ⟨⟨hx, hb, hr, hml, hown, hT, hlocks, hK⟩, hST, hNC, hA⟩ := B
      have hl : lv_has ls 5 [(0, .ref (ad 0 0)), (1, .int x1), (2, .int x2), (3, .ref o)] := hl
      refine lv_aload_n hx hb dL_close_0 rfl (lv_at hl 3 rfl) ?_
      refine lv_iconst (v := 0) hx hb dL_close_1 (by decide) ?_
      refine lv_aload_n hx hb dL_close_2 rfl (lv_at hl 0 rfl) ?_
      refine lv_iload_n hx hb dL_close_3 rfl (lv_at hl 1 rfl) ?_
      refine lv_iload_n hx hb dL_close_4 rfl (lv_at hl 2 rfl) ?_
      refine xl_ret (xl_run B hM hS [.int x1, .int x2] (n := 2) (xe_met (c_X5_close hll h)) wm_RL_105 wi_yX5_close ws_yX5_close wn_RX5 wc_yX5_close rfl rfl (by decide +kernel) ⟨Nat.le_of_ble_eq_true rfl, Nat.le_of_ble_eq_true rfl⟩ ⟨Nat.le_of_ble_eq_true rfl, Nat.le_of_ble_eq_true rfl⟩ rfl hl.1 (Nat.le_of_ble_eq_true rfl) rfl dL_close_5) hS (fun ad2 H locs hae hM hS hz hk9 => ?_)
      have hO := hO.kept (hk9 _ hO.lt ho)
      refine lv_if_eq (tgt := 15) hx hb dL_close_8 (by decide) (fun c1 => absurd c1 hc9) (fun c1 => ?_)
      refine lv_lconst (v := 1) hx hb dL_close_11 (by decide) ?_
      refine lv_goto (tgt := 16) hx hb dL_close_12 (by decide) ?_
      refine xl_last B hM hS ho hO dL_close_16 (fun H locs hM hO hS => ?_)
      refine lv_goto (tgt := 28) hx hb dL_close_17 (by decide) ?_
      refine lv_iconst (v := 0) hx hb dL_close_28 (by decide) ?_
      exact xl_end B hae hM (by rw [louZ_1 hc9]; exact hO) hS (Nat.le_of_ble_eq_true rfl) (Nat.le_of_ble_eq_true rfl) rfl dL_close_29
set_option maxHeartbeats 4000000 in
set_option maxRecDepth 100000 in
theorem c_L_renew {l : Launch} (hll : l.stackTraces = false) {G : GG} {A : Nat → Prop} {ad : AD} {st : XS} {x1 : Int32} {r : Nat ⊕ Int32} {st' : XS} {o : Nat} {f : Nat → Int64} (h : f_X5_renew st x1 = some (r, st')) (hL : ∀ k, r = .inl k → k ∈ [3, 1]) : Met l yL_renew (Cond.codeWith yL_renew cL_renew 4 (some .int) [(0, 9, 12, 23), (0, 9, 15, 15)] :: TG) { frames := 9, cells := 2, slots := 12, locals := 165 } (PWr G A ad st o (.inl (G.2 3, 1, .inr (.inl f))) [.ref (ad 0 0), .int x1, .ref o]) (QWr G A ad (lwc [3, 1] r) st' o (.inl (G.2 3, 1, .inr (.inl (louI f r))))) 2 12 (fun q => A q ∨ q = o) := by
  cases r with
  | inl k =>
    have hk := hL k rfl
    clear hL
    simp only [List.mem_cons, List.not_mem_nil, or_false] at hk
    rcases hk with rfl | rfl
    · refine xl_of (hh := [(0, 9, 12, 23), (0, 9, 15, 15)]) (by decide +kernel) rfl (Nat.le_of_ble_eq_true rfl) fun p e s m below meth c ls B tab hM hO ho hS hl => ?_
      have ⟨⟨hx, hb, hr, hml, hown, hT, hlocks, hK⟩, hST, hNC, hA⟩ := B
      have hl : lv_has ls 4 [(0, .ref (ad 0 0)), (1, .int x1), (2, .ref o)] := hl
      refine lv_aload_n hx hb dL_renew_0 rfl (lv_at hl 2 rfl) ?_
      refine lv_iconst (v := 0) hx hb dL_renew_1 (by decide) ?_
      refine lv_aload_n hx hb dL_renew_2 rfl (lv_at hl 0 rfl) ?_
      refine lv_iload_n hx hb dL_renew_3 rfl (lv_at hl 1 rfl) ?_
      refine xl_thr (xl_run B hM hS [.int x1] (n := 1) (xe_met (c_X5_renew hll h)) wm_RL_109 wi_yX5_renew ws_yX5_renew wn_RX5 wc_yX5_renew rfl rfl (by decide +kernel) ⟨Nat.le_of_ble_eq_true rfl, Nat.le_of_ble_eq_true rfl⟩ ⟨Nat.le_of_ble_eq_true rfl, Nat.le_of_ble_eq_true rfl⟩ rfl hl.1 (Nat.le_of_ble_eq_true rfl) rfl dL_renew_4) hS B [] (te (0, 9, 12, 23)) [te (0, 9, 15, 15)] (tab.trans rfl) (fun z hz => by cases hz) (by decide) (by decide) (by decide) wk_RL_23 (fun ad2 q9 H locs hae hM hS hz hk9 => ?_)
      have hO := hO.kept (hk9 _ hO.lt ho)
      refine lv_astore_n (lv' := [(3, .ref q9), (0, .ref (ad 0 0)), (1, .int x1), (2, .ref o)]) hx hb dL_renew_12 rfl hl (by decide) rfl (fun ls hl => ?_)
      refine lv_iconst (v := 1) hx hb dL_renew_13 (by decide) ?_
      exact xl_end B hae hM hO (xl_wide hS) (Nat.le_of_ble_eq_true rfl) (Nat.le_of_ble_eq_true rfl) rfl dL_renew_14
    · refine xl_of (hh := [(0, 9, 12, 23), (0, 9, 15, 15)]) (by decide +kernel) rfl (Nat.le_of_ble_eq_true rfl) fun p e s m below meth c ls B tab hM hO ho hS hl => ?_
      have ⟨⟨hx, hb, hr, hml, hown, hT, hlocks, hK⟩, hST, hNC, hA⟩ := B
      have hl : lv_has ls 4 [(0, .ref (ad 0 0)), (1, .int x1), (2, .ref o)] := hl
      refine lv_aload_n hx hb dL_renew_0 rfl (lv_at hl 2 rfl) ?_
      refine lv_iconst (v := 0) hx hb dL_renew_1 (by decide) ?_
      refine lv_aload_n hx hb dL_renew_2 rfl (lv_at hl 0 rfl) ?_
      refine lv_iload_n hx hb dL_renew_3 rfl (lv_at hl 1 rfl) ?_
      refine xl_thr (xl_run B hM hS [.int x1] (n := 1) (xe_met (c_X5_renew hll h)) wm_RL_109 wi_yX5_renew ws_yX5_renew wn_RX5 wc_yX5_renew rfl rfl (by decide +kernel) ⟨Nat.le_of_ble_eq_true rfl, Nat.le_of_ble_eq_true rfl⟩ ⟨Nat.le_of_ble_eq_true rfl, Nat.le_of_ble_eq_true rfl⟩ rfl hl.1 (Nat.le_of_ble_eq_true rfl) rfl dL_renew_4) hS B [te (0, 9, 12, 23)] (te (0, 9, 15, 15)) [] (tab.trans rfl) (List.forall_mem_cons.mpr ⟨⟨by decide, 3, by decide, by decide, wk_RL_23⟩, fun z hz => by cases hz⟩) (by decide) (by decide) (by decide) wk_RL_15 (fun ad2 q9 H locs hae hM hS hz hk9 => ?_)
      have hO := hO.kept (hk9 _ hO.lt ho)
      refine lv_astore_n (lv' := [(3, .ref q9), (0, .ref (ad 0 0)), (1, .int x1), (2, .ref o)]) hx hb dL_renew_15 rfl hl (by decide) rfl (fun ls hl => ?_)
      refine lv_iconst (v := 2) hx hb dL_renew_16 (by decide) ?_
      exact xl_end B hae hM hO (xl_wide hS) (Nat.le_of_ble_eq_true rfl) (Nat.le_of_ble_eq_true rfl) rfl dL_renew_17
  | inr x =>
    clear hL
    refine xl_of (hh := [(0, 9, 12, 23), (0, 9, 15, 15)]) (by decide +kernel) rfl (Nat.le_of_ble_eq_true rfl) fun p e s m below meth c ls B tab hM hO ho hS hl => ?_
    have ⟨⟨hx, hb, hr, hml, hown, hT, hlocks, hK⟩, hST, hNC, hA⟩ := B
    have hl : lv_has ls 4 [(0, .ref (ad 0 0)), (1, .int x1), (2, .ref o)] := hl
    refine lv_aload_n hx hb dL_renew_0 rfl (lv_at hl 2 rfl) ?_
    refine lv_iconst (v := 0) hx hb dL_renew_1 (by decide) ?_
    refine lv_aload_n hx hb dL_renew_2 rfl (lv_at hl 0 rfl) ?_
    refine lv_iload_n hx hb dL_renew_3 rfl (lv_at hl 1 rfl) ?_
    refine xl_ret (xl_run B hM hS [.int x1] (n := 1) (xe_met (c_X5_renew hll h)) wm_RL_109 wi_yX5_renew ws_yX5_renew wn_RX5 wc_yX5_renew rfl rfl (by decide +kernel) ⟨Nat.le_of_ble_eq_true rfl, Nat.le_of_ble_eq_true rfl⟩ ⟨Nat.le_of_ble_eq_true rfl, Nat.le_of_ble_eq_true rfl⟩ rfl hl.1 (Nat.le_of_ble_eq_true rfl) rfl dL_renew_4) hS (fun ad2 H locs hae hM hS hz hk9 => ?_)
    have hO := hO.kept (hk9 _ hO.lt ho)
    refine lv_i2l hx hb dL_renew_7 rfl ?_
    refine xl_last B hM hS ho hO dL_renew_8 (fun H locs hM hO hS => ?_)
    refine lv_goto (tgt := 18) hx hb dL_renew_9 (by decide) ?_
    refine lv_iconst (v := 0) hx hb dL_renew_18 (by decide) ?_
    exact xl_end B hae hM hO hS (Nat.le_of_ble_eq_true rfl) (Nat.le_of_ble_eq_true rfl) rfl dL_renew_19
set_option maxHeartbeats 4000000 in
set_option maxRecDepth 100000 in
theorem c_L_notes {l : Launch} (hll : l.stackTraces = false) {G : GG} {A : Nat → Prop} {ad : AD} {st : XS} {x1 : Int32} {r : Nat ⊕ Int32} {st' : XS} {o : Nat} {f : Nat → Int64} (h : f_X5_notes st x1 = some (r, st')) (hL : ∀ k, r = .inl k → k ∈ [0]) : Met l yL_notes (Cond.codeWith yL_notes cL_notes 4 (some .int) [(0, 9, 12, 13)] :: TG) { frames := 7, cells := 1, slots := 6, locals := 121 } (PWr G A ad st o (.inl (G.2 3, 1, .inr (.inl f))) [.ref (ad 0 0), .int x1, .ref o]) (QWr G A ad (lwc [0] r) st' o (.inl (G.2 3, 1, .inr (.inl (louI f r))))) 1 6 (fun q => A q ∨ q = o) := by
  cases r with
  | inl k =>
    have hk := hL k rfl
    clear hL
    simp only [List.mem_cons, List.not_mem_nil, or_false] at hk
    rcases hk with rfl
    · refine xl_of (hh := [(0, 9, 12, 13)]) (by decide +kernel) rfl (Nat.le_of_ble_eq_true rfl) fun p e s m below meth c ls B tab hM hO ho hS hl => ?_
      have ⟨⟨hx, hb, hr, hml, hown, hT, hlocks, hK⟩, hST, hNC, hA⟩ := B
      have hl : lv_has ls 4 [(0, .ref (ad 0 0)), (1, .int x1), (2, .ref o)] := hl
      refine lv_aload_n hx hb dL_notes_0 rfl (lv_at hl 2 rfl) ?_
      refine lv_iconst (v := 0) hx hb dL_notes_1 (by decide) ?_
      refine lv_aload_n hx hb dL_notes_2 rfl (lv_at hl 0 rfl) ?_
      refine lv_iload_n hx hb dL_notes_3 rfl (lv_at hl 1 rfl) ?_
      refine xl_thr (xl_run B hM hS [.int x1] (n := 1) (xe_met (c_X5_notes hll h)) wm_RL_112 wi_yX5_notes ws_yX5_notes wn_RX5 wc_yX5_notes rfl rfl (by decide +kernel) ⟨Nat.le_of_ble_eq_true rfl, Nat.le_of_ble_eq_true rfl⟩ ⟨Nat.le_of_ble_eq_true rfl, Nat.le_of_ble_eq_true rfl⟩ rfl hl.1 (Nat.le_of_ble_eq_true rfl) rfl dL_notes_4) hS B [] (te (0, 9, 12, 13)) [] (tab.trans rfl) (fun z hz => by cases hz) (by decide) (by decide) (by decide) wk_RL_13 (fun ad2 q9 H locs hae hM hS hz hk9 => ?_)
      have hO := hO.kept (hk9 _ hO.lt ho)
      refine lv_astore_n (lv' := [(3, .ref q9), (0, .ref (ad 0 0)), (1, .int x1), (2, .ref o)]) hx hb dL_notes_12 rfl hl (by decide) rfl (fun ls hl => ?_)
      refine lv_iconst (v := 1) hx hb dL_notes_13 (by decide) ?_
      exact xl_end B hae hM hO (xl_wide hS) (Nat.le_of_ble_eq_true rfl) (Nat.le_of_ble_eq_true rfl) rfl dL_notes_14
  | inr x =>
    clear hL
    refine xl_of (hh := [(0, 9, 12, 13)]) (by decide +kernel) rfl (Nat.le_of_ble_eq_true rfl) fun p e s m below meth c ls B tab hM hO ho hS hl => ?_
    have ⟨⟨hx, hb, hr, hml, hown, hT, hlocks, hK⟩, hST, hNC, hA⟩ := B
    have hl : lv_has ls 4 [(0, .ref (ad 0 0)), (1, .int x1), (2, .ref o)] := hl
    refine lv_aload_n hx hb dL_notes_0 rfl (lv_at hl 2 rfl) ?_
    refine lv_iconst (v := 0) hx hb dL_notes_1 (by decide) ?_
    refine lv_aload_n hx hb dL_notes_2 rfl (lv_at hl 0 rfl) ?_
    refine lv_iload_n hx hb dL_notes_3 rfl (lv_at hl 1 rfl) ?_
    refine xl_ret (xl_run B hM hS [.int x1] (n := 1) (xe_met (c_X5_notes hll h)) wm_RL_112 wi_yX5_notes ws_yX5_notes wn_RX5 wc_yX5_notes rfl rfl (by decide +kernel) ⟨Nat.le_of_ble_eq_true rfl, Nat.le_of_ble_eq_true rfl⟩ ⟨Nat.le_of_ble_eq_true rfl, Nat.le_of_ble_eq_true rfl⟩ rfl hl.1 (Nat.le_of_ble_eq_true rfl) rfl dL_notes_4) hS (fun ad2 H locs hae hM hS hz hk9 => ?_)
    have hO := hO.kept (hk9 _ hO.lt ho)
    refine lv_i2l hx hb dL_notes_7 rfl ?_
    refine xl_last B hM hS ho hO dL_notes_8 (fun H locs hM hO hS => ?_)
    refine lv_goto (tgt := 15) hx hb dL_notes_9 (by decide) ?_
    refine lv_iconst (v := 0) hx hb dL_notes_15 (by decide) ?_
    exact xl_end B hae hM hO hS (Nat.le_of_ble_eq_true rfl) (Nat.le_of_ble_eq_true rfl) rfl dL_notes_16
set_option maxHeartbeats 4000000 in
set_option maxRecDepth 100000 in
theorem c_L_dear {l : Launch} (hll : l.stackTraces = false) {G : GG} {A : Nat → Prop} {ad : AD} {st : XS} {x1 : Int32} {x2 : Int32} {r : Nat ⊕ Int32} {st' : XS} {o : Nat} {f : Nat → Int64} (h : f_X5_dear st x1 x2 = some (r, st')) (hL : ∀ k, r = .inl k → k ∈ [3]) : Met l yL_dear (Cond.codeWith yL_dear cL_dear 5 (some .int) [(0, 17, 20, 23)] :: TG) { frames := 8, cells := 1, slots := 6, locals := 145 } (PWr G A ad st o (.inl (G.2 3, 1, .inr (.inl f))) [.ref (ad 0 0), .int x1, .int x2, .ref o]) (QWr G A ad (lwc [3] r) st' o (.inl (G.2 3, 1, .inr (.inl (louZ f r))))) 1 6 (fun q => A q ∨ q = o) := by
  cases r with
  | inl k =>
    have hk := hL k rfl
    clear hL
    simp only [List.mem_cons, List.not_mem_nil, or_false] at hk
    rcases hk with rfl
    · refine xl_of (hh := [(0, 17, 20, 23)]) (by decide +kernel) rfl (Nat.le_of_ble_eq_true rfl) fun p e s m below meth c ls B tab hM hO ho hS hl => ?_
      have ⟨⟨hx, hb, hr, hml, hown, hT, hlocks, hK⟩, hST, hNC, hA⟩ := B
      have hl : lv_has ls 5 [(0, .ref (ad 0 0)), (1, .int x1), (2, .int x2), (3, .ref o)] := hl
      refine lv_aload_n hx hb dL_dear_0 rfl (lv_at hl 3 rfl) ?_
      refine lv_iconst (v := 0) hx hb dL_dear_1 (by decide) ?_
      refine lv_aload_n hx hb dL_dear_2 rfl (lv_at hl 0 rfl) ?_
      refine lv_iload_n hx hb dL_dear_3 rfl (lv_at hl 1 rfl) ?_
      refine lv_iload_n hx hb dL_dear_4 rfl (lv_at hl 2 rfl) ?_
      refine xl_thr (xl_run B hM hS [.int x1, .int x2] (n := 2) (xe_met (c_X5_dear hll h)) wm_RL_116 wi_yX5_dear ws_yX5_dear wn_RX5 wc_yX5_dear rfl rfl (by decide +kernel) ⟨Nat.le_of_ble_eq_true rfl, Nat.le_of_ble_eq_true rfl⟩ ⟨Nat.le_of_ble_eq_true rfl, Nat.le_of_ble_eq_true rfl⟩ rfl hl.1 (Nat.le_of_ble_eq_true rfl) rfl dL_dear_5) hS B [] (te (0, 17, 20, 23)) [] (tab.trans rfl) (fun z hz => by cases hz) (by decide) (by decide) (by decide) wk_RL_23 (fun ad2 q9 H locs hae hM hS hz hk9 => ?_)
      have hO := hO.kept (hk9 _ hO.lt ho)
      refine lv_astore (lv' := [(4, .ref q9), (0, .ref (ad 0 0)), (1, .int x1), (2, .int x2), (3, .ref o)]) hx hb dL_dear_20 hl (by decide) rfl (fun ls hl => ?_)
      refine lv_iconst (v := 1) hx hb dL_dear_22 (by decide) ?_
      exact xl_end B hae hM hO (xl_wide hS) (Nat.le_of_ble_eq_true rfl) (Nat.le_of_ble_eq_true rfl) rfl dL_dear_23
  | inr x =>
    clear hL
    by_cases hc9 : x = 0
    · refine xl_of (hh := [(0, 17, 20, 23)]) (by decide +kernel) rfl (Nat.le_of_ble_eq_true rfl) fun p e s m below meth c ls B tab hM hO ho hS hl => ?_
      have ⟨⟨hx, hb, hr, hml, hown, hT, hlocks, hK⟩, hST, hNC, hA⟩ := B
      have hl : lv_has ls 5 [(0, .ref (ad 0 0)), (1, .int x1), (2, .int x2), (3, .ref o)] := hl
      refine lv_aload_n hx hb dL_dear_0 rfl (lv_at hl 3 rfl) ?_
      refine lv_iconst (v := 0) hx hb dL_dear_1 (by decide) ?_
      refine lv_aload_n hx hb dL_dear_2 rfl (lv_at hl 0 rfl) ?_
      refine lv_iload_n hx hb dL_dear_3 rfl (lv_at hl 1 rfl) ?_
      refine lv_iload_n hx hb dL_dear_4 rfl (lv_at hl 2 rfl) ?_
      refine xl_ret (xl_run B hM hS [.int x1, .int x2] (n := 2) (xe_met (c_X5_dear hll h)) wm_RL_116 wi_yX5_dear ws_yX5_dear wn_RX5 wc_yX5_dear rfl rfl (by decide +kernel) ⟨Nat.le_of_ble_eq_true rfl, Nat.le_of_ble_eq_true rfl⟩ ⟨Nat.le_of_ble_eq_true rfl, Nat.le_of_ble_eq_true rfl⟩ rfl hl.1 (Nat.le_of_ble_eq_true rfl) rfl dL_dear_5) hS (fun ad2 H locs hae hM hS hz hk9 => ?_)
      have hO := hO.kept (hk9 _ hO.lt ho)
      refine lv_if_eq (tgt := 15) hx hb dL_dear_8 (by decide) (fun c1 => ?_) (fun c1 => absurd hc9 c1)
      refine lv_lconst (v := 0) hx hb dL_dear_15 (by decide) ?_
      refine xl_last B hM hS ho hO dL_dear_16 (fun H locs hM hO hS => ?_)
      refine lv_goto (tgt := 24) hx hb dL_dear_17 (by decide) ?_
      refine lv_iconst (v := 0) hx hb dL_dear_24 (by decide) ?_
      exact xl_end B hae hM (by rw [louZ_0 hc9]; exact hO) hS (Nat.le_of_ble_eq_true rfl) (Nat.le_of_ble_eq_true rfl) rfl dL_dear_25
    · refine xl_of (hh := [(0, 17, 20, 23)]) (by decide +kernel) rfl (Nat.le_of_ble_eq_true rfl) fun p e s m below meth c ls B tab hM hO ho hS hl => ?_
      have ⟨⟨hx, hb, hr, hml, hown, hT, hlocks, hK⟩, hST, hNC, hA⟩ := B
      have hl : lv_has ls 5 [(0, .ref (ad 0 0)), (1, .int x1), (2, .int x2), (3, .ref o)] := hl
      refine lv_aload_n hx hb dL_dear_0 rfl (lv_at hl 3 rfl) ?_
      refine lv_iconst (v := 0) hx hb dL_dear_1 (by decide) ?_
      refine lv_aload_n hx hb dL_dear_2 rfl (lv_at hl 0 rfl) ?_
      refine lv_iload_n hx hb dL_dear_3 rfl (lv_at hl 1 rfl) ?_
      refine lv_iload_n hx hb dL_dear_4 rfl (lv_at hl 2 rfl) ?_
      refine xl_ret (xl_run B hM hS [.int x1, .int x2] (n := 2) (xe_met (c_X5_dear hll h)) wm_RL_116 wi_yX5_dear ws_yX5_dear wn_RX5 wc_yX5_dear rfl rfl (by decide +kernel) ⟨Nat.le_of_ble_eq_true rfl, Nat.le_of_ble_eq_true rfl⟩ ⟨Nat.le_of_ble_eq_true rfl, Nat.le_of_ble_eq_true rfl⟩ rfl hl.1 (Nat.le_of_ble_eq_true rfl) rfl dL_dear_5) hS (fun ad2 H locs hae hM hS hz hk9 => ?_)
      have hO := hO.kept (hk9 _ hO.lt ho)
      refine lv_if_eq (tgt := 15) hx hb dL_dear_8 (by decide) (fun c1 => absurd c1 hc9) (fun c1 => ?_)
      refine lv_lconst (v := 1) hx hb dL_dear_11 (by decide) ?_
      refine lv_goto (tgt := 16) hx hb dL_dear_12 (by decide) ?_
      refine xl_last B hM hS ho hO dL_dear_16 (fun H locs hM hO hS => ?_)
      refine lv_goto (tgt := 24) hx hb dL_dear_17 (by decide) ?_
      refine lv_iconst (v := 0) hx hb dL_dear_24 (by decide) ?_
      exact xl_end B hae hM (by rw [louZ_1 hc9]; exact hO) hS (Nat.le_of_ble_eq_true rfl) (Nat.le_of_ble_eq_true rfl) rfl dL_dear_25
set_option maxHeartbeats 4000000 in
set_option maxRecDepth 100000 in
theorem c_L_orders {l : Launch} (hll : l.stackTraces = false) {G : GG} {A : Nat → Prop} {ad : AD} {st : XS} {r : Nat ⊕ Int32} {st' : XS} {o : Nat} {f : Nat → Int64} (h : f_X5_orders st = some (r, st')) (hL : ∀ k, r = .inl k → k ∈ [1]) : Met l yL_orders (Cond.codeWith yL_orders cL_orders 3 (some .int) [(0, 8, 11, 15)] :: TG) { frames := 8, cells := 1, slots := 6, locals := 140 } (PWr G A ad st o (.inl (G.2 3, 1, .inr (.inl f))) [.ref (ad 0 0), .ref o]) (QWr G A ad (lwc [1] r) st' o (.inl (G.2 3, 1, .inr (.inl (louI f r))))) 1 6 (fun q => A q ∨ q = o) := by
  cases r with
  | inl k =>
    have hk := hL k rfl
    clear hL
    simp only [List.mem_cons, List.not_mem_nil, or_false] at hk
    rcases hk with rfl
    · refine xl_of (hh := [(0, 8, 11, 15)]) (by decide +kernel) rfl (Nat.le_of_ble_eq_true rfl) fun p e s m below meth c ls B tab hM hO ho hS hl => ?_
      have ⟨⟨hx, hb, hr, hml, hown, hT, hlocks, hK⟩, hST, hNC, hA⟩ := B
      have hl : lv_has ls 3 [(0, .ref (ad 0 0)), (1, .ref o)] := hl
      refine lv_aload_n hx hb dL_orders_0 rfl (lv_at hl 1 rfl) ?_
      refine lv_iconst (v := 0) hx hb dL_orders_1 (by decide) ?_
      refine lv_aload_n hx hb dL_orders_2 rfl (lv_at hl 0 rfl) ?_
      refine xl_thr (xl_run B hM hS [] (n := 0) (xe_met (c_X5_orders hll h)) wm_RL_119 wi_yX5_orders ws_yX5_orders wn_RX5 wc_yX5_orders rfl rfl (by decide +kernel) ⟨Nat.le_of_ble_eq_true rfl, Nat.le_of_ble_eq_true rfl⟩ ⟨Nat.le_of_ble_eq_true rfl, Nat.le_of_ble_eq_true rfl⟩ rfl hl.1 (Nat.le_of_ble_eq_true rfl) rfl dL_orders_3) hS B [] (te (0, 8, 11, 15)) [] (tab.trans rfl) (fun z hz => by cases hz) (by decide) (by decide) (by decide) wk_RL_15 (fun ad2 q9 H locs hae hM hS hz hk9 => ?_)
      have hO := hO.kept (hk9 _ hO.lt ho)
      refine lv_astore_n (lv' := [(2, .ref q9), (0, .ref (ad 0 0)), (1, .ref o)]) hx hb dL_orders_11 rfl hl (by decide) rfl (fun ls hl => ?_)
      refine lv_iconst (v := 1) hx hb dL_orders_12 (by decide) ?_
      exact xl_end B hae hM hO (xl_wide hS) (Nat.le_of_ble_eq_true rfl) (Nat.le_of_ble_eq_true rfl) rfl dL_orders_13
  | inr x =>
    clear hL
    refine xl_of (hh := [(0, 8, 11, 15)]) (by decide +kernel) rfl (Nat.le_of_ble_eq_true rfl) fun p e s m below meth c ls B tab hM hO ho hS hl => ?_
    have ⟨⟨hx, hb, hr, hml, hown, hT, hlocks, hK⟩, hST, hNC, hA⟩ := B
    have hl : lv_has ls 3 [(0, .ref (ad 0 0)), (1, .ref o)] := hl
    refine lv_aload_n hx hb dL_orders_0 rfl (lv_at hl 1 rfl) ?_
    refine lv_iconst (v := 0) hx hb dL_orders_1 (by decide) ?_
    refine lv_aload_n hx hb dL_orders_2 rfl (lv_at hl 0 rfl) ?_
    refine xl_ret (xl_run B hM hS [] (n := 0) (xe_met (c_X5_orders hll h)) wm_RL_119 wi_yX5_orders ws_yX5_orders wn_RX5 wc_yX5_orders rfl rfl (by decide +kernel) ⟨Nat.le_of_ble_eq_true rfl, Nat.le_of_ble_eq_true rfl⟩ ⟨Nat.le_of_ble_eq_true rfl, Nat.le_of_ble_eq_true rfl⟩ rfl hl.1 (Nat.le_of_ble_eq_true rfl) rfl dL_orders_3) hS (fun ad2 H locs hae hM hS hz hk9 => ?_)
    have hO := hO.kept (hk9 _ hO.lt ho)
    refine lv_i2l hx hb dL_orders_6 rfl ?_
    refine xl_last B hM hS ho hO dL_orders_7 (fun H locs hM hO hS => ?_)
    refine lv_goto (tgt := 14) hx hb dL_orders_8 (by decide) ?_
    refine lv_iconst (v := 0) hx hb dL_orders_14 (by decide) ?_
    exact xl_end B hae hM hO hS (Nat.le_of_ble_eq_true rfl) (Nat.le_of_ble_eq_true rfl) rfl dL_orders_15
set_option maxHeartbeats 4000000 in
set_option maxRecDepth 100000 in
theorem c_L_best {l : Launch} (hll : l.stackTraces = false) {G : GG} {A : Nat → Prop} {ad : AD} {st : XS} {r : Nat ⊕ Int32} {st' : XS} {o : Nat} {f : Nat → Int64} (h : f_X5_best st = some (r, st')) (hL : ∀ k, r = .inl k → k ∈ [1]) : Met l yL_best (Cond.codeWith yL_best cL_best 3 (some .int) [(0, 8, 11, 15)] :: TG) { frames := 8, cells := 1, slots := 6, locals := 140 } (PWr G A ad st o (.inl (G.2 3, 1, .inr (.inl f))) [.ref (ad 0 0), .ref o]) (QWr G A ad (lwc [1] r) st' o (.inl (G.2 3, 1, .inr (.inl (louI f r))))) 1 6 (fun q => A q ∨ q = o) := by
  cases r with
  | inl k =>
    have hk := hL k rfl
    clear hL
    simp only [List.mem_cons, List.not_mem_nil, or_false] at hk
    rcases hk with rfl
    · refine xl_of (hh := [(0, 8, 11, 15)]) (by decide +kernel) rfl (Nat.le_of_ble_eq_true rfl) fun p e s m below meth c ls B tab hM hO ho hS hl => ?_
      have ⟨⟨hx, hb, hr, hml, hown, hT, hlocks, hK⟩, hST, hNC, hA⟩ := B
      have hl : lv_has ls 3 [(0, .ref (ad 0 0)), (1, .ref o)] := hl
      refine lv_aload_n hx hb dL_best_0 rfl (lv_at hl 1 rfl) ?_
      refine lv_iconst (v := 0) hx hb dL_best_1 (by decide) ?_
      refine lv_aload_n hx hb dL_best_2 rfl (lv_at hl 0 rfl) ?_
      refine xl_thr (xl_run B hM hS [] (n := 0) (xe_met (c_X5_best hll h)) wm_RL_123 wi_yX5_best ws_yX5_best wn_RX5 wc_yX5_best rfl rfl (by decide +kernel) ⟨Nat.le_of_ble_eq_true rfl, Nat.le_of_ble_eq_true rfl⟩ ⟨Nat.le_of_ble_eq_true rfl, Nat.le_of_ble_eq_true rfl⟩ rfl hl.1 (Nat.le_of_ble_eq_true rfl) rfl dL_best_3) hS B [] (te (0, 8, 11, 15)) [] (tab.trans rfl) (fun z hz => by cases hz) (by decide) (by decide) (by decide) wk_RL_15 (fun ad2 q9 H locs hae hM hS hz hk9 => ?_)
      have hO := hO.kept (hk9 _ hO.lt ho)
      refine lv_astore_n (lv' := [(2, .ref q9), (0, .ref (ad 0 0)), (1, .ref o)]) hx hb dL_best_11 rfl hl (by decide) rfl (fun ls hl => ?_)
      refine lv_iconst (v := 1) hx hb dL_best_12 (by decide) ?_
      exact xl_end B hae hM hO (xl_wide hS) (Nat.le_of_ble_eq_true rfl) (Nat.le_of_ble_eq_true rfl) rfl dL_best_13
  | inr x =>
    clear hL
    refine xl_of (hh := [(0, 8, 11, 15)]) (by decide +kernel) rfl (Nat.le_of_ble_eq_true rfl) fun p e s m below meth c ls B tab hM hO ho hS hl => ?_
    have ⟨⟨hx, hb, hr, hml, hown, hT, hlocks, hK⟩, hST, hNC, hA⟩ := B
    have hl : lv_has ls 3 [(0, .ref (ad 0 0)), (1, .ref o)] := hl
    refine lv_aload_n hx hb dL_best_0 rfl (lv_at hl 1 rfl) ?_
    refine lv_iconst (v := 0) hx hb dL_best_1 (by decide) ?_
    refine lv_aload_n hx hb dL_best_2 rfl (lv_at hl 0 rfl) ?_
    refine xl_ret (xl_run B hM hS [] (n := 0) (xe_met (c_X5_best hll h)) wm_RL_123 wi_yX5_best ws_yX5_best wn_RX5 wc_yX5_best rfl rfl (by decide +kernel) ⟨Nat.le_of_ble_eq_true rfl, Nat.le_of_ble_eq_true rfl⟩ ⟨Nat.le_of_ble_eq_true rfl, Nat.le_of_ble_eq_true rfl⟩ rfl hl.1 (Nat.le_of_ble_eq_true rfl) rfl dL_best_3) hS (fun ad2 H locs hae hM hS hz hk9 => ?_)
    have hO := hO.kept (hk9 _ hO.lt ho)
    refine lv_i2l hx hb dL_best_6 rfl ?_
    refine xl_last B hM hS ho hO dL_best_7 (fun H locs hM hO hS => ?_)
    refine lv_goto (tgt := 14) hx hb dL_best_8 (by decide) ?_
    refine lv_iconst (v := 0) hx hb dL_best_14 (by decide) ?_
    exact xl_end B hae hM hO hS (Nat.le_of_ble_eq_true rfl) (Nat.le_of_ble_eq_true rfl) rfl dL_best_15
set_option maxHeartbeats 4000000 in
set_option maxRecDepth 100000 in
theorem c_L_brokenShare {l : Launch} (hll : l.stackTraces = false) {G : GG} {A : Nat → Prop} {ad : AD} {st : XS} {r : Nat ⊕ UInt32} {st' : XS} {o : Nat} {f : Nat → UInt64} (h : f_X5_brokenShare st = some (r, st')) (hL : ∀ k, r = .inl k → k ∈ [4]) (hn : ∀ x, r = .inr x → vf_n64 (FP.f2d x)) : Met l yL_brokenShare (Cond.codeWith yL_brokenShare cL_brokenShare 3 (some .int) [(0, 8, 11, 32)] :: TG) { frames := 7, cells := 1, slots := 6, locals := 156 } (PWr G A ad st o (.inl (G.2 4, 1, .inr (.inr (.inr (.inl f))))) [.ref (ad 0 0), .ref o]) (QWr G A ad (lwc [4] r) st' o (.inl (G.2 4, 1, .inr (.inr (.inr (.inl (louF f r))))))) 1 6 (fun q => A q ∨ q = o) := by
  cases r with
  | inl k =>
    have hk := hL k rfl
    clear hL hn
    simp only [List.mem_cons, List.not_mem_nil, or_false] at hk
    rcases hk with rfl
    · refine xl_of (hh := [(0, 8, 11, 32)]) (by decide +kernel) rfl (Nat.le_of_ble_eq_true rfl) fun p e s m below meth c ls B tab hM hO ho hS hl => ?_
      have ⟨⟨hx, hb, hr, hml, hown, hT, hlocks, hK⟩, hST, hNC, hA⟩ := B
      have hl : lv_has ls 3 [(0, .ref (ad 0 0)), (1, .ref o)] := hl
      refine lv_aload_n hx hb dL_brokenShare_0 rfl (lv_at hl 1 rfl) ?_
      refine lv_iconst (v := 0) hx hb dL_brokenShare_1 (by decide) ?_
      refine lv_aload_n hx hb dL_brokenShare_2 rfl (lv_at hl 0 rfl) ?_
      refine xl_thr (xl_run B hM hS [] (n := 0) (xe_met (c_X5_brokenShare hll h)) wm_RL_126 wi_yX5_brokenShare ws_yX5_brokenShare wn_RX5 wc_yX5_brokenShare rfl rfl (by decide +kernel) ⟨Nat.le_of_ble_eq_true rfl, Nat.le_of_ble_eq_true rfl⟩ ⟨Nat.le_of_ble_eq_true rfl, Nat.le_of_ble_eq_true rfl⟩ rfl hl.1 (Nat.le_of_ble_eq_true rfl) rfl dL_brokenShare_3) hS B [] (te (0, 8, 11, 32)) [] (tab.trans rfl) (fun z hz => by cases hz) (by decide) (by decide) (by decide) wk_RL_32 (fun ad2 q9 H locs hae hM hS hz hk9 => ?_)
      have hO := hO.kept (hk9 _ hO.lt ho)
      refine lv_astore_n (lv' := [(2, .ref q9), (0, .ref (ad 0 0)), (1, .ref o)]) hx hb dL_brokenShare_11 rfl hl (by decide) rfl (fun ls hl => ?_)
      refine lv_iconst (v := 1) hx hb dL_brokenShare_12 (by decide) ?_
      exact xl_end B hae hM hO (xl_wide hS) (Nat.le_of_ble_eq_true rfl) (Nat.le_of_ble_eq_true rfl) rfl dL_brokenShare_13
  | inr x =>
    clear hL
    refine xl_of (hh := [(0, 8, 11, 32)]) (by decide +kernel) rfl (Nat.le_of_ble_eq_true rfl) fun p e s m below meth c ls B tab hM hO ho hS hl => ?_
    have ⟨⟨hx, hb, hr, hml, hown, hT, hlocks, hK⟩, hST, hNC, hA⟩ := B
    have hl : lv_has ls 3 [(0, .ref (ad 0 0)), (1, .ref o)] := hl
    refine lv_aload_n hx hb dL_brokenShare_0 rfl (lv_at hl 1 rfl) ?_
    refine lv_iconst (v := 0) hx hb dL_brokenShare_1 (by decide) ?_
    refine lv_aload_n hx hb dL_brokenShare_2 rfl (lv_at hl 0 rfl) ?_
    refine xl_ret (xl_run B hM hS [] (n := 0) (xe_met (c_X5_brokenShare hll h)) wm_RL_126 wi_yX5_brokenShare ws_yX5_brokenShare wn_RX5 wc_yX5_brokenShare rfl rfl (by decide +kernel) ⟨Nat.le_of_ble_eq_true rfl, Nat.le_of_ble_eq_true rfl⟩ ⟨Nat.le_of_ble_eq_true rfl, Nat.le_of_ble_eq_true rfl⟩ rfl hl.1 (Nat.le_of_ble_eq_true rfl) rfl dL_brokenShare_3) hS (fun ad2 H locs hae hM hS hz hk9 => ?_)
    have hO := hO.kept (hk9 _ hO.lt ho)
    refine lv_f2d hx hb dL_brokenShare_6 (hn x rfl) ?_
    refine xl_dast B hM hS ho hO dL_brokenShare_7 (fun H locs hM hO hS => ?_)
    refine lv_goto (tgt := 14) hx hb dL_brokenShare_8 (by decide) ?_
    refine lv_iconst (v := 0) hx hb dL_brokenShare_14 (by decide) ?_
    exact xl_end B hae hM hO hS (Nat.le_of_ble_eq_true rfl) (Nat.le_of_ble_eq_true rfl) rfl dL_brokenShare_15
set_option maxHeartbeats 4000000 in
set_option maxRecDepth 100000 in
theorem c_L_meanLength {l : Launch} (hll : l.stackTraces = false) {G : GG} {A : Nat → Prop} {ad : AD} {st : XS} {r : Nat ⊕ UInt64} {st' : XS} {o : Nat} {f : Nat → UInt64} (h : f_X5_meanLength st = some (r, st')) (hL : ∀ k, r = .inl k → k ∈ [4]) : Met l yL_meanLength (Cond.codeWith yL_meanLength cL_meanLength 3 (some .int) [(0, 7, 10, 32)] :: TG) { frames := 7, cells := 1, slots := 6, locals := 121 } (PWr G A ad st o (.inl (G.2 4, 1, .inr (.inr (.inr (.inl f))))) [.ref (ad 0 0), .ref o]) (QWr G A ad (lwc [4] r) st' o (.inl (G.2 4, 1, .inr (.inr (.inr (.inl (louD f r))))))) 1 6 (fun q => A q ∨ q = o) := by
  cases r with
  | inl k =>
    have hk := hL k rfl
    clear hL
    simp only [List.mem_cons, List.not_mem_nil, or_false] at hk
    rcases hk with rfl
    · refine xl_of (hh := [(0, 7, 10, 32)]) (by decide +kernel) rfl (Nat.le_of_ble_eq_true rfl) fun p e s m below meth c ls B tab hM hO ho hS hl => ?_
      have ⟨⟨hx, hb, hr, hml, hown, hT, hlocks, hK⟩, hST, hNC, hA⟩ := B
      have hl : lv_has ls 3 [(0, .ref (ad 0 0)), (1, .ref o)] := hl
      refine lv_aload_n hx hb dL_meanLength_0 rfl (lv_at hl 1 rfl) ?_
      refine lv_iconst (v := 0) hx hb dL_meanLength_1 (by decide) ?_
      refine lv_aload_n hx hb dL_meanLength_2 rfl (lv_at hl 0 rfl) ?_
      refine xl_thr (xl_run B hM hS [] (n := 0) (xe_met (c_X5_meanLength hll h)) wm_RL_130 wi_yX5_meanLength ws_yX5_meanLength wn_RX5 wc_yX5_meanLength rfl rfl (by decide +kernel) ⟨Nat.le_of_ble_eq_true rfl, Nat.le_of_ble_eq_true rfl⟩ ⟨Nat.le_of_ble_eq_true rfl, Nat.le_of_ble_eq_true rfl⟩ rfl hl.1 (Nat.le_of_ble_eq_true rfl) rfl dL_meanLength_3) hS B [] (te (0, 7, 10, 32)) [] (tab.trans rfl) (fun z hz => by cases hz) (by decide) (by decide) (by decide) wk_RL_32 (fun ad2 q9 H locs hae hM hS hz hk9 => ?_)
      have hO := hO.kept (hk9 _ hO.lt ho)
      refine lv_astore_n (lv' := [(2, .ref q9), (0, .ref (ad 0 0)), (1, .ref o)]) hx hb dL_meanLength_10 rfl hl (by decide) rfl (fun ls hl => ?_)
      refine lv_iconst (v := 1) hx hb dL_meanLength_11 (by decide) ?_
      exact xl_end B hae hM hO (xl_wide hS) (Nat.le_of_ble_eq_true rfl) (Nat.le_of_ble_eq_true rfl) rfl dL_meanLength_12
  | inr x =>
    clear hL
    refine xl_of (hh := [(0, 7, 10, 32)]) (by decide +kernel) rfl (Nat.le_of_ble_eq_true rfl) fun p e s m below meth c ls B tab hM hO ho hS hl => ?_
    have ⟨⟨hx, hb, hr, hml, hown, hT, hlocks, hK⟩, hST, hNC, hA⟩ := B
    have hl : lv_has ls 3 [(0, .ref (ad 0 0)), (1, .ref o)] := hl
    refine lv_aload_n hx hb dL_meanLength_0 rfl (lv_at hl 1 rfl) ?_
    refine lv_iconst (v := 0) hx hb dL_meanLength_1 (by decide) ?_
    refine lv_aload_n hx hb dL_meanLength_2 rfl (lv_at hl 0 rfl) ?_
    refine xl_ret (xl_run B hM hS [] (n := 0) (xe_met (c_X5_meanLength hll h)) wm_RL_130 wi_yX5_meanLength ws_yX5_meanLength wn_RX5 wc_yX5_meanLength rfl rfl (by decide +kernel) ⟨Nat.le_of_ble_eq_true rfl, Nat.le_of_ble_eq_true rfl⟩ ⟨Nat.le_of_ble_eq_true rfl, Nat.le_of_ble_eq_true rfl⟩ rfl hl.1 (Nat.le_of_ble_eq_true rfl) rfl dL_meanLength_3) hS (fun ad2 H locs hae hM hS hz hk9 => ?_)
    have hO := hO.kept (hk9 _ hO.lt ho)
    refine xl_dast B hM hS ho hO dL_meanLength_6 (fun H locs hM hO hS => ?_)
    refine lv_goto (tgt := 13) hx hb dL_meanLength_7 (by decide) ?_
    refine lv_iconst (v := 0) hx hb dL_meanLength_13 (by decide) ?_
    exact xl_end B hae hM hO hS (Nat.le_of_ble_eq_true rfl) (Nat.le_of_ble_eq_true rfl) rfl dL_meanLength_14
