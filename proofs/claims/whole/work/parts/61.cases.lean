/-! The law's cases, walked by program over the agreements. -/
def INX (i : Int32) (L : Nat) : Prop := vp_in (i + 1) L ∧ vp_in (i + 2) L ∧ vp_in (i + 3) L ∧ vp_in (i + 4) L
def KK (p : Program) (l : Launch) (e : Env) (s : State) (m : MethodId) (args : Array Value) (below : List Frame) (meth : Method) (c : Code) (Q : State → Prop) (G : GG) (A A1 A2 : Nat → Prop) (am : Nat → Nat) (o1 o2 : Nat) (ad : AD) (b : Nat) (i : Int32) (cells slots : Nat) : Prop :=
  ∀ (ad' : AD) (st' : XS) (ms' : MS) (f' : Nat → Int64) (g' : Nat → UInt64) (H' : Heap) (locs' : List Loc) (ls' : Array Slot), AE ad ad' → INV st' ms' → LW G A A1 A2 am o1 o2 s ad' st' ms' f' g' H' → va_S A s.heap H' locs' → lv_has ls' 9 [(0, .ref b), (1, .ref (ad 0 0)), (2, .ref (am 0)), (3, .ref o1), (4, .ref o2), (5, .int i)] → W p l e room_1 s m args below meth c H' locs' (cells + 11) (slots + 248) Q (F0 m 2507 ls' [])
theorem lwc_0 {L : List Nat} {α : Type} {r : Nat ⊕ α} (h : lwc L r = 0) (hL : L.length < 1000 := by decide) : ∃ x, r = .inr x := by
  cases r with
  | inr x => exact ⟨x, rfl⟩
  | inl k =>
    have h1 : L.findIdx (· == k) ≤ L.length := List.findIdx_le_length
    exact absurd h (nI_ne0 (by omega) (by omega))
theorem ch_ok (x : Int32) : CH ((x.toUInt32 % 65536).toInt32) := by
  have e : ∃ n : Nat, n < 65536 ∧ (x.toUInt32 % 65536).toInt32 = nI n := by
    refine ⟨(x.toUInt32 % 65536).toNat, ?_, ?_⟩
    · rw [UInt32.toNat_mod]
      exact Nat.mod_lt _ (by decide)
    · show (x.toUInt32 % 65536).toInt32 = (UInt32.ofNat (x.toUInt32 % 65536).toNat).toInt32
      rw [UInt32.ofNat_toNat]
  obtain ⟨n, hn, e⟩ := e
  rw [e]
  exact ⟨(nc_small hn).1, (nc_small hn).2.1⟩
theorem louI_0 {f : Nat → Int64} {x : Int32} : louI f (.inr x) 0 = x.toInt64 := by simp [louI, vp_updL]
theorem louZ_00 {f : Nat → Int64} {x : Int32} : louZ f (.inr x) 0 = if x = 0 then 0 else 1 := by simp [louZ, vp_updL]
theorem louF_0 {f : Nat → UInt64} {x : UInt32} : louF f (.inr x) 0 = FP.f2d x := by simp [louF, vf_upd]
theorem louD_0 {f : Nat → UInt64} {x : UInt64} : louD f (.inr x) 0 = x := by simp [louD, vf_upd]
theorem lg_cmp_self (x : Int64) : lg_cmp x x = 0 := by simp [lg_cmp]
theorem dcmp_self {x : UInt64} (h : vf_n64 x) {op : CmpOp} : Op.cmpValue (FP.dcmp x x) op = 0 := by
  rw [FP.dcmp_core, FP.Core.dcmp_self ((FP.Core.notNaN_iff x).mp (of_vf64 h))]
  cases op <;> rfl
set_option maxHeartbeats 4000000 in
set_option maxRecDepth 100000 in
theorem k_shot {p : Program} {l : Launch} {e : Env} {s : State} {m : MethodId} {args : Array Value} {below : List Frame} {meth : Method} {c : Code} {H : Heap} {locs : List Loc} {cells slots : Nat} {Q : State → Prop} {ls : Array Slot} {G : GG} {A A1 A2 : Nat → Prop} {am : Nat → Nat} {o1 o2 : Nat} {ad : AD} {st : XS} {ms : MS} {f : Nat → Int64} {g : Nat → UInt64} {rt : Option FieldType} {b L : Nat} {xs : Nat → Int32} {i : Int32} (hll : l.stackTraces = false) (B : LL G A A1 A2 o1 o2 p s m args meth c rt) (hX : va_X b L xs s s.heap) (hbl : b < s.heap.size) (hbA : ¬ A b) (hi : INX i L) (I : INV st ms) (hW : LW G A A1 A2 am o1 o2 s ad st ms f g H) (hS : va_S A s.heap H locs) (hl : lv_has ls 9 [(0, .ref b), (1, .ref (ad 0 0)), (2, .ref (am 0)), (3, .ref o1), (4, .ref o2), (5, .int i)]) (hc : cells + 11 ≤ room_1.cells) (hs : slots + 248 ≤ room_1.slots)
    (kk : KK p l e s m args below meth c Q G A A1 A2 am o1 o2 ad b i cells slots) : W p l e room_1 s m args below meth c H locs cells slots Q (F0 m 228 ls []) := by
  have ⟨⟨hx, hb, hr, hml, hown, hT, hlocks, hK⟩, hNC, hLR, hA⟩ := B
  refine lv_aload_n hx hb dL_law_228 rfl (lv_at hl 1 rfl) ?_
  refine lv_aload_n hx hb dL_law_229 rfl (lv_at hl 0 rfl) ?_
  refine lv_iload hx hb dL_law_230 (lv_at hl 5 rfl) ?_
  refine lv_iconst (v := 1) hx hb dL_law_232 (by decide) ?_
  refine lv_iadd hx hb dL_law_233 ?_
  refine va_sld hx hb hX hbl hbA hS hi.1 dL_law_234 ?_
  refine lv_i2c hx hb dL_law_235 rfl ?_
  refine lv_aload_n hx hb dL_law_236 rfl (lv_at hl 0 rfl) ?_
  refine lv_iload hx hb dL_law_237 (lv_at hl 5 rfl) ?_
  refine lv_iconst (v := 2) hx hb dL_law_239 (by decide) ?_
  refine lv_iadd hx hb dL_law_240 ?_
  refine va_sld hx hb hX hbl hbA hS hi.2.1 dL_law_241 ?_
  refine lv_aload_n hx hb dL_law_242 rfl (lv_at hl 0 rfl) ?_
  refine lv_iload hx hb dL_law_243 (lv_at hl 5 rfl) ?_
  refine lv_iconst (v := 3) hx hb dL_law_245 (by decide) ?_
  refine lv_iadd hx hb dL_law_246 ?_
  refine va_sld hx hb hX hbl hbA hS hi.2.2.1 dL_law_247 ?_
  refine lv_aload_n hx hb dL_law_248 rfl (lv_at hl 0 rfl) ?_
  refine lv_iload hx hb dL_law_249 (lv_at hl 5 rfl) ?_
  refine lv_iconst (v := 4) hx hb dL_law_251 (by decide) ?_
  refine lv_iadd hx hb dL_law_252 ?_
  refine va_sld hx hb hX hbl hbA hS hi.2.2.2 dL_law_253 ?_
  refine lv_aload_n hx hb dL_law_254 rfl (lv_at hl 3 rfl) ?_
  obtain ⟨r, st2, b9, ms2, e5, e6, I2, hk5, ht5, hv5⟩ := ag_shot I (x1 := (((xs (i + 1).toNatClampNeg).toUInt32 % 65536).toInt32)) (x2 := (xs (i + 2).toNatClampNeg)) (x3 := (xs (i + 3).toNatClampNeg)) (x4 := (xs (i + 4).toNatClampNeg)) (ch_ok _)
  refine ll_wI B hW hS [.ref (ad 0 0), .int (((xs (i + 1).toNatClampNeg).toUInt32 % 65536).toInt32), .int (xs (i + 2).toNatClampNeg), .int (xs (i + 3).toNatClampNeg), .int (xs (i + 4).toNatClampNeg), .ref o1] (n := 6) (c_L_shot hll e5 hk5) wm_RL_138 wt_yL_shot rfl wc_yL_shot rfl rfl (by decide +kernel) ⟨Nat.le_of_ble_eq_true rfl, Nat.le_of_ble_eq_true rfl⟩ ⟨by omega, by omega⟩ rfl hl.1 (Nat.le_of_ble_eq_true rfl) rfl dL_law_255 (fun ad2 H locs hae hW hS => ?_)
  refine lv_istore (lv' := [(6, .int (lwc [0, 1, 2] r)), (0, .ref b), (1, .ref (ad 0 0)), (2, .ref (am 0)), (3, .ref o1), (4, .ref o2), (5, .int i)]) hx hb dL_law_258 hl (by decide) rfl (fun ls hl => ?_)
  refine lv_aload_n hx hb dL_law_260 rfl (lv_at hl 3 rfl) ?_
  refine lv_aload_n hx hb dL_law_261 rfl (lv_at hl 1 rfl) ?_
  refine lv_iload hx hb dL_law_262 (lv_at hl 6 rfl) ?_
  refine lv_iconst (v := 1) hx hb dL_law_264 (by decide) ?_
  refine lv_iadd hx hb dL_law_265 ?_
  refine va_sld hx hb hX hbl hbA hS hi.1 dL_law_266 ?_
  refine lv_i2c hx hb dL_law_267 rfl ?_
  refine lv_aload_n hx hb dL_law_268 rfl (lv_at hl 1 rfl) ?_
  refine lv_iload hx hb dL_law_269 (lv_at hl 6 rfl) ?_
  refine lv_iconst (v := 2) hx hb dL_law_271 (by decide) ?_
  refine lv_iadd hx hb dL_law_272 ?_
  refine va_sld hx hb hX hbl hbA hS hi.2.1 dL_law_273 ?_
  refine lv_aload_n hx hb dL_law_274 rfl (lv_at hl 1 rfl) ?_
  refine lv_iload hx hb dL_law_275 (lv_at hl 6 rfl) ?_
  refine lv_iconst (v := 3) hx hb dL_law_277 (by decide) ?_
  refine lv_iadd hx hb dL_law_278 ?_
  refine va_sld hx hb hX hbl hbA hS hi.2.2.1 dL_law_279 ?_
  refine lv_aload_n hx hb dL_law_280 rfl (lv_at hl 1 rfl) ?_
  refine lv_iload hx hb dL_law_281 (lv_at hl 6 rfl) ?_
  refine lv_iconst (v := 4) hx hb dL_law_283 (by decide) ?_
  refine lv_iadd hx hb dL_law_284 ?_
  refine va_sld hx hb hX hbl hbA hS hi.2.2.2 dL_law_285 ?_
  refine ll_mV B hW hS [.int (((xs (i + 1).toNatClampNeg).toUInt32 % 65536).toInt32), .int (xs (i + 2).toNatClampNeg), .int (xs (i + 3).toNatClampNeg), .int (xs (i + 4).toNatClampNeg)] (n := 4) (v := .int b9) (c_X6_shot e6) wm_RL_143 wi_yX6_shot ws_yX6_shot wc_yX6_shot rfl rfl (by decide +kernel) ⟨Nat.le_of_ble_eq_true rfl, Nat.le_of_ble_eq_true rfl⟩ ⟨by omega, by omega⟩ rfl hl.1 (Nat.le_of_ble_eq_true rfl) rfl dL_law_286 (fun H locs hW hS => ?_)
  refine lv_istore (lv' := [(7, .int b9), (6, .int (lwc [0, 1, 2] r)), (0, .ref b), (1, .ref (ad 0 0)), (2, .ref (am 0)), (3, .ref o1), (4, .ref o2), (5, .int i)]) hx hb dL_law_289 hl (by decide) rfl (fun ls hl => ?_)
  refine lv_aload_n hx hb dL_law_291 rfl (lv_at hl 4 rfl) ?_
  refine ll_mV B hW hS [] (n := 0) (v := .int (ms2.1 0)) (c_X6_thrown (st := ms2) rfl) wm_RL_144 wi_yX6_thrown ws_yX6_thrown wc_yX6_thrown rfl rfl (by decide +kernel) ⟨Nat.le_of_ble_eq_true rfl, Nat.le_of_ble_eq_true rfl⟩ ⟨by omega, by omega⟩ rfl hl.1 (Nat.le_of_ble_eq_true rfl) rfl dL_law_292 (fun H locs hW hS => ?_)
  refine lv_iload hx hb dL_law_295 (lv_at hl 1 rfl) ?_
  refine lv_icmp_eq (tgt := 302) hx hb dL_law_297 (by decide) (fun c1 => ?_) (fun c1 => absurd ht5 c1)
  refine lv_iload hx hb dL_law_302 (lv_at hl 1 rfl) ?_
  refine lv_if_ne (tgt := 319) hx hb dL_law_304 (by decide) (fun c2 => ?_) (fun c2 => ?_)
  · skip
    refine lv_goto (tgt := 2507) hx hb dL_law_319 (by decide) ?_
    exact W.widen (by omega) (by omega) (kk _ _ _ _ _ _ _ _ hae I2 hW hS (lv_sub hl [2, 3, 4, 5, 6, 7] rfl))
  · obtain ⟨x9, rfl⟩ := lwc_0 c2
    obtain rfl := hv5 x9 rfl
    refine lv_aload_n hx hb dL_law_307 rfl (lv_at hl 5 rfl) ?_
    refine lv_iconst (v := 0) hx hb dL_law_308 (by decide) ?_
    refine ll_lald B hW dL_law_309 ?_
    rw [louI_0]
    refine lv_iload hx hb dL_law_310 (lv_at hl 0 rfl) ?_
    refine lv_i2l hx hb dL_law_312 rfl ?_
    refine W.lcmp hx hb dL_law_313 ?_
    refine lv_if_eq (tgt := 319) hx hb dL_law_314 (by decide) (fun c3 => ?_) (fun c3 => absurd (lg_cmp_self _) c3)
    refine lv_goto (tgt := 2507) hx hb dL_law_319 (by decide) ?_
    exact W.widen (by omega) (by omega) (kk _ _ _ _ _ _ _ _ hae I2 hW hS (lv_sub hl [2, 3, 4, 5, 6, 7] rfl))
set_option maxHeartbeats 4000000 in
set_option maxRecDepth 100000 in
theorem k_drop {p : Program} {l : Launch} {e : Env} {s : State} {m : MethodId} {args : Array Value} {below : List Frame} {meth : Method} {c : Code} {H : Heap} {locs : List Loc} {cells slots : Nat} {Q : State → Prop} {ls : Array Slot} {G : GG} {A A1 A2 : Nat → Prop} {am : Nat → Nat} {o1 o2 : Nat} {ad : AD} {st : XS} {ms : MS} {f : Nat → Int64} {g : Nat → UInt64} {rt : Option FieldType} {b L : Nat} {xs : Nat → Int32} {i : Int32} (hll : l.stackTraces = false) (B : LL G A A1 A2 o1 o2 p s m args meth c rt) (hX : va_X b L xs s s.heap) (hbl : b < s.heap.size) (hbA : ¬ A b) (hi : INX i L) (I : INV st ms) (hW : LW G A A1 A2 am o1 o2 s ad st ms f g H) (hS : va_S A s.heap H locs) (hl : lv_has ls 9 [(0, .ref b), (1, .ref (ad 0 0)), (2, .ref (am 0)), (3, .ref o1), (4, .ref o2), (5, .int i)]) (hc : cells + 11 ≤ room_1.cells) (hs : slots + 248 ≤ room_1.slots)
    (kk : KK p l e s m args below meth c Q G A A1 A2 am o1 o2 ad b i cells slots) : W p l e room_1 s m args below meth c H locs cells slots Q (F0 m 322 ls []) := by
  have ⟨⟨hx, hb, hr, hml, hown, hT, hlocks, hK⟩, hNC, hLR, hA⟩ := B
  refine lv_aload_n hx hb dL_law_322 rfl (lv_at hl 1 rfl) ?_
  refine lv_aload_n hx hb dL_law_323 rfl (lv_at hl 0 rfl) ?_
  refine lv_iload hx hb dL_law_324 (lv_at hl 5 rfl) ?_
  refine lv_iconst (v := 1) hx hb dL_law_326 (by decide) ?_
  refine lv_iadd hx hb dL_law_327 ?_
  refine va_sld hx hb hX hbl hbA hS hi.1 dL_law_328 ?_
  refine lv_aload_n hx hb dL_law_329 rfl (lv_at hl 3 rfl) ?_
  obtain ⟨r, st2, b9, ms2, e5, e6, I2, hk5, ht5, hv5⟩ := ag_drop I (x1 := (xs (i + 1).toNatClampNeg))
  refine ll_wI B hW hS [.ref (ad 0 0), .int (xs (i + 1).toNatClampNeg), .ref o1] (n := 3) (c_L_drop hll e5 hk5) wm_RL_147 wt_yL_drop rfl wc_yL_drop rfl rfl (by decide +kernel) ⟨Nat.le_of_ble_eq_true rfl, Nat.le_of_ble_eq_true rfl⟩ ⟨by omega, by omega⟩ rfl hl.1 (Nat.le_of_ble_eq_true rfl) rfl dL_law_330 (fun ad2 H locs hae hW hS => ?_)
  refine lv_istore (lv' := [(6, .int (lwc [3, 1] r)), (0, .ref b), (1, .ref (ad 0 0)), (2, .ref (am 0)), (3, .ref o1), (4, .ref o2), (5, .int i)]) hx hb dL_law_333 hl (by decide) rfl (fun ls hl => ?_)
  refine lv_aload_n hx hb dL_law_335 rfl (lv_at hl 3 rfl) ?_
  refine lv_aload_n hx hb dL_law_336 rfl (lv_at hl 1 rfl) ?_
  refine lv_iload hx hb dL_law_337 (lv_at hl 6 rfl) ?_
  refine lv_iconst (v := 1) hx hb dL_law_339 (by decide) ?_
  refine lv_iadd hx hb dL_law_340 ?_
  refine va_sld hx hb hX hbl hbA hS hi.1 dL_law_341 ?_
  refine ll_mV B hW hS [.int (xs (i + 1).toNatClampNeg)] (n := 1) (v := .int b9) (c_X6_drop e6) wm_RL_150 wi_yX6_drop ws_yX6_drop wc_yX6_drop rfl rfl (by decide +kernel) ⟨Nat.le_of_ble_eq_true rfl, Nat.le_of_ble_eq_true rfl⟩ ⟨by omega, by omega⟩ rfl hl.1 (Nat.le_of_ble_eq_true rfl) rfl dL_law_342 (fun H locs hW hS => ?_)
  refine lv_istore (lv' := [(7, .int b9), (6, .int (lwc [3, 1] r)), (0, .ref b), (1, .ref (ad 0 0)), (2, .ref (am 0)), (3, .ref o1), (4, .ref o2), (5, .int i)]) hx hb dL_law_345 hl (by decide) rfl (fun ls hl => ?_)
  refine lv_aload_n hx hb dL_law_347 rfl (lv_at hl 4 rfl) ?_
  refine ll_mV B hW hS [] (n := 0) (v := .int (ms2.1 0)) (c_X6_thrown (st := ms2) rfl) wm_RL_144 wi_yX6_thrown ws_yX6_thrown wc_yX6_thrown rfl rfl (by decide +kernel) ⟨Nat.le_of_ble_eq_true rfl, Nat.le_of_ble_eq_true rfl⟩ ⟨by omega, by omega⟩ rfl hl.1 (Nat.le_of_ble_eq_true rfl) rfl dL_law_348 (fun H locs hW hS => ?_)
  refine lv_iload hx hb dL_law_351 (lv_at hl 1 rfl) ?_
  refine lv_icmp_eq (tgt := 358) hx hb dL_law_353 (by decide) (fun c1 => ?_) (fun c1 => absurd ht5 c1)
  refine lv_iload hx hb dL_law_358 (lv_at hl 1 rfl) ?_
  refine lv_if_ne (tgt := 375) hx hb dL_law_360 (by decide) (fun c2 => ?_) (fun c2 => ?_)
  · skip
    refine lv_goto (tgt := 2507) hx hb dL_law_375 (by decide) ?_
    exact W.widen (by omega) (by omega) (kk _ _ _ _ _ _ _ _ hae I2 hW hS (lv_sub hl [2, 3, 4, 5, 6, 7] rfl))
  · obtain ⟨x9, rfl⟩ := lwc_0 c2
    obtain rfl := hv5 x9 rfl
    refine lv_aload_n hx hb dL_law_363 rfl (lv_at hl 5 rfl) ?_
    refine lv_iconst (v := 0) hx hb dL_law_364 (by decide) ?_
    refine ll_lald B hW dL_law_365 ?_
    rw [louI_0]
    refine lv_iload hx hb dL_law_366 (lv_at hl 0 rfl) ?_
    refine lv_i2l hx hb dL_law_368 rfl ?_
    refine W.lcmp hx hb dL_law_369 ?_
    refine lv_if_eq (tgt := 375) hx hb dL_law_370 (by decide) (fun c3 => ?_) (fun c3 => absurd (lg_cmp_self _) c3)
    refine lv_goto (tgt := 2507) hx hb dL_law_375 (by decide) ?_
    exact W.widen (by omega) (by omega) (kk _ _ _ _ _ _ _ _ hae I2 hW hS (lv_sub hl [2, 3, 4, 5, 6, 7] rfl))
set_option maxHeartbeats 4000000 in
set_option maxRecDepth 100000 in
theorem k_move {p : Program} {l : Launch} {e : Env} {s : State} {m : MethodId} {args : Array Value} {below : List Frame} {meth : Method} {c : Code} {H : Heap} {locs : List Loc} {cells slots : Nat} {Q : State → Prop} {ls : Array Slot} {G : GG} {A A1 A2 : Nat → Prop} {am : Nat → Nat} {o1 o2 : Nat} {ad : AD} {st : XS} {ms : MS} {f : Nat → Int64} {g : Nat → UInt64} {rt : Option FieldType} {b L : Nat} {xs : Nat → Int32} {i : Int32} (hll : l.stackTraces = false) (B : LL G A A1 A2 o1 o2 p s m args meth c rt) (hX : va_X b L xs s s.heap) (hbl : b < s.heap.size) (hbA : ¬ A b) (hi : INX i L) (I : INV st ms) (hW : LW G A A1 A2 am o1 o2 s ad st ms f g H) (hS : va_S A s.heap H locs) (hl : lv_has ls 9 [(0, .ref b), (1, .ref (ad 0 0)), (2, .ref (am 0)), (3, .ref o1), (4, .ref o2), (5, .int i)]) (hc : cells + 11 ≤ room_1.cells) (hs : slots + 248 ≤ room_1.slots)
    (kk : KK p l e s m args below meth c Q G A A1 A2 am o1 o2 ad b i cells slots) : W p l e room_1 s m args below meth c H locs cells slots Q (F0 m 378 ls []) := by
  have ⟨⟨hx, hb, hr, hml, hown, hT, hlocks, hK⟩, hNC, hLR, hA⟩ := B
  refine lv_aload_n hx hb dL_law_378 rfl (lv_at hl 1 rfl) ?_
  refine lv_aload_n hx hb dL_law_379 rfl (lv_at hl 0 rfl) ?_
  refine lv_iload hx hb dL_law_380 (lv_at hl 5 rfl) ?_
  refine lv_iconst (v := 1) hx hb dL_law_382 (by decide) ?_
  refine lv_iadd hx hb dL_law_383 ?_
  refine va_sld hx hb hX hbl hbA hS hi.1 dL_law_384 ?_
  refine lv_aload_n hx hb dL_law_385 rfl (lv_at hl 0 rfl) ?_
  refine lv_iload hx hb dL_law_386 (lv_at hl 5 rfl) ?_
  refine lv_iconst (v := 2) hx hb dL_law_388 (by decide) ?_
  refine lv_iadd hx hb dL_law_389 ?_
  refine va_sld hx hb hX hbl hbA hS hi.2.1 dL_law_390 ?_
  refine lv_aload_n hx hb dL_law_391 rfl (lv_at hl 3 rfl) ?_
  obtain ⟨r, st2, b9, ms2, e5, e6, I2, hk5, ht5, hv5⟩ := ag_move I (x1 := (xs (i + 1).toNatClampNeg)) (x2 := (xs (i + 2).toNatClampNeg))
  refine ll_wI B hW hS [.ref (ad 0 0), .int (xs (i + 1).toNatClampNeg), .int (xs (i + 2).toNatClampNeg), .ref o1] (n := 4) (c_L_move hll e5 hk5) wm_RL_151 wt_yL_move rfl wc_yL_move rfl rfl (by decide +kernel) ⟨Nat.le_of_ble_eq_true rfl, Nat.le_of_ble_eq_true rfl⟩ ⟨by omega, by omega⟩ rfl hl.1 (Nat.le_of_ble_eq_true rfl) rfl dL_law_392 (fun ad2 H locs hae hW hS => ?_)
  refine lv_istore (lv' := [(6, .int (lwc [3, 0, 1] r)), (0, .ref b), (1, .ref (ad 0 0)), (2, .ref (am 0)), (3, .ref o1), (4, .ref o2), (5, .int i)]) hx hb dL_law_395 hl (by decide) rfl (fun ls hl => ?_)
  refine lv_aload_n hx hb dL_law_397 rfl (lv_at hl 3 rfl) ?_
  refine lv_aload_n hx hb dL_law_398 rfl (lv_at hl 1 rfl) ?_
  refine lv_iload hx hb dL_law_399 (lv_at hl 6 rfl) ?_
  refine lv_iconst (v := 1) hx hb dL_law_401 (by decide) ?_
  refine lv_iadd hx hb dL_law_402 ?_
  refine va_sld hx hb hX hbl hbA hS hi.1 dL_law_403 ?_
  refine lv_aload_n hx hb dL_law_404 rfl (lv_at hl 1 rfl) ?_
  refine lv_iload hx hb dL_law_405 (lv_at hl 6 rfl) ?_
  refine lv_iconst (v := 2) hx hb dL_law_407 (by decide) ?_
  refine lv_iadd hx hb dL_law_408 ?_
  refine va_sld hx hb hX hbl hbA hS hi.2.1 dL_law_409 ?_
  refine ll_mV B hW hS [.int (xs (i + 1).toNatClampNeg), .int (xs (i + 2).toNatClampNeg)] (n := 2) (v := .int b9) (c_X6_move e6) wm_RL_154 wi_yX6_move ws_yX6_move wc_yX6_move rfl rfl (by decide +kernel) ⟨Nat.le_of_ble_eq_true rfl, Nat.le_of_ble_eq_true rfl⟩ ⟨by omega, by omega⟩ rfl hl.1 (Nat.le_of_ble_eq_true rfl) rfl dL_law_410 (fun H locs hW hS => ?_)
  refine lv_istore (lv' := [(7, .int b9), (6, .int (lwc [3, 0, 1] r)), (0, .ref b), (1, .ref (ad 0 0)), (2, .ref (am 0)), (3, .ref o1), (4, .ref o2), (5, .int i)]) hx hb dL_law_413 hl (by decide) rfl (fun ls hl => ?_)
  refine lv_aload_n hx hb dL_law_415 rfl (lv_at hl 4 rfl) ?_
  refine ll_mV B hW hS [] (n := 0) (v := .int (ms2.1 0)) (c_X6_thrown (st := ms2) rfl) wm_RL_144 wi_yX6_thrown ws_yX6_thrown wc_yX6_thrown rfl rfl (by decide +kernel) ⟨Nat.le_of_ble_eq_true rfl, Nat.le_of_ble_eq_true rfl⟩ ⟨by omega, by omega⟩ rfl hl.1 (Nat.le_of_ble_eq_true rfl) rfl dL_law_416 (fun H locs hW hS => ?_)
  refine lv_iload hx hb dL_law_419 (lv_at hl 1 rfl) ?_
  refine lv_icmp_eq (tgt := 426) hx hb dL_law_421 (by decide) (fun c1 => ?_) (fun c1 => absurd ht5 c1)
  refine lv_iload hx hb dL_law_426 (lv_at hl 1 rfl) ?_
  refine lv_if_ne (tgt := 443) hx hb dL_law_428 (by decide) (fun c2 => ?_) (fun c2 => ?_)
  · skip
    refine lv_goto (tgt := 2507) hx hb dL_law_443 (by decide) ?_
    exact W.widen (by omega) (by omega) (kk _ _ _ _ _ _ _ _ hae I2 hW hS (lv_sub hl [2, 3, 4, 5, 6, 7] rfl))
  · obtain ⟨x9, rfl⟩ := lwc_0 c2
    obtain rfl := hv5 x9 rfl
    refine lv_aload_n hx hb dL_law_431 rfl (lv_at hl 5 rfl) ?_
    refine lv_iconst (v := 0) hx hb dL_law_432 (by decide) ?_
    refine ll_lald B hW dL_law_433 ?_
    rw [louI_0]
    refine lv_iload hx hb dL_law_434 (lv_at hl 0 rfl) ?_
    refine lv_i2l hx hb dL_law_436 rfl ?_
    refine W.lcmp hx hb dL_law_437 ?_
    refine lv_if_eq (tgt := 443) hx hb dL_law_438 (by decide) (fun c3 => ?_) (fun c3 => absurd (lg_cmp_self _) c3)
    refine lv_goto (tgt := 2507) hx hb dL_law_443 (by decide) ?_
    exact W.widen (by omega) (by omega) (kk _ _ _ _ _ _ _ _ hae I2 hW hS (lv_sub hl [2, 3, 4, 5, 6, 7] rfl))
set_option maxHeartbeats 4000000 in
set_option maxRecDepth 100000 in
theorem k_shots {p : Program} {l : Launch} {e : Env} {s : State} {m : MethodId} {args : Array Value} {below : List Frame} {meth : Method} {c : Code} {H : Heap} {locs : List Loc} {cells slots : Nat} {Q : State → Prop} {ls : Array Slot} {G : GG} {A A1 A2 : Nat → Prop} {am : Nat → Nat} {o1 o2 : Nat} {ad : AD} {st : XS} {ms : MS} {f : Nat → Int64} {g : Nat → UInt64} {rt : Option FieldType} {b L : Nat} {xs : Nat → Int32} {i : Int32} (hll : l.stackTraces = false) (B : LL G A A1 A2 o1 o2 p s m args meth c rt) (hX : va_X b L xs s s.heap) (hbl : b < s.heap.size) (hbA : ¬ A b) (hi : INX i L) (I : INV st ms) (hW : LW G A A1 A2 am o1 o2 s ad st ms f g H) (hS : va_S A s.heap H locs) (hl : lv_has ls 9 [(0, .ref b), (1, .ref (ad 0 0)), (2, .ref (am 0)), (3, .ref o1), (4, .ref o2), (5, .int i)]) (hc : cells + 11 ≤ room_1.cells) (hs : slots + 248 ≤ room_1.slots)
    (kk : KK p l e s m args below meth c Q G A A1 A2 am o1 o2 ad b i cells slots) : W p l e room_1 s m args below meth c H locs cells slots Q (F0 m 446 ls []) := by
  have ⟨⟨hx, hb, hr, hml, hown, hT, hlocks, hK⟩, hNC, hLR, hA⟩ := B
  refine lv_aload_n hx hb dL_law_446 rfl (lv_at hl 1 rfl) ?_
  obtain ⟨r, st2, ms2, e5, e6, I2⟩ := ag_shots I
  refine ll_xV B hW hS [] (n := 0) (v := .int r) (c_X5_shots hll e5) wm_RL_155 wi_yX5_shots ws_yX5_shots wc_yX5_shots rfl rfl (by decide +kernel) ⟨Nat.le_of_ble_eq_true rfl, Nat.le_of_ble_eq_true rfl⟩ ⟨by omega, by omega⟩ rfl hl.1 (Nat.le_of_ble_eq_true rfl) rfl dL_law_447 (fun H locs hW hS => ?_)
  refine lv_aload_n hx hb dL_law_450 rfl (lv_at hl 2 rfl) ?_
  refine ll_mV B hW hS [] (n := 0) (v := .int r) (c_X6_shots e6) wm_RL_158 wi_yX6_shots ws_yX6_shots wc_yX6_shots rfl rfl (by decide +kernel) ⟨Nat.le_of_ble_eq_true rfl, Nat.le_of_ble_eq_true rfl⟩ ⟨by omega, by omega⟩ rfl hl.1 (Nat.le_of_ble_eq_true rfl) rfl dL_law_451 (fun H locs hW hS => ?_)
  refine lv_icmp_eq (tgt := 2507) hx hb dL_law_454 (by decide) (fun c1 => ?_) (fun c1 => absurd rfl c1)
  exact W.widen (by omega) (by omega) (kk _ _ _ _ _ _ _ _ AE.rf I2 hW hS (lv_sub hl [0, 1, 2, 3, 4, 5] rfl))
set_option maxHeartbeats 4000000 in
set_option maxRecDepth 100000 in
theorem k_at {p : Program} {l : Launch} {e : Env} {s : State} {m : MethodId} {args : Array Value} {below : List Frame} {meth : Method} {c : Code} {H : Heap} {locs : List Loc} {cells slots : Nat} {Q : State → Prop} {ls : Array Slot} {G : GG} {A A1 A2 : Nat → Prop} {am : Nat → Nat} {o1 o2 : Nat} {ad : AD} {st : XS} {ms : MS} {f : Nat → Int64} {g : Nat → UInt64} {rt : Option FieldType} {b L : Nat} {xs : Nat → Int32} {i : Int32} (hll : l.stackTraces = false) (B : LL G A A1 A2 o1 o2 p s m args meth c rt) (hX : va_X b L xs s s.heap) (hbl : b < s.heap.size) (hbA : ¬ A b) (hi : INX i L) (I : INV st ms) (hW : LW G A A1 A2 am o1 o2 s ad st ms f g H) (hS : va_S A s.heap H locs) (hl : lv_has ls 9 [(0, .ref b), (1, .ref (ad 0 0)), (2, .ref (am 0)), (3, .ref o1), (4, .ref o2), (5, .int i)]) (hc : cells + 11 ≤ room_1.cells) (hs : slots + 248 ≤ room_1.slots)
    (kk : KK p l e s m args below meth c Q G A A1 A2 am o1 o2 ad b i cells slots) : W p l e room_1 s m args below meth c H locs cells slots Q (F0 m 459 ls []) := by
  have ⟨⟨hx, hb, hr, hml, hown, hT, hlocks, hK⟩, hNC, hLR, hA⟩ := B
  refine lv_aload_n hx hb dL_law_459 rfl (lv_at hl 1 rfl) ?_
  refine lv_aload_n hx hb dL_law_460 rfl (lv_at hl 0 rfl) ?_
  refine lv_iload hx hb dL_law_461 (lv_at hl 5 rfl) ?_
  refine lv_iconst (v := 1) hx hb dL_law_463 (by decide) ?_
  refine lv_iadd hx hb dL_law_464 ?_
  refine va_sld hx hb hX hbl hbA hS hi.1 dL_law_465 ?_
  refine lv_aload_n hx hb dL_law_466 rfl (lv_at hl 3 rfl) ?_
  obtain ⟨r, st2, b9, ms2, e5, e6, I2, hk5, ht5, hv5⟩ := ag_at I (x1 := (xs (i + 1).toNatClampNeg))
  refine ll_wI B hW hS [.ref (ad 0 0), .int (xs (i + 1).toNatClampNeg), .ref o1] (n := 3) (c_L_at hll e5 hk5) wm_RL_159 wt_yL_at rfl wc_yL_at rfl rfl (by decide +kernel) ⟨Nat.le_of_ble_eq_true rfl, Nat.le_of_ble_eq_true rfl⟩ ⟨by omega, by omega⟩ rfl hl.1 (Nat.le_of_ble_eq_true rfl) rfl dL_law_467 (fun ad2 H locs hae hW hS => ?_)
  refine lv_istore (lv' := [(6, .int (lwc [4] r)), (0, .ref b), (1, .ref (ad 0 0)), (2, .ref (am 0)), (3, .ref o1), (4, .ref o2), (5, .int i)]) hx hb dL_law_470 hl (by decide) rfl (fun ls hl => ?_)
  refine lv_aload_n hx hb dL_law_472 rfl (lv_at hl 3 rfl) ?_
  refine lv_aload_n hx hb dL_law_473 rfl (lv_at hl 1 rfl) ?_
  refine lv_iload hx hb dL_law_474 (lv_at hl 6 rfl) ?_
  refine lv_iconst (v := 1) hx hb dL_law_476 (by decide) ?_
  refine lv_iadd hx hb dL_law_477 ?_
  refine va_sld hx hb hX hbl hbA hS hi.1 dL_law_478 ?_
  refine ll_mV B hW hS [.int (xs (i + 1).toNatClampNeg)] (n := 1) (v := .int b9) (c_X6_at e6) wm_RL_161 wi_yX6_at ws_yX6_at wc_yX6_at rfl rfl (by decide +kernel) ⟨Nat.le_of_ble_eq_true rfl, Nat.le_of_ble_eq_true rfl⟩ ⟨by omega, by omega⟩ rfl hl.1 (Nat.le_of_ble_eq_true rfl) rfl dL_law_479 (fun H locs hW hS => ?_)
  refine lv_istore (lv' := [(7, .int b9), (6, .int (lwc [4] r)), (0, .ref b), (1, .ref (ad 0 0)), (2, .ref (am 0)), (3, .ref o1), (4, .ref o2), (5, .int i)]) hx hb dL_law_482 hl (by decide) rfl (fun ls hl => ?_)
  refine lv_aload_n hx hb dL_law_484 rfl (lv_at hl 4 rfl) ?_
  refine ll_mV B hW hS [] (n := 0) (v := .int (ms2.1 0)) (c_X6_thrown (st := ms2) rfl) wm_RL_144 wi_yX6_thrown ws_yX6_thrown wc_yX6_thrown rfl rfl (by decide +kernel) ⟨Nat.le_of_ble_eq_true rfl, Nat.le_of_ble_eq_true rfl⟩ ⟨by omega, by omega⟩ rfl hl.1 (Nat.le_of_ble_eq_true rfl) rfl dL_law_485 (fun H locs hW hS => ?_)
  refine lv_iload hx hb dL_law_488 (lv_at hl 1 rfl) ?_
  refine lv_icmp_eq (tgt := 495) hx hb dL_law_490 (by decide) (fun c1 => ?_) (fun c1 => absurd ht5 c1)
  refine lv_iload hx hb dL_law_495 (lv_at hl 1 rfl) ?_
  refine lv_if_ne (tgt := 512) hx hb dL_law_497 (by decide) (fun c2 => ?_) (fun c2 => ?_)
  · skip
    refine lv_goto (tgt := 2507) hx hb dL_law_512 (by decide) ?_
    exact W.widen (by omega) (by omega) (kk _ _ _ _ _ _ _ _ hae I2 hW hS (lv_sub hl [2, 3, 4, 5, 6, 7] rfl))
  · obtain ⟨x9, rfl⟩ := lwc_0 c2
    obtain rfl := hv5 x9 rfl
    refine lv_aload_n hx hb dL_law_500 rfl (lv_at hl 5 rfl) ?_
    refine lv_iconst (v := 0) hx hb dL_law_501 (by decide) ?_
    refine ll_lald B hW dL_law_502 ?_
    rw [louI_0]
    refine lv_iload hx hb dL_law_503 (lv_at hl 0 rfl) ?_
    refine lv_i2l hx hb dL_law_505 rfl ?_
    refine W.lcmp hx hb dL_law_506 ?_
    refine lv_if_eq (tgt := 512) hx hb dL_law_507 (by decide) (fun c3 => ?_) (fun c3 => absurd (lg_cmp_self _) c3)
    refine lv_goto (tgt := 2507) hx hb dL_law_512 (by decide) ?_
    exact W.widen (by omega) (by omega) (kk _ _ _ _ _ _ _ _ hae I2 hW hS (lv_sub hl [2, 3, 4, 5, 6, 7] rfl))
set_option maxHeartbeats 4000000 in
set_option maxRecDepth 100000 in
theorem k_place {p : Program} {l : Launch} {e : Env} {s : State} {m : MethodId} {args : Array Value} {below : List Frame} {meth : Method} {c : Code} {H : Heap} {locs : List Loc} {cells slots : Nat} {Q : State → Prop} {ls : Array Slot} {G : GG} {A A1 A2 : Nat → Prop} {am : Nat → Nat} {o1 o2 : Nat} {ad : AD} {st : XS} {ms : MS} {f : Nat → Int64} {g : Nat → UInt64} {rt : Option FieldType} {b L : Nat} {xs : Nat → Int32} {i : Int32} (hll : l.stackTraces = false) (B : LL G A A1 A2 o1 o2 p s m args meth c rt) (hX : va_X b L xs s s.heap) (hbl : b < s.heap.size) (hbA : ¬ A b) (hi : INX i L) (I : INV st ms) (hW : LW G A A1 A2 am o1 o2 s ad st ms f g H) (hS : va_S A s.heap H locs) (hl : lv_has ls 9 [(0, .ref b), (1, .ref (ad 0 0)), (2, .ref (am 0)), (3, .ref o1), (4, .ref o2), (5, .int i)]) (hc : cells + 11 ≤ room_1.cells) (hs : slots + 248 ≤ room_1.slots)
    (kk : KK p l e s m args below meth c Q G A A1 A2 am o1 o2 ad b i cells slots) : W p l e room_1 s m args below meth c H locs cells slots Q (F0 m 515 ls []) := by
  have ⟨⟨hx, hb, hr, hml, hown, hT, hlocks, hK⟩, hNC, hLR, hA⟩ := B
  refine lv_aload_n hx hb dL_law_515 rfl (lv_at hl 1 rfl) ?_
  refine lv_aload_n hx hb dL_law_516 rfl (lv_at hl 0 rfl) ?_
  refine lv_iload hx hb dL_law_517 (lv_at hl 5 rfl) ?_
  refine lv_iconst (v := 1) hx hb dL_law_519 (by decide) ?_
  refine lv_iadd hx hb dL_law_520 ?_
  refine va_sld hx hb hX hbl hbA hS hi.1 dL_law_521 ?_
  refine lv_aload_n hx hb dL_law_522 rfl (lv_at hl 3 rfl) ?_
  obtain ⟨r, st2, b9, ms2, e5, e6, I2, hk5, ht5, hv5⟩ := ag_place I (x1 := (xs (i + 1).toNatClampNeg))
  refine ll_wI B hW hS [.ref (ad 0 0), .int (xs (i + 1).toNatClampNeg), .ref o1] (n := 3) (c_L_place hll e5 hk5) wm_RL_162 wt_yL_place rfl wc_yL_place rfl rfl (by decide +kernel) ⟨Nat.le_of_ble_eq_true rfl, Nat.le_of_ble_eq_true rfl⟩ ⟨by omega, by omega⟩ rfl hl.1 (Nat.le_of_ble_eq_true rfl) rfl dL_law_523 (fun ad2 H locs hae hW hS => ?_)
  refine lv_istore (lv' := [(6, .int (lwc [3, 4] r)), (0, .ref b), (1, .ref (ad 0 0)), (2, .ref (am 0)), (3, .ref o1), (4, .ref o2), (5, .int i)]) hx hb dL_law_526 hl (by decide) rfl (fun ls hl => ?_)
  refine lv_aload_n hx hb dL_law_528 rfl (lv_at hl 3 rfl) ?_
  refine lv_aload_n hx hb dL_law_529 rfl (lv_at hl 1 rfl) ?_
  refine lv_iload hx hb dL_law_530 (lv_at hl 6 rfl) ?_
  refine lv_iconst (v := 1) hx hb dL_law_532 (by decide) ?_
  refine lv_iadd hx hb dL_law_533 ?_
  refine va_sld hx hb hX hbl hbA hS hi.1 dL_law_534 ?_
  refine ll_mV B hW hS [.int (xs (i + 1).toNatClampNeg)] (n := 1) (v := .int b9) (c_X6_place e6) wm_RL_164 wi_yX6_place ws_yX6_place wc_yX6_place rfl rfl (by decide +kernel) ⟨Nat.le_of_ble_eq_true rfl, Nat.le_of_ble_eq_true rfl⟩ ⟨by omega, by omega⟩ rfl hl.1 (Nat.le_of_ble_eq_true rfl) rfl dL_law_535 (fun H locs hW hS => ?_)
  refine lv_istore (lv' := [(7, .int b9), (6, .int (lwc [3, 4] r)), (0, .ref b), (1, .ref (ad 0 0)), (2, .ref (am 0)), (3, .ref o1), (4, .ref o2), (5, .int i)]) hx hb dL_law_538 hl (by decide) rfl (fun ls hl => ?_)
  refine lv_aload_n hx hb dL_law_540 rfl (lv_at hl 4 rfl) ?_
  refine ll_mV B hW hS [] (n := 0) (v := .int (ms2.1 0)) (c_X6_thrown (st := ms2) rfl) wm_RL_144 wi_yX6_thrown ws_yX6_thrown wc_yX6_thrown rfl rfl (by decide +kernel) ⟨Nat.le_of_ble_eq_true rfl, Nat.le_of_ble_eq_true rfl⟩ ⟨by omega, by omega⟩ rfl hl.1 (Nat.le_of_ble_eq_true rfl) rfl dL_law_541 (fun H locs hW hS => ?_)
  refine lv_iload hx hb dL_law_544 (lv_at hl 1 rfl) ?_
  refine lv_icmp_eq (tgt := 551) hx hb dL_law_546 (by decide) (fun c1 => ?_) (fun c1 => absurd ht5 c1)
  refine lv_iload hx hb dL_law_551 (lv_at hl 1 rfl) ?_
  refine lv_if_ne (tgt := 568) hx hb dL_law_553 (by decide) (fun c2 => ?_) (fun c2 => ?_)
  · skip
    refine lv_goto (tgt := 2507) hx hb dL_law_568 (by decide) ?_
    exact W.widen (by omega) (by omega) (kk _ _ _ _ _ _ _ _ hae I2 hW hS (lv_sub hl [2, 3, 4, 5, 6, 7] rfl))
  · obtain ⟨x9, rfl⟩ := lwc_0 c2
    obtain rfl := hv5 x9 rfl
    refine lv_aload_n hx hb dL_law_556 rfl (lv_at hl 5 rfl) ?_
    refine lv_iconst (v := 0) hx hb dL_law_557 (by decide) ?_
    refine ll_lald B hW dL_law_558 ?_
    rw [louI_0]
    refine lv_iload hx hb dL_law_559 (lv_at hl 0 rfl) ?_
    refine lv_i2l hx hb dL_law_561 rfl ?_
    refine W.lcmp hx hb dL_law_562 ?_
    refine lv_if_eq (tgt := 568) hx hb dL_law_563 (by decide) (fun c3 => ?_) (fun c3 => absurd (lg_cmp_self _) c3)
    refine lv_goto (tgt := 2507) hx hb dL_law_568 (by decide) ?_
    exact W.widen (by omega) (by omega) (kk _ _ _ _ _ _ _ _ hae I2 hW hS (lv_sub hl [2, 3, 4, 5, 6, 7] rfl))
set_option maxHeartbeats 4000000 in
set_option maxRecDepth 100000 in
theorem k_camera {p : Program} {l : Launch} {e : Env} {s : State} {m : MethodId} {args : Array Value} {below : List Frame} {meth : Method} {c : Code} {H : Heap} {locs : List Loc} {cells slots : Nat} {Q : State → Prop} {ls : Array Slot} {G : GG} {A A1 A2 : Nat → Prop} {am : Nat → Nat} {o1 o2 : Nat} {ad : AD} {st : XS} {ms : MS} {f : Nat → Int64} {g : Nat → UInt64} {rt : Option FieldType} {b L : Nat} {xs : Nat → Int32} {i : Int32} (hll : l.stackTraces = false) (B : LL G A A1 A2 o1 o2 p s m args meth c rt) (hX : va_X b L xs s s.heap) (hbl : b < s.heap.size) (hbA : ¬ A b) (hi : INX i L) (I : INV st ms) (hW : LW G A A1 A2 am o1 o2 s ad st ms f g H) (hS : va_S A s.heap H locs) (hl : lv_has ls 9 [(0, .ref b), (1, .ref (ad 0 0)), (2, .ref (am 0)), (3, .ref o1), (4, .ref o2), (5, .int i)]) (hc : cells + 11 ≤ room_1.cells) (hs : slots + 248 ≤ room_1.slots)
    (kk : KK p l e s m args below meth c Q G A A1 A2 am o1 o2 ad b i cells slots) : W p l e room_1 s m args below meth c H locs cells slots Q (F0 m 571 ls []) := by
  have ⟨⟨hx, hb, hr, hml, hown, hT, hlocks, hK⟩, hNC, hLR, hA⟩ := B
  refine lv_aload_n hx hb dL_law_571 rfl (lv_at hl 1 rfl) ?_
  refine lv_aload_n hx hb dL_law_572 rfl (lv_at hl 0 rfl) ?_
  refine lv_iload hx hb dL_law_573 (lv_at hl 5 rfl) ?_
  refine lv_iconst (v := 1) hx hb dL_law_575 (by decide) ?_
  refine lv_iadd hx hb dL_law_576 ?_
  refine va_sld hx hb hX hbl hbA hS hi.1 dL_law_577 ?_
  refine lv_aload_n hx hb dL_law_578 rfl (lv_at hl 0 rfl) ?_
  refine lv_iload hx hb dL_law_579 (lv_at hl 5 rfl) ?_
  refine lv_iconst (v := 2) hx hb dL_law_581 (by decide) ?_
  refine lv_iadd hx hb dL_law_582 ?_
  refine va_sld hx hb hX hbl hbA hS hi.2.1 dL_law_583 ?_
  refine lv_i2c hx hb dL_law_584 rfl ?_
  refine lv_aload_n hx hb dL_law_585 rfl (lv_at hl 0 rfl) ?_
  refine lv_iload hx hb dL_law_586 (lv_at hl 5 rfl) ?_
  refine lv_iconst (v := 3) hx hb dL_law_588 (by decide) ?_
  refine lv_iadd hx hb dL_law_589 ?_
  refine va_sld hx hb hX hbl hbA hS hi.2.2.1 dL_law_590 ?_
  refine lv_aload_n hx hb dL_law_591 rfl (lv_at hl 3 rfl) ?_
  obtain ⟨r, st2, b9, ms2, e5, e6, I2, hk5, ht5, hv5⟩ := ag_camera I (x1 := (xs (i + 1).toNatClampNeg)) (x2 := (((xs (i + 2).toNatClampNeg).toUInt32 % 65536).toInt32)) (x3 := (xs (i + 3).toNatClampNeg)) (ch_ok _)
  refine ll_wI B hW hS [.ref (ad 0 0), .int (xs (i + 1).toNatClampNeg), .int (((xs (i + 2).toNatClampNeg).toUInt32 % 65536).toInt32), .int (xs (i + 3).toNatClampNeg), .ref o1] (n := 5) (c_L_camera hll e5 hk5) wm_RL_165 wt_yL_camera rfl wc_yL_camera rfl rfl (by decide +kernel) ⟨Nat.le_of_ble_eq_true rfl, Nat.le_of_ble_eq_true rfl⟩ ⟨by omega, by omega⟩ rfl hl.1 (Nat.le_of_ble_eq_true rfl) rfl dL_law_592 (fun ad2 H locs hae hW hS => ?_)
  refine lv_istore (lv' := [(6, .int (lwc [3, 0, 1] r)), (0, .ref b), (1, .ref (ad 0 0)), (2, .ref (am 0)), (3, .ref o1), (4, .ref o2), (5, .int i)]) hx hb dL_law_595 hl (by decide) rfl (fun ls hl => ?_)
  refine lv_aload_n hx hb dL_law_597 rfl (lv_at hl 3 rfl) ?_
  refine lv_aload_n hx hb dL_law_598 rfl (lv_at hl 1 rfl) ?_
  refine lv_iload hx hb dL_law_599 (lv_at hl 6 rfl) ?_
  refine lv_iconst (v := 1) hx hb dL_law_601 (by decide) ?_
  refine lv_iadd hx hb dL_law_602 ?_
  refine va_sld hx hb hX hbl hbA hS hi.1 dL_law_603 ?_
  refine lv_aload_n hx hb dL_law_604 rfl (lv_at hl 1 rfl) ?_
  refine lv_iload hx hb dL_law_605 (lv_at hl 6 rfl) ?_
  refine lv_iconst (v := 2) hx hb dL_law_607 (by decide) ?_
  refine lv_iadd hx hb dL_law_608 ?_
  refine va_sld hx hb hX hbl hbA hS hi.2.1 dL_law_609 ?_
  refine lv_i2c hx hb dL_law_610 rfl ?_
  refine lv_aload_n hx hb dL_law_611 rfl (lv_at hl 1 rfl) ?_
  refine lv_iload hx hb dL_law_612 (lv_at hl 6 rfl) ?_
  refine lv_iconst (v := 3) hx hb dL_law_614 (by decide) ?_
  refine lv_iadd hx hb dL_law_615 ?_
  refine va_sld hx hb hX hbl hbA hS hi.2.2.1 dL_law_616 ?_
  refine ll_mV B hW hS [.int (xs (i + 1).toNatClampNeg), .int (((xs (i + 2).toNatClampNeg).toUInt32 % 65536).toInt32), .int (xs (i + 3).toNatClampNeg)] (n := 3) (v := .int b9) (c_X6_camera e6) wm_RL_168 wi_yX6_camera ws_yX6_camera wc_yX6_camera rfl rfl (by decide +kernel) ⟨Nat.le_of_ble_eq_true rfl, Nat.le_of_ble_eq_true rfl⟩ ⟨by omega, by omega⟩ rfl hl.1 (Nat.le_of_ble_eq_true rfl) rfl dL_law_617 (fun H locs hW hS => ?_)
  refine lv_istore (lv' := [(7, .int b9), (6, .int (lwc [3, 0, 1] r)), (0, .ref b), (1, .ref (ad 0 0)), (2, .ref (am 0)), (3, .ref o1), (4, .ref o2), (5, .int i)]) hx hb dL_law_620 hl (by decide) rfl (fun ls hl => ?_)
  refine lv_aload_n hx hb dL_law_622 rfl (lv_at hl 4 rfl) ?_
  refine ll_mV B hW hS [] (n := 0) (v := .int (ms2.1 0)) (c_X6_thrown (st := ms2) rfl) wm_RL_144 wi_yX6_thrown ws_yX6_thrown wc_yX6_thrown rfl rfl (by decide +kernel) ⟨Nat.le_of_ble_eq_true rfl, Nat.le_of_ble_eq_true rfl⟩ ⟨by omega, by omega⟩ rfl hl.1 (Nat.le_of_ble_eq_true rfl) rfl dL_law_623 (fun H locs hW hS => ?_)
  refine lv_iload hx hb dL_law_626 (lv_at hl 1 rfl) ?_
  refine lv_icmp_eq (tgt := 633) hx hb dL_law_628 (by decide) (fun c1 => ?_) (fun c1 => absurd ht5 c1)
  refine lv_iload hx hb dL_law_633 (lv_at hl 1 rfl) ?_
  refine lv_if_ne (tgt := 650) hx hb dL_law_635 (by decide) (fun c2 => ?_) (fun c2 => ?_)
  · skip
    refine lv_goto (tgt := 2507) hx hb dL_law_650 (by decide) ?_
    exact W.widen (by omega) (by omega) (kk _ _ _ _ _ _ _ _ hae I2 hW hS (lv_sub hl [2, 3, 4, 5, 6, 7] rfl))
  · obtain ⟨x9, rfl⟩ := lwc_0 c2
    obtain rfl := hv5 x9 rfl
    refine lv_aload_n hx hb dL_law_638 rfl (lv_at hl 5 rfl) ?_
    refine lv_iconst (v := 0) hx hb dL_law_639 (by decide) ?_
    refine ll_lald B hW dL_law_640 ?_
    rw [louI_0]
    refine lv_iload hx hb dL_law_641 (lv_at hl 0 rfl) ?_
    refine lv_i2l hx hb dL_law_643 rfl ?_
    refine W.lcmp hx hb dL_law_644 ?_
    refine lv_if_eq (tgt := 650) hx hb dL_law_645 (by decide) (fun c3 => ?_) (fun c3 => absurd (lg_cmp_self _) c3)
    refine lv_goto (tgt := 2507) hx hb dL_law_650 (by decide) ?_
    exact W.widen (by omega) (by omega) (kk _ _ _ _ _ _ _ _ hae I2 hW hS (lv_sub hl [2, 3, 4, 5, 6, 7] rfl))
set_option maxHeartbeats 4000000 in
set_option maxRecDepth 100000 in
theorem k_length {p : Program} {l : Launch} {e : Env} {s : State} {m : MethodId} {args : Array Value} {below : List Frame} {meth : Method} {c : Code} {H : Heap} {locs : List Loc} {cells slots : Nat} {Q : State → Prop} {ls : Array Slot} {G : GG} {A A1 A2 : Nat → Prop} {am : Nat → Nat} {o1 o2 : Nat} {ad : AD} {st : XS} {ms : MS} {f : Nat → Int64} {g : Nat → UInt64} {rt : Option FieldType} {b L : Nat} {xs : Nat → Int32} {i : Int32} (hll : l.stackTraces = false) (B : LL G A A1 A2 o1 o2 p s m args meth c rt) (hX : va_X b L xs s s.heap) (hbl : b < s.heap.size) (hbA : ¬ A b) (hi : INX i L) (I : INV st ms) (hW : LW G A A1 A2 am o1 o2 s ad st ms f g H) (hS : va_S A s.heap H locs) (hl : lv_has ls 9 [(0, .ref b), (1, .ref (ad 0 0)), (2, .ref (am 0)), (3, .ref o1), (4, .ref o2), (5, .int i)]) (hc : cells + 11 ≤ room_1.cells) (hs : slots + 248 ≤ room_1.slots)
    (kk : KK p l e s m args below meth c Q G A A1 A2 am o1 o2 ad b i cells slots) : W p l e room_1 s m args below meth c H locs cells slots Q (F0 m 653 ls []) := by
  have ⟨⟨hx, hb, hr, hml, hown, hT, hlocks, hK⟩, hNC, hLR, hA⟩ := B
  refine lv_aload_n hx hb dL_law_653 rfl (lv_at hl 1 rfl) ?_
  refine lv_aload_n hx hb dL_law_654 rfl (lv_at hl 0 rfl) ?_
  refine lv_iload hx hb dL_law_655 (lv_at hl 5 rfl) ?_
  refine lv_iconst (v := 1) hx hb dL_law_657 (by decide) ?_
  refine lv_iadd hx hb dL_law_658 ?_
  refine va_sld hx hb hX hbl hbA hS hi.1 dL_law_659 ?_
  refine lv_aload_n hx hb dL_law_660 rfl (lv_at hl 0 rfl) ?_
  refine lv_iload hx hb dL_law_661 (lv_at hl 5 rfl) ?_
  refine lv_iconst (v := 2) hx hb dL_law_663 (by decide) ?_
  refine lv_iadd hx hb dL_law_664 ?_
  refine va_sld hx hb hX hbl hbA hS hi.2.1 dL_law_665 ?_
  refine lv_aload_n hx hb dL_law_666 rfl (lv_at hl 3 rfl) ?_
  obtain ⟨r, st2, b9, ms2, e5, e6, I2, hk5, ht5, hv5⟩ := ag_length I (x1 := (xs (i + 1).toNatClampNeg)) (x2 := (xs (i + 2).toNatClampNeg))
  refine ll_wI B hW hS [.ref (ad 0 0), .int (xs (i + 1).toNatClampNeg), .int (xs (i + 2).toNatClampNeg), .ref o1] (n := 4) (c_L_length hll e5 hk5) wm_RL_169 wt_yL_length rfl wc_yL_length rfl rfl (by decide +kernel) ⟨Nat.le_of_ble_eq_true rfl, Nat.le_of_ble_eq_true rfl⟩ ⟨by omega, by omega⟩ rfl hl.1 (Nat.le_of_ble_eq_true rfl) rfl dL_law_667 (fun ad2 H locs hae hW hS => ?_)
  refine lv_istore (lv' := [(6, .int (lwc [3, 0, 1] r)), (0, .ref b), (1, .ref (ad 0 0)), (2, .ref (am 0)), (3, .ref o1), (4, .ref o2), (5, .int i)]) hx hb dL_law_670 hl (by decide) rfl (fun ls hl => ?_)
  refine lv_aload_n hx hb dL_law_672 rfl (lv_at hl 3 rfl) ?_
  refine lv_aload_n hx hb dL_law_673 rfl (lv_at hl 1 rfl) ?_
  refine lv_iload hx hb dL_law_674 (lv_at hl 6 rfl) ?_
  refine lv_iconst (v := 1) hx hb dL_law_676 (by decide) ?_
  refine lv_iadd hx hb dL_law_677 ?_
  refine va_sld hx hb hX hbl hbA hS hi.1 dL_law_678 ?_
  refine lv_aload_n hx hb dL_law_679 rfl (lv_at hl 1 rfl) ?_
  refine lv_iload hx hb dL_law_680 (lv_at hl 6 rfl) ?_
  refine lv_iconst (v := 2) hx hb dL_law_682 (by decide) ?_
  refine lv_iadd hx hb dL_law_683 ?_
  refine va_sld hx hb hX hbl hbA hS hi.2.1 dL_law_684 ?_
  refine ll_mV B hW hS [.int (xs (i + 1).toNatClampNeg), .int (xs (i + 2).toNatClampNeg)] (n := 2) (v := .int b9) (c_X6_length e6) wm_RL_171 wi_yX6_length ws_yX6_length wc_yX6_length rfl rfl (by decide +kernel) ⟨Nat.le_of_ble_eq_true rfl, Nat.le_of_ble_eq_true rfl⟩ ⟨by omega, by omega⟩ rfl hl.1 (Nat.le_of_ble_eq_true rfl) rfl dL_law_685 (fun H locs hW hS => ?_)
  refine lv_istore (lv' := [(7, .int b9), (6, .int (lwc [3, 0, 1] r)), (0, .ref b), (1, .ref (ad 0 0)), (2, .ref (am 0)), (3, .ref o1), (4, .ref o2), (5, .int i)]) hx hb dL_law_688 hl (by decide) rfl (fun ls hl => ?_)
  refine lv_aload_n hx hb dL_law_690 rfl (lv_at hl 4 rfl) ?_
  refine ll_mV B hW hS [] (n := 0) (v := .int (ms2.1 0)) (c_X6_thrown (st := ms2) rfl) wm_RL_144 wi_yX6_thrown ws_yX6_thrown wc_yX6_thrown rfl rfl (by decide +kernel) ⟨Nat.le_of_ble_eq_true rfl, Nat.le_of_ble_eq_true rfl⟩ ⟨by omega, by omega⟩ rfl hl.1 (Nat.le_of_ble_eq_true rfl) rfl dL_law_691 (fun H locs hW hS => ?_)
  refine lv_iload hx hb dL_law_694 (lv_at hl 1 rfl) ?_
  refine lv_icmp_eq (tgt := 701) hx hb dL_law_696 (by decide) (fun c1 => ?_) (fun c1 => absurd ht5 c1)
  refine lv_iload hx hb dL_law_701 (lv_at hl 1 rfl) ?_
  refine lv_if_ne (tgt := 718) hx hb dL_law_703 (by decide) (fun c2 => ?_) (fun c2 => ?_)
  · skip
    refine lv_goto (tgt := 2507) hx hb dL_law_718 (by decide) ?_
    exact W.widen (by omega) (by omega) (kk _ _ _ _ _ _ _ _ hae I2 hW hS (lv_sub hl [2, 3, 4, 5, 6, 7] rfl))
  · obtain ⟨x9, rfl⟩ := lwc_0 c2
    obtain rfl := hv5 x9 rfl
    refine lv_aload_n hx hb dL_law_706 rfl (lv_at hl 5 rfl) ?_
    refine lv_iconst (v := 0) hx hb dL_law_707 (by decide) ?_
    refine ll_lald B hW dL_law_708 ?_
    rw [louI_0]
    refine lv_iload hx hb dL_law_709 (lv_at hl 0 rfl) ?_
    refine lv_i2l hx hb dL_law_711 rfl ?_
    refine W.lcmp hx hb dL_law_712 ?_
    refine lv_if_eq (tgt := 718) hx hb dL_law_713 (by decide) (fun c3 => ?_) (fun c3 => absurd (lg_cmp_self _) c3)
    refine lv_goto (tgt := 2507) hx hb dL_law_718 (by decide) ?_
    exact W.widen (by omega) (by omega) (kk _ _ _ _ _ _ _ _ hae I2 hW hS (lv_sub hl [2, 3, 4, 5, 6, 7] rfl))
set_option maxHeartbeats 4000000 in
set_option maxRecDepth 100000 in
theorem k_stand {p : Program} {l : Launch} {e : Env} {s : State} {m : MethodId} {args : Array Value} {below : List Frame} {meth : Method} {c : Code} {H : Heap} {locs : List Loc} {cells slots : Nat} {Q : State → Prop} {ls : Array Slot} {G : GG} {A A1 A2 : Nat → Prop} {am : Nat → Nat} {o1 o2 : Nat} {ad : AD} {st : XS} {ms : MS} {f : Nat → Int64} {g : Nat → UInt64} {rt : Option FieldType} {b L : Nat} {xs : Nat → Int32} {i : Int32} (hll : l.stackTraces = false) (B : LL G A A1 A2 o1 o2 p s m args meth c rt) (hX : va_X b L xs s s.heap) (hbl : b < s.heap.size) (hbA : ¬ A b) (hi : INX i L) (I : INV st ms) (hW : LW G A A1 A2 am o1 o2 s ad st ms f g H) (hS : va_S A s.heap H locs) (hl : lv_has ls 9 [(0, .ref b), (1, .ref (ad 0 0)), (2, .ref (am 0)), (3, .ref o1), (4, .ref o2), (5, .int i)]) (hc : cells + 11 ≤ room_1.cells) (hs : slots + 248 ≤ room_1.slots)
    (kk : KK p l e s m args below meth c Q G A A1 A2 am o1 o2 ad b i cells slots) : W p l e room_1 s m args below meth c H locs cells slots Q (F0 m 721 ls []) := by
  have ⟨⟨hx, hb, hr, hml, hown, hT, hlocks, hK⟩, hNC, hLR, hA⟩ := B
  refine lv_aload_n hx hb dL_law_721 rfl (lv_at hl 1 rfl) ?_
  refine lv_aload_n hx hb dL_law_722 rfl (lv_at hl 0 rfl) ?_
  refine lv_iload hx hb dL_law_723 (lv_at hl 5 rfl) ?_
  refine lv_iconst (v := 1) hx hb dL_law_725 (by decide) ?_
  refine lv_iadd hx hb dL_law_726 ?_
  refine va_sld hx hb hX hbl hbA hS hi.1 dL_law_727 ?_
  refine lv_aload_n hx hb dL_law_728 rfl (lv_at hl 0 rfl) ?_
  refine lv_iload hx hb dL_law_729 (lv_at hl 5 rfl) ?_
  refine lv_iconst (v := 2) hx hb dL_law_731 (by decide) ?_
  refine lv_iadd hx hb dL_law_732 ?_
  refine va_sld hx hb hX hbl hbA hS hi.2.1 dL_law_733 ?_
  refine lv_aload_n hx hb dL_law_734 rfl (lv_at hl 0 rfl) ?_
  refine lv_iload hx hb dL_law_735 (lv_at hl 5 rfl) ?_
  refine lv_iconst (v := 3) hx hb dL_law_737 (by decide) ?_
  refine lv_iadd hx hb dL_law_738 ?_
  refine va_sld hx hb hX hbl hbA hS hi.2.2.1 dL_law_739 ?_
  refine lv_i2c hx hb dL_law_740 rfl ?_
  refine lv_aload_n hx hb dL_law_741 rfl (lv_at hl 0 rfl) ?_
  refine lv_iload hx hb dL_law_742 (lv_at hl 5 rfl) ?_
  refine lv_iconst (v := 4) hx hb dL_law_744 (by decide) ?_
  refine lv_iadd hx hb dL_law_745 ?_
  refine va_sld hx hb hX hbl hbA hS hi.2.2.2 dL_law_746 ?_
  refine lv_i2c hx hb dL_law_747 rfl ?_
  refine lv_aload_n hx hb dL_law_748 rfl (lv_at hl 3 rfl) ?_
  obtain ⟨r, st2, b9, ms2, e5, e6, I2, hk5, ht5, hv5⟩ := ag_stand I (x1 := (xs (i + 1).toNatClampNeg)) (x2 := (xs (i + 2).toNatClampNeg)) (x3 := (((xs (i + 3).toNatClampNeg).toUInt32 % 65536).toInt32)) (x4 := (((xs (i + 4).toNatClampNeg).toUInt32 % 65536).toInt32)) (ch_ok _) (ch_ok _)
  refine ll_wI B hW hS [.ref (ad 0 0), .int (xs (i + 1).toNatClampNeg), .int (xs (i + 2).toNatClampNeg), .int (((xs (i + 3).toNatClampNeg).toUInt32 % 65536).toInt32), .int (((xs (i + 4).toNatClampNeg).toUInt32 % 65536).toInt32), .ref o1] (n := 6) (c_L_stand hll e5 hk5) wm_RL_172 wt_yL_stand rfl wc_yL_stand rfl rfl (by decide +kernel) ⟨Nat.le_of_ble_eq_true rfl, Nat.le_of_ble_eq_true rfl⟩ ⟨by omega, by omega⟩ rfl hl.1 (Nat.le_of_ble_eq_true rfl) rfl dL_law_749 (fun ad2 H locs hae hW hS => ?_)
  refine lv_istore (lv' := [(6, .int (lwc [3, 0, 1] r)), (0, .ref b), (1, .ref (ad 0 0)), (2, .ref (am 0)), (3, .ref o1), (4, .ref o2), (5, .int i)]) hx hb dL_law_752 hl (by decide) rfl (fun ls hl => ?_)
  refine lv_aload_n hx hb dL_law_754 rfl (lv_at hl 3 rfl) ?_
  refine lv_aload_n hx hb dL_law_755 rfl (lv_at hl 1 rfl) ?_
  refine lv_iload hx hb dL_law_756 (lv_at hl 6 rfl) ?_
  refine lv_iconst (v := 1) hx hb dL_law_758 (by decide) ?_
  refine lv_iadd hx hb dL_law_759 ?_
  refine va_sld hx hb hX hbl hbA hS hi.1 dL_law_760 ?_
  refine lv_aload_n hx hb dL_law_761 rfl (lv_at hl 1 rfl) ?_
  refine lv_iload hx hb dL_law_762 (lv_at hl 6 rfl) ?_
  refine lv_iconst (v := 2) hx hb dL_law_764 (by decide) ?_
  refine lv_iadd hx hb dL_law_765 ?_
  refine va_sld hx hb hX hbl hbA hS hi.2.1 dL_law_766 ?_
  refine lv_aload_n hx hb dL_law_767 rfl (lv_at hl 1 rfl) ?_
  refine lv_iload hx hb dL_law_768 (lv_at hl 6 rfl) ?_
  refine lv_iconst (v := 3) hx hb dL_law_770 (by decide) ?_
  refine lv_iadd hx hb dL_law_771 ?_
  refine va_sld hx hb hX hbl hbA hS hi.2.2.1 dL_law_772 ?_
  refine lv_i2c hx hb dL_law_773 rfl ?_
  refine lv_aload_n hx hb dL_law_774 rfl (lv_at hl 1 rfl) ?_
  refine lv_iload hx hb dL_law_775 (lv_at hl 6 rfl) ?_
  refine lv_iconst (v := 4) hx hb dL_law_777 (by decide) ?_
  refine lv_iadd hx hb dL_law_778 ?_
  refine va_sld hx hb hX hbl hbA hS hi.2.2.2 dL_law_779 ?_
  refine lv_i2c hx hb dL_law_780 rfl ?_
  refine ll_mV B hW hS [.int (xs (i + 1).toNatClampNeg), .int (xs (i + 2).toNatClampNeg), .int (((xs (i + 3).toNatClampNeg).toUInt32 % 65536).toInt32), .int (((xs (i + 4).toNatClampNeg).toUInt32 % 65536).toInt32)] (n := 4) (v := .int b9) (c_X6_stand e6) wm_RL_175 wi_yX6_stand ws_yX6_stand wc_yX6_stand rfl rfl (by decide +kernel) ⟨Nat.le_of_ble_eq_true rfl, Nat.le_of_ble_eq_true rfl⟩ ⟨by omega, by omega⟩ rfl hl.1 (Nat.le_of_ble_eq_true rfl) rfl dL_law_781 (fun H locs hW hS => ?_)
  refine lv_istore (lv' := [(7, .int b9), (6, .int (lwc [3, 0, 1] r)), (0, .ref b), (1, .ref (ad 0 0)), (2, .ref (am 0)), (3, .ref o1), (4, .ref o2), (5, .int i)]) hx hb dL_law_784 hl (by decide) rfl (fun ls hl => ?_)
  refine lv_aload_n hx hb dL_law_786 rfl (lv_at hl 4 rfl) ?_
  refine ll_mV B hW hS [] (n := 0) (v := .int (ms2.1 0)) (c_X6_thrown (st := ms2) rfl) wm_RL_144 wi_yX6_thrown ws_yX6_thrown wc_yX6_thrown rfl rfl (by decide +kernel) ⟨Nat.le_of_ble_eq_true rfl, Nat.le_of_ble_eq_true rfl⟩ ⟨by omega, by omega⟩ rfl hl.1 (Nat.le_of_ble_eq_true rfl) rfl dL_law_787 (fun H locs hW hS => ?_)
  refine lv_iload hx hb dL_law_790 (lv_at hl 1 rfl) ?_
  refine lv_icmp_eq (tgt := 797) hx hb dL_law_792 (by decide) (fun c1 => ?_) (fun c1 => absurd ht5 c1)
  refine lv_iload hx hb dL_law_797 (lv_at hl 1 rfl) ?_
  refine lv_if_ne (tgt := 814) hx hb dL_law_799 (by decide) (fun c2 => ?_) (fun c2 => ?_)
  · skip
    refine lv_goto (tgt := 2507) hx hb dL_law_814 (by decide) ?_
    exact W.widen (by omega) (by omega) (kk _ _ _ _ _ _ _ _ hae I2 hW hS (lv_sub hl [2, 3, 4, 5, 6, 7] rfl))
  · obtain ⟨x9, rfl⟩ := lwc_0 c2
    obtain rfl := hv5 x9 rfl
    refine lv_aload_n hx hb dL_law_802 rfl (lv_at hl 5 rfl) ?_
    refine lv_iconst (v := 0) hx hb dL_law_803 (by decide) ?_
    refine ll_lald B hW dL_law_804 ?_
    rw [louI_0]
    refine lv_iload hx hb dL_law_805 (lv_at hl 0 rfl) ?_
    refine lv_i2l hx hb dL_law_807 rfl ?_
    refine W.lcmp hx hb dL_law_808 ?_
    refine lv_if_eq (tgt := 814) hx hb dL_law_809 (by decide) (fun c3 => ?_) (fun c3 => absurd (lg_cmp_self _) c3)
    refine lv_goto (tgt := 2507) hx hb dL_law_814 (by decide) ?_
    exact W.widen (by omega) (by omega) (kk _ _ _ _ _ _ _ _ hae I2 hW hS (lv_sub hl [2, 3, 4, 5, 6, 7] rfl))
set_option maxHeartbeats 4000000 in
set_option maxRecDepth 100000 in
theorem k_enters {p : Program} {l : Launch} {e : Env} {s : State} {m : MethodId} {args : Array Value} {below : List Frame} {meth : Method} {c : Code} {H : Heap} {locs : List Loc} {cells slots : Nat} {Q : State → Prop} {ls : Array Slot} {G : GG} {A A1 A2 : Nat → Prop} {am : Nat → Nat} {o1 o2 : Nat} {ad : AD} {st : XS} {ms : MS} {f : Nat → Int64} {g : Nat → UInt64} {rt : Option FieldType} {b L : Nat} {xs : Nat → Int32} {i : Int32} (hll : l.stackTraces = false) (B : LL G A A1 A2 o1 o2 p s m args meth c rt) (hX : va_X b L xs s s.heap) (hbl : b < s.heap.size) (hbA : ¬ A b) (hi : INX i L) (I : INV st ms) (hW : LW G A A1 A2 am o1 o2 s ad st ms f g H) (hS : va_S A s.heap H locs) (hl : lv_has ls 9 [(0, .ref b), (1, .ref (ad 0 0)), (2, .ref (am 0)), (3, .ref o1), (4, .ref o2), (5, .int i)]) (hc : cells + 11 ≤ room_1.cells) (hs : slots + 248 ≤ room_1.slots)
    (kk : KK p l e s m args below meth c Q G A A1 A2 am o1 o2 ad b i cells slots) : W p l e room_1 s m args below meth c H locs cells slots Q (F0 m 817 ls []) := by
  have ⟨⟨hx, hb, hr, hml, hown, hT, hlocks, hK⟩, hNC, hLR, hA⟩ := B
  refine lv_aload_n hx hb dL_law_817 rfl (lv_at hl 1 rfl) ?_
  refine lv_aload_n hx hb dL_law_818 rfl (lv_at hl 0 rfl) ?_
  refine lv_iload hx hb dL_law_819 (lv_at hl 5 rfl) ?_
  refine lv_iconst (v := 1) hx hb dL_law_821 (by decide) ?_
  refine lv_iadd hx hb dL_law_822 ?_
  refine va_sld hx hb hX hbl hbA hS hi.1 dL_law_823 ?_
  refine lv_aload_n hx hb dL_law_824 rfl (lv_at hl 0 rfl) ?_
  refine lv_iload hx hb dL_law_825 (lv_at hl 5 rfl) ?_
  refine lv_iconst (v := 2) hx hb dL_law_827 (by decide) ?_
  refine lv_iadd hx hb dL_law_828 ?_
  refine va_sld hx hb hX hbl hbA hS hi.2.1 dL_law_829 ?_
  refine lv_aload_n hx hb dL_law_830 rfl (lv_at hl 0 rfl) ?_
  refine lv_iload hx hb dL_law_831 (lv_at hl 5 rfl) ?_
  refine lv_iconst (v := 3) hx hb dL_law_833 (by decide) ?_
  refine lv_iadd hx hb dL_law_834 ?_
  refine va_sld hx hb hX hbl hbA hS hi.2.2.1 dL_law_835 ?_
  refine lv_i2c hx hb dL_law_836 rfl ?_
  refine lv_aload_n hx hb dL_law_837 rfl (lv_at hl 3 rfl) ?_
  obtain ⟨r, st2, b9, ms2, e5, e6, I2, hk5, ht5, hv5⟩ := ag_enters I (x1 := (xs (i + 1).toNatClampNeg)) (x2 := (xs (i + 2).toNatClampNeg)) (x3 := (((xs (i + 3).toNatClampNeg).toUInt32 % 65536).toInt32)) (ch_ok _)
  refine ll_wI B hW hS [.ref (ad 0 0), .int (xs (i + 1).toNatClampNeg), .int (xs (i + 2).toNatClampNeg), .int (((xs (i + 3).toNatClampNeg).toUInt32 % 65536).toInt32), .ref o1] (n := 5) (c_L_enters hll e5 hk5) wm_RL_176 wt_yL_enters rfl wc_yL_enters rfl rfl (by decide +kernel) ⟨Nat.le_of_ble_eq_true rfl, Nat.le_of_ble_eq_true rfl⟩ ⟨by omega, by omega⟩ rfl hl.1 (Nat.le_of_ble_eq_true rfl) rfl dL_law_838 (fun ad2 H locs hae hW hS => ?_)
  refine lv_istore (lv' := [(6, .int (lwc [3, 0, 1] r)), (0, .ref b), (1, .ref (ad 0 0)), (2, .ref (am 0)), (3, .ref o1), (4, .ref o2), (5, .int i)]) hx hb dL_law_841 hl (by decide) rfl (fun ls hl => ?_)
  refine lv_aload_n hx hb dL_law_843 rfl (lv_at hl 3 rfl) ?_
  refine lv_aload_n hx hb dL_law_844 rfl (lv_at hl 1 rfl) ?_
  refine lv_iload hx hb dL_law_845 (lv_at hl 6 rfl) ?_
  refine lv_iconst (v := 1) hx hb dL_law_847 (by decide) ?_
  refine lv_iadd hx hb dL_law_848 ?_
  refine va_sld hx hb hX hbl hbA hS hi.1 dL_law_849 ?_
  refine lv_aload_n hx hb dL_law_850 rfl (lv_at hl 1 rfl) ?_
  refine lv_iload hx hb dL_law_851 (lv_at hl 6 rfl) ?_
  refine lv_iconst (v := 2) hx hb dL_law_853 (by decide) ?_
  refine lv_iadd hx hb dL_law_854 ?_
  refine va_sld hx hb hX hbl hbA hS hi.2.1 dL_law_855 ?_
  refine lv_aload_n hx hb dL_law_856 rfl (lv_at hl 1 rfl) ?_
  refine lv_iload hx hb dL_law_857 (lv_at hl 6 rfl) ?_
  refine lv_iconst (v := 3) hx hb dL_law_859 (by decide) ?_
  refine lv_iadd hx hb dL_law_860 ?_
  refine va_sld hx hb hX hbl hbA hS hi.2.2.1 dL_law_861 ?_
  refine lv_i2c hx hb dL_law_862 rfl ?_
  refine ll_mV B hW hS [.int (xs (i + 1).toNatClampNeg), .int (xs (i + 2).toNatClampNeg), .int (((xs (i + 3).toNatClampNeg).toUInt32 % 65536).toInt32)] (n := 3) (v := .int b9) (c_X6_enters e6) wm_RL_179 wi_yX6_enters ws_yX6_enters wc_yX6_enters rfl rfl (by decide +kernel) ⟨Nat.le_of_ble_eq_true rfl, Nat.le_of_ble_eq_true rfl⟩ ⟨by omega, by omega⟩ rfl hl.1 (Nat.le_of_ble_eq_true rfl) rfl dL_law_863 (fun H locs hW hS => ?_)
  refine lv_istore (lv' := [(7, .int b9), (6, .int (lwc [3, 0, 1] r)), (0, .ref b), (1, .ref (ad 0 0)), (2, .ref (am 0)), (3, .ref o1), (4, .ref o2), (5, .int i)]) hx hb dL_law_866 hl (by decide) rfl (fun ls hl => ?_)
  refine lv_aload_n hx hb dL_law_868 rfl (lv_at hl 4 rfl) ?_
  refine ll_mV B hW hS [] (n := 0) (v := .int (ms2.1 0)) (c_X6_thrown (st := ms2) rfl) wm_RL_144 wi_yX6_thrown ws_yX6_thrown wc_yX6_thrown rfl rfl (by decide +kernel) ⟨Nat.le_of_ble_eq_true rfl, Nat.le_of_ble_eq_true rfl⟩ ⟨by omega, by omega⟩ rfl hl.1 (Nat.le_of_ble_eq_true rfl) rfl dL_law_869 (fun H locs hW hS => ?_)
  refine lv_iload hx hb dL_law_872 (lv_at hl 1 rfl) ?_
  refine lv_icmp_eq (tgt := 879) hx hb dL_law_874 (by decide) (fun c1 => ?_) (fun c1 => absurd ht5 c1)
  refine lv_iload hx hb dL_law_879 (lv_at hl 1 rfl) ?_
  refine lv_if_ne (tgt := 896) hx hb dL_law_881 (by decide) (fun c2 => ?_) (fun c2 => ?_)
  · skip
    refine lv_goto (tgt := 2507) hx hb dL_law_896 (by decide) ?_
    exact W.widen (by omega) (by omega) (kk _ _ _ _ _ _ _ _ hae I2 hW hS (lv_sub hl [2, 3, 4, 5, 6, 7] rfl))
  · obtain ⟨x9, rfl⟩ := lwc_0 c2
    obtain rfl := hv5 x9 rfl
    refine lv_aload_n hx hb dL_law_884 rfl (lv_at hl 5 rfl) ?_
    refine lv_iconst (v := 0) hx hb dL_law_885 (by decide) ?_
    refine ll_lald B hW dL_law_886 ?_
    rw [louI_0]
    refine lv_iload hx hb dL_law_887 (lv_at hl 0 rfl) ?_
    refine lv_i2l hx hb dL_law_889 rfl ?_
    refine W.lcmp hx hb dL_law_890 ?_
    refine lv_if_eq (tgt := 896) hx hb dL_law_891 (by decide) (fun c3 => ?_) (fun c3 => absurd (lg_cmp_self _) c3)
    refine lv_goto (tgt := 2507) hx hb dL_law_896 (by decide) ?_
    exact W.widen (by omega) (by omega) (kk _ _ _ _ _ _ _ _ hae I2 hW hS (lv_sub hl [2, 3, 4, 5, 6, 7] rfl))
set_option maxHeartbeats 4000000 in
set_option maxRecDepth 100000 in
theorem k_leaves {p : Program} {l : Launch} {e : Env} {s : State} {m : MethodId} {args : Array Value} {below : List Frame} {meth : Method} {c : Code} {H : Heap} {locs : List Loc} {cells slots : Nat} {Q : State → Prop} {ls : Array Slot} {G : GG} {A A1 A2 : Nat → Prop} {am : Nat → Nat} {o1 o2 : Nat} {ad : AD} {st : XS} {ms : MS} {f : Nat → Int64} {g : Nat → UInt64} {rt : Option FieldType} {b L : Nat} {xs : Nat → Int32} {i : Int32} (hll : l.stackTraces = false) (B : LL G A A1 A2 o1 o2 p s m args meth c rt) (hX : va_X b L xs s s.heap) (hbl : b < s.heap.size) (hbA : ¬ A b) (hi : INX i L) (I : INV st ms) (hW : LW G A A1 A2 am o1 o2 s ad st ms f g H) (hS : va_S A s.heap H locs) (hl : lv_has ls 9 [(0, .ref b), (1, .ref (ad 0 0)), (2, .ref (am 0)), (3, .ref o1), (4, .ref o2), (5, .int i)]) (hc : cells + 11 ≤ room_1.cells) (hs : slots + 248 ≤ room_1.slots)
    (kk : KK p l e s m args below meth c Q G A A1 A2 am o1 o2 ad b i cells slots) : W p l e room_1 s m args below meth c H locs cells slots Q (F0 m 899 ls []) := by
  have ⟨⟨hx, hb, hr, hml, hown, hT, hlocks, hK⟩, hNC, hLR, hA⟩ := B
  refine lv_aload_n hx hb dL_law_899 rfl (lv_at hl 1 rfl) ?_
  refine lv_aload_n hx hb dL_law_900 rfl (lv_at hl 0 rfl) ?_
  refine lv_iload hx hb dL_law_901 (lv_at hl 5 rfl) ?_
  refine lv_iconst (v := 1) hx hb dL_law_903 (by decide) ?_
  refine lv_iadd hx hb dL_law_904 ?_
  refine va_sld hx hb hX hbl hbA hS hi.1 dL_law_905 ?_
  refine lv_aload_n hx hb dL_law_906 rfl (lv_at hl 0 rfl) ?_
  refine lv_iload hx hb dL_law_907 (lv_at hl 5 rfl) ?_
  refine lv_iconst (v := 2) hx hb dL_law_909 (by decide) ?_
  refine lv_iadd hx hb dL_law_910 ?_
  refine va_sld hx hb hX hbl hbA hS hi.2.1 dL_law_911 ?_
  refine lv_aload_n hx hb dL_law_912 rfl (lv_at hl 0 rfl) ?_
  refine lv_iload hx hb dL_law_913 (lv_at hl 5 rfl) ?_
  refine lv_iconst (v := 3) hx hb dL_law_915 (by decide) ?_
  refine lv_iadd hx hb dL_law_916 ?_
  refine va_sld hx hb hX hbl hbA hS hi.2.2.1 dL_law_917 ?_
  refine lv_i2c hx hb dL_law_918 rfl ?_
  refine lv_aload_n hx hb dL_law_919 rfl (lv_at hl 3 rfl) ?_
  obtain ⟨r, st2, b9, ms2, e5, e6, I2, hk5, ht5, hv5⟩ := ag_leaves I (x1 := (xs (i + 1).toNatClampNeg)) (x2 := (xs (i + 2).toNatClampNeg)) (x3 := (((xs (i + 3).toNatClampNeg).toUInt32 % 65536).toInt32)) (ch_ok _)
  refine ll_wI B hW hS [.ref (ad 0 0), .int (xs (i + 1).toNatClampNeg), .int (xs (i + 2).toNatClampNeg), .int (((xs (i + 3).toNatClampNeg).toUInt32 % 65536).toInt32), .ref o1] (n := 5) (c_L_leaves hll e5 hk5) wm_RL_180 wt_yL_leaves rfl wc_yL_leaves rfl rfl (by decide +kernel) ⟨Nat.le_of_ble_eq_true rfl, Nat.le_of_ble_eq_true rfl⟩ ⟨by omega, by omega⟩ rfl hl.1 (Nat.le_of_ble_eq_true rfl) rfl dL_law_920 (fun ad2 H locs hae hW hS => ?_)
  refine lv_istore (lv' := [(6, .int (lwc [3, 0, 1] r)), (0, .ref b), (1, .ref (ad 0 0)), (2, .ref (am 0)), (3, .ref o1), (4, .ref o2), (5, .int i)]) hx hb dL_law_923 hl (by decide) rfl (fun ls hl => ?_)
  refine lv_aload_n hx hb dL_law_925 rfl (lv_at hl 3 rfl) ?_
  refine lv_aload_n hx hb dL_law_926 rfl (lv_at hl 1 rfl) ?_
  refine lv_iload hx hb dL_law_927 (lv_at hl 6 rfl) ?_
  refine lv_iconst (v := 1) hx hb dL_law_929 (by decide) ?_
  refine lv_iadd hx hb dL_law_930 ?_
  refine va_sld hx hb hX hbl hbA hS hi.1 dL_law_931 ?_
  refine lv_aload_n hx hb dL_law_932 rfl (lv_at hl 1 rfl) ?_
  refine lv_iload hx hb dL_law_933 (lv_at hl 6 rfl) ?_
  refine lv_iconst (v := 2) hx hb dL_law_935 (by decide) ?_
  refine lv_iadd hx hb dL_law_936 ?_
  refine va_sld hx hb hX hbl hbA hS hi.2.1 dL_law_937 ?_
  refine lv_aload_n hx hb dL_law_938 rfl (lv_at hl 1 rfl) ?_
  refine lv_iload hx hb dL_law_939 (lv_at hl 6 rfl) ?_
  refine lv_iconst (v := 3) hx hb dL_law_941 (by decide) ?_
  refine lv_iadd hx hb dL_law_942 ?_
  refine va_sld hx hb hX hbl hbA hS hi.2.2.1 dL_law_943 ?_
  refine lv_i2c hx hb dL_law_944 rfl ?_
  refine ll_mV B hW hS [.int (xs (i + 1).toNatClampNeg), .int (xs (i + 2).toNatClampNeg), .int (((xs (i + 3).toNatClampNeg).toUInt32 % 65536).toInt32)] (n := 3) (v := .int b9) (c_X6_leaves e6) wm_RL_182 wi_yX6_leaves ws_yX6_leaves wc_yX6_leaves rfl rfl (by decide +kernel) ⟨Nat.le_of_ble_eq_true rfl, Nat.le_of_ble_eq_true rfl⟩ ⟨by omega, by omega⟩ rfl hl.1 (Nat.le_of_ble_eq_true rfl) rfl dL_law_945 (fun H locs hW hS => ?_)
  refine lv_istore (lv' := [(7, .int b9), (6, .int (lwc [3, 0, 1] r)), (0, .ref b), (1, .ref (ad 0 0)), (2, .ref (am 0)), (3, .ref o1), (4, .ref o2), (5, .int i)]) hx hb dL_law_948 hl (by decide) rfl (fun ls hl => ?_)
  refine lv_aload_n hx hb dL_law_950 rfl (lv_at hl 4 rfl) ?_
  refine ll_mV B hW hS [] (n := 0) (v := .int (ms2.1 0)) (c_X6_thrown (st := ms2) rfl) wm_RL_144 wi_yX6_thrown ws_yX6_thrown wc_yX6_thrown rfl rfl (by decide +kernel) ⟨Nat.le_of_ble_eq_true rfl, Nat.le_of_ble_eq_true rfl⟩ ⟨by omega, by omega⟩ rfl hl.1 (Nat.le_of_ble_eq_true rfl) rfl dL_law_951 (fun H locs hW hS => ?_)
  refine lv_iload hx hb dL_law_954 (lv_at hl 1 rfl) ?_
  refine lv_icmp_eq (tgt := 961) hx hb dL_law_956 (by decide) (fun c1 => ?_) (fun c1 => absurd ht5 c1)
  refine lv_iload hx hb dL_law_961 (lv_at hl 1 rfl) ?_
  refine lv_if_ne (tgt := 978) hx hb dL_law_963 (by decide) (fun c2 => ?_) (fun c2 => ?_)
  · skip
    refine lv_goto (tgt := 2507) hx hb dL_law_978 (by decide) ?_
    exact W.widen (by omega) (by omega) (kk _ _ _ _ _ _ _ _ hae I2 hW hS (lv_sub hl [2, 3, 4, 5, 6, 7] rfl))
  · obtain ⟨x9, rfl⟩ := lwc_0 c2
    obtain rfl := hv5 x9 rfl
    refine lv_aload_n hx hb dL_law_966 rfl (lv_at hl 5 rfl) ?_
    refine lv_iconst (v := 0) hx hb dL_law_967 (by decide) ?_
    refine ll_lald B hW dL_law_968 ?_
    rw [louI_0]
    refine lv_iload hx hb dL_law_969 (lv_at hl 0 rfl) ?_
    refine lv_i2l hx hb dL_law_971 rfl ?_
    refine W.lcmp hx hb dL_law_972 ?_
    refine lv_if_eq (tgt := 978) hx hb dL_law_973 (by decide) (fun c3 => ?_) (fun c3 => absurd (lg_cmp_self _) c3)
    refine lv_goto (tgt := 2507) hx hb dL_law_978 (by decide) ?_
    exact W.widen (by omega) (by omega) (kk _ _ _ _ _ _ _ _ hae I2 hW hS (lv_sub hl [2, 3, 4, 5, 6, 7] rfl))
set_option maxHeartbeats 4000000 in
set_option maxRecDepth 100000 in
theorem k_version {p : Program} {l : Launch} {e : Env} {s : State} {m : MethodId} {args : Array Value} {below : List Frame} {meth : Method} {c : Code} {H : Heap} {locs : List Loc} {cells slots : Nat} {Q : State → Prop} {ls : Array Slot} {G : GG} {A A1 A2 : Nat → Prop} {am : Nat → Nat} {o1 o2 : Nat} {ad : AD} {st : XS} {ms : MS} {f : Nat → Int64} {g : Nat → UInt64} {rt : Option FieldType} {b L : Nat} {xs : Nat → Int32} {i : Int32} (hll : l.stackTraces = false) (B : LL G A A1 A2 o1 o2 p s m args meth c rt) (hX : va_X b L xs s s.heap) (hbl : b < s.heap.size) (hbA : ¬ A b) (hi : INX i L) (I : INV st ms) (hW : LW G A A1 A2 am o1 o2 s ad st ms f g H) (hS : va_S A s.heap H locs) (hl : lv_has ls 9 [(0, .ref b), (1, .ref (ad 0 0)), (2, .ref (am 0)), (3, .ref o1), (4, .ref o2), (5, .int i)]) (hc : cells + 11 ≤ room_1.cells) (hs : slots + 248 ≤ room_1.slots)
    (kk : KK p l e s m args below meth c Q G A A1 A2 am o1 o2 ad b i cells slots) : W p l e room_1 s m args below meth c H locs cells slots Q (F0 m 981 ls []) := by
  have ⟨⟨hx, hb, hr, hml, hown, hT, hlocks, hK⟩, hNC, hLR, hA⟩ := B
  refine lv_aload_n hx hb dL_law_981 rfl (lv_at hl 1 rfl) ?_
  refine lv_aload_n hx hb dL_law_982 rfl (lv_at hl 0 rfl) ?_
  refine lv_iload hx hb dL_law_983 (lv_at hl 5 rfl) ?_
  refine lv_iconst (v := 1) hx hb dL_law_985 (by decide) ?_
  refine lv_iadd hx hb dL_law_986 ?_
  refine va_sld hx hb hX hbl hbA hS hi.1 dL_law_987 ?_
  refine lv_aload_n hx hb dL_law_988 rfl (lv_at hl 3 rfl) ?_
  obtain ⟨r, st2, b9, ms2, e5, e6, I2, hk5, ht5, hv5⟩ := ag_version I (x1 := (xs (i + 1).toNatClampNeg))
  refine ll_wI B hW hS [.ref (ad 0 0), .int (xs (i + 1).toNatClampNeg), .ref o1] (n := 3) (c_L_version hll e5 hk5) wm_RL_183 wt_yL_version rfl wc_yL_version rfl rfl (by decide +kernel) ⟨Nat.le_of_ble_eq_true rfl, Nat.le_of_ble_eq_true rfl⟩ ⟨by omega, by omega⟩ rfl hl.1 (Nat.le_of_ble_eq_true rfl) rfl dL_law_989 (fun ad2 H locs hae hW hS => ?_)
  refine lv_istore (lv' := [(6, .int (lwc [3] r)), (0, .ref b), (1, .ref (ad 0 0)), (2, .ref (am 0)), (3, .ref o1), (4, .ref o2), (5, .int i)]) hx hb dL_law_992 hl (by decide) rfl (fun ls hl => ?_)
  refine lv_aload_n hx hb dL_law_994 rfl (lv_at hl 3 rfl) ?_
  refine lv_aload_n hx hb dL_law_995 rfl (lv_at hl 1 rfl) ?_
  refine lv_iload hx hb dL_law_996 (lv_at hl 6 rfl) ?_
  refine lv_iconst (v := 1) hx hb dL_law_998 (by decide) ?_
  refine lv_iadd hx hb dL_law_999 ?_
  refine va_sld hx hb hX hbl hbA hS hi.1 dL_law_1000 ?_
  refine ll_mV B hW hS [.int (xs (i + 1).toNatClampNeg)] (n := 1) (v := .int b9) (c_X6_version e6) wm_RL_185 wi_yX6_version ws_yX6_version wc_yX6_version rfl rfl (by decide +kernel) ⟨Nat.le_of_ble_eq_true rfl, Nat.le_of_ble_eq_true rfl⟩ ⟨by omega, by omega⟩ rfl hl.1 (Nat.le_of_ble_eq_true rfl) rfl dL_law_1001 (fun H locs hW hS => ?_)
  refine lv_istore (lv' := [(7, .int b9), (6, .int (lwc [3] r)), (0, .ref b), (1, .ref (ad 0 0)), (2, .ref (am 0)), (3, .ref o1), (4, .ref o2), (5, .int i)]) hx hb dL_law_1004 hl (by decide) rfl (fun ls hl => ?_)
  refine lv_aload_n hx hb dL_law_1006 rfl (lv_at hl 4 rfl) ?_
  refine ll_mV B hW hS [] (n := 0) (v := .int (ms2.1 0)) (c_X6_thrown (st := ms2) rfl) wm_RL_144 wi_yX6_thrown ws_yX6_thrown wc_yX6_thrown rfl rfl (by decide +kernel) ⟨Nat.le_of_ble_eq_true rfl, Nat.le_of_ble_eq_true rfl⟩ ⟨by omega, by omega⟩ rfl hl.1 (Nat.le_of_ble_eq_true rfl) rfl dL_law_1007 (fun H locs hW hS => ?_)
  refine lv_iload hx hb dL_law_1010 (lv_at hl 1 rfl) ?_
  refine lv_icmp_eq (tgt := 1017) hx hb dL_law_1012 (by decide) (fun c1 => ?_) (fun c1 => absurd ht5 c1)
  refine lv_iload hx hb dL_law_1017 (lv_at hl 1 rfl) ?_
  refine lv_if_ne (tgt := 1034) hx hb dL_law_1019 (by decide) (fun c2 => ?_) (fun c2 => ?_)
  · skip
    refine lv_goto (tgt := 2507) hx hb dL_law_1034 (by decide) ?_
    exact W.widen (by omega) (by omega) (kk _ _ _ _ _ _ _ _ hae I2 hW hS (lv_sub hl [2, 3, 4, 5, 6, 7] rfl))
  · obtain ⟨x9, rfl⟩ := lwc_0 c2
    obtain rfl := hv5 x9 rfl
    refine lv_aload_n hx hb dL_law_1022 rfl (lv_at hl 5 rfl) ?_
    refine lv_iconst (v := 0) hx hb dL_law_1023 (by decide) ?_
    refine ll_lald B hW dL_law_1024 ?_
    rw [louI_0]
    refine lv_iload hx hb dL_law_1025 (lv_at hl 0 rfl) ?_
    refine lv_i2l hx hb dL_law_1027 rfl ?_
    refine W.lcmp hx hb dL_law_1028 ?_
    refine lv_if_eq (tgt := 1034) hx hb dL_law_1029 (by decide) (fun c3 => ?_) (fun c3 => absurd (lg_cmp_self _) c3)
    refine lv_goto (tgt := 2507) hx hb dL_law_1034 (by decide) ?_
    exact W.widen (by omega) (by omega) (kk _ _ _ _ _ _ _ _ hae I2 hW hS (lv_sub hl [2, 3, 4, 5, 6, 7] rfl))
set_option maxHeartbeats 4000000 in
set_option maxRecDepth 100000 in
theorem k_time {p : Program} {l : Launch} {e : Env} {s : State} {m : MethodId} {args : Array Value} {below : List Frame} {meth : Method} {c : Code} {H : Heap} {locs : List Loc} {cells slots : Nat} {Q : State → Prop} {ls : Array Slot} {G : GG} {A A1 A2 : Nat → Prop} {am : Nat → Nat} {o1 o2 : Nat} {ad : AD} {st : XS} {ms : MS} {f : Nat → Int64} {g : Nat → UInt64} {rt : Option FieldType} {b L : Nat} {xs : Nat → Int32} {i : Int32} (hll : l.stackTraces = false) (B : LL G A A1 A2 o1 o2 p s m args meth c rt) (hX : va_X b L xs s s.heap) (hbl : b < s.heap.size) (hbA : ¬ A b) (hi : INX i L) (I : INV st ms) (hW : LW G A A1 A2 am o1 o2 s ad st ms f g H) (hS : va_S A s.heap H locs) (hl : lv_has ls 9 [(0, .ref b), (1, .ref (ad 0 0)), (2, .ref (am 0)), (3, .ref o1), (4, .ref o2), (5, .int i)]) (hc : cells + 11 ≤ room_1.cells) (hs : slots + 248 ≤ room_1.slots)
    (kk : KK p l e s m args below meth c Q G A A1 A2 am o1 o2 ad b i cells slots) : W p l e room_1 s m args below meth c H locs cells slots Q (F0 m 1037 ls []) := by
  have ⟨⟨hx, hb, hr, hml, hown, hT, hlocks, hK⟩, hNC, hLR, hA⟩ := B
  refine lv_aload_n hx hb dL_law_1037 rfl (lv_at hl 1 rfl) ?_
  refine lv_aload_n hx hb dL_law_1038 rfl (lv_at hl 0 rfl) ?_
  refine lv_iload hx hb dL_law_1039 (lv_at hl 5 rfl) ?_
  refine lv_iconst (v := 1) hx hb dL_law_1041 (by decide) ?_
  refine lv_iadd hx hb dL_law_1042 ?_
  refine va_sld hx hb hX hbl hbA hS hi.1 dL_law_1043 ?_
  refine lv_aload_n hx hb dL_law_1044 rfl (lv_at hl 3 rfl) ?_
  obtain ⟨r, st2, b9, ms2, e5, e6, I2, hk5, ht5, hv5⟩ := ag_time I (x1 := (xs (i + 1).toNatClampNeg))
  refine ll_wI B hW hS [.ref (ad 0 0), .int (xs (i + 1).toNatClampNeg), .ref o1] (n := 3) (c_L_time hll e5 hk5) wm_RL_186 wt_yL_time rfl wc_yL_time rfl rfl (by decide +kernel) ⟨Nat.le_of_ble_eq_true rfl, Nat.le_of_ble_eq_true rfl⟩ ⟨by omega, by omega⟩ rfl hl.1 (Nat.le_of_ble_eq_true rfl) rfl dL_law_1045 (fun ad2 H locs hae hW hS => ?_)
  refine lv_istore (lv' := [(6, .int (lwc [3, 4] r)), (0, .ref b), (1, .ref (ad 0 0)), (2, .ref (am 0)), (3, .ref o1), (4, .ref o2), (5, .int i)]) hx hb dL_law_1048 hl (by decide) rfl (fun ls hl => ?_)
  refine lv_aload_n hx hb dL_law_1050 rfl (lv_at hl 3 rfl) ?_
  refine lv_aload_n hx hb dL_law_1051 rfl (lv_at hl 1 rfl) ?_
  refine lv_iload hx hb dL_law_1052 (lv_at hl 6 rfl) ?_
  refine lv_iconst (v := 1) hx hb dL_law_1054 (by decide) ?_
  refine lv_iadd hx hb dL_law_1055 ?_
  refine va_sld hx hb hX hbl hbA hS hi.1 dL_law_1056 ?_
  refine ll_mV B hW hS [.int (xs (i + 1).toNatClampNeg)] (n := 1) (v := .int b9) (c_X6_time e6) wm_RL_188 wi_yX6_time ws_yX6_time wc_yX6_time rfl rfl (by decide +kernel) ⟨Nat.le_of_ble_eq_true rfl, Nat.le_of_ble_eq_true rfl⟩ ⟨by omega, by omega⟩ rfl hl.1 (Nat.le_of_ble_eq_true rfl) rfl dL_law_1057 (fun H locs hW hS => ?_)
  refine lv_istore (lv' := [(7, .int b9), (6, .int (lwc [3, 4] r)), (0, .ref b), (1, .ref (ad 0 0)), (2, .ref (am 0)), (3, .ref o1), (4, .ref o2), (5, .int i)]) hx hb dL_law_1060 hl (by decide) rfl (fun ls hl => ?_)
  refine lv_aload_n hx hb dL_law_1062 rfl (lv_at hl 4 rfl) ?_
  refine ll_mV B hW hS [] (n := 0) (v := .int (ms2.1 0)) (c_X6_thrown (st := ms2) rfl) wm_RL_144 wi_yX6_thrown ws_yX6_thrown wc_yX6_thrown rfl rfl (by decide +kernel) ⟨Nat.le_of_ble_eq_true rfl, Nat.le_of_ble_eq_true rfl⟩ ⟨by omega, by omega⟩ rfl hl.1 (Nat.le_of_ble_eq_true rfl) rfl dL_law_1063 (fun H locs hW hS => ?_)
  refine lv_iload hx hb dL_law_1066 (lv_at hl 1 rfl) ?_
  refine lv_icmp_eq (tgt := 1073) hx hb dL_law_1068 (by decide) (fun c1 => ?_) (fun c1 => absurd ht5 c1)
  refine lv_iload hx hb dL_law_1073 (lv_at hl 1 rfl) ?_
  refine lv_if_ne (tgt := 1090) hx hb dL_law_1075 (by decide) (fun c2 => ?_) (fun c2 => ?_)
  · skip
    refine lv_goto (tgt := 2507) hx hb dL_law_1090 (by decide) ?_
    exact W.widen (by omega) (by omega) (kk _ _ _ _ _ _ _ _ hae I2 hW hS (lv_sub hl [2, 3, 4, 5, 6, 7] rfl))
  · obtain ⟨x9, rfl⟩ := lwc_0 c2
    obtain rfl := hv5 x9 rfl
    refine lv_aload_n hx hb dL_law_1078 rfl (lv_at hl 5 rfl) ?_
    refine lv_iconst (v := 0) hx hb dL_law_1079 (by decide) ?_
    refine ll_lald B hW dL_law_1080 ?_
    rw [louI_0]
    refine lv_iload hx hb dL_law_1081 (lv_at hl 0 rfl) ?_
    refine lv_i2l hx hb dL_law_1083 rfl ?_
    refine W.lcmp hx hb dL_law_1084 ?_
    refine lv_if_eq (tgt := 1090) hx hb dL_law_1085 (by decide) (fun c3 => ?_) (fun c3 => absurd (lg_cmp_self _) c3)
    refine lv_goto (tgt := 2507) hx hb dL_law_1090 (by decide) ?_
    exact W.widen (by omega) (by omega) (kk _ _ _ _ _ _ _ _ hae I2 hW hS (lv_sub hl [2, 3, 4, 5, 6, 7] rfl))
set_option maxHeartbeats 4000000 in
set_option maxRecDepth 100000 in
theorem k_seen {p : Program} {l : Launch} {e : Env} {s : State} {m : MethodId} {args : Array Value} {below : List Frame} {meth : Method} {c : Code} {H : Heap} {locs : List Loc} {cells slots : Nat} {Q : State → Prop} {ls : Array Slot} {G : GG} {A A1 A2 : Nat → Prop} {am : Nat → Nat} {o1 o2 : Nat} {ad : AD} {st : XS} {ms : MS} {f : Nat → Int64} {g : Nat → UInt64} {rt : Option FieldType} {b L : Nat} {xs : Nat → Int32} {i : Int32} (hll : l.stackTraces = false) (B : LL G A A1 A2 o1 o2 p s m args meth c rt) (hX : va_X b L xs s s.heap) (hbl : b < s.heap.size) (hbA : ¬ A b) (hi : INX i L) (I : INV st ms) (hW : LW G A A1 A2 am o1 o2 s ad st ms f g H) (hS : va_S A s.heap H locs) (hl : lv_has ls 9 [(0, .ref b), (1, .ref (ad 0 0)), (2, .ref (am 0)), (3, .ref o1), (4, .ref o2), (5, .int i)]) (hc : cells + 11 ≤ room_1.cells) (hs : slots + 248 ≤ room_1.slots)
    (kk : KK p l e s m args below meth c Q G A A1 A2 am o1 o2 ad b i cells slots) : W p l e room_1 s m args below meth c H locs cells slots Q (F0 m 1093 ls []) := by
  have ⟨⟨hx, hb, hr, hml, hown, hT, hlocks, hK⟩, hNC, hLR, hA⟩ := B
  refine lv_aload_n hx hb dL_law_1093 rfl (lv_at hl 1 rfl) ?_
  refine lv_aload_n hx hb dL_law_1094 rfl (lv_at hl 0 rfl) ?_
  refine lv_iload hx hb dL_law_1095 (lv_at hl 5 rfl) ?_
  refine lv_iconst (v := 1) hx hb dL_law_1097 (by decide) ?_
  refine lv_iadd hx hb dL_law_1098 ?_
  refine va_sld hx hb hX hbl hbA hS hi.1 dL_law_1099 ?_
  refine lv_aload_n hx hb dL_law_1100 rfl (lv_at hl 3 rfl) ?_
  obtain ⟨r, st2, b9, ms2, e5, e6, I2, hk5, ht5, hv5⟩ := ag_seen I (x1 := (xs (i + 1).toNatClampNeg))
  refine ll_wI B hW hS [.ref (ad 0 0), .int (xs (i + 1).toNatClampNeg), .ref o1] (n := 3) (c_L_seen hll e5 hk5) wm_RL_189 wt_yL_seen rfl wc_yL_seen rfl rfl (by decide +kernel) ⟨Nat.le_of_ble_eq_true rfl, Nat.le_of_ble_eq_true rfl⟩ ⟨by omega, by omega⟩ rfl hl.1 (Nat.le_of_ble_eq_true rfl) rfl dL_law_1101 (fun ad2 H locs hae hW hS => ?_)
  refine lv_istore (lv' := [(6, .int (lwc [4] r)), (0, .ref b), (1, .ref (ad 0 0)), (2, .ref (am 0)), (3, .ref o1), (4, .ref o2), (5, .int i)]) hx hb dL_law_1104 hl (by decide) rfl (fun ls hl => ?_)
  refine lv_aload_n hx hb dL_law_1106 rfl (lv_at hl 3 rfl) ?_
  refine lv_aload_n hx hb dL_law_1107 rfl (lv_at hl 1 rfl) ?_
  refine lv_iload hx hb dL_law_1108 (lv_at hl 6 rfl) ?_
  refine lv_iconst (v := 1) hx hb dL_law_1110 (by decide) ?_
  refine lv_iadd hx hb dL_law_1111 ?_
  refine va_sld hx hb hX hbl hbA hS hi.1 dL_law_1112 ?_
  refine ll_mV B hW hS [.int (xs (i + 1).toNatClampNeg)] (n := 1) (v := .int b9) (c_X6_seen e6) wm_RL_191 wi_yX6_seen ws_yX6_seen wc_yX6_seen rfl rfl (by decide +kernel) ⟨Nat.le_of_ble_eq_true rfl, Nat.le_of_ble_eq_true rfl⟩ ⟨by omega, by omega⟩ rfl hl.1 (Nat.le_of_ble_eq_true rfl) rfl dL_law_1113 (fun H locs hW hS => ?_)
  refine lv_istore (lv' := [(7, .int b9), (6, .int (lwc [4] r)), (0, .ref b), (1, .ref (ad 0 0)), (2, .ref (am 0)), (3, .ref o1), (4, .ref o2), (5, .int i)]) hx hb dL_law_1116 hl (by decide) rfl (fun ls hl => ?_)
  refine lv_aload_n hx hb dL_law_1118 rfl (lv_at hl 4 rfl) ?_
  refine ll_mV B hW hS [] (n := 0) (v := .int (ms2.1 0)) (c_X6_thrown (st := ms2) rfl) wm_RL_144 wi_yX6_thrown ws_yX6_thrown wc_yX6_thrown rfl rfl (by decide +kernel) ⟨Nat.le_of_ble_eq_true rfl, Nat.le_of_ble_eq_true rfl⟩ ⟨by omega, by omega⟩ rfl hl.1 (Nat.le_of_ble_eq_true rfl) rfl dL_law_1119 (fun H locs hW hS => ?_)
  refine lv_iload hx hb dL_law_1122 (lv_at hl 1 rfl) ?_
  refine lv_icmp_eq (tgt := 1129) hx hb dL_law_1124 (by decide) (fun c1 => ?_) (fun c1 => absurd ht5 c1)
  refine lv_iload hx hb dL_law_1129 (lv_at hl 1 rfl) ?_
  refine lv_if_ne (tgt := 1146) hx hb dL_law_1131 (by decide) (fun c2 => ?_) (fun c2 => ?_)
  · skip
    refine lv_goto (tgt := 2507) hx hb dL_law_1146 (by decide) ?_
    exact W.widen (by omega) (by omega) (kk _ _ _ _ _ _ _ _ hae I2 hW hS (lv_sub hl [2, 3, 4, 5, 6, 7] rfl))
  · obtain ⟨x9, rfl⟩ := lwc_0 c2
    obtain rfl := hv5 x9 rfl
    refine lv_aload_n hx hb dL_law_1134 rfl (lv_at hl 5 rfl) ?_
    refine lv_iconst (v := 0) hx hb dL_law_1135 (by decide) ?_
    refine ll_lald B hW dL_law_1136 ?_
    rw [louI_0]
    refine lv_iload hx hb dL_law_1137 (lv_at hl 0 rfl) ?_
    refine lv_i2l hx hb dL_law_1139 rfl ?_
    refine W.lcmp hx hb dL_law_1140 ?_
    refine lv_if_eq (tgt := 1146) hx hb dL_law_1141 (by decide) (fun c3 => ?_) (fun c3 => absurd (lg_cmp_self _) c3)
    refine lv_goto (tgt := 2507) hx hb dL_law_1146 (by decide) ?_
    exact W.widen (by omega) (by omega) (kk _ _ _ _ _ _ _ _ hae I2 hW hS (lv_sub hl [2, 3, 4, 5, 6, 7] rfl))
set_option maxHeartbeats 4000000 in
set_option maxRecDepth 100000 in
theorem k_ended {p : Program} {l : Launch} {e : Env} {s : State} {m : MethodId} {args : Array Value} {below : List Frame} {meth : Method} {c : Code} {H : Heap} {locs : List Loc} {cells slots : Nat} {Q : State → Prop} {ls : Array Slot} {G : GG} {A A1 A2 : Nat → Prop} {am : Nat → Nat} {o1 o2 : Nat} {ad : AD} {st : XS} {ms : MS} {f : Nat → Int64} {g : Nat → UInt64} {rt : Option FieldType} {b L : Nat} {xs : Nat → Int32} {i : Int32} (hll : l.stackTraces = false) (B : LL G A A1 A2 o1 o2 p s m args meth c rt) (hX : va_X b L xs s s.heap) (hbl : b < s.heap.size) (hbA : ¬ A b) (hi : INX i L) (I : INV st ms) (hW : LW G A A1 A2 am o1 o2 s ad st ms f g H) (hS : va_S A s.heap H locs) (hl : lv_has ls 9 [(0, .ref b), (1, .ref (ad 0 0)), (2, .ref (am 0)), (3, .ref o1), (4, .ref o2), (5, .int i)]) (hc : cells + 11 ≤ room_1.cells) (hs : slots + 248 ≤ room_1.slots)
    (kk : KK p l e s m args below meth c Q G A A1 A2 am o1 o2 ad b i cells slots) : W p l e room_1 s m args below meth c H locs cells slots Q (F0 m 1149 ls []) := by
  have ⟨⟨hx, hb, hr, hml, hown, hT, hlocks, hK⟩, hNC, hLR, hA⟩ := B
  refine lv_aload_n hx hb dL_law_1149 rfl (lv_at hl 1 rfl) ?_
  refine lv_aload_n hx hb dL_law_1150 rfl (lv_at hl 0 rfl) ?_
  refine lv_iload hx hb dL_law_1151 (lv_at hl 5 rfl) ?_
  refine lv_iconst (v := 1) hx hb dL_law_1153 (by decide) ?_
  refine lv_iadd hx hb dL_law_1154 ?_
  refine va_sld hx hb hX hbl hbA hS hi.1 dL_law_1155 ?_
  refine lv_aload_n hx hb dL_law_1156 rfl (lv_at hl 3 rfl) ?_
  obtain ⟨r, st2, b9, ms2, e5, e6, I2, hk5, ht5, hv5⟩ := ag_ended I (x1 := (xs (i + 1).toNatClampNeg))
  refine ll_wI B hW hS [.ref (ad 0 0), .int (xs (i + 1).toNatClampNeg), .ref o1] (n := 3) (c_L_ended hll e5 hk5) wm_RL_192 wt_yL_ended rfl wc_yL_ended rfl rfl (by decide +kernel) ⟨Nat.le_of_ble_eq_true rfl, Nat.le_of_ble_eq_true rfl⟩ ⟨by omega, by omega⟩ rfl hl.1 (Nat.le_of_ble_eq_true rfl) rfl dL_law_1157 (fun ad2 H locs hae hW hS => ?_)
  refine lv_istore (lv' := [(6, .int (lwc [0] r)), (0, .ref b), (1, .ref (ad 0 0)), (2, .ref (am 0)), (3, .ref o1), (4, .ref o2), (5, .int i)]) hx hb dL_law_1160 hl (by decide) rfl (fun ls hl => ?_)
  refine lv_aload_n hx hb dL_law_1162 rfl (lv_at hl 3 rfl) ?_
  refine lv_aload_n hx hb dL_law_1163 rfl (lv_at hl 1 rfl) ?_
  refine lv_iload hx hb dL_law_1164 (lv_at hl 6 rfl) ?_
  refine lv_iconst (v := 1) hx hb dL_law_1166 (by decide) ?_
  refine lv_iadd hx hb dL_law_1167 ?_
  refine va_sld hx hb hX hbl hbA hS hi.1 dL_law_1168 ?_
  refine ll_mV B hW hS [.int (xs (i + 1).toNatClampNeg)] (n := 1) (v := .int b9) (c_X6_ended e6) wm_RL_194 wi_yX6_ended ws_yX6_ended wc_yX6_ended rfl rfl (by decide +kernel) ⟨Nat.le_of_ble_eq_true rfl, Nat.le_of_ble_eq_true rfl⟩ ⟨by omega, by omega⟩ rfl hl.1 (Nat.le_of_ble_eq_true rfl) rfl dL_law_1169 (fun H locs hW hS => ?_)
  refine lv_istore (lv' := [(7, .int b9), (6, .int (lwc [0] r)), (0, .ref b), (1, .ref (ad 0 0)), (2, .ref (am 0)), (3, .ref o1), (4, .ref o2), (5, .int i)]) hx hb dL_law_1172 hl (by decide) rfl (fun ls hl => ?_)
  refine lv_aload_n hx hb dL_law_1174 rfl (lv_at hl 4 rfl) ?_
  refine ll_mV B hW hS [] (n := 0) (v := .int (ms2.1 0)) (c_X6_thrown (st := ms2) rfl) wm_RL_144 wi_yX6_thrown ws_yX6_thrown wc_yX6_thrown rfl rfl (by decide +kernel) ⟨Nat.le_of_ble_eq_true rfl, Nat.le_of_ble_eq_true rfl⟩ ⟨by omega, by omega⟩ rfl hl.1 (Nat.le_of_ble_eq_true rfl) rfl dL_law_1175 (fun H locs hW hS => ?_)
  refine lv_iload hx hb dL_law_1178 (lv_at hl 1 rfl) ?_
  refine lv_icmp_eq (tgt := 1185) hx hb dL_law_1180 (by decide) (fun c1 => ?_) (fun c1 => absurd ht5 c1)
  refine lv_iload hx hb dL_law_1185 (lv_at hl 1 rfl) ?_
  refine lv_if_ne (tgt := 1202) hx hb dL_law_1187 (by decide) (fun c2 => ?_) (fun c2 => ?_)
  · skip
    refine lv_goto (tgt := 2507) hx hb dL_law_1202 (by decide) ?_
    exact W.widen (by omega) (by omega) (kk _ _ _ _ _ _ _ _ hae I2 hW hS (lv_sub hl [2, 3, 4, 5, 6, 7] rfl))
  · obtain ⟨x9, rfl⟩ := lwc_0 c2
    obtain rfl := hv5 x9 rfl
    refine lv_aload_n hx hb dL_law_1190 rfl (lv_at hl 5 rfl) ?_
    refine lv_iconst (v := 0) hx hb dL_law_1191 (by decide) ?_
    refine ll_lald B hW dL_law_1192 ?_
    rw [louI_0]
    refine lv_iload hx hb dL_law_1193 (lv_at hl 0 rfl) ?_
    refine lv_i2l hx hb dL_law_1195 rfl ?_
    refine W.lcmp hx hb dL_law_1196 ?_
    refine lv_if_eq (tgt := 1202) hx hb dL_law_1197 (by decide) (fun c3 => ?_) (fun c3 => absurd (lg_cmp_self _) c3)
    refine lv_goto (tgt := 2507) hx hb dL_law_1202 (by decide) ?_
    exact W.widen (by omega) (by omega) (kk _ _ _ _ _ _ _ _ hae I2 hW hS (lv_sub hl [2, 3, 4, 5, 6, 7] rfl))
set_option maxHeartbeats 4000000 in
set_option maxRecDepth 100000 in
theorem k_lock {p : Program} {l : Launch} {e : Env} {s : State} {m : MethodId} {args : Array Value} {below : List Frame} {meth : Method} {c : Code} {H : Heap} {locs : List Loc} {cells slots : Nat} {Q : State → Prop} {ls : Array Slot} {G : GG} {A A1 A2 : Nat → Prop} {am : Nat → Nat} {o1 o2 : Nat} {ad : AD} {st : XS} {ms : MS} {f : Nat → Int64} {g : Nat → UInt64} {rt : Option FieldType} {b L : Nat} {xs : Nat → Int32} {i : Int32} (hll : l.stackTraces = false) (B : LL G A A1 A2 o1 o2 p s m args meth c rt) (hX : va_X b L xs s s.heap) (hbl : b < s.heap.size) (hbA : ¬ A b) (hi : INX i L) (I : INV st ms) (hW : LW G A A1 A2 am o1 o2 s ad st ms f g H) (hS : va_S A s.heap H locs) (hl : lv_has ls 9 [(0, .ref b), (1, .ref (ad 0 0)), (2, .ref (am 0)), (3, .ref o1), (4, .ref o2), (5, .int i)]) (hc : cells + 11 ≤ room_1.cells) (hs : slots + 248 ≤ room_1.slots)
    (kk : KK p l e s m args below meth c Q G A A1 A2 am o1 o2 ad b i cells slots) : W p l e room_1 s m args below meth c H locs cells slots Q (F0 m 1205 ls []) := by
  have ⟨⟨hx, hb, hr, hml, hown, hT, hlocks, hK⟩, hNC, hLR, hA⟩ := B
  refine lv_aload_n hx hb dL_law_1205 rfl (lv_at hl 1 rfl) ?_
  obtain ⟨r, st2, ms2, e5, e6, I2⟩ := ag_lock I
  refine ll_xV B hW hS [] (n := 0) (v := .int r) (c_X5_lock hll e5) wm_RL_195 wi_yX5_lock ws_yX5_lock wc_yX5_lock rfl rfl (by decide +kernel) ⟨Nat.le_of_ble_eq_true rfl, Nat.le_of_ble_eq_true rfl⟩ ⟨by omega, by omega⟩ rfl hl.1 (Nat.le_of_ble_eq_true rfl) rfl dL_law_1206 (fun H locs hW hS => ?_)
  refine lv_aload_n hx hb dL_law_1209 rfl (lv_at hl 2 rfl) ?_
  refine ll_mV B hW hS [] (n := 0) (v := .int r) (c_X6_lock e6) wm_RL_199 wi_yX6_lock ws_yX6_lock wc_yX6_lock rfl rfl (by decide +kernel) ⟨Nat.le_of_ble_eq_true rfl, Nat.le_of_ble_eq_true rfl⟩ ⟨by omega, by omega⟩ rfl hl.1 (Nat.le_of_ble_eq_true rfl) rfl dL_law_1210 (fun H locs hW hS => ?_)
  refine lv_icmp_eq (tgt := 2507) hx hb dL_law_1213 (by decide) (fun c1 => ?_) (fun c1 => absurd rfl c1)
  exact W.widen (by omega) (by omega) (kk _ _ _ _ _ _ _ _ AE.rf I2 hW hS (lv_sub hl [0, 1, 2, 3, 4, 5] rfl))
set_option maxHeartbeats 4000000 in
set_option maxRecDepth 100000 in
theorem k_number {p : Program} {l : Launch} {e : Env} {s : State} {m : MethodId} {args : Array Value} {below : List Frame} {meth : Method} {c : Code} {H : Heap} {locs : List Loc} {cells slots : Nat} {Q : State → Prop} {ls : Array Slot} {G : GG} {A A1 A2 : Nat → Prop} {am : Nat → Nat} {o1 o2 : Nat} {ad : AD} {st : XS} {ms : MS} {f : Nat → Int64} {g : Nat → UInt64} {rt : Option FieldType} {b L : Nat} {xs : Nat → Int32} {i : Int32} (hll : l.stackTraces = false) (B : LL G A A1 A2 o1 o2 p s m args meth c rt) (hX : va_X b L xs s s.heap) (hbl : b < s.heap.size) (hbA : ¬ A b) (hi : INX i L) (I : INV st ms) (hW : LW G A A1 A2 am o1 o2 s ad st ms f g H) (hS : va_S A s.heap H locs) (hl : lv_has ls 9 [(0, .ref b), (1, .ref (ad 0 0)), (2, .ref (am 0)), (3, .ref o1), (4, .ref o2), (5, .int i)]) (hc : cells + 11 ≤ room_1.cells) (hs : slots + 248 ≤ room_1.slots)
    (kk : KK p l e s m args below meth c Q G A A1 A2 am o1 o2 ad b i cells slots) : W p l e room_1 s m args below meth c H locs cells slots Q (F0 m 1218 ls []) := by
  have ⟨⟨hx, hb, hr, hml, hown, hT, hlocks, hK⟩, hNC, hLR, hA⟩ := B
  refine lv_aload_n hx hb dL_law_1218 rfl (lv_at hl 1 rfl) ?_
  refine lv_aload_n hx hb dL_law_1219 rfl (lv_at hl 0 rfl) ?_
  refine lv_iload hx hb dL_law_1220 (lv_at hl 5 rfl) ?_
  refine lv_iconst (v := 1) hx hb dL_law_1222 (by decide) ?_
  refine lv_iadd hx hb dL_law_1223 ?_
  refine va_sld hx hb hX hbl hbA hS hi.1 dL_law_1224 ?_
  refine lv_aload_n hx hb dL_law_1225 rfl (lv_at hl 3 rfl) ?_
  obtain ⟨r, st2, b9, ms2, e5, e6, I2, hk5, ht5, hv5⟩ := ag_number I (x1 := (xs (i + 1).toNatClampNeg))
  refine ll_wI B hW hS [.ref (ad 0 0), .int (xs (i + 1).toNatClampNeg), .ref o1] (n := 3) (c_L_number hll e5 hk5) wm_RL_200 wt_yL_number rfl wc_yL_number rfl rfl (by decide +kernel) ⟨Nat.le_of_ble_eq_true rfl, Nat.le_of_ble_eq_true rfl⟩ ⟨by omega, by omega⟩ rfl hl.1 (Nat.le_of_ble_eq_true rfl) rfl dL_law_1226 (fun ad2 H locs hae hW hS => ?_)
  refine lv_istore (lv' := [(6, .int (lwc [3, 4] r)), (0, .ref b), (1, .ref (ad 0 0)), (2, .ref (am 0)), (3, .ref o1), (4, .ref o2), (5, .int i)]) hx hb dL_law_1229 hl (by decide) rfl (fun ls hl => ?_)
  refine lv_aload_n hx hb dL_law_1231 rfl (lv_at hl 3 rfl) ?_
  refine lv_aload_n hx hb dL_law_1232 rfl (lv_at hl 1 rfl) ?_
  refine lv_iload hx hb dL_law_1233 (lv_at hl 6 rfl) ?_
  refine lv_iconst (v := 1) hx hb dL_law_1235 (by decide) ?_
  refine lv_iadd hx hb dL_law_1236 ?_
  refine va_sld hx hb hX hbl hbA hS hi.1 dL_law_1237 ?_
  refine ll_mV B hW hS [.int (xs (i + 1).toNatClampNeg)] (n := 1) (v := .int b9) (c_X6_number e6) wm_RL_202 wi_yX6_number ws_yX6_number wc_yX6_number rfl rfl (by decide +kernel) ⟨Nat.le_of_ble_eq_true rfl, Nat.le_of_ble_eq_true rfl⟩ ⟨by omega, by omega⟩ rfl hl.1 (Nat.le_of_ble_eq_true rfl) rfl dL_law_1238 (fun H locs hW hS => ?_)
  refine lv_istore (lv' := [(7, .int b9), (6, .int (lwc [3, 4] r)), (0, .ref b), (1, .ref (ad 0 0)), (2, .ref (am 0)), (3, .ref o1), (4, .ref o2), (5, .int i)]) hx hb dL_law_1241 hl (by decide) rfl (fun ls hl => ?_)
  refine lv_aload_n hx hb dL_law_1243 rfl (lv_at hl 4 rfl) ?_
  refine ll_mV B hW hS [] (n := 0) (v := .int (ms2.1 0)) (c_X6_thrown (st := ms2) rfl) wm_RL_144 wi_yX6_thrown ws_yX6_thrown wc_yX6_thrown rfl rfl (by decide +kernel) ⟨Nat.le_of_ble_eq_true rfl, Nat.le_of_ble_eq_true rfl⟩ ⟨by omega, by omega⟩ rfl hl.1 (Nat.le_of_ble_eq_true rfl) rfl dL_law_1244 (fun H locs hW hS => ?_)
  refine lv_iload hx hb dL_law_1247 (lv_at hl 1 rfl) ?_
  refine lv_icmp_eq (tgt := 1254) hx hb dL_law_1249 (by decide) (fun c1 => ?_) (fun c1 => absurd ht5 c1)
  refine lv_iload hx hb dL_law_1254 (lv_at hl 1 rfl) ?_
  refine lv_if_ne (tgt := 1271) hx hb dL_law_1256 (by decide) (fun c2 => ?_) (fun c2 => ?_)
  · skip
    refine lv_goto (tgt := 2507) hx hb dL_law_1271 (by decide) ?_
    exact W.widen (by omega) (by omega) (kk _ _ _ _ _ _ _ _ hae I2 hW hS (lv_sub hl [2, 3, 4, 5, 6, 7] rfl))
  · obtain ⟨x9, rfl⟩ := lwc_0 c2
    obtain rfl := hv5 x9 rfl
    refine lv_aload_n hx hb dL_law_1259 rfl (lv_at hl 5 rfl) ?_
    refine lv_iconst (v := 0) hx hb dL_law_1260 (by decide) ?_
    refine ll_lald B hW dL_law_1261 ?_
    rw [louI_0]
    refine lv_iload hx hb dL_law_1262 (lv_at hl 0 rfl) ?_
    refine lv_i2l hx hb dL_law_1264 rfl ?_
    refine W.lcmp hx hb dL_law_1265 ?_
    refine lv_if_eq (tgt := 1271) hx hb dL_law_1266 (by decide) (fun c3 => ?_) (fun c3 => absurd (lg_cmp_self _) c3)
    refine lv_goto (tgt := 2507) hx hb dL_law_1271 (by decide) ?_
    exact W.widen (by omega) (by omega) (kk _ _ _ _ _ _ _ _ hae I2 hW hS (lv_sub hl [2, 3, 4, 5, 6, 7] rfl))
set_option maxHeartbeats 4000000 in
set_option maxRecDepth 100000 in
theorem k_letter {p : Program} {l : Launch} {e : Env} {s : State} {m : MethodId} {args : Array Value} {below : List Frame} {meth : Method} {c : Code} {H : Heap} {locs : List Loc} {cells slots : Nat} {Q : State → Prop} {ls : Array Slot} {G : GG} {A A1 A2 : Nat → Prop} {am : Nat → Nat} {o1 o2 : Nat} {ad : AD} {st : XS} {ms : MS} {f : Nat → Int64} {g : Nat → UInt64} {rt : Option FieldType} {b L : Nat} {xs : Nat → Int32} {i : Int32} (hll : l.stackTraces = false) (B : LL G A A1 A2 o1 o2 p s m args meth c rt) (hX : va_X b L xs s s.heap) (hbl : b < s.heap.size) (hbA : ¬ A b) (hi : INX i L) (I : INV st ms) (hW : LW G A A1 A2 am o1 o2 s ad st ms f g H) (hS : va_S A s.heap H locs) (hl : lv_has ls 9 [(0, .ref b), (1, .ref (ad 0 0)), (2, .ref (am 0)), (3, .ref o1), (4, .ref o2), (5, .int i)]) (hc : cells + 11 ≤ room_1.cells) (hs : slots + 248 ≤ room_1.slots)
    (kk : KK p l e s m args below meth c Q G A A1 A2 am o1 o2 ad b i cells slots) : W p l e room_1 s m args below meth c H locs cells slots Q (F0 m 1274 ls []) := by
  have ⟨⟨hx, hb, hr, hml, hown, hT, hlocks, hK⟩, hNC, hLR, hA⟩ := B
  refine lv_aload_n hx hb dL_law_1274 rfl (lv_at hl 1 rfl) ?_
  refine lv_aload_n hx hb dL_law_1275 rfl (lv_at hl 0 rfl) ?_
  refine lv_iload hx hb dL_law_1276 (lv_at hl 5 rfl) ?_
  refine lv_iconst (v := 1) hx hb dL_law_1278 (by decide) ?_
  refine lv_iadd hx hb dL_law_1279 ?_
  refine va_sld hx hb hX hbl hbA hS hi.1 dL_law_1280 ?_
  refine lv_aload_n hx hb dL_law_1281 rfl (lv_at hl 3 rfl) ?_
  obtain ⟨r, st2, b9, ms2, e5, e6, I2, hk5, ht5, hv5⟩ := ag_letter I (x1 := (xs (i + 1).toNatClampNeg))
  refine ll_wI B hW hS [.ref (ad 0 0), .int (xs (i + 1).toNatClampNeg), .ref o1] (n := 3) (c_L_letter hll e5 hk5) wm_RL_203 wt_yL_letter rfl wc_yL_letter rfl rfl (by decide +kernel) ⟨Nat.le_of_ble_eq_true rfl, Nat.le_of_ble_eq_true rfl⟩ ⟨by omega, by omega⟩ rfl hl.1 (Nat.le_of_ble_eq_true rfl) rfl dL_law_1282 (fun ad2 H locs hae hW hS => ?_)
  refine lv_istore (lv' := [(6, .int (lwc [3, 4] r)), (0, .ref b), (1, .ref (ad 0 0)), (2, .ref (am 0)), (3, .ref o1), (4, .ref o2), (5, .int i)]) hx hb dL_law_1285 hl (by decide) rfl (fun ls hl => ?_)
  refine lv_aload_n hx hb dL_law_1287 rfl (lv_at hl 3 rfl) ?_
  refine lv_aload_n hx hb dL_law_1288 rfl (lv_at hl 1 rfl) ?_
  refine lv_iload hx hb dL_law_1289 (lv_at hl 6 rfl) ?_
  refine lv_iconst (v := 1) hx hb dL_law_1291 (by decide) ?_
  refine lv_iadd hx hb dL_law_1292 ?_
  refine va_sld hx hb hX hbl hbA hS hi.1 dL_law_1293 ?_
  refine ll_mV B hW hS [.int (xs (i + 1).toNatClampNeg)] (n := 1) (v := .int b9) (c_X6_letter e6) wm_RL_205 wi_yX6_letter ws_yX6_letter wc_yX6_letter rfl rfl (by decide +kernel) ⟨Nat.le_of_ble_eq_true rfl, Nat.le_of_ble_eq_true rfl⟩ ⟨by omega, by omega⟩ rfl hl.1 (Nat.le_of_ble_eq_true rfl) rfl dL_law_1294 (fun H locs hW hS => ?_)
  refine lv_istore (lv' := [(7, .int b9), (6, .int (lwc [3, 4] r)), (0, .ref b), (1, .ref (ad 0 0)), (2, .ref (am 0)), (3, .ref o1), (4, .ref o2), (5, .int i)]) hx hb dL_law_1297 hl (by decide) rfl (fun ls hl => ?_)
  refine lv_aload_n hx hb dL_law_1299 rfl (lv_at hl 4 rfl) ?_
  refine ll_mV B hW hS [] (n := 0) (v := .int (ms2.1 0)) (c_X6_thrown (st := ms2) rfl) wm_RL_144 wi_yX6_thrown ws_yX6_thrown wc_yX6_thrown rfl rfl (by decide +kernel) ⟨Nat.le_of_ble_eq_true rfl, Nat.le_of_ble_eq_true rfl⟩ ⟨by omega, by omega⟩ rfl hl.1 (Nat.le_of_ble_eq_true rfl) rfl dL_law_1300 (fun H locs hW hS => ?_)
  refine lv_iload hx hb dL_law_1303 (lv_at hl 1 rfl) ?_
  refine lv_icmp_eq (tgt := 1310) hx hb dL_law_1305 (by decide) (fun c1 => ?_) (fun c1 => absurd ht5 c1)
  refine lv_iload hx hb dL_law_1310 (lv_at hl 1 rfl) ?_
  refine lv_if_ne (tgt := 1327) hx hb dL_law_1312 (by decide) (fun c2 => ?_) (fun c2 => ?_)
  · skip
    refine lv_goto (tgt := 2507) hx hb dL_law_1327 (by decide) ?_
    exact W.widen (by omega) (by omega) (kk _ _ _ _ _ _ _ _ hae I2 hW hS (lv_sub hl [2, 3, 4, 5, 6, 7] rfl))
  · obtain ⟨x9, rfl⟩ := lwc_0 c2
    obtain rfl := hv5 x9 rfl
    refine lv_aload_n hx hb dL_law_1315 rfl (lv_at hl 5 rfl) ?_
    refine lv_iconst (v := 0) hx hb dL_law_1316 (by decide) ?_
    refine ll_lald B hW dL_law_1317 ?_
    rw [louI_0]
    refine lv_iload hx hb dL_law_1318 (lv_at hl 0 rfl) ?_
    refine lv_i2l hx hb dL_law_1320 rfl ?_
    refine W.lcmp hx hb dL_law_1321 ?_
    refine lv_if_eq (tgt := 1327) hx hb dL_law_1322 (by decide) (fun c3 => ?_) (fun c3 => absurd (lg_cmp_self _) c3)
    refine lv_goto (tgt := 2507) hx hb dL_law_1327 (by decide) ?_
    exact W.widen (by omega) (by omega) (kk _ _ _ _ _ _ _ _ hae I2 hW hS (lv_sub hl [2, 3, 4, 5, 6, 7] rfl))
set_option maxHeartbeats 4000000 in
set_option maxRecDepth 100000 in
theorem k_named {p : Program} {l : Launch} {e : Env} {s : State} {m : MethodId} {args : Array Value} {below : List Frame} {meth : Method} {c : Code} {H : Heap} {locs : List Loc} {cells slots : Nat} {Q : State → Prop} {ls : Array Slot} {G : GG} {A A1 A2 : Nat → Prop} {am : Nat → Nat} {o1 o2 : Nat} {ad : AD} {st : XS} {ms : MS} {f : Nat → Int64} {g : Nat → UInt64} {rt : Option FieldType} {b L : Nat} {xs : Nat → Int32} {i : Int32} (hll : l.stackTraces = false) (B : LL G A A1 A2 o1 o2 p s m args meth c rt) (hX : va_X b L xs s s.heap) (hbl : b < s.heap.size) (hbA : ¬ A b) (hi : INX i L) (I : INV st ms) (hW : LW G A A1 A2 am o1 o2 s ad st ms f g H) (hS : va_S A s.heap H locs) (hl : lv_has ls 9 [(0, .ref b), (1, .ref (ad 0 0)), (2, .ref (am 0)), (3, .ref o1), (4, .ref o2), (5, .int i)]) (hc : cells + 11 ≤ room_1.cells) (hs : slots + 248 ≤ room_1.slots)
    (kk : KK p l e s m args below meth c Q G A A1 A2 am o1 o2 ad b i cells slots) : W p l e room_1 s m args below meth c H locs cells slots Q (F0 m 1330 ls []) := by
  have ⟨⟨hx, hb, hr, hml, hown, hT, hlocks, hK⟩, hNC, hLR, hA⟩ := B
  refine lv_aload_n hx hb dL_law_1330 rfl (lv_at hl 1 rfl) ?_
  refine lv_aload_n hx hb dL_law_1331 rfl (lv_at hl 0 rfl) ?_
  refine lv_iload hx hb dL_law_1332 (lv_at hl 5 rfl) ?_
  refine lv_iconst (v := 1) hx hb dL_law_1334 (by decide) ?_
  refine lv_iadd hx hb dL_law_1335 ?_
  refine va_sld hx hb hX hbl hbA hS hi.1 dL_law_1336 ?_
  refine lv_aload_n hx hb dL_law_1337 rfl (lv_at hl 0 rfl) ?_
  refine lv_iload hx hb dL_law_1338 (lv_at hl 5 rfl) ?_
  refine lv_iconst (v := 2) hx hb dL_law_1340 (by decide) ?_
  refine lv_iadd hx hb dL_law_1341 ?_
  refine va_sld hx hb hX hbl hbA hS hi.2.1 dL_law_1342 ?_
  refine lv_i2c hx hb dL_law_1343 rfl ?_
  refine lv_aload_n hx hb dL_law_1344 rfl (lv_at hl 3 rfl) ?_
  obtain ⟨r, st2, b9, ms2, e5, e6, I2, hk5, ht5, hv5⟩ := ag_named I (x1 := (xs (i + 1).toNatClampNeg)) (x2 := (((xs (i + 2).toNatClampNeg).toUInt32 % 65536).toInt32)) (ch_ok _)
  refine ll_wI B hW hS [.ref (ad 0 0), .int (xs (i + 1).toNatClampNeg), .int (((xs (i + 2).toNatClampNeg).toUInt32 % 65536).toInt32), .ref o1] (n := 4) (c_L_named hll e5 hk5) wm_RL_206 wt_yL_named rfl wc_yL_named rfl rfl (by decide +kernel) ⟨Nat.le_of_ble_eq_true rfl, Nat.le_of_ble_eq_true rfl⟩ ⟨by omega, by omega⟩ rfl hl.1 (Nat.le_of_ble_eq_true rfl) rfl dL_law_1345 (fun ad2 H locs hae hW hS => ?_)
  refine lv_istore (lv' := [(6, .int (lwc [4] r)), (0, .ref b), (1, .ref (ad 0 0)), (2, .ref (am 0)), (3, .ref o1), (4, .ref o2), (5, .int i)]) hx hb dL_law_1348 hl (by decide) rfl (fun ls hl => ?_)
  refine lv_aload_n hx hb dL_law_1350 rfl (lv_at hl 3 rfl) ?_
  refine lv_aload_n hx hb dL_law_1351 rfl (lv_at hl 1 rfl) ?_
  refine lv_iload hx hb dL_law_1352 (lv_at hl 6 rfl) ?_
  refine lv_iconst (v := 1) hx hb dL_law_1354 (by decide) ?_
  refine lv_iadd hx hb dL_law_1355 ?_
  refine va_sld hx hb hX hbl hbA hS hi.1 dL_law_1356 ?_
  refine lv_aload_n hx hb dL_law_1357 rfl (lv_at hl 1 rfl) ?_
  refine lv_iload hx hb dL_law_1358 (lv_at hl 6 rfl) ?_
  refine lv_iconst (v := 2) hx hb dL_law_1360 (by decide) ?_
  refine lv_iadd hx hb dL_law_1361 ?_
  refine va_sld hx hb hX hbl hbA hS hi.2.1 dL_law_1362 ?_
  refine lv_i2c hx hb dL_law_1363 rfl ?_
  refine ll_mV B hW hS [.int (xs (i + 1).toNatClampNeg), .int (((xs (i + 2).toNatClampNeg).toUInt32 % 65536).toInt32)] (n := 2) (v := .int b9) (c_X6_named e6) wm_RL_209 wi_yX6_named ws_yX6_named wc_yX6_named rfl rfl (by decide +kernel) ⟨Nat.le_of_ble_eq_true rfl, Nat.le_of_ble_eq_true rfl⟩ ⟨by omega, by omega⟩ rfl hl.1 (Nat.le_of_ble_eq_true rfl) rfl dL_law_1364 (fun H locs hW hS => ?_)
  refine lv_istore (lv' := [(7, .int b9), (6, .int (lwc [4] r)), (0, .ref b), (1, .ref (ad 0 0)), (2, .ref (am 0)), (3, .ref o1), (4, .ref o2), (5, .int i)]) hx hb dL_law_1367 hl (by decide) rfl (fun ls hl => ?_)
  refine lv_aload_n hx hb dL_law_1369 rfl (lv_at hl 4 rfl) ?_
  refine ll_mV B hW hS [] (n := 0) (v := .int (ms2.1 0)) (c_X6_thrown (st := ms2) rfl) wm_RL_144 wi_yX6_thrown ws_yX6_thrown wc_yX6_thrown rfl rfl (by decide +kernel) ⟨Nat.le_of_ble_eq_true rfl, Nat.le_of_ble_eq_true rfl⟩ ⟨by omega, by omega⟩ rfl hl.1 (Nat.le_of_ble_eq_true rfl) rfl dL_law_1370 (fun H locs hW hS => ?_)
  refine lv_iload hx hb dL_law_1373 (lv_at hl 1 rfl) ?_
  refine lv_icmp_eq (tgt := 1380) hx hb dL_law_1375 (by decide) (fun c1 => ?_) (fun c1 => absurd ht5 c1)
  refine lv_iload hx hb dL_law_1380 (lv_at hl 1 rfl) ?_
  refine lv_if_ne (tgt := 1397) hx hb dL_law_1382 (by decide) (fun c2 => ?_) (fun c2 => ?_)
  · skip
    refine lv_goto (tgt := 2507) hx hb dL_law_1397 (by decide) ?_
    exact W.widen (by omega) (by omega) (kk _ _ _ _ _ _ _ _ hae I2 hW hS (lv_sub hl [2, 3, 4, 5, 6, 7] rfl))
  · obtain ⟨x9, rfl⟩ := lwc_0 c2
    obtain rfl := hv5 x9 rfl
    refine lv_aload_n hx hb dL_law_1385 rfl (lv_at hl 5 rfl) ?_
    refine lv_iconst (v := 0) hx hb dL_law_1386 (by decide) ?_
    refine ll_lald B hW dL_law_1387 ?_
    rw [louI_0]
    refine lv_iload hx hb dL_law_1388 (lv_at hl 0 rfl) ?_
    refine lv_i2l hx hb dL_law_1390 rfl ?_
    refine W.lcmp hx hb dL_law_1391 ?_
    refine lv_if_eq (tgt := 1397) hx hb dL_law_1392 (by decide) (fun c3 => ?_) (fun c3 => absurd (lg_cmp_self _) c3)
    refine lv_goto (tgt := 2507) hx hb dL_law_1397 (by decide) ?_
    exact W.widen (by omega) (by omega) (kk _ _ _ _ _ _ _ _ hae I2 hW hS (lv_sub hl [2, 3, 4, 5, 6, 7] rfl))
set_option maxHeartbeats 4000000 in
set_option maxRecDepth 100000 in
theorem k_wrong {p : Program} {l : Launch} {e : Env} {s : State} {m : MethodId} {args : Array Value} {below : List Frame} {meth : Method} {c : Code} {H : Heap} {locs : List Loc} {cells slots : Nat} {Q : State → Prop} {ls : Array Slot} {G : GG} {A A1 A2 : Nat → Prop} {am : Nat → Nat} {o1 o2 : Nat} {ad : AD} {st : XS} {ms : MS} {f : Nat → Int64} {g : Nat → UInt64} {rt : Option FieldType} {b L : Nat} {xs : Nat → Int32} {i : Int32} (hll : l.stackTraces = false) (B : LL G A A1 A2 o1 o2 p s m args meth c rt) (hX : va_X b L xs s s.heap) (hbl : b < s.heap.size) (hbA : ¬ A b) (hi : INX i L) (I : INV st ms) (hW : LW G A A1 A2 am o1 o2 s ad st ms f g H) (hS : va_S A s.heap H locs) (hl : lv_has ls 9 [(0, .ref b), (1, .ref (ad 0 0)), (2, .ref (am 0)), (3, .ref o1), (4, .ref o2), (5, .int i)]) (hc : cells + 11 ≤ room_1.cells) (hs : slots + 248 ≤ room_1.slots)
    (kk : KK p l e s m args below meth c Q G A A1 A2 am o1 o2 ad b i cells slots) : W p l e room_1 s m args below meth c H locs cells slots Q (F0 m 1400 ls []) := by
  have ⟨⟨hx, hb, hr, hml, hown, hT, hlocks, hK⟩, hNC, hLR, hA⟩ := B
  refine lv_aload_n hx hb dL_law_1400 rfl (lv_at hl 1 rfl) ?_
  refine lv_aload_n hx hb dL_law_1401 rfl (lv_at hl 0 rfl) ?_
  refine lv_iload hx hb dL_law_1402 (lv_at hl 5 rfl) ?_
  refine lv_iconst (v := 1) hx hb dL_law_1404 (by decide) ?_
  refine lv_iadd hx hb dL_law_1405 ?_
  refine va_sld hx hb hX hbl hbA hS hi.1 dL_law_1406 ?_
  refine lv_aload_n hx hb dL_law_1407 rfl (lv_at hl 3 rfl) ?_
  obtain ⟨r, st2, b9, ms2, e5, e6, I2, hk5, ht5, hv5⟩ := ag_wrong I (x1 := (xs (i + 1).toNatClampNeg))
  refine ll_wI B hW hS [.ref (ad 0 0), .int (xs (i + 1).toNatClampNeg), .ref o1] (n := 3) (c_L_wrong hll e5 hk5) wm_RL_210 wt_yL_wrong rfl wc_yL_wrong rfl rfl (by decide +kernel) ⟨Nat.le_of_ble_eq_true rfl, Nat.le_of_ble_eq_true rfl⟩ ⟨by omega, by omega⟩ rfl hl.1 (Nat.le_of_ble_eq_true rfl) rfl dL_law_1408 (fun ad2 H locs hae hW hS => ?_)
  refine lv_istore (lv' := [(6, .int (lwc [4] r)), (0, .ref b), (1, .ref (ad 0 0)), (2, .ref (am 0)), (3, .ref o1), (4, .ref o2), (5, .int i)]) hx hb dL_law_1411 hl (by decide) rfl (fun ls hl => ?_)
  refine lv_aload_n hx hb dL_law_1413 rfl (lv_at hl 3 rfl) ?_
  refine lv_aload_n hx hb dL_law_1414 rfl (lv_at hl 1 rfl) ?_
  refine lv_iload hx hb dL_law_1415 (lv_at hl 6 rfl) ?_
  refine lv_iconst (v := 1) hx hb dL_law_1417 (by decide) ?_
  refine lv_iadd hx hb dL_law_1418 ?_
  refine va_sld hx hb hX hbl hbA hS hi.1 dL_law_1419 ?_
  refine ll_mV B hW hS [.int (xs (i + 1).toNatClampNeg)] (n := 1) (v := .int b9) (c_X6_wrong e6) wm_RL_212 wi_yX6_wrong ws_yX6_wrong wc_yX6_wrong rfl rfl (by decide +kernel) ⟨Nat.le_of_ble_eq_true rfl, Nat.le_of_ble_eq_true rfl⟩ ⟨by omega, by omega⟩ rfl hl.1 (Nat.le_of_ble_eq_true rfl) rfl dL_law_1420 (fun H locs hW hS => ?_)
  refine lv_istore (lv' := [(7, .int b9), (6, .int (lwc [4] r)), (0, .ref b), (1, .ref (ad 0 0)), (2, .ref (am 0)), (3, .ref o1), (4, .ref o2), (5, .int i)]) hx hb dL_law_1423 hl (by decide) rfl (fun ls hl => ?_)
  refine lv_aload_n hx hb dL_law_1425 rfl (lv_at hl 4 rfl) ?_
  refine ll_mV B hW hS [] (n := 0) (v := .int (ms2.1 0)) (c_X6_thrown (st := ms2) rfl) wm_RL_144 wi_yX6_thrown ws_yX6_thrown wc_yX6_thrown rfl rfl (by decide +kernel) ⟨Nat.le_of_ble_eq_true rfl, Nat.le_of_ble_eq_true rfl⟩ ⟨by omega, by omega⟩ rfl hl.1 (Nat.le_of_ble_eq_true rfl) rfl dL_law_1426 (fun H locs hW hS => ?_)
  refine lv_iload hx hb dL_law_1429 (lv_at hl 1 rfl) ?_
  refine lv_icmp_eq (tgt := 1436) hx hb dL_law_1431 (by decide) (fun c1 => ?_) (fun c1 => absurd ht5 c1)
  refine lv_iload hx hb dL_law_1436 (lv_at hl 1 rfl) ?_
  refine lv_if_ne (tgt := 1453) hx hb dL_law_1438 (by decide) (fun c2 => ?_) (fun c2 => ?_)
  · skip
    refine lv_goto (tgt := 2507) hx hb dL_law_1453 (by decide) ?_
    exact W.widen (by omega) (by omega) (kk _ _ _ _ _ _ _ _ hae I2 hW hS (lv_sub hl [2, 3, 4, 5, 6, 7] rfl))
  · obtain ⟨x9, rfl⟩ := lwc_0 c2
    obtain rfl := hv5 x9 rfl
    refine lv_aload_n hx hb dL_law_1441 rfl (lv_at hl 5 rfl) ?_
    refine lv_iconst (v := 0) hx hb dL_law_1442 (by decide) ?_
    refine ll_lald B hW dL_law_1443 ?_
    rw [louI_0]
    refine lv_iload hx hb dL_law_1444 (lv_at hl 0 rfl) ?_
    refine lv_i2l hx hb dL_law_1446 rfl ?_
    refine W.lcmp hx hb dL_law_1447 ?_
    refine lv_if_eq (tgt := 1453) hx hb dL_law_1448 (by decide) (fun c3 => ?_) (fun c3 => absurd (lg_cmp_self _) c3)
    refine lv_goto (tgt := 2507) hx hb dL_law_1453 (by decide) ?_
    exact W.widen (by omega) (by omega) (kk _ _ _ _ _ _ _ _ hae I2 hW hS (lv_sub hl [2, 3, 4, 5, 6, 7] rfl))
set_option maxHeartbeats 4000000 in
set_option maxRecDepth 100000 in
theorem k_excuse {p : Program} {l : Launch} {e : Env} {s : State} {m : MethodId} {args : Array Value} {below : List Frame} {meth : Method} {c : Code} {H : Heap} {locs : List Loc} {cells slots : Nat} {Q : State → Prop} {ls : Array Slot} {G : GG} {A A1 A2 : Nat → Prop} {am : Nat → Nat} {o1 o2 : Nat} {ad : AD} {st : XS} {ms : MS} {f : Nat → Int64} {g : Nat → UInt64} {rt : Option FieldType} {b L : Nat} {xs : Nat → Int32} {i : Int32} (hll : l.stackTraces = false) (B : LL G A A1 A2 o1 o2 p s m args meth c rt) (hX : va_X b L xs s s.heap) (hbl : b < s.heap.size) (hbA : ¬ A b) (hi : INX i L) (I : INV st ms) (hW : LW G A A1 A2 am o1 o2 s ad st ms f g H) (hS : va_S A s.heap H locs) (hl : lv_has ls 9 [(0, .ref b), (1, .ref (ad 0 0)), (2, .ref (am 0)), (3, .ref o1), (4, .ref o2), (5, .int i)]) (hc : cells + 11 ≤ room_1.cells) (hs : slots + 248 ≤ room_1.slots)
    (kk : KK p l e s m args below meth c Q G A A1 A2 am o1 o2 ad b i cells slots) : W p l e room_1 s m args below meth c H locs cells slots Q (F0 m 1456 ls []) := by
  have ⟨⟨hx, hb, hr, hml, hown, hT, hlocks, hK⟩, hNC, hLR, hA⟩ := B
  refine lv_aload_n hx hb dL_law_1456 rfl (lv_at hl 1 rfl) ?_
  refine lv_aload_n hx hb dL_law_1457 rfl (lv_at hl 0 rfl) ?_
  refine lv_iload hx hb dL_law_1458 (lv_at hl 5 rfl) ?_
  refine lv_iconst (v := 1) hx hb dL_law_1460 (by decide) ?_
  refine lv_iadd hx hb dL_law_1461 ?_
  refine va_sld hx hb hX hbl hbA hS hi.1 dL_law_1462 ?_
  refine lv_aload_n hx hb dL_law_1463 rfl (lv_at hl 0 rfl) ?_
  refine lv_iload hx hb dL_law_1464 (lv_at hl 5 rfl) ?_
  refine lv_iconst (v := 2) hx hb dL_law_1466 (by decide) ?_
  refine lv_iadd hx hb dL_law_1467 ?_
  refine va_sld hx hb hX hbl hbA hS hi.2.1 dL_law_1468 ?_
  refine lv_i2c hx hb dL_law_1469 rfl ?_
  refine lv_aload_n hx hb dL_law_1470 rfl (lv_at hl 3 rfl) ?_
  obtain ⟨r, st2, b9, ms2, e5, e6, I2, hk5, ht5, hv5⟩ := ag_excuse I (x1 := (xs (i + 1).toNatClampNeg)) (x2 := (((xs (i + 2).toNatClampNeg).toUInt32 % 65536).toInt32)) (ch_ok _)
  refine ll_wI B hW hS [.ref (ad 0 0), .int (xs (i + 1).toNatClampNeg), .int (((xs (i + 2).toNatClampNeg).toUInt32 % 65536).toInt32), .ref o1] (n := 4) (c_L_excuse hll e5 hk5) wm_RL_213 wt_yL_excuse rfl wc_yL_excuse rfl rfl (by decide +kernel) ⟨Nat.le_of_ble_eq_true rfl, Nat.le_of_ble_eq_true rfl⟩ ⟨by omega, by omega⟩ rfl hl.1 (Nat.le_of_ble_eq_true rfl) rfl dL_law_1471 (fun ad2 H locs hae hW hS => ?_)
  refine lv_istore (lv' := [(6, .int (lwc [0, 4] r)), (0, .ref b), (1, .ref (ad 0 0)), (2, .ref (am 0)), (3, .ref o1), (4, .ref o2), (5, .int i)]) hx hb dL_law_1474 hl (by decide) rfl (fun ls hl => ?_)
  refine lv_aload_n hx hb dL_law_1476 rfl (lv_at hl 3 rfl) ?_
  refine lv_aload_n hx hb dL_law_1477 rfl (lv_at hl 1 rfl) ?_
  refine lv_iload hx hb dL_law_1478 (lv_at hl 6 rfl) ?_
  refine lv_iconst (v := 1) hx hb dL_law_1480 (by decide) ?_
  refine lv_iadd hx hb dL_law_1481 ?_
  refine va_sld hx hb hX hbl hbA hS hi.1 dL_law_1482 ?_
  refine lv_aload_n hx hb dL_law_1483 rfl (lv_at hl 1 rfl) ?_
  refine lv_iload hx hb dL_law_1484 (lv_at hl 6 rfl) ?_
  refine lv_iconst (v := 2) hx hb dL_law_1486 (by decide) ?_
  refine lv_iadd hx hb dL_law_1487 ?_
  refine va_sld hx hb hX hbl hbA hS hi.2.1 dL_law_1488 ?_
  refine lv_i2c hx hb dL_law_1489 rfl ?_
  refine ll_mV B hW hS [.int (xs (i + 1).toNatClampNeg), .int (((xs (i + 2).toNatClampNeg).toUInt32 % 65536).toInt32)] (n := 2) (v := .int b9) (c_X6_excuse e6) wm_RL_215 wi_yX6_excuse ws_yX6_excuse wc_yX6_excuse rfl rfl (by decide +kernel) ⟨Nat.le_of_ble_eq_true rfl, Nat.le_of_ble_eq_true rfl⟩ ⟨by omega, by omega⟩ rfl hl.1 (Nat.le_of_ble_eq_true rfl) rfl dL_law_1490 (fun H locs hW hS => ?_)
  refine lv_istore (lv' := [(7, .int b9), (6, .int (lwc [0, 4] r)), (0, .ref b), (1, .ref (ad 0 0)), (2, .ref (am 0)), (3, .ref o1), (4, .ref o2), (5, .int i)]) hx hb dL_law_1493 hl (by decide) rfl (fun ls hl => ?_)
  refine lv_aload_n hx hb dL_law_1495 rfl (lv_at hl 4 rfl) ?_
  refine ll_mV B hW hS [] (n := 0) (v := .int (ms2.1 0)) (c_X6_thrown (st := ms2) rfl) wm_RL_144 wi_yX6_thrown ws_yX6_thrown wc_yX6_thrown rfl rfl (by decide +kernel) ⟨Nat.le_of_ble_eq_true rfl, Nat.le_of_ble_eq_true rfl⟩ ⟨by omega, by omega⟩ rfl hl.1 (Nat.le_of_ble_eq_true rfl) rfl dL_law_1496 (fun H locs hW hS => ?_)
  refine lv_iload hx hb dL_law_1499 (lv_at hl 1 rfl) ?_
  refine lv_icmp_eq (tgt := 1506) hx hb dL_law_1501 (by decide) (fun c1 => ?_) (fun c1 => absurd ht5 c1)
  refine lv_iload hx hb dL_law_1506 (lv_at hl 1 rfl) ?_
  refine lv_if_ne (tgt := 1523) hx hb dL_law_1508 (by decide) (fun c2 => ?_) (fun c2 => ?_)
  · skip
    refine lv_goto (tgt := 2507) hx hb dL_law_1523 (by decide) ?_
    exact W.widen (by omega) (by omega) (kk _ _ _ _ _ _ _ _ hae I2 hW hS (lv_sub hl [2, 3, 4, 5, 6, 7] rfl))
  · obtain ⟨x9, rfl⟩ := lwc_0 c2
    obtain rfl := hv5 x9 rfl
    refine lv_aload_n hx hb dL_law_1511 rfl (lv_at hl 5 rfl) ?_
    refine lv_iconst (v := 0) hx hb dL_law_1512 (by decide) ?_
    refine ll_lald B hW dL_law_1513 ?_
    rw [louI_0]
    refine lv_iload hx hb dL_law_1514 (lv_at hl 0 rfl) ?_
    refine lv_i2l hx hb dL_law_1516 rfl ?_
    refine W.lcmp hx hb dL_law_1517 ?_
    refine lv_if_eq (tgt := 1523) hx hb dL_law_1518 (by decide) (fun c3 => ?_) (fun c3 => absurd (lg_cmp_self _) c3)
    refine lv_goto (tgt := 2507) hx hb dL_law_1523 (by decide) ?_
    exact W.widen (by omega) (by omega) (kk _ _ _ _ _ _ _ _ hae I2 hW hS (lv_sub hl [2, 3, 4, 5, 6, 7] rfl))
set_option maxHeartbeats 4000000 in
set_option maxRecDepth 100000 in
theorem k_isBroken {p : Program} {l : Launch} {e : Env} {s : State} {m : MethodId} {args : Array Value} {below : List Frame} {meth : Method} {c : Code} {H : Heap} {locs : List Loc} {cells slots : Nat} {Q : State → Prop} {ls : Array Slot} {G : GG} {A A1 A2 : Nat → Prop} {am : Nat → Nat} {o1 o2 : Nat} {ad : AD} {st : XS} {ms : MS} {f : Nat → Int64} {g : Nat → UInt64} {rt : Option FieldType} {b L : Nat} {xs : Nat → Int32} {i : Int32} (hll : l.stackTraces = false) (B : LL G A A1 A2 o1 o2 p s m args meth c rt) (hX : va_X b L xs s s.heap) (hbl : b < s.heap.size) (hbA : ¬ A b) (hi : INX i L) (I : INV st ms) (hW : LW G A A1 A2 am o1 o2 s ad st ms f g H) (hS : va_S A s.heap H locs) (hl : lv_has ls 9 [(0, .ref b), (1, .ref (ad 0 0)), (2, .ref (am 0)), (3, .ref o1), (4, .ref o2), (5, .int i)]) (hc : cells + 11 ≤ room_1.cells) (hs : slots + 248 ≤ room_1.slots)
    (kk : KK p l e s m args below meth c Q G A A1 A2 am o1 o2 ad b i cells slots) : W p l e room_1 s m args below meth c H locs cells slots Q (F0 m 1526 ls []) := by
  have ⟨⟨hx, hb, hr, hml, hown, hT, hlocks, hK⟩, hNC, hLR, hA⟩ := B
  refine lv_aload_n hx hb dL_law_1526 rfl (lv_at hl 1 rfl) ?_
  refine lv_aload_n hx hb dL_law_1527 rfl (lv_at hl 0 rfl) ?_
  refine lv_iload hx hb dL_law_1528 (lv_at hl 5 rfl) ?_
  refine lv_iconst (v := 1) hx hb dL_law_1530 (by decide) ?_
  refine lv_iadd hx hb dL_law_1531 ?_
  refine va_sld hx hb hX hbl hbA hS hi.1 dL_law_1532 ?_
  refine lv_aload_n hx hb dL_law_1533 rfl (lv_at hl 3 rfl) ?_
  obtain ⟨r, st2, b9, ms2, e5, e6, I2, hk5, ht5, hv5⟩ := ag_isBroken I (x1 := (xs (i + 1).toNatClampNeg))
  refine ll_wI B hW hS [.ref (ad 0 0), .int (xs (i + 1).toNatClampNeg), .ref o1] (n := 3) (c_L_isBroken hll e5 hk5) wm_RL_216 wt_yL_isBroken rfl wc_yL_isBroken rfl rfl (by decide +kernel) ⟨Nat.le_of_ble_eq_true rfl, Nat.le_of_ble_eq_true rfl⟩ ⟨by omega, by omega⟩ rfl hl.1 (Nat.le_of_ble_eq_true rfl) rfl dL_law_1534 (fun ad2 H locs hae hW hS => ?_)
  refine lv_istore (lv' := [(6, .int (lwc [4] r)), (0, .ref b), (1, .ref (ad 0 0)), (2, .ref (am 0)), (3, .ref o1), (4, .ref o2), (5, .int i)]) hx hb dL_law_1537 hl (by decide) rfl (fun ls hl => ?_)
  refine lv_aload_n hx hb dL_law_1539 rfl (lv_at hl 3 rfl) ?_
  refine lv_aload_n hx hb dL_law_1540 rfl (lv_at hl 1 rfl) ?_
  refine lv_iload hx hb dL_law_1541 (lv_at hl 6 rfl) ?_
  refine lv_iconst (v := 1) hx hb dL_law_1543 (by decide) ?_
  refine lv_iadd hx hb dL_law_1544 ?_
  refine va_sld hx hb hX hbl hbA hS hi.1 dL_law_1545 ?_
  refine ll_mV B hW hS [.int (xs (i + 1).toNatClampNeg)] (n := 1) (v := .int b9) (c_X6_isBroken e6) wm_RL_218 wi_yX6_isBroken ws_yX6_isBroken wc_yX6_isBroken rfl rfl (by decide +kernel) ⟨Nat.le_of_ble_eq_true rfl, Nat.le_of_ble_eq_true rfl⟩ ⟨by omega, by omega⟩ rfl hl.1 (Nat.le_of_ble_eq_true rfl) rfl dL_law_1546 (fun H locs hW hS => ?_)
  refine lv_istore (lv' := [(7, .int b9), (6, .int (lwc [4] r)), (0, .ref b), (1, .ref (ad 0 0)), (2, .ref (am 0)), (3, .ref o1), (4, .ref o2), (5, .int i)]) hx hb dL_law_1549 hl (by decide) rfl (fun ls hl => ?_)
  refine lv_aload_n hx hb dL_law_1551 rfl (lv_at hl 4 rfl) ?_
  refine ll_mV B hW hS [] (n := 0) (v := .int (ms2.1 0)) (c_X6_thrown (st := ms2) rfl) wm_RL_144 wi_yX6_thrown ws_yX6_thrown wc_yX6_thrown rfl rfl (by decide +kernel) ⟨Nat.le_of_ble_eq_true rfl, Nat.le_of_ble_eq_true rfl⟩ ⟨by omega, by omega⟩ rfl hl.1 (Nat.le_of_ble_eq_true rfl) rfl dL_law_1552 (fun H locs hW hS => ?_)
  refine lv_iload hx hb dL_law_1555 (lv_at hl 1 rfl) ?_
  refine lv_icmp_eq (tgt := 1562) hx hb dL_law_1557 (by decide) (fun c1 => ?_) (fun c1 => absurd ht5 c1)
  refine lv_iload hx hb dL_law_1562 (lv_at hl 1 rfl) ?_
  refine lv_if_ne (tgt := 1586) hx hb dL_law_1564 (by decide) (fun c2 => ?_) (fun c2 => ?_)
  · skip
    refine lv_goto (tgt := 2507) hx hb dL_law_1586 (by decide) ?_
    exact W.widen (by omega) (by omega) (kk _ _ _ _ _ _ _ _ hae I2 hW hS (lv_sub hl [2, 3, 4, 5, 6, 7] rfl))
  · obtain ⟨x9, rfl⟩ := lwc_0 c2
    obtain rfl := hv5 x9 rfl
    refine lv_aload_n hx hb dL_law_1567 rfl (lv_at hl 5 rfl) ?_
    refine lv_iconst (v := 0) hx hb dL_law_1568 (by decide) ?_
    refine ll_lald B hW dL_law_1569 ?_
    rw [louZ_00]
    refine lv_iload hx hb dL_law_1570 (lv_at hl 0 rfl) ?_
    refine lv_if_eq (tgt := 1579) hx hb dL_law_1572 (by decide) (fun c4 => ?_) (fun c4 => ?_)
    · rw [if_pos c4]
      refine lv_lconst (v := 0) hx hb dL_law_1579 (by decide) ?_
      refine W.lcmp hx hb dL_law_1580 ?_
      refine lv_if_eq (tgt := 1586) hx hb dL_law_1581 (by decide) (fun c3 => ?_) (fun c3 => absurd (lg_cmp_self _) c3)
      refine lv_goto (tgt := 2507) hx hb dL_law_1586 (by decide) ?_
      exact W.widen (by omega) (by omega) (kk _ _ _ _ _ _ _ _ hae I2 hW hS (lv_sub hl [2, 3, 4, 5, 6, 7] rfl))
    · rw [if_neg c4]
      refine lv_lconst (v := 1) hx hb dL_law_1575 (by decide) ?_
      refine lv_goto (tgt := 1580) hx hb dL_law_1576 (by decide) ?_
      refine W.lcmp hx hb dL_law_1580 ?_
      refine lv_if_eq (tgt := 1586) hx hb dL_law_1581 (by decide) (fun c3 => ?_) (fun c3 => absurd (lg_cmp_self _) c3)
      refine lv_goto (tgt := 2507) hx hb dL_law_1586 (by decide) ?_
      exact W.widen (by omega) (by omega) (kk _ _ _ _ _ _ _ _ hae I2 hW hS (lv_sub hl [2, 3, 4, 5, 6, 7] rfl))
set_option maxHeartbeats 4000000 in
set_option maxRecDepth 100000 in
theorem k_broken {p : Program} {l : Launch} {e : Env} {s : State} {m : MethodId} {args : Array Value} {below : List Frame} {meth : Method} {c : Code} {H : Heap} {locs : List Loc} {cells slots : Nat} {Q : State → Prop} {ls : Array Slot} {G : GG} {A A1 A2 : Nat → Prop} {am : Nat → Nat} {o1 o2 : Nat} {ad : AD} {st : XS} {ms : MS} {f : Nat → Int64} {g : Nat → UInt64} {rt : Option FieldType} {b L : Nat} {xs : Nat → Int32} {i : Int32} (hll : l.stackTraces = false) (B : LL G A A1 A2 o1 o2 p s m args meth c rt) (hX : va_X b L xs s s.heap) (hbl : b < s.heap.size) (hbA : ¬ A b) (hi : INX i L) (I : INV st ms) (hW : LW G A A1 A2 am o1 o2 s ad st ms f g H) (hS : va_S A s.heap H locs) (hl : lv_has ls 9 [(0, .ref b), (1, .ref (ad 0 0)), (2, .ref (am 0)), (3, .ref o1), (4, .ref o2), (5, .int i)]) (hc : cells + 11 ≤ room_1.cells) (hs : slots + 248 ≤ room_1.slots)
    (kk : KK p l e s m args below meth c Q G A A1 A2 am o1 o2 ad b i cells slots) : W p l e room_1 s m args below meth c H locs cells slots Q (F0 m 1589 ls []) := by
  have ⟨⟨hx, hb, hr, hml, hown, hT, hlocks, hK⟩, hNC, hLR, hA⟩ := B
  refine lv_aload_n hx hb dL_law_1589 rfl (lv_at hl 1 rfl) ?_
  obtain ⟨r, st2, ms2, e5, e6, I2⟩ := ag_broken I
  refine ll_xV B hW hS [] (n := 0) (v := .int r) (c_X5_broken hll e5) wm_RL_219 wi_yX5_broken ws_yX5_broken wc_yX5_broken rfl rfl (by decide +kernel) ⟨Nat.le_of_ble_eq_true rfl, Nat.le_of_ble_eq_true rfl⟩ ⟨by omega, by omega⟩ rfl hl.1 (Nat.le_of_ble_eq_true rfl) rfl dL_law_1590 (fun H locs hW hS => ?_)
  refine lv_aload_n hx hb dL_law_1593 rfl (lv_at hl 2 rfl) ?_
  refine ll_mV B hW hS [] (n := 0) (v := .int r) (c_X6_broken e6) wm_RL_222 wi_yX6_broken ws_yX6_broken wc_yX6_broken rfl rfl (by decide +kernel) ⟨Nat.le_of_ble_eq_true rfl, Nat.le_of_ble_eq_true rfl⟩ ⟨by omega, by omega⟩ rfl hl.1 (Nat.le_of_ble_eq_true rfl) rfl dL_law_1594 (fun H locs hW hS => ?_)
  refine lv_icmp_eq (tgt := 2507) hx hb dL_law_1597 (by decide) (fun c1 => ?_) (fun c1 => absurd rfl c1)
  exact W.widen (by omega) (by omega) (kk _ _ _ _ _ _ _ _ AE.rf I2 hW hS (lv_sub hl [0, 1, 2, 3, 4, 5] rfl))
set_option maxHeartbeats 4000000 in
set_option maxRecDepth 100000 in
theorem k_hand {p : Program} {l : Launch} {e : Env} {s : State} {m : MethodId} {args : Array Value} {below : List Frame} {meth : Method} {c : Code} {H : Heap} {locs : List Loc} {cells slots : Nat} {Q : State → Prop} {ls : Array Slot} {G : GG} {A A1 A2 : Nat → Prop} {am : Nat → Nat} {o1 o2 : Nat} {ad : AD} {st : XS} {ms : MS} {f : Nat → Int64} {g : Nat → UInt64} {rt : Option FieldType} {b L : Nat} {xs : Nat → Int32} {i : Int32} (hll : l.stackTraces = false) (B : LL G A A1 A2 o1 o2 p s m args meth c rt) (hX : va_X b L xs s s.heap) (hbl : b < s.heap.size) (hbA : ¬ A b) (hi : INX i L) (I : INV st ms) (hW : LW G A A1 A2 am o1 o2 s ad st ms f g H) (hS : va_S A s.heap H locs) (hl : lv_has ls 9 [(0, .ref b), (1, .ref (ad 0 0)), (2, .ref (am 0)), (3, .ref o1), (4, .ref o2), (5, .int i)]) (hc : cells + 11 ≤ room_1.cells) (hs : slots + 248 ≤ room_1.slots)
    (kk : KK p l e s m args below meth c Q G A A1 A2 am o1 o2 ad b i cells slots) : W p l e room_1 s m args below meth c H locs cells slots Q (F0 m 1602 ls []) := by
  have ⟨⟨hx, hb, hr, hml, hown, hT, hlocks, hK⟩, hNC, hLR, hA⟩ := B
  refine lv_aload_n hx hb dL_law_1602 rfl (lv_at hl 1 rfl) ?_
  refine lv_aload_n hx hb dL_law_1603 rfl (lv_at hl 0 rfl) ?_
  refine lv_iload hx hb dL_law_1604 (lv_at hl 5 rfl) ?_
  refine lv_iconst (v := 1) hx hb dL_law_1606 (by decide) ?_
  refine lv_iadd hx hb dL_law_1607 ?_
  refine va_sld hx hb hX hbl hbA hS hi.1 dL_law_1608 ?_
  refine lv_aload_n hx hb dL_law_1609 rfl (lv_at hl 0 rfl) ?_
  refine lv_iload hx hb dL_law_1610 (lv_at hl 5 rfl) ?_
  refine lv_iconst (v := 2) hx hb dL_law_1612 (by decide) ?_
  refine lv_iadd hx hb dL_law_1613 ?_
  refine va_sld hx hb hX hbl hbA hS hi.2.1 dL_law_1614 ?_
  refine lv_aload_n hx hb dL_law_1615 rfl (lv_at hl 3 rfl) ?_
  obtain ⟨r, st2, b9, ms2, e5, e6, I2, hk5, ht5, hv5⟩ := ag_hand I (x1 := (xs (i + 1).toNatClampNeg)) (x2 := (xs (i + 2).toNatClampNeg))
  refine ll_wI B hW hS [.ref (ad 0 0), .int (xs (i + 1).toNatClampNeg), .int (xs (i + 2).toNatClampNeg), .ref o1] (n := 4) (c_L_hand hll e5 hk5) wm_RL_223 wt_yL_hand rfl wc_yL_hand rfl rfl (by decide +kernel) ⟨Nat.le_of_ble_eq_true rfl, Nat.le_of_ble_eq_true rfl⟩ ⟨by omega, by omega⟩ rfl hl.1 (Nat.le_of_ble_eq_true rfl) rfl dL_law_1616 (fun ad2 H locs hae hW hS => ?_)
  refine lv_istore (lv' := [(6, .int (lwc [3, 0, 1] r)), (0, .ref b), (1, .ref (ad 0 0)), (2, .ref (am 0)), (3, .ref o1), (4, .ref o2), (5, .int i)]) hx hb dL_law_1619 hl (by decide) rfl (fun ls hl => ?_)
  refine lv_aload_n hx hb dL_law_1621 rfl (lv_at hl 3 rfl) ?_
  refine lv_aload_n hx hb dL_law_1622 rfl (lv_at hl 1 rfl) ?_
  refine lv_iload hx hb dL_law_1623 (lv_at hl 6 rfl) ?_
  refine lv_iconst (v := 1) hx hb dL_law_1625 (by decide) ?_
  refine lv_iadd hx hb dL_law_1626 ?_
  refine va_sld hx hb hX hbl hbA hS hi.1 dL_law_1627 ?_
  refine lv_aload_n hx hb dL_law_1628 rfl (lv_at hl 1 rfl) ?_
  refine lv_iload hx hb dL_law_1629 (lv_at hl 6 rfl) ?_
  refine lv_iconst (v := 2) hx hb dL_law_1631 (by decide) ?_
  refine lv_iadd hx hb dL_law_1632 ?_
  refine va_sld hx hb hX hbl hbA hS hi.2.1 dL_law_1633 ?_
  refine ll_mV B hW hS [.int (xs (i + 1).toNatClampNeg), .int (xs (i + 2).toNatClampNeg)] (n := 2) (v := .int b9) (c_X6_hand e6) wm_RL_225 wi_yX6_hand ws_yX6_hand wc_yX6_hand rfl rfl (by decide +kernel) ⟨Nat.le_of_ble_eq_true rfl, Nat.le_of_ble_eq_true rfl⟩ ⟨by omega, by omega⟩ rfl hl.1 (Nat.le_of_ble_eq_true rfl) rfl dL_law_1634 (fun H locs hW hS => ?_)
  refine lv_istore (lv' := [(7, .int b9), (6, .int (lwc [3, 0, 1] r)), (0, .ref b), (1, .ref (ad 0 0)), (2, .ref (am 0)), (3, .ref o1), (4, .ref o2), (5, .int i)]) hx hb dL_law_1637 hl (by decide) rfl (fun ls hl => ?_)
  refine lv_aload_n hx hb dL_law_1639 rfl (lv_at hl 4 rfl) ?_
  refine ll_mV B hW hS [] (n := 0) (v := .int (ms2.1 0)) (c_X6_thrown (st := ms2) rfl) wm_RL_144 wi_yX6_thrown ws_yX6_thrown wc_yX6_thrown rfl rfl (by decide +kernel) ⟨Nat.le_of_ble_eq_true rfl, Nat.le_of_ble_eq_true rfl⟩ ⟨by omega, by omega⟩ rfl hl.1 (Nat.le_of_ble_eq_true rfl) rfl dL_law_1640 (fun H locs hW hS => ?_)
  refine lv_iload hx hb dL_law_1643 (lv_at hl 1 rfl) ?_
  refine lv_icmp_eq (tgt := 1650) hx hb dL_law_1645 (by decide) (fun c1 => ?_) (fun c1 => absurd ht5 c1)
  refine lv_iload hx hb dL_law_1650 (lv_at hl 1 rfl) ?_
  refine lv_if_ne (tgt := 1667) hx hb dL_law_1652 (by decide) (fun c2 => ?_) (fun c2 => ?_)
  · skip
    refine lv_goto (tgt := 2507) hx hb dL_law_1667 (by decide) ?_
    exact W.widen (by omega) (by omega) (kk _ _ _ _ _ _ _ _ hae I2 hW hS (lv_sub hl [2, 3, 4, 5, 6, 7] rfl))
  · obtain ⟨x9, rfl⟩ := lwc_0 c2
    obtain rfl := hv5 x9 rfl
    refine lv_aload_n hx hb dL_law_1655 rfl (lv_at hl 5 rfl) ?_
    refine lv_iconst (v := 0) hx hb dL_law_1656 (by decide) ?_
    refine ll_lald B hW dL_law_1657 ?_
    rw [louI_0]
    refine lv_iload hx hb dL_law_1658 (lv_at hl 0 rfl) ?_
    refine lv_i2l hx hb dL_law_1660 rfl ?_
    refine W.lcmp hx hb dL_law_1661 ?_
    refine lv_if_eq (tgt := 1667) hx hb dL_law_1662 (by decide) (fun c3 => ?_) (fun c3 => absurd (lg_cmp_self _) c3)
    refine lv_goto (tgt := 2507) hx hb dL_law_1667 (by decide) ?_
    exact W.widen (by omega) (by omega) (kk _ _ _ _ _ _ _ _ hae I2 hW hS (lv_sub hl [2, 3, 4, 5, 6, 7] rfl))
set_option maxHeartbeats 4000000 in
set_option maxRecDepth 100000 in
theorem k_bring {p : Program} {l : Launch} {e : Env} {s : State} {m : MethodId} {args : Array Value} {below : List Frame} {meth : Method} {c : Code} {H : Heap} {locs : List Loc} {cells slots : Nat} {Q : State → Prop} {ls : Array Slot} {G : GG} {A A1 A2 : Nat → Prop} {am : Nat → Nat} {o1 o2 : Nat} {ad : AD} {st : XS} {ms : MS} {f : Nat → Int64} {g : Nat → UInt64} {rt : Option FieldType} {b L : Nat} {xs : Nat → Int32} {i : Int32} (hll : l.stackTraces = false) (B : LL G A A1 A2 o1 o2 p s m args meth c rt) (hX : va_X b L xs s s.heap) (hbl : b < s.heap.size) (hbA : ¬ A b) (hi : INX i L) (I : INV st ms) (hW : LW G A A1 A2 am o1 o2 s ad st ms f g H) (hS : va_S A s.heap H locs) (hl : lv_has ls 9 [(0, .ref b), (1, .ref (ad 0 0)), (2, .ref (am 0)), (3, .ref o1), (4, .ref o2), (5, .int i)]) (hc : cells + 11 ≤ room_1.cells) (hs : slots + 248 ≤ room_1.slots)
    (kk : KK p l e s m args below meth c Q G A A1 A2 am o1 o2 ad b i cells slots) : W p l e room_1 s m args below meth c H locs cells slots Q (F0 m 1670 ls []) := by
  have ⟨⟨hx, hb, hr, hml, hown, hT, hlocks, hK⟩, hNC, hLR, hA⟩ := B
  refine lv_aload_n hx hb dL_law_1670 rfl (lv_at hl 1 rfl) ?_
  refine lv_aload_n hx hb dL_law_1671 rfl (lv_at hl 0 rfl) ?_
  refine lv_iload hx hb dL_law_1672 (lv_at hl 5 rfl) ?_
  refine lv_iconst (v := 1) hx hb dL_law_1674 (by decide) ?_
  refine lv_iadd hx hb dL_law_1675 ?_
  refine va_sld hx hb hX hbl hbA hS hi.1 dL_law_1676 ?_
  refine lv_aload_n hx hb dL_law_1677 rfl (lv_at hl 0 rfl) ?_
  refine lv_iload hx hb dL_law_1678 (lv_at hl 5 rfl) ?_
  refine lv_iconst (v := 2) hx hb dL_law_1680 (by decide) ?_
  refine lv_iadd hx hb dL_law_1681 ?_
  refine va_sld hx hb hX hbl hbA hS hi.2.1 dL_law_1682 ?_
  refine lv_aload_n hx hb dL_law_1683 rfl (lv_at hl 3 rfl) ?_
  obtain ⟨r, st2, b9, ms2, e5, e6, I2, hk5, ht5, hv5⟩ := ag_bring I (x1 := (xs (i + 1).toNatClampNeg)) (x2 := (xs (i + 2).toNatClampNeg))
  refine ll_wI B hW hS [.ref (ad 0 0), .int (xs (i + 1).toNatClampNeg), .int (xs (i + 2).toNatClampNeg), .ref o1] (n := 4) (c_L_bring hll e5 hk5) wm_RL_226 wt_yL_bring rfl wc_yL_bring rfl rfl (by decide +kernel) ⟨Nat.le_of_ble_eq_true rfl, Nat.le_of_ble_eq_true rfl⟩ ⟨by omega, by omega⟩ rfl hl.1 (Nat.le_of_ble_eq_true rfl) rfl dL_law_1684 (fun ad2 H locs hae hW hS => ?_)
  refine lv_istore (lv' := [(6, .int (lwc [3, 0, 1] r)), (0, .ref b), (1, .ref (ad 0 0)), (2, .ref (am 0)), (3, .ref o1), (4, .ref o2), (5, .int i)]) hx hb dL_law_1687 hl (by decide) rfl (fun ls hl => ?_)
  refine lv_aload_n hx hb dL_law_1689 rfl (lv_at hl 3 rfl) ?_
  refine lv_aload_n hx hb dL_law_1690 rfl (lv_at hl 1 rfl) ?_
  refine lv_iload hx hb dL_law_1691 (lv_at hl 6 rfl) ?_
  refine lv_iconst (v := 1) hx hb dL_law_1693 (by decide) ?_
  refine lv_iadd hx hb dL_law_1694 ?_
  refine va_sld hx hb hX hbl hbA hS hi.1 dL_law_1695 ?_
  refine lv_aload_n hx hb dL_law_1696 rfl (lv_at hl 1 rfl) ?_
  refine lv_iload hx hb dL_law_1697 (lv_at hl 6 rfl) ?_
  refine lv_iconst (v := 2) hx hb dL_law_1699 (by decide) ?_
  refine lv_iadd hx hb dL_law_1700 ?_
  refine va_sld hx hb hX hbl hbA hS hi.2.1 dL_law_1701 ?_
  refine ll_mV B hW hS [.int (xs (i + 1).toNatClampNeg), .int (xs (i + 2).toNatClampNeg)] (n := 2) (v := .int b9) (c_X6_bring e6) wm_RL_228 wi_yX6_bring ws_yX6_bring wc_yX6_bring rfl rfl (by decide +kernel) ⟨Nat.le_of_ble_eq_true rfl, Nat.le_of_ble_eq_true rfl⟩ ⟨by omega, by omega⟩ rfl hl.1 (Nat.le_of_ble_eq_true rfl) rfl dL_law_1702 (fun H locs hW hS => ?_)
  refine lv_istore (lv' := [(7, .int b9), (6, .int (lwc [3, 0, 1] r)), (0, .ref b), (1, .ref (ad 0 0)), (2, .ref (am 0)), (3, .ref o1), (4, .ref o2), (5, .int i)]) hx hb dL_law_1705 hl (by decide) rfl (fun ls hl => ?_)
  refine lv_aload_n hx hb dL_law_1707 rfl (lv_at hl 4 rfl) ?_
  refine ll_mV B hW hS [] (n := 0) (v := .int (ms2.1 0)) (c_X6_thrown (st := ms2) rfl) wm_RL_144 wi_yX6_thrown ws_yX6_thrown wc_yX6_thrown rfl rfl (by decide +kernel) ⟨Nat.le_of_ble_eq_true rfl, Nat.le_of_ble_eq_true rfl⟩ ⟨by omega, by omega⟩ rfl hl.1 (Nat.le_of_ble_eq_true rfl) rfl dL_law_1708 (fun H locs hW hS => ?_)
  refine lv_iload hx hb dL_law_1711 (lv_at hl 1 rfl) ?_
  refine lv_icmp_eq (tgt := 1718) hx hb dL_law_1713 (by decide) (fun c1 => ?_) (fun c1 => absurd ht5 c1)
  refine lv_iload hx hb dL_law_1718 (lv_at hl 1 rfl) ?_
  refine lv_if_ne (tgt := 1742) hx hb dL_law_1720 (by decide) (fun c2 => ?_) (fun c2 => ?_)
  · skip
    refine lv_goto (tgt := 2507) hx hb dL_law_1742 (by decide) ?_
    exact W.widen (by omega) (by omega) (kk _ _ _ _ _ _ _ _ hae I2 hW hS (lv_sub hl [2, 3, 4, 5, 6, 7] rfl))
  · obtain ⟨x9, rfl⟩ := lwc_0 c2
    obtain rfl := hv5 x9 rfl
    refine lv_aload_n hx hb dL_law_1723 rfl (lv_at hl 5 rfl) ?_
    refine lv_iconst (v := 0) hx hb dL_law_1724 (by decide) ?_
    refine ll_lald B hW dL_law_1725 ?_
    rw [louZ_00]
    refine lv_iload hx hb dL_law_1726 (lv_at hl 0 rfl) ?_
    refine lv_if_eq (tgt := 1735) hx hb dL_law_1728 (by decide) (fun c4 => ?_) (fun c4 => ?_)
    · rw [if_pos c4]
      refine lv_lconst (v := 0) hx hb dL_law_1735 (by decide) ?_
      refine W.lcmp hx hb dL_law_1736 ?_
      refine lv_if_eq (tgt := 1742) hx hb dL_law_1737 (by decide) (fun c3 => ?_) (fun c3 => absurd (lg_cmp_self _) c3)
      refine lv_goto (tgt := 2507) hx hb dL_law_1742 (by decide) ?_
      exact W.widen (by omega) (by omega) (kk _ _ _ _ _ _ _ _ hae I2 hW hS (lv_sub hl [2, 3, 4, 5, 6, 7] rfl))
    · rw [if_neg c4]
      refine lv_lconst (v := 1) hx hb dL_law_1731 (by decide) ?_
      refine lv_goto (tgt := 1736) hx hb dL_law_1732 (by decide) ?_
      refine W.lcmp hx hb dL_law_1736 ?_
      refine lv_if_eq (tgt := 1742) hx hb dL_law_1737 (by decide) (fun c3 => ?_) (fun c3 => absurd (lg_cmp_self _) c3)
      refine lv_goto (tgt := 2507) hx hb dL_law_1742 (by decide) ?_
      exact W.widen (by omega) (by omega) (kk _ _ _ _ _ _ _ _ hae I2 hW hS (lv_sub hl [2, 3, 4, 5, 6, 7] rfl))
set_option maxHeartbeats 4000000 in
set_option maxRecDepth 100000 in
theorem k_with {p : Program} {l : Launch} {e : Env} {s : State} {m : MethodId} {args : Array Value} {below : List Frame} {meth : Method} {c : Code} {H : Heap} {locs : List Loc} {cells slots : Nat} {Q : State → Prop} {ls : Array Slot} {G : GG} {A A1 A2 : Nat → Prop} {am : Nat → Nat} {o1 o2 : Nat} {ad : AD} {st : XS} {ms : MS} {f : Nat → Int64} {g : Nat → UInt64} {rt : Option FieldType} {b L : Nat} {xs : Nat → Int32} {i : Int32} (hll : l.stackTraces = false) (B : LL G A A1 A2 o1 o2 p s m args meth c rt) (hX : va_X b L xs s s.heap) (hbl : b < s.heap.size) (hbA : ¬ A b) (hi : INX i L) (I : INV st ms) (hW : LW G A A1 A2 am o1 o2 s ad st ms f g H) (hS : va_S A s.heap H locs) (hl : lv_has ls 9 [(0, .ref b), (1, .ref (ad 0 0)), (2, .ref (am 0)), (3, .ref o1), (4, .ref o2), (5, .int i)]) (hc : cells + 11 ≤ room_1.cells) (hs : slots + 248 ≤ room_1.slots)
    (kk : KK p l e s m args below meth c Q G A A1 A2 am o1 o2 ad b i cells slots) : W p l e room_1 s m args below meth c H locs cells slots Q (F0 m 1745 ls []) := by
  have ⟨⟨hx, hb, hr, hml, hown, hT, hlocks, hK⟩, hNC, hLR, hA⟩ := B
  refine lv_aload_n hx hb dL_law_1745 rfl (lv_at hl 1 rfl) ?_
  refine lv_aload_n hx hb dL_law_1746 rfl (lv_at hl 0 rfl) ?_
  refine lv_iload hx hb dL_law_1747 (lv_at hl 5 rfl) ?_
  refine lv_iconst (v := 1) hx hb dL_law_1749 (by decide) ?_
  refine lv_iadd hx hb dL_law_1750 ?_
  refine va_sld hx hb hX hbl hbA hS hi.1 dL_law_1751 ?_
  refine lv_aload_n hx hb dL_law_1752 rfl (lv_at hl 3 rfl) ?_
  obtain ⟨r, st2, b9, ms2, e5, e6, I2, hk5, ht5, hv5⟩ := ag_with I (x1 := (xs (i + 1).toNatClampNeg))
  refine ll_wI B hW hS [.ref (ad 0 0), .int (xs (i + 1).toNatClampNeg), .ref o1] (n := 3) (c_L_with hll e5 hk5) wm_RL_229 wt_yL_with rfl wc_yL_with rfl rfl (by decide +kernel) ⟨Nat.le_of_ble_eq_true rfl, Nat.le_of_ble_eq_true rfl⟩ ⟨by omega, by omega⟩ rfl hl.1 (Nat.le_of_ble_eq_true rfl) rfl dL_law_1753 (fun ad2 H locs hae hW hS => ?_)
  refine lv_istore (lv' := [(6, .int (lwc [3, 4] r)), (0, .ref b), (1, .ref (ad 0 0)), (2, .ref (am 0)), (3, .ref o1), (4, .ref o2), (5, .int i)]) hx hb dL_law_1756 hl (by decide) rfl (fun ls hl => ?_)
  refine lv_aload_n hx hb dL_law_1758 rfl (lv_at hl 3 rfl) ?_
  refine lv_aload_n hx hb dL_law_1759 rfl (lv_at hl 1 rfl) ?_
  refine lv_iload hx hb dL_law_1760 (lv_at hl 6 rfl) ?_
  refine lv_iconst (v := 1) hx hb dL_law_1762 (by decide) ?_
  refine lv_iadd hx hb dL_law_1763 ?_
  refine va_sld hx hb hX hbl hbA hS hi.1 dL_law_1764 ?_
  refine ll_mV B hW hS [.int (xs (i + 1).toNatClampNeg)] (n := 1) (v := .int b9) (c_X6_with e6) wm_RL_231 wi_yX6_with ws_yX6_with wc_yX6_with rfl rfl (by decide +kernel) ⟨Nat.le_of_ble_eq_true rfl, Nat.le_of_ble_eq_true rfl⟩ ⟨by omega, by omega⟩ rfl hl.1 (Nat.le_of_ble_eq_true rfl) rfl dL_law_1765 (fun H locs hW hS => ?_)
  refine lv_istore (lv' := [(7, .int b9), (6, .int (lwc [3, 4] r)), (0, .ref b), (1, .ref (ad 0 0)), (2, .ref (am 0)), (3, .ref o1), (4, .ref o2), (5, .int i)]) hx hb dL_law_1768 hl (by decide) rfl (fun ls hl => ?_)
  refine lv_aload_n hx hb dL_law_1770 rfl (lv_at hl 4 rfl) ?_
  refine ll_mV B hW hS [] (n := 0) (v := .int (ms2.1 0)) (c_X6_thrown (st := ms2) rfl) wm_RL_144 wi_yX6_thrown ws_yX6_thrown wc_yX6_thrown rfl rfl (by decide +kernel) ⟨Nat.le_of_ble_eq_true rfl, Nat.le_of_ble_eq_true rfl⟩ ⟨by omega, by omega⟩ rfl hl.1 (Nat.le_of_ble_eq_true rfl) rfl dL_law_1771 (fun H locs hW hS => ?_)
  refine lv_iload hx hb dL_law_1774 (lv_at hl 1 rfl) ?_
  refine lv_icmp_eq (tgt := 1781) hx hb dL_law_1776 (by decide) (fun c1 => ?_) (fun c1 => absurd ht5 c1)
  refine lv_iload hx hb dL_law_1781 (lv_at hl 1 rfl) ?_
  refine lv_if_ne (tgt := 1798) hx hb dL_law_1783 (by decide) (fun c2 => ?_) (fun c2 => ?_)
  · skip
    refine lv_goto (tgt := 2507) hx hb dL_law_1798 (by decide) ?_
    exact W.widen (by omega) (by omega) (kk _ _ _ _ _ _ _ _ hae I2 hW hS (lv_sub hl [2, 3, 4, 5, 6, 7] rfl))
  · obtain ⟨x9, rfl⟩ := lwc_0 c2
    obtain rfl := hv5 x9 rfl
    refine lv_aload_n hx hb dL_law_1786 rfl (lv_at hl 5 rfl) ?_
    refine lv_iconst (v := 0) hx hb dL_law_1787 (by decide) ?_
    refine ll_lald B hW dL_law_1788 ?_
    rw [louI_0]
    refine lv_iload hx hb dL_law_1789 (lv_at hl 0 rfl) ?_
    refine lv_i2l hx hb dL_law_1791 rfl ?_
    refine W.lcmp hx hb dL_law_1792 ?_
    refine lv_if_eq (tgt := 1798) hx hb dL_law_1793 (by decide) (fun c3 => ?_) (fun c3 => absurd (lg_cmp_self _) c3)
    refine lv_goto (tgt := 2507) hx hb dL_law_1798 (by decide) ?_
    exact W.widen (by omega) (by omega) (kk _ _ _ _ _ _ _ _ hae I2 hW hS (lv_sub hl [2, 3, 4, 5, 6, 7] rfl))
set_option maxHeartbeats 4000000 in
set_option maxRecDepth 100000 in
theorem k_conflicts {p : Program} {l : Launch} {e : Env} {s : State} {m : MethodId} {args : Array Value} {below : List Frame} {meth : Method} {c : Code} {H : Heap} {locs : List Loc} {cells slots : Nat} {Q : State → Prop} {ls : Array Slot} {G : GG} {A A1 A2 : Nat → Prop} {am : Nat → Nat} {o1 o2 : Nat} {ad : AD} {st : XS} {ms : MS} {f : Nat → Int64} {g : Nat → UInt64} {rt : Option FieldType} {b L : Nat} {xs : Nat → Int32} {i : Int32} (hll : l.stackTraces = false) (B : LL G A A1 A2 o1 o2 p s m args meth c rt) (hX : va_X b L xs s s.heap) (hbl : b < s.heap.size) (hbA : ¬ A b) (hi : INX i L) (I : INV st ms) (hW : LW G A A1 A2 am o1 o2 s ad st ms f g H) (hS : va_S A s.heap H locs) (hl : lv_has ls 9 [(0, .ref b), (1, .ref (ad 0 0)), (2, .ref (am 0)), (3, .ref o1), (4, .ref o2), (5, .int i)]) (hc : cells + 11 ≤ room_1.cells) (hs : slots + 248 ≤ room_1.slots)
    (kk : KK p l e s m args below meth c Q G A A1 A2 am o1 o2 ad b i cells slots) : W p l e room_1 s m args below meth c H locs cells slots Q (F0 m 1801 ls []) := by
  have ⟨⟨hx, hb, hr, hml, hown, hT, hlocks, hK⟩, hNC, hLR, hA⟩ := B
  refine lv_aload_n hx hb dL_law_1801 rfl (lv_at hl 1 rfl) ?_
  obtain ⟨r, st2, ms2, e5, e6, I2⟩ := ag_conflicts I
  refine ll_xV B hW hS [] (n := 0) (v := .int r) (c_X5_conflicts hll e5) wm_RL_232 wi_yX5_conflicts ws_yX5_conflicts wc_yX5_conflicts rfl rfl (by decide +kernel) ⟨Nat.le_of_ble_eq_true rfl, Nat.le_of_ble_eq_true rfl⟩ ⟨by omega, by omega⟩ rfl hl.1 (Nat.le_of_ble_eq_true rfl) rfl dL_law_1802 (fun H locs hW hS => ?_)
  refine lv_aload_n hx hb dL_law_1805 rfl (lv_at hl 2 rfl) ?_
  refine ll_mV B hW hS [] (n := 0) (v := .int r) (c_X6_conflicts e6) wm_RL_235 wi_yX6_conflicts ws_yX6_conflicts wc_yX6_conflicts rfl rfl (by decide +kernel) ⟨Nat.le_of_ble_eq_true rfl, Nat.le_of_ble_eq_true rfl⟩ ⟨by omega, by omega⟩ rfl hl.1 (Nat.le_of_ble_eq_true rfl) rfl dL_law_1806 (fun H locs hW hS => ?_)
  refine lv_icmp_eq (tgt := 2507) hx hb dL_law_1809 (by decide) (fun c1 => ?_) (fun c1 => absurd rfl c1)
  exact W.widen (by omega) (by omega) (kk _ _ _ _ _ _ _ _ AE.rf I2 hW hS (lv_sub hl [0, 1, 2, 3, 4, 5] rfl))
set_option maxHeartbeats 4000000 in
set_option maxRecDepth 100000 in
theorem k_note {p : Program} {l : Launch} {e : Env} {s : State} {m : MethodId} {args : Array Value} {below : List Frame} {meth : Method} {c : Code} {H : Heap} {locs : List Loc} {cells slots : Nat} {Q : State → Prop} {ls : Array Slot} {G : GG} {A A1 A2 : Nat → Prop} {am : Nat → Nat} {o1 o2 : Nat} {ad : AD} {st : XS} {ms : MS} {f : Nat → Int64} {g : Nat → UInt64} {rt : Option FieldType} {b L : Nat} {xs : Nat → Int32} {i : Int32} (hll : l.stackTraces = false) (B : LL G A A1 A2 o1 o2 p s m args meth c rt) (hX : va_X b L xs s s.heap) (hbl : b < s.heap.size) (hbA : ¬ A b) (hi : INX i L) (I : INV st ms) (hW : LW G A A1 A2 am o1 o2 s ad st ms f g H) (hS : va_S A s.heap H locs) (hl : lv_has ls 9 [(0, .ref b), (1, .ref (ad 0 0)), (2, .ref (am 0)), (3, .ref o1), (4, .ref o2), (5, .int i)]) (hc : cells + 11 ≤ room_1.cells) (hs : slots + 248 ≤ room_1.slots)
    (kk : KK p l e s m args below meth c Q G A A1 A2 am o1 o2 ad b i cells slots) : W p l e room_1 s m args below meth c H locs cells slots Q (F0 m 1814 ls []) := by
  have ⟨⟨hx, hb, hr, hml, hown, hT, hlocks, hK⟩, hNC, hLR, hA⟩ := B
  refine lv_aload_n hx hb dL_law_1814 rfl (lv_at hl 1 rfl) ?_
  refine lv_aload_n hx hb dL_law_1815 rfl (lv_at hl 0 rfl) ?_
  refine lv_iload hx hb dL_law_1816 (lv_at hl 5 rfl) ?_
  refine lv_iconst (v := 1) hx hb dL_law_1818 (by decide) ?_
  refine lv_iadd hx hb dL_law_1819 ?_
  refine va_sld hx hb hX hbl hbA hS hi.1 dL_law_1820 ?_
  refine lv_aload_n hx hb dL_law_1821 rfl (lv_at hl 3 rfl) ?_
  obtain ⟨r, st2, b9, ms2, e5, e6, I2, hk5, ht5, hv5⟩ := ag_note I (x1 := (xs (i + 1).toNatClampNeg))
  refine ll_wI B hW hS [.ref (ad 0 0), .int (xs (i + 1).toNatClampNeg), .ref o1] (n := 3) (c_L_note hll e5 hk5) wm_RL_236 wt_yL_note rfl wc_yL_note rfl rfl (by decide +kernel) ⟨Nat.le_of_ble_eq_true rfl, Nat.le_of_ble_eq_true rfl⟩ ⟨by omega, by omega⟩ rfl hl.1 (Nat.le_of_ble_eq_true rfl) rfl dL_law_1822 (fun ad2 H locs hae hW hS => ?_)
  refine lv_istore (lv' := [(6, .int (lwc [3, 1, 2] r)), (0, .ref b), (1, .ref (ad 0 0)), (2, .ref (am 0)), (3, .ref o1), (4, .ref o2), (5, .int i)]) hx hb dL_law_1825 hl (by decide) rfl (fun ls hl => ?_)
  refine lv_aload_n hx hb dL_law_1827 rfl (lv_at hl 3 rfl) ?_
  refine lv_aload_n hx hb dL_law_1828 rfl (lv_at hl 1 rfl) ?_
  refine lv_iload hx hb dL_law_1829 (lv_at hl 6 rfl) ?_
  refine lv_iconst (v := 1) hx hb dL_law_1831 (by decide) ?_
  refine lv_iadd hx hb dL_law_1832 ?_
  refine va_sld hx hb hX hbl hbA hS hi.1 dL_law_1833 ?_
  refine ll_mV B hW hS [.int (xs (i + 1).toNatClampNeg)] (n := 1) (v := .int b9) (c_X6_note e6) wm_RL_238 wi_yX6_note ws_yX6_note wc_yX6_note rfl rfl (by decide +kernel) ⟨Nat.le_of_ble_eq_true rfl, Nat.le_of_ble_eq_true rfl⟩ ⟨by omega, by omega⟩ rfl hl.1 (Nat.le_of_ble_eq_true rfl) rfl dL_law_1834 (fun H locs hW hS => ?_)
  refine lv_istore (lv' := [(7, .int b9), (6, .int (lwc [3, 1, 2] r)), (0, .ref b), (1, .ref (ad 0 0)), (2, .ref (am 0)), (3, .ref o1), (4, .ref o2), (5, .int i)]) hx hb dL_law_1837 hl (by decide) rfl (fun ls hl => ?_)
  refine lv_aload_n hx hb dL_law_1839 rfl (lv_at hl 4 rfl) ?_
  refine ll_mV B hW hS [] (n := 0) (v := .int (ms2.1 0)) (c_X6_thrown (st := ms2) rfl) wm_RL_144 wi_yX6_thrown ws_yX6_thrown wc_yX6_thrown rfl rfl (by decide +kernel) ⟨Nat.le_of_ble_eq_true rfl, Nat.le_of_ble_eq_true rfl⟩ ⟨by omega, by omega⟩ rfl hl.1 (Nat.le_of_ble_eq_true rfl) rfl dL_law_1840 (fun H locs hW hS => ?_)
  refine lv_iload hx hb dL_law_1843 (lv_at hl 1 rfl) ?_
  refine lv_icmp_eq (tgt := 1850) hx hb dL_law_1845 (by decide) (fun c1 => ?_) (fun c1 => absurd ht5 c1)
  refine lv_iload hx hb dL_law_1850 (lv_at hl 1 rfl) ?_
  refine lv_if_ne (tgt := 1867) hx hb dL_law_1852 (by decide) (fun c2 => ?_) (fun c2 => ?_)
  · skip
    refine lv_goto (tgt := 2507) hx hb dL_law_1867 (by decide) ?_
    exact W.widen (by omega) (by omega) (kk _ _ _ _ _ _ _ _ hae I2 hW hS (lv_sub hl [2, 3, 4, 5, 6, 7] rfl))
  · obtain ⟨x9, rfl⟩ := lwc_0 c2
    obtain rfl := hv5 x9 rfl
    refine lv_aload_n hx hb dL_law_1855 rfl (lv_at hl 5 rfl) ?_
    refine lv_iconst (v := 0) hx hb dL_law_1856 (by decide) ?_
    refine ll_lald B hW dL_law_1857 ?_
    rw [louI_0]
    refine lv_iload hx hb dL_law_1858 (lv_at hl 0 rfl) ?_
    refine lv_i2l hx hb dL_law_1860 rfl ?_
    refine W.lcmp hx hb dL_law_1861 ?_
    refine lv_if_eq (tgt := 1867) hx hb dL_law_1862 (by decide) (fun c3 => ?_) (fun c3 => absurd (lg_cmp_self _) c3)
    refine lv_goto (tgt := 2507) hx hb dL_law_1867 (by decide) ?_
    exact W.widen (by omega) (by omega) (kk _ _ _ _ _ _ _ _ hae I2 hW hS (lv_sub hl [2, 3, 4, 5, 6, 7] rfl))
set_option maxHeartbeats 4000000 in
set_option maxRecDepth 100000 in
theorem k_noteIs {p : Program} {l : Launch} {e : Env} {s : State} {m : MethodId} {args : Array Value} {below : List Frame} {meth : Method} {c : Code} {H : Heap} {locs : List Loc} {cells slots : Nat} {Q : State → Prop} {ls : Array Slot} {G : GG} {A A1 A2 : Nat → Prop} {am : Nat → Nat} {o1 o2 : Nat} {ad : AD} {st : XS} {ms : MS} {f : Nat → Int64} {g : Nat → UInt64} {rt : Option FieldType} {b L : Nat} {xs : Nat → Int32} {i : Int32} (hll : l.stackTraces = false) (B : LL G A A1 A2 o1 o2 p s m args meth c rt) (hX : va_X b L xs s s.heap) (hbl : b < s.heap.size) (hbA : ¬ A b) (hi : INX i L) (I : INV st ms) (hW : LW G A A1 A2 am o1 o2 s ad st ms f g H) (hS : va_S A s.heap H locs) (hl : lv_has ls 9 [(0, .ref b), (1, .ref (ad 0 0)), (2, .ref (am 0)), (3, .ref o1), (4, .ref o2), (5, .int i)]) (hc : cells + 11 ≤ room_1.cells) (hs : slots + 248 ≤ room_1.slots)
    (kk : KK p l e s m args below meth c Q G A A1 A2 am o1 o2 ad b i cells slots) : W p l e room_1 s m args below meth c H locs cells slots Q (F0 m 1870 ls []) := by
  have ⟨⟨hx, hb, hr, hml, hown, hT, hlocks, hK⟩, hNC, hLR, hA⟩ := B
  refine lv_aload_n hx hb dL_law_1870 rfl (lv_at hl 1 rfl) ?_
  refine lv_aload_n hx hb dL_law_1871 rfl (lv_at hl 0 rfl) ?_
  refine lv_iload hx hb dL_law_1872 (lv_at hl 5 rfl) ?_
  refine lv_iconst (v := 1) hx hb dL_law_1874 (by decide) ?_
  refine lv_iadd hx hb dL_law_1875 ?_
  refine va_sld hx hb hX hbl hbA hS hi.1 dL_law_1876 ?_
  refine lv_aload_n hx hb dL_law_1877 rfl (lv_at hl 3 rfl) ?_
  obtain ⟨r, st2, b9, ms2, e5, e6, I2, hk5, ht5, hv5⟩ := ag_noteIs I (x1 := (xs (i + 1).toNatClampNeg))
  refine ll_wI B hW hS [.ref (ad 0 0), .int (xs (i + 1).toNatClampNeg), .ref o1] (n := 3) (c_L_noteIs hll e5 hk5) wm_RL_239 wt_yL_noteIs rfl wc_yL_noteIs rfl rfl (by decide +kernel) ⟨Nat.le_of_ble_eq_true rfl, Nat.le_of_ble_eq_true rfl⟩ ⟨by omega, by omega⟩ rfl hl.1 (Nat.le_of_ble_eq_true rfl) rfl dL_law_1878 (fun ad2 H locs hae hW hS => ?_)
  refine lv_istore (lv' := [(6, .int (lwc [3] r)), (0, .ref b), (1, .ref (ad 0 0)), (2, .ref (am 0)), (3, .ref o1), (4, .ref o2), (5, .int i)]) hx hb dL_law_1881 hl (by decide) rfl (fun ls hl => ?_)
  refine lv_aload_n hx hb dL_law_1883 rfl (lv_at hl 3 rfl) ?_
  refine lv_aload_n hx hb dL_law_1884 rfl (lv_at hl 1 rfl) ?_
  refine lv_iload hx hb dL_law_1885 (lv_at hl 6 rfl) ?_
  refine lv_iconst (v := 1) hx hb dL_law_1887 (by decide) ?_
  refine lv_iadd hx hb dL_law_1888 ?_
  refine va_sld hx hb hX hbl hbA hS hi.1 dL_law_1889 ?_
  refine ll_mV B hW hS [.int (xs (i + 1).toNatClampNeg)] (n := 1) (v := .int b9) (c_X6_noteIs e6) wm_RL_241 wi_yX6_noteIs ws_yX6_noteIs wc_yX6_noteIs rfl rfl (by decide +kernel) ⟨Nat.le_of_ble_eq_true rfl, Nat.le_of_ble_eq_true rfl⟩ ⟨by omega, by omega⟩ rfl hl.1 (Nat.le_of_ble_eq_true rfl) rfl dL_law_1890 (fun H locs hW hS => ?_)
  refine lv_istore (lv' := [(7, .int b9), (6, .int (lwc [3] r)), (0, .ref b), (1, .ref (ad 0 0)), (2, .ref (am 0)), (3, .ref o1), (4, .ref o2), (5, .int i)]) hx hb dL_law_1893 hl (by decide) rfl (fun ls hl => ?_)
  refine lv_aload_n hx hb dL_law_1895 rfl (lv_at hl 4 rfl) ?_
  refine ll_mV B hW hS [] (n := 0) (v := .int (ms2.1 0)) (c_X6_thrown (st := ms2) rfl) wm_RL_144 wi_yX6_thrown ws_yX6_thrown wc_yX6_thrown rfl rfl (by decide +kernel) ⟨Nat.le_of_ble_eq_true rfl, Nat.le_of_ble_eq_true rfl⟩ ⟨by omega, by omega⟩ rfl hl.1 (Nat.le_of_ble_eq_true rfl) rfl dL_law_1896 (fun H locs hW hS => ?_)
  refine lv_iload hx hb dL_law_1899 (lv_at hl 1 rfl) ?_
  refine lv_icmp_eq (tgt := 1906) hx hb dL_law_1901 (by decide) (fun c1 => ?_) (fun c1 => absurd ht5 c1)
  refine lv_iload hx hb dL_law_1906 (lv_at hl 1 rfl) ?_
  refine lv_if_ne (tgt := 1923) hx hb dL_law_1908 (by decide) (fun c2 => ?_) (fun c2 => ?_)
  · skip
    refine lv_goto (tgt := 2507) hx hb dL_law_1923 (by decide) ?_
    exact W.widen (by omega) (by omega) (kk _ _ _ _ _ _ _ _ hae I2 hW hS (lv_sub hl [2, 3, 4, 5, 6, 7] rfl))
  · obtain ⟨x9, rfl⟩ := lwc_0 c2
    obtain rfl := hv5 x9 rfl
    refine lv_aload_n hx hb dL_law_1911 rfl (lv_at hl 5 rfl) ?_
    refine lv_iconst (v := 0) hx hb dL_law_1912 (by decide) ?_
    refine ll_lald B hW dL_law_1913 ?_
    rw [louI_0]
    refine lv_iload hx hb dL_law_1914 (lv_at hl 0 rfl) ?_
    refine lv_i2l hx hb dL_law_1916 rfl ?_
    refine W.lcmp hx hb dL_law_1917 ?_
    refine lv_if_eq (tgt := 1923) hx hb dL_law_1918 (by decide) (fun c3 => ?_) (fun c3 => absurd (lg_cmp_self _) c3)
    refine lv_goto (tgt := 2507) hx hb dL_law_1923 (by decide) ?_
    exact W.widen (by omega) (by omega) (kk _ _ _ _ _ _ _ _ hae I2 hW hS (lv_sub hl [2, 3, 4, 5, 6, 7] rfl))
set_option maxHeartbeats 4000000 in
set_option maxRecDepth 100000 in
theorem k_close {p : Program} {l : Launch} {e : Env} {s : State} {m : MethodId} {args : Array Value} {below : List Frame} {meth : Method} {c : Code} {H : Heap} {locs : List Loc} {cells slots : Nat} {Q : State → Prop} {ls : Array Slot} {G : GG} {A A1 A2 : Nat → Prop} {am : Nat → Nat} {o1 o2 : Nat} {ad : AD} {st : XS} {ms : MS} {f : Nat → Int64} {g : Nat → UInt64} {rt : Option FieldType} {b L : Nat} {xs : Nat → Int32} {i : Int32} (hll : l.stackTraces = false) (B : LL G A A1 A2 o1 o2 p s m args meth c rt) (hX : va_X b L xs s s.heap) (hbl : b < s.heap.size) (hbA : ¬ A b) (hi : INX i L) (I : INV st ms) (hW : LW G A A1 A2 am o1 o2 s ad st ms f g H) (hS : va_S A s.heap H locs) (hl : lv_has ls 9 [(0, .ref b), (1, .ref (ad 0 0)), (2, .ref (am 0)), (3, .ref o1), (4, .ref o2), (5, .int i)]) (hc : cells + 11 ≤ room_1.cells) (hs : slots + 248 ≤ room_1.slots)
    (kk : KK p l e s m args below meth c Q G A A1 A2 am o1 o2 ad b i cells slots) : W p l e room_1 s m args below meth c H locs cells slots Q (F0 m 1926 ls []) := by
  have ⟨⟨hx, hb, hr, hml, hown, hT, hlocks, hK⟩, hNC, hLR, hA⟩ := B
  refine lv_aload_n hx hb dL_law_1926 rfl (lv_at hl 1 rfl) ?_
  refine lv_aload_n hx hb dL_law_1927 rfl (lv_at hl 0 rfl) ?_
  refine lv_iload hx hb dL_law_1928 (lv_at hl 5 rfl) ?_
  refine lv_iconst (v := 1) hx hb dL_law_1930 (by decide) ?_
  refine lv_iadd hx hb dL_law_1931 ?_
  refine va_sld hx hb hX hbl hbA hS hi.1 dL_law_1932 ?_
  refine lv_aload_n hx hb dL_law_1933 rfl (lv_at hl 0 rfl) ?_
  refine lv_iload hx hb dL_law_1934 (lv_at hl 5 rfl) ?_
  refine lv_iconst (v := 2) hx hb dL_law_1936 (by decide) ?_
  refine lv_iadd hx hb dL_law_1937 ?_
  refine va_sld hx hb hX hbl hbA hS hi.2.1 dL_law_1938 ?_
  refine lv_if_eq (tgt := 1946) hx hb dL_law_1939 (by decide) (fun c5 => ?_) (fun c5 => ?_)
  · have hz9 := c5
    refine lv_iconst (v := 0) hx hb dL_law_1946 (by decide) ?_
    refine lv_aload_n hx hb dL_law_1947 rfl (lv_at hl 3 rfl) ?_
    obtain ⟨r, st2, b9, ms2, e5, e6, I2, hk5, ht5, hv5⟩ := ag_close I (x1 := (xs (i + 1).toNatClampNeg)) (x2 := 0) (Or.inl rfl)
    refine ll_wI B hW hS [.ref (ad 0 0), .int (xs (i + 1).toNatClampNeg), .int 0, .ref o1] (n := 4) (c_L_close hll e5 hk5) wm_RL_242 wt_yL_close rfl wc_yL_close rfl rfl (by decide +kernel) ⟨Nat.le_of_ble_eq_true rfl, Nat.le_of_ble_eq_true rfl⟩ ⟨by omega, by omega⟩ rfl hl.1 (Nat.le_of_ble_eq_true rfl) rfl dL_law_1948 (fun ad2 H locs hae hW hS => ?_)
    refine lv_istore (lv' := [(6, .int (lwc [3, 1] r)), (0, .ref b), (1, .ref (ad 0 0)), (2, .ref (am 0)), (3, .ref o1), (4, .ref o2), (5, .int i)]) hx hb dL_law_1951 hl (by decide) rfl (fun ls hl => ?_)
    refine lv_aload_n hx hb dL_law_1953 rfl (lv_at hl 3 rfl) ?_
    refine lv_aload_n hx hb dL_law_1954 rfl (lv_at hl 1 rfl) ?_
    refine lv_iload hx hb dL_law_1955 (lv_at hl 6 rfl) ?_
    refine lv_iconst (v := 1) hx hb dL_law_1957 (by decide) ?_
    refine lv_iadd hx hb dL_law_1958 ?_
    refine va_sld hx hb hX hbl hbA hS hi.1 dL_law_1959 ?_
    refine lv_aload_n hx hb dL_law_1960 rfl (lv_at hl 1 rfl) ?_
    refine lv_iload hx hb dL_law_1961 (lv_at hl 6 rfl) ?_
    refine lv_iconst (v := 2) hx hb dL_law_1963 (by decide) ?_
    refine lv_iadd hx hb dL_law_1964 ?_
    refine va_sld hx hb hX hbl hbA hS hi.2.1 dL_law_1965 ?_
    refine lv_if_eq (tgt := 1973) hx hb dL_law_1966 (by decide) (fun c5 => ?_) (fun c5 => absurd hz9 c5)
    refine lv_iconst (v := 0) hx hb dL_law_1973 (by decide) ?_
    refine ll_mV B hW hS [.int (xs (i + 1).toNatClampNeg), .int 0] (n := 2) (v := .int b9) (c_X6_close e6) wm_RL_245 wi_yX6_close ws_yX6_close wc_yX6_close rfl rfl (by decide +kernel) ⟨Nat.le_of_ble_eq_true rfl, Nat.le_of_ble_eq_true rfl⟩ ⟨by omega, by omega⟩ rfl hl.1 (Nat.le_of_ble_eq_true rfl) rfl dL_law_1974 (fun H locs hW hS => ?_)
    refine lv_istore (lv' := [(7, .int b9), (6, .int (lwc [3, 1] r)), (0, .ref b), (1, .ref (ad 0 0)), (2, .ref (am 0)), (3, .ref o1), (4, .ref o2), (5, .int i)]) hx hb dL_law_1977 hl (by decide) rfl (fun ls hl => ?_)
    refine lv_aload_n hx hb dL_law_1979 rfl (lv_at hl 4 rfl) ?_
    refine ll_mV B hW hS [] (n := 0) (v := .int (ms2.1 0)) (c_X6_thrown (st := ms2) rfl) wm_RL_144 wi_yX6_thrown ws_yX6_thrown wc_yX6_thrown rfl rfl (by decide +kernel) ⟨Nat.le_of_ble_eq_true rfl, Nat.le_of_ble_eq_true rfl⟩ ⟨by omega, by omega⟩ rfl hl.1 (Nat.le_of_ble_eq_true rfl) rfl dL_law_1980 (fun H locs hW hS => ?_)
    refine lv_iload hx hb dL_law_1983 (lv_at hl 1 rfl) ?_
    refine lv_icmp_eq (tgt := 1990) hx hb dL_law_1985 (by decide) (fun c1 => ?_) (fun c1 => absurd ht5 c1)
    refine lv_iload hx hb dL_law_1990 (lv_at hl 1 rfl) ?_
    refine lv_if_ne (tgt := 2014) hx hb dL_law_1992 (by decide) (fun c2 => ?_) (fun c2 => ?_)
    · skip
      refine lv_goto (tgt := 2507) hx hb dL_law_2014 (by decide) ?_
      exact W.widen (by omega) (by omega) (kk _ _ _ _ _ _ _ _ hae I2 hW hS (lv_sub hl [2, 3, 4, 5, 6, 7] rfl))
    · obtain ⟨x9, rfl⟩ := lwc_0 c2
      obtain rfl := hv5 x9 rfl
      refine lv_aload_n hx hb dL_law_1995 rfl (lv_at hl 5 rfl) ?_
      refine lv_iconst (v := 0) hx hb dL_law_1996 (by decide) ?_
      refine ll_lald B hW dL_law_1997 ?_
      rw [louZ_00]
      refine lv_iload hx hb dL_law_1998 (lv_at hl 0 rfl) ?_
      refine lv_if_eq (tgt := 2007) hx hb dL_law_2000 (by decide) (fun c4 => ?_) (fun c4 => ?_)
      · rw [if_pos c4]
        refine lv_lconst (v := 0) hx hb dL_law_2007 (by decide) ?_
        refine W.lcmp hx hb dL_law_2008 ?_
        refine lv_if_eq (tgt := 2014) hx hb dL_law_2009 (by decide) (fun c3 => ?_) (fun c3 => absurd (lg_cmp_self _) c3)
        refine lv_goto (tgt := 2507) hx hb dL_law_2014 (by decide) ?_
        exact W.widen (by omega) (by omega) (kk _ _ _ _ _ _ _ _ hae I2 hW hS (lv_sub hl [2, 3, 4, 5, 6, 7] rfl))
      · rw [if_neg c4]
        refine lv_lconst (v := 1) hx hb dL_law_2003 (by decide) ?_
        refine lv_goto (tgt := 2008) hx hb dL_law_2004 (by decide) ?_
        refine W.lcmp hx hb dL_law_2008 ?_
        refine lv_if_eq (tgt := 2014) hx hb dL_law_2009 (by decide) (fun c3 => ?_) (fun c3 => absurd (lg_cmp_self _) c3)
        refine lv_goto (tgt := 2507) hx hb dL_law_2014 (by decide) ?_
        exact W.widen (by omega) (by omega) (kk _ _ _ _ _ _ _ _ hae I2 hW hS (lv_sub hl [2, 3, 4, 5, 6, 7] rfl))
  · have hz9 := c5
    refine lv_iconst (v := 1) hx hb dL_law_1942 (by decide) ?_
    refine lv_goto (tgt := 1947) hx hb dL_law_1943 (by decide) ?_
    refine lv_aload_n hx hb dL_law_1947 rfl (lv_at hl 3 rfl) ?_
    obtain ⟨r, st2, b9, ms2, e5, e6, I2, hk5, ht5, hv5⟩ := ag_close I (x1 := (xs (i + 1).toNatClampNeg)) (x2 := 1) (Or.inr rfl)
    refine ll_wI B hW hS [.ref (ad 0 0), .int (xs (i + 1).toNatClampNeg), .int 1, .ref o1] (n := 4) (c_L_close hll e5 hk5) wm_RL_242 wt_yL_close rfl wc_yL_close rfl rfl (by decide +kernel) ⟨Nat.le_of_ble_eq_true rfl, Nat.le_of_ble_eq_true rfl⟩ ⟨by omega, by omega⟩ rfl hl.1 (Nat.le_of_ble_eq_true rfl) rfl dL_law_1948 (fun ad2 H locs hae hW hS => ?_)
    refine lv_istore (lv' := [(6, .int (lwc [3, 1] r)), (0, .ref b), (1, .ref (ad 0 0)), (2, .ref (am 0)), (3, .ref o1), (4, .ref o2), (5, .int i)]) hx hb dL_law_1951 hl (by decide) rfl (fun ls hl => ?_)
    refine lv_aload_n hx hb dL_law_1953 rfl (lv_at hl 3 rfl) ?_
    refine lv_aload_n hx hb dL_law_1954 rfl (lv_at hl 1 rfl) ?_
    refine lv_iload hx hb dL_law_1955 (lv_at hl 6 rfl) ?_
    refine lv_iconst (v := 1) hx hb dL_law_1957 (by decide) ?_
    refine lv_iadd hx hb dL_law_1958 ?_
    refine va_sld hx hb hX hbl hbA hS hi.1 dL_law_1959 ?_
    refine lv_aload_n hx hb dL_law_1960 rfl (lv_at hl 1 rfl) ?_
    refine lv_iload hx hb dL_law_1961 (lv_at hl 6 rfl) ?_
    refine lv_iconst (v := 2) hx hb dL_law_1963 (by decide) ?_
    refine lv_iadd hx hb dL_law_1964 ?_
    refine va_sld hx hb hX hbl hbA hS hi.2.1 dL_law_1965 ?_
    refine lv_if_eq (tgt := 1973) hx hb dL_law_1966 (by decide) (fun c5 => absurd c5 hz9) (fun c5 => ?_)
    refine lv_iconst (v := 1) hx hb dL_law_1969 (by decide) ?_
    refine lv_goto (tgt := 1974) hx hb dL_law_1970 (by decide) ?_
    refine ll_mV B hW hS [.int (xs (i + 1).toNatClampNeg), .int 1] (n := 2) (v := .int b9) (c_X6_close e6) wm_RL_245 wi_yX6_close ws_yX6_close wc_yX6_close rfl rfl (by decide +kernel) ⟨Nat.le_of_ble_eq_true rfl, Nat.le_of_ble_eq_true rfl⟩ ⟨by omega, by omega⟩ rfl hl.1 (Nat.le_of_ble_eq_true rfl) rfl dL_law_1974 (fun H locs hW hS => ?_)
    refine lv_istore (lv' := [(7, .int b9), (6, .int (lwc [3, 1] r)), (0, .ref b), (1, .ref (ad 0 0)), (2, .ref (am 0)), (3, .ref o1), (4, .ref o2), (5, .int i)]) hx hb dL_law_1977 hl (by decide) rfl (fun ls hl => ?_)
    refine lv_aload_n hx hb dL_law_1979 rfl (lv_at hl 4 rfl) ?_
    refine ll_mV B hW hS [] (n := 0) (v := .int (ms2.1 0)) (c_X6_thrown (st := ms2) rfl) wm_RL_144 wi_yX6_thrown ws_yX6_thrown wc_yX6_thrown rfl rfl (by decide +kernel) ⟨Nat.le_of_ble_eq_true rfl, Nat.le_of_ble_eq_true rfl⟩ ⟨by omega, by omega⟩ rfl hl.1 (Nat.le_of_ble_eq_true rfl) rfl dL_law_1980 (fun H locs hW hS => ?_)
    refine lv_iload hx hb dL_law_1983 (lv_at hl 1 rfl) ?_
    refine lv_icmp_eq (tgt := 1990) hx hb dL_law_1985 (by decide) (fun c1 => ?_) (fun c1 => absurd ht5 c1)
    refine lv_iload hx hb dL_law_1990 (lv_at hl 1 rfl) ?_
    refine lv_if_ne (tgt := 2014) hx hb dL_law_1992 (by decide) (fun c2 => ?_) (fun c2 => ?_)
    · skip
      refine lv_goto (tgt := 2507) hx hb dL_law_2014 (by decide) ?_
      exact W.widen (by omega) (by omega) (kk _ _ _ _ _ _ _ _ hae I2 hW hS (lv_sub hl [2, 3, 4, 5, 6, 7] rfl))
    · obtain ⟨x9, rfl⟩ := lwc_0 c2
      obtain rfl := hv5 x9 rfl
      refine lv_aload_n hx hb dL_law_1995 rfl (lv_at hl 5 rfl) ?_
      refine lv_iconst (v := 0) hx hb dL_law_1996 (by decide) ?_
      refine ll_lald B hW dL_law_1997 ?_
      rw [louZ_00]
      refine lv_iload hx hb dL_law_1998 (lv_at hl 0 rfl) ?_
      refine lv_if_eq (tgt := 2007) hx hb dL_law_2000 (by decide) (fun c4 => ?_) (fun c4 => ?_)
      · rw [if_pos c4]
        refine lv_lconst (v := 0) hx hb dL_law_2007 (by decide) ?_
        refine W.lcmp hx hb dL_law_2008 ?_
        refine lv_if_eq (tgt := 2014) hx hb dL_law_2009 (by decide) (fun c3 => ?_) (fun c3 => absurd (lg_cmp_self _) c3)
        refine lv_goto (tgt := 2507) hx hb dL_law_2014 (by decide) ?_
        exact W.widen (by omega) (by omega) (kk _ _ _ _ _ _ _ _ hae I2 hW hS (lv_sub hl [2, 3, 4, 5, 6, 7] rfl))
      · rw [if_neg c4]
        refine lv_lconst (v := 1) hx hb dL_law_2003 (by decide) ?_
        refine lv_goto (tgt := 2008) hx hb dL_law_2004 (by decide) ?_
        refine W.lcmp hx hb dL_law_2008 ?_
        refine lv_if_eq (tgt := 2014) hx hb dL_law_2009 (by decide) (fun c3 => ?_) (fun c3 => absurd (lg_cmp_self _) c3)
        refine lv_goto (tgt := 2507) hx hb dL_law_2014 (by decide) ?_
        exact W.widen (by omega) (by omega) (kk _ _ _ _ _ _ _ _ hae I2 hW hS (lv_sub hl [2, 3, 4, 5, 6, 7] rfl))
set_option maxHeartbeats 4000000 in
set_option maxRecDepth 100000 in
theorem k_renew {p : Program} {l : Launch} {e : Env} {s : State} {m : MethodId} {args : Array Value} {below : List Frame} {meth : Method} {c : Code} {H : Heap} {locs : List Loc} {cells slots : Nat} {Q : State → Prop} {ls : Array Slot} {G : GG} {A A1 A2 : Nat → Prop} {am : Nat → Nat} {o1 o2 : Nat} {ad : AD} {st : XS} {ms : MS} {f : Nat → Int64} {g : Nat → UInt64} {rt : Option FieldType} {b L : Nat} {xs : Nat → Int32} {i : Int32} (hll : l.stackTraces = false) (B : LL G A A1 A2 o1 o2 p s m args meth c rt) (hX : va_X b L xs s s.heap) (hbl : b < s.heap.size) (hbA : ¬ A b) (hi : INX i L) (I : INV st ms) (hW : LW G A A1 A2 am o1 o2 s ad st ms f g H) (hS : va_S A s.heap H locs) (hl : lv_has ls 9 [(0, .ref b), (1, .ref (ad 0 0)), (2, .ref (am 0)), (3, .ref o1), (4, .ref o2), (5, .int i)]) (hc : cells + 11 ≤ room_1.cells) (hs : slots + 248 ≤ room_1.slots)
    (kk : KK p l e s m args below meth c Q G A A1 A2 am o1 o2 ad b i cells slots) : W p l e room_1 s m args below meth c H locs cells slots Q (F0 m 2017 ls []) := by
  have ⟨⟨hx, hb, hr, hml, hown, hT, hlocks, hK⟩, hNC, hLR, hA⟩ := B
  refine lv_aload_n hx hb dL_law_2017 rfl (lv_at hl 1 rfl) ?_
  refine lv_aload_n hx hb dL_law_2018 rfl (lv_at hl 0 rfl) ?_
  refine lv_iload hx hb dL_law_2019 (lv_at hl 5 rfl) ?_
  refine lv_iconst (v := 1) hx hb dL_law_2021 (by decide) ?_
  refine lv_iadd hx hb dL_law_2022 ?_
  refine va_sld hx hb hX hbl hbA hS hi.1 dL_law_2023 ?_
  refine lv_aload_n hx hb dL_law_2024 rfl (lv_at hl 3 rfl) ?_
  obtain ⟨r, st2, b9, ms2, e5, e6, I2, hk5, ht5, hv5⟩ := ag_renew I (x1 := (xs (i + 1).toNatClampNeg))
  refine ll_wI B hW hS [.ref (ad 0 0), .int (xs (i + 1).toNatClampNeg), .ref o1] (n := 3) (c_L_renew hll e5 hk5) wm_RL_246 wt_yL_renew rfl wc_yL_renew rfl rfl (by decide +kernel) ⟨Nat.le_of_ble_eq_true rfl, Nat.le_of_ble_eq_true rfl⟩ ⟨by omega, by omega⟩ rfl hl.1 (Nat.le_of_ble_eq_true rfl) rfl dL_law_2025 (fun ad2 H locs hae hW hS => ?_)
  refine lv_istore (lv' := [(6, .int (lwc [3, 1] r)), (0, .ref b), (1, .ref (ad 0 0)), (2, .ref (am 0)), (3, .ref o1), (4, .ref o2), (5, .int i)]) hx hb dL_law_2028 hl (by decide) rfl (fun ls hl => ?_)
  refine lv_aload_n hx hb dL_law_2030 rfl (lv_at hl 3 rfl) ?_
  refine lv_aload_n hx hb dL_law_2031 rfl (lv_at hl 1 rfl) ?_
  refine lv_iload hx hb dL_law_2032 (lv_at hl 6 rfl) ?_
  refine lv_iconst (v := 1) hx hb dL_law_2034 (by decide) ?_
  refine lv_iadd hx hb dL_law_2035 ?_
  refine va_sld hx hb hX hbl hbA hS hi.1 dL_law_2036 ?_
  refine ll_mV B hW hS [.int (xs (i + 1).toNatClampNeg)] (n := 1) (v := .int b9) (c_X6_renew e6) wm_RL_248 wi_yX6_renew ws_yX6_renew wc_yX6_renew rfl rfl (by decide +kernel) ⟨Nat.le_of_ble_eq_true rfl, Nat.le_of_ble_eq_true rfl⟩ ⟨by omega, by omega⟩ rfl hl.1 (Nat.le_of_ble_eq_true rfl) rfl dL_law_2037 (fun H locs hW hS => ?_)
  refine lv_istore (lv' := [(7, .int b9), (6, .int (lwc [3, 1] r)), (0, .ref b), (1, .ref (ad 0 0)), (2, .ref (am 0)), (3, .ref o1), (4, .ref o2), (5, .int i)]) hx hb dL_law_2040 hl (by decide) rfl (fun ls hl => ?_)
  refine lv_aload_n hx hb dL_law_2042 rfl (lv_at hl 4 rfl) ?_
  refine ll_mV B hW hS [] (n := 0) (v := .int (ms2.1 0)) (c_X6_thrown (st := ms2) rfl) wm_RL_144 wi_yX6_thrown ws_yX6_thrown wc_yX6_thrown rfl rfl (by decide +kernel) ⟨Nat.le_of_ble_eq_true rfl, Nat.le_of_ble_eq_true rfl⟩ ⟨by omega, by omega⟩ rfl hl.1 (Nat.le_of_ble_eq_true rfl) rfl dL_law_2043 (fun H locs hW hS => ?_)
  refine lv_iload hx hb dL_law_2046 (lv_at hl 1 rfl) ?_
  refine lv_icmp_eq (tgt := 2053) hx hb dL_law_2048 (by decide) (fun c1 => ?_) (fun c1 => absurd ht5 c1)
  refine lv_iload hx hb dL_law_2053 (lv_at hl 1 rfl) ?_
  refine lv_if_ne (tgt := 2070) hx hb dL_law_2055 (by decide) (fun c2 => ?_) (fun c2 => ?_)
  · skip
    refine lv_goto (tgt := 2507) hx hb dL_law_2070 (by decide) ?_
    exact W.widen (by omega) (by omega) (kk _ _ _ _ _ _ _ _ hae I2 hW hS (lv_sub hl [2, 3, 4, 5, 6, 7] rfl))
  · obtain ⟨x9, rfl⟩ := lwc_0 c2
    obtain rfl := hv5 x9 rfl
    refine lv_aload_n hx hb dL_law_2058 rfl (lv_at hl 5 rfl) ?_
    refine lv_iconst (v := 0) hx hb dL_law_2059 (by decide) ?_
    refine ll_lald B hW dL_law_2060 ?_
    rw [louI_0]
    refine lv_iload hx hb dL_law_2061 (lv_at hl 0 rfl) ?_
    refine lv_i2l hx hb dL_law_2063 rfl ?_
    refine W.lcmp hx hb dL_law_2064 ?_
    refine lv_if_eq (tgt := 2070) hx hb dL_law_2065 (by decide) (fun c3 => ?_) (fun c3 => absurd (lg_cmp_self _) c3)
    refine lv_goto (tgt := 2507) hx hb dL_law_2070 (by decide) ?_
    exact W.widen (by omega) (by omega) (kk _ _ _ _ _ _ _ _ hae I2 hW hS (lv_sub hl [2, 3, 4, 5, 6, 7] rfl))
set_option maxHeartbeats 4000000 in
set_option maxRecDepth 100000 in
theorem k_notes {p : Program} {l : Launch} {e : Env} {s : State} {m : MethodId} {args : Array Value} {below : List Frame} {meth : Method} {c : Code} {H : Heap} {locs : List Loc} {cells slots : Nat} {Q : State → Prop} {ls : Array Slot} {G : GG} {A A1 A2 : Nat → Prop} {am : Nat → Nat} {o1 o2 : Nat} {ad : AD} {st : XS} {ms : MS} {f : Nat → Int64} {g : Nat → UInt64} {rt : Option FieldType} {b L : Nat} {xs : Nat → Int32} {i : Int32} (hll : l.stackTraces = false) (B : LL G A A1 A2 o1 o2 p s m args meth c rt) (hX : va_X b L xs s s.heap) (hbl : b < s.heap.size) (hbA : ¬ A b) (hi : INX i L) (I : INV st ms) (hW : LW G A A1 A2 am o1 o2 s ad st ms f g H) (hS : va_S A s.heap H locs) (hl : lv_has ls 9 [(0, .ref b), (1, .ref (ad 0 0)), (2, .ref (am 0)), (3, .ref o1), (4, .ref o2), (5, .int i)]) (hc : cells + 11 ≤ room_1.cells) (hs : slots + 248 ≤ room_1.slots)
    (kk : KK p l e s m args below meth c Q G A A1 A2 am o1 o2 ad b i cells slots) : W p l e room_1 s m args below meth c H locs cells slots Q (F0 m 2073 ls []) := by
  have ⟨⟨hx, hb, hr, hml, hown, hT, hlocks, hK⟩, hNC, hLR, hA⟩ := B
  refine lv_aload_n hx hb dL_law_2073 rfl (lv_at hl 1 rfl) ?_
  refine lv_aload_n hx hb dL_law_2074 rfl (lv_at hl 0 rfl) ?_
  refine lv_iload hx hb dL_law_2075 (lv_at hl 5 rfl) ?_
  refine lv_iconst (v := 1) hx hb dL_law_2077 (by decide) ?_
  refine lv_iadd hx hb dL_law_2078 ?_
  refine va_sld hx hb hX hbl hbA hS hi.1 dL_law_2079 ?_
  refine lv_i2c hx hb dL_law_2080 rfl ?_
  refine lv_aload_n hx hb dL_law_2081 rfl (lv_at hl 3 rfl) ?_
  obtain ⟨r, st2, b9, ms2, e5, e6, I2, hk5, ht5, hv5⟩ := ag_notes I (x1 := (((xs (i + 1).toNatClampNeg).toUInt32 % 65536).toInt32)) (ch_ok _)
  refine ll_wI B hW hS [.ref (ad 0 0), .int (((xs (i + 1).toNatClampNeg).toUInt32 % 65536).toInt32), .ref o1] (n := 3) (c_L_notes hll e5 hk5) wm_RL_249 wt_yL_notes rfl wc_yL_notes rfl rfl (by decide +kernel) ⟨Nat.le_of_ble_eq_true rfl, Nat.le_of_ble_eq_true rfl⟩ ⟨by omega, by omega⟩ rfl hl.1 (Nat.le_of_ble_eq_true rfl) rfl dL_law_2082 (fun ad2 H locs hae hW hS => ?_)
  refine lv_istore (lv' := [(6, .int (lwc [0] r)), (0, .ref b), (1, .ref (ad 0 0)), (2, .ref (am 0)), (3, .ref o1), (4, .ref o2), (5, .int i)]) hx hb dL_law_2085 hl (by decide) rfl (fun ls hl => ?_)
  refine lv_aload_n hx hb dL_law_2087 rfl (lv_at hl 3 rfl) ?_
  refine lv_aload_n hx hb dL_law_2088 rfl (lv_at hl 1 rfl) ?_
  refine lv_iload hx hb dL_law_2089 (lv_at hl 6 rfl) ?_
  refine lv_iconst (v := 1) hx hb dL_law_2091 (by decide) ?_
  refine lv_iadd hx hb dL_law_2092 ?_
  refine va_sld hx hb hX hbl hbA hS hi.1 dL_law_2093 ?_
  refine lv_i2c hx hb dL_law_2094 rfl ?_
  refine ll_mV B hW hS [.int (((xs (i + 1).toNatClampNeg).toUInt32 % 65536).toInt32)] (n := 1) (v := .int b9) (c_X6_notes e6) wm_RL_252 wi_yX6_notes ws_yX6_notes wc_yX6_notes rfl rfl (by decide +kernel) ⟨Nat.le_of_ble_eq_true rfl, Nat.le_of_ble_eq_true rfl⟩ ⟨by omega, by omega⟩ rfl hl.1 (Nat.le_of_ble_eq_true rfl) rfl dL_law_2095 (fun H locs hW hS => ?_)
  refine lv_istore (lv' := [(7, .int b9), (6, .int (lwc [0] r)), (0, .ref b), (1, .ref (ad 0 0)), (2, .ref (am 0)), (3, .ref o1), (4, .ref o2), (5, .int i)]) hx hb dL_law_2098 hl (by decide) rfl (fun ls hl => ?_)
  refine lv_aload_n hx hb dL_law_2100 rfl (lv_at hl 4 rfl) ?_
  refine ll_mV B hW hS [] (n := 0) (v := .int (ms2.1 0)) (c_X6_thrown (st := ms2) rfl) wm_RL_144 wi_yX6_thrown ws_yX6_thrown wc_yX6_thrown rfl rfl (by decide +kernel) ⟨Nat.le_of_ble_eq_true rfl, Nat.le_of_ble_eq_true rfl⟩ ⟨by omega, by omega⟩ rfl hl.1 (Nat.le_of_ble_eq_true rfl) rfl dL_law_2101 (fun H locs hW hS => ?_)
  refine lv_iload hx hb dL_law_2104 (lv_at hl 1 rfl) ?_
  refine lv_icmp_eq (tgt := 2111) hx hb dL_law_2106 (by decide) (fun c1 => ?_) (fun c1 => absurd ht5 c1)
  refine lv_iload hx hb dL_law_2111 (lv_at hl 1 rfl) ?_
  refine lv_if_ne (tgt := 2128) hx hb dL_law_2113 (by decide) (fun c2 => ?_) (fun c2 => ?_)
  · skip
    refine lv_goto (tgt := 2507) hx hb dL_law_2128 (by decide) ?_
    exact W.widen (by omega) (by omega) (kk _ _ _ _ _ _ _ _ hae I2 hW hS (lv_sub hl [2, 3, 4, 5, 6, 7] rfl))
  · obtain ⟨x9, rfl⟩ := lwc_0 c2
    obtain rfl := hv5 x9 rfl
    refine lv_aload_n hx hb dL_law_2116 rfl (lv_at hl 5 rfl) ?_
    refine lv_iconst (v := 0) hx hb dL_law_2117 (by decide) ?_
    refine ll_lald B hW dL_law_2118 ?_
    rw [louI_0]
    refine lv_iload hx hb dL_law_2119 (lv_at hl 0 rfl) ?_
    refine lv_i2l hx hb dL_law_2121 rfl ?_
    refine W.lcmp hx hb dL_law_2122 ?_
    refine lv_if_eq (tgt := 2128) hx hb dL_law_2123 (by decide) (fun c3 => ?_) (fun c3 => absurd (lg_cmp_self _) c3)
    refine lv_goto (tgt := 2507) hx hb dL_law_2128 (by decide) ?_
    exact W.widen (by omega) (by omega) (kk _ _ _ _ _ _ _ _ hae I2 hW hS (lv_sub hl [2, 3, 4, 5, 6, 7] rfl))
set_option maxHeartbeats 4000000 in
set_option maxRecDepth 100000 in
theorem k_dear {p : Program} {l : Launch} {e : Env} {s : State} {m : MethodId} {args : Array Value} {below : List Frame} {meth : Method} {c : Code} {H : Heap} {locs : List Loc} {cells slots : Nat} {Q : State → Prop} {ls : Array Slot} {G : GG} {A A1 A2 : Nat → Prop} {am : Nat → Nat} {o1 o2 : Nat} {ad : AD} {st : XS} {ms : MS} {f : Nat → Int64} {g : Nat → UInt64} {rt : Option FieldType} {b L : Nat} {xs : Nat → Int32} {i : Int32} (hll : l.stackTraces = false) (B : LL G A A1 A2 o1 o2 p s m args meth c rt) (hX : va_X b L xs s s.heap) (hbl : b < s.heap.size) (hbA : ¬ A b) (hi : INX i L) (I : INV st ms) (hW : LW G A A1 A2 am o1 o2 s ad st ms f g H) (hS : va_S A s.heap H locs) (hl : lv_has ls 9 [(0, .ref b), (1, .ref (ad 0 0)), (2, .ref (am 0)), (3, .ref o1), (4, .ref o2), (5, .int i)]) (hc : cells + 11 ≤ room_1.cells) (hs : slots + 248 ≤ room_1.slots)
    (kk : KK p l e s m args below meth c Q G A A1 A2 am o1 o2 ad b i cells slots) : W p l e room_1 s m args below meth c H locs cells slots Q (F0 m 2131 ls []) := by
  have ⟨⟨hx, hb, hr, hml, hown, hT, hlocks, hK⟩, hNC, hLR, hA⟩ := B
  refine lv_aload_n hx hb dL_law_2131 rfl (lv_at hl 1 rfl) ?_
  refine lv_aload_n hx hb dL_law_2132 rfl (lv_at hl 0 rfl) ?_
  refine lv_iload hx hb dL_law_2133 (lv_at hl 5 rfl) ?_
  refine lv_iconst (v := 1) hx hb dL_law_2135 (by decide) ?_
  refine lv_iadd hx hb dL_law_2136 ?_
  refine va_sld hx hb hX hbl hbA hS hi.1 dL_law_2137 ?_
  refine lv_aload_n hx hb dL_law_2138 rfl (lv_at hl 0 rfl) ?_
  refine lv_iload hx hb dL_law_2139 (lv_at hl 5 rfl) ?_
  refine lv_iconst (v := 2) hx hb dL_law_2141 (by decide) ?_
  refine lv_iadd hx hb dL_law_2142 ?_
  refine va_sld hx hb hX hbl hbA hS hi.2.1 dL_law_2143 ?_
  refine lv_if_eq (tgt := 2151) hx hb dL_law_2144 (by decide) (fun c5 => ?_) (fun c5 => ?_)
  · have hz9 := c5
    refine lv_iconst (v := 0) hx hb dL_law_2151 (by decide) ?_
    refine lv_aload_n hx hb dL_law_2152 rfl (lv_at hl 3 rfl) ?_
    obtain ⟨r, st2, b9, ms2, e5, e6, I2, hk5, ht5, hv5⟩ := ag_dear I (x1 := (xs (i + 1).toNatClampNeg)) (x2 := 0) (Or.inl rfl)
    refine ll_wI B hW hS [.ref (ad 0 0), .int (xs (i + 1).toNatClampNeg), .int 0, .ref o1] (n := 4) (c_L_dear hll e5 hk5) wm_RL_253 wt_yL_dear rfl wc_yL_dear rfl rfl (by decide +kernel) ⟨Nat.le_of_ble_eq_true rfl, Nat.le_of_ble_eq_true rfl⟩ ⟨by omega, by omega⟩ rfl hl.1 (Nat.le_of_ble_eq_true rfl) rfl dL_law_2153 (fun ad2 H locs hae hW hS => ?_)
    refine lv_istore (lv' := [(6, .int (lwc [3] r)), (0, .ref b), (1, .ref (ad 0 0)), (2, .ref (am 0)), (3, .ref o1), (4, .ref o2), (5, .int i)]) hx hb dL_law_2156 hl (by decide) rfl (fun ls hl => ?_)
    refine lv_aload_n hx hb dL_law_2158 rfl (lv_at hl 3 rfl) ?_
    refine lv_aload_n hx hb dL_law_2159 rfl (lv_at hl 1 rfl) ?_
    refine lv_iload hx hb dL_law_2160 (lv_at hl 6 rfl) ?_
    refine lv_iconst (v := 1) hx hb dL_law_2162 (by decide) ?_
    refine lv_iadd hx hb dL_law_2163 ?_
    refine va_sld hx hb hX hbl hbA hS hi.1 dL_law_2164 ?_
    refine lv_aload_n hx hb dL_law_2165 rfl (lv_at hl 1 rfl) ?_
    refine lv_iload hx hb dL_law_2166 (lv_at hl 6 rfl) ?_
    refine lv_iconst (v := 2) hx hb dL_law_2168 (by decide) ?_
    refine lv_iadd hx hb dL_law_2169 ?_
    refine va_sld hx hb hX hbl hbA hS hi.2.1 dL_law_2170 ?_
    refine lv_if_eq (tgt := 2178) hx hb dL_law_2171 (by decide) (fun c5 => ?_) (fun c5 => absurd hz9 c5)
    refine lv_iconst (v := 0) hx hb dL_law_2178 (by decide) ?_
    refine ll_mV B hW hS [.int (xs (i + 1).toNatClampNeg), .int 0] (n := 2) (v := .int b9) (c_X6_dear e6) wm_RL_255 wi_yX6_dear ws_yX6_dear wc_yX6_dear rfl rfl (by decide +kernel) ⟨Nat.le_of_ble_eq_true rfl, Nat.le_of_ble_eq_true rfl⟩ ⟨by omega, by omega⟩ rfl hl.1 (Nat.le_of_ble_eq_true rfl) rfl dL_law_2179 (fun H locs hW hS => ?_)
    refine lv_istore (lv' := [(7, .int b9), (6, .int (lwc [3] r)), (0, .ref b), (1, .ref (ad 0 0)), (2, .ref (am 0)), (3, .ref o1), (4, .ref o2), (5, .int i)]) hx hb dL_law_2182 hl (by decide) rfl (fun ls hl => ?_)
    refine lv_aload_n hx hb dL_law_2184 rfl (lv_at hl 4 rfl) ?_
    refine ll_mV B hW hS [] (n := 0) (v := .int (ms2.1 0)) (c_X6_thrown (st := ms2) rfl) wm_RL_144 wi_yX6_thrown ws_yX6_thrown wc_yX6_thrown rfl rfl (by decide +kernel) ⟨Nat.le_of_ble_eq_true rfl, Nat.le_of_ble_eq_true rfl⟩ ⟨by omega, by omega⟩ rfl hl.1 (Nat.le_of_ble_eq_true rfl) rfl dL_law_2185 (fun H locs hW hS => ?_)
    refine lv_iload hx hb dL_law_2188 (lv_at hl 1 rfl) ?_
    refine lv_icmp_eq (tgt := 2195) hx hb dL_law_2190 (by decide) (fun c1 => ?_) (fun c1 => absurd ht5 c1)
    refine lv_iload hx hb dL_law_2195 (lv_at hl 1 rfl) ?_
    refine lv_if_ne (tgt := 2219) hx hb dL_law_2197 (by decide) (fun c2 => ?_) (fun c2 => ?_)
    · skip
      refine lv_goto (tgt := 2507) hx hb dL_law_2219 (by decide) ?_
      exact W.widen (by omega) (by omega) (kk _ _ _ _ _ _ _ _ hae I2 hW hS (lv_sub hl [2, 3, 4, 5, 6, 7] rfl))
    · obtain ⟨x9, rfl⟩ := lwc_0 c2
      obtain rfl := hv5 x9 rfl
      refine lv_aload_n hx hb dL_law_2200 rfl (lv_at hl 5 rfl) ?_
      refine lv_iconst (v := 0) hx hb dL_law_2201 (by decide) ?_
      refine ll_lald B hW dL_law_2202 ?_
      rw [louZ_00]
      refine lv_iload hx hb dL_law_2203 (lv_at hl 0 rfl) ?_
      refine lv_if_eq (tgt := 2212) hx hb dL_law_2205 (by decide) (fun c4 => ?_) (fun c4 => ?_)
      · rw [if_pos c4]
        refine lv_lconst (v := 0) hx hb dL_law_2212 (by decide) ?_
        refine W.lcmp hx hb dL_law_2213 ?_
        refine lv_if_eq (tgt := 2219) hx hb dL_law_2214 (by decide) (fun c3 => ?_) (fun c3 => absurd (lg_cmp_self _) c3)
        refine lv_goto (tgt := 2507) hx hb dL_law_2219 (by decide) ?_
        exact W.widen (by omega) (by omega) (kk _ _ _ _ _ _ _ _ hae I2 hW hS (lv_sub hl [2, 3, 4, 5, 6, 7] rfl))
      · rw [if_neg c4]
        refine lv_lconst (v := 1) hx hb dL_law_2208 (by decide) ?_
        refine lv_goto (tgt := 2213) hx hb dL_law_2209 (by decide) ?_
        refine W.lcmp hx hb dL_law_2213 ?_
        refine lv_if_eq (tgt := 2219) hx hb dL_law_2214 (by decide) (fun c3 => ?_) (fun c3 => absurd (lg_cmp_self _) c3)
        refine lv_goto (tgt := 2507) hx hb dL_law_2219 (by decide) ?_
        exact W.widen (by omega) (by omega) (kk _ _ _ _ _ _ _ _ hae I2 hW hS (lv_sub hl [2, 3, 4, 5, 6, 7] rfl))
  · have hz9 := c5
    refine lv_iconst (v := 1) hx hb dL_law_2147 (by decide) ?_
    refine lv_goto (tgt := 2152) hx hb dL_law_2148 (by decide) ?_
    refine lv_aload_n hx hb dL_law_2152 rfl (lv_at hl 3 rfl) ?_
    obtain ⟨r, st2, b9, ms2, e5, e6, I2, hk5, ht5, hv5⟩ := ag_dear I (x1 := (xs (i + 1).toNatClampNeg)) (x2 := 1) (Or.inr rfl)
    refine ll_wI B hW hS [.ref (ad 0 0), .int (xs (i + 1).toNatClampNeg), .int 1, .ref o1] (n := 4) (c_L_dear hll e5 hk5) wm_RL_253 wt_yL_dear rfl wc_yL_dear rfl rfl (by decide +kernel) ⟨Nat.le_of_ble_eq_true rfl, Nat.le_of_ble_eq_true rfl⟩ ⟨by omega, by omega⟩ rfl hl.1 (Nat.le_of_ble_eq_true rfl) rfl dL_law_2153 (fun ad2 H locs hae hW hS => ?_)
    refine lv_istore (lv' := [(6, .int (lwc [3] r)), (0, .ref b), (1, .ref (ad 0 0)), (2, .ref (am 0)), (3, .ref o1), (4, .ref o2), (5, .int i)]) hx hb dL_law_2156 hl (by decide) rfl (fun ls hl => ?_)
    refine lv_aload_n hx hb dL_law_2158 rfl (lv_at hl 3 rfl) ?_
    refine lv_aload_n hx hb dL_law_2159 rfl (lv_at hl 1 rfl) ?_
    refine lv_iload hx hb dL_law_2160 (lv_at hl 6 rfl) ?_
    refine lv_iconst (v := 1) hx hb dL_law_2162 (by decide) ?_
    refine lv_iadd hx hb dL_law_2163 ?_
    refine va_sld hx hb hX hbl hbA hS hi.1 dL_law_2164 ?_
    refine lv_aload_n hx hb dL_law_2165 rfl (lv_at hl 1 rfl) ?_
    refine lv_iload hx hb dL_law_2166 (lv_at hl 6 rfl) ?_
    refine lv_iconst (v := 2) hx hb dL_law_2168 (by decide) ?_
    refine lv_iadd hx hb dL_law_2169 ?_
    refine va_sld hx hb hX hbl hbA hS hi.2.1 dL_law_2170 ?_
    refine lv_if_eq (tgt := 2178) hx hb dL_law_2171 (by decide) (fun c5 => absurd c5 hz9) (fun c5 => ?_)
    refine lv_iconst (v := 1) hx hb dL_law_2174 (by decide) ?_
    refine lv_goto (tgt := 2179) hx hb dL_law_2175 (by decide) ?_
    refine ll_mV B hW hS [.int (xs (i + 1).toNatClampNeg), .int 1] (n := 2) (v := .int b9) (c_X6_dear e6) wm_RL_255 wi_yX6_dear ws_yX6_dear wc_yX6_dear rfl rfl (by decide +kernel) ⟨Nat.le_of_ble_eq_true rfl, Nat.le_of_ble_eq_true rfl⟩ ⟨by omega, by omega⟩ rfl hl.1 (Nat.le_of_ble_eq_true rfl) rfl dL_law_2179 (fun H locs hW hS => ?_)
    refine lv_istore (lv' := [(7, .int b9), (6, .int (lwc [3] r)), (0, .ref b), (1, .ref (ad 0 0)), (2, .ref (am 0)), (3, .ref o1), (4, .ref o2), (5, .int i)]) hx hb dL_law_2182 hl (by decide) rfl (fun ls hl => ?_)
    refine lv_aload_n hx hb dL_law_2184 rfl (lv_at hl 4 rfl) ?_
    refine ll_mV B hW hS [] (n := 0) (v := .int (ms2.1 0)) (c_X6_thrown (st := ms2) rfl) wm_RL_144 wi_yX6_thrown ws_yX6_thrown wc_yX6_thrown rfl rfl (by decide +kernel) ⟨Nat.le_of_ble_eq_true rfl, Nat.le_of_ble_eq_true rfl⟩ ⟨by omega, by omega⟩ rfl hl.1 (Nat.le_of_ble_eq_true rfl) rfl dL_law_2185 (fun H locs hW hS => ?_)
    refine lv_iload hx hb dL_law_2188 (lv_at hl 1 rfl) ?_
    refine lv_icmp_eq (tgt := 2195) hx hb dL_law_2190 (by decide) (fun c1 => ?_) (fun c1 => absurd ht5 c1)
    refine lv_iload hx hb dL_law_2195 (lv_at hl 1 rfl) ?_
    refine lv_if_ne (tgt := 2219) hx hb dL_law_2197 (by decide) (fun c2 => ?_) (fun c2 => ?_)
    · skip
      refine lv_goto (tgt := 2507) hx hb dL_law_2219 (by decide) ?_
      exact W.widen (by omega) (by omega) (kk _ _ _ _ _ _ _ _ hae I2 hW hS (lv_sub hl [2, 3, 4, 5, 6, 7] rfl))
    · obtain ⟨x9, rfl⟩ := lwc_0 c2
      obtain rfl := hv5 x9 rfl
      refine lv_aload_n hx hb dL_law_2200 rfl (lv_at hl 5 rfl) ?_
      refine lv_iconst (v := 0) hx hb dL_law_2201 (by decide) ?_
      refine ll_lald B hW dL_law_2202 ?_
      rw [louZ_00]
      refine lv_iload hx hb dL_law_2203 (lv_at hl 0 rfl) ?_
      refine lv_if_eq (tgt := 2212) hx hb dL_law_2205 (by decide) (fun c4 => ?_) (fun c4 => ?_)
      · rw [if_pos c4]
        refine lv_lconst (v := 0) hx hb dL_law_2212 (by decide) ?_
        refine W.lcmp hx hb dL_law_2213 ?_
        refine lv_if_eq (tgt := 2219) hx hb dL_law_2214 (by decide) (fun c3 => ?_) (fun c3 => absurd (lg_cmp_self _) c3)
        refine lv_goto (tgt := 2507) hx hb dL_law_2219 (by decide) ?_
        exact W.widen (by omega) (by omega) (kk _ _ _ _ _ _ _ _ hae I2 hW hS (lv_sub hl [2, 3, 4, 5, 6, 7] rfl))
      · rw [if_neg c4]
        refine lv_lconst (v := 1) hx hb dL_law_2208 (by decide) ?_
        refine lv_goto (tgt := 2213) hx hb dL_law_2209 (by decide) ?_
        refine W.lcmp hx hb dL_law_2213 ?_
        refine lv_if_eq (tgt := 2219) hx hb dL_law_2214 (by decide) (fun c3 => ?_) (fun c3 => absurd (lg_cmp_self _) c3)
        refine lv_goto (tgt := 2507) hx hb dL_law_2219 (by decide) ?_
        exact W.widen (by omega) (by omega) (kk _ _ _ _ _ _ _ _ hae I2 hW hS (lv_sub hl [2, 3, 4, 5, 6, 7] rfl))
set_option maxHeartbeats 4000000 in
set_option maxRecDepth 100000 in
theorem k_setups {p : Program} {l : Launch} {e : Env} {s : State} {m : MethodId} {args : Array Value} {below : List Frame} {meth : Method} {c : Code} {H : Heap} {locs : List Loc} {cells slots : Nat} {Q : State → Prop} {ls : Array Slot} {G : GG} {A A1 A2 : Nat → Prop} {am : Nat → Nat} {o1 o2 : Nat} {ad : AD} {st : XS} {ms : MS} {f : Nat → Int64} {g : Nat → UInt64} {rt : Option FieldType} {b L : Nat} {xs : Nat → Int32} {i : Int32} (hll : l.stackTraces = false) (B : LL G A A1 A2 o1 o2 p s m args meth c rt) (hX : va_X b L xs s s.heap) (hbl : b < s.heap.size) (hbA : ¬ A b) (hi : INX i L) (I : INV st ms) (hW : LW G A A1 A2 am o1 o2 s ad st ms f g H) (hS : va_S A s.heap H locs) (hl : lv_has ls 9 [(0, .ref b), (1, .ref (ad 0 0)), (2, .ref (am 0)), (3, .ref o1), (4, .ref o2), (5, .int i)]) (hc : cells + 11 ≤ room_1.cells) (hs : slots + 248 ≤ room_1.slots)
    (kk : KK p l e s m args below meth c Q G A A1 A2 am o1 o2 ad b i cells slots) : W p l e room_1 s m args below meth c H locs cells slots Q (F0 m 2222 ls []) := by
  have ⟨⟨hx, hb, hr, hml, hown, hT, hlocks, hK⟩, hNC, hLR, hA⟩ := B
  refine lv_aload_n hx hb dL_law_2222 rfl (lv_at hl 1 rfl) ?_
  obtain ⟨r, st2, ms2, e5, e6, I2⟩ := ag_setups I
  refine ll_xV B hW hS [] (n := 0) (v := .int r) (c_X5_setups hll e5) wm_RL_256 wi_yX5_setups ws_yX5_setups wc_yX5_setups rfl rfl (by decide +kernel) ⟨Nat.le_of_ble_eq_true rfl, Nat.le_of_ble_eq_true rfl⟩ ⟨by omega, by omega⟩ rfl hl.1 (Nat.le_of_ble_eq_true rfl) rfl dL_law_2223 (fun H locs hW hS => ?_)
  refine lv_aload_n hx hb dL_law_2226 rfl (lv_at hl 2 rfl) ?_
  refine ll_mV B hW hS [] (n := 0) (v := .int r) (c_X6_setups e6) wm_RL_259 wi_yX6_setups ws_yX6_setups wc_yX6_setups rfl rfl (by decide +kernel) ⟨Nat.le_of_ble_eq_true rfl, Nat.le_of_ble_eq_true rfl⟩ ⟨by omega, by omega⟩ rfl hl.1 (Nat.le_of_ble_eq_true rfl) rfl dL_law_2227 (fun H locs hW hS => ?_)
  refine lv_icmp_eq (tgt := 2507) hx hb dL_law_2230 (by decide) (fun c1 => ?_) (fun c1 => absurd rfl c1)
  exact W.widen (by omega) (by omega) (kk _ _ _ _ _ _ _ _ AE.rf I2 hW hS (lv_sub hl [0, 1, 2, 3, 4, 5] rfl))
set_option maxHeartbeats 4000000 in
set_option maxRecDepth 100000 in
theorem k_first {p : Program} {l : Launch} {e : Env} {s : State} {m : MethodId} {args : Array Value} {below : List Frame} {meth : Method} {c : Code} {H : Heap} {locs : List Loc} {cells slots : Nat} {Q : State → Prop} {ls : Array Slot} {G : GG} {A A1 A2 : Nat → Prop} {am : Nat → Nat} {o1 o2 : Nat} {ad : AD} {st : XS} {ms : MS} {f : Nat → Int64} {g : Nat → UInt64} {rt : Option FieldType} {b L : Nat} {xs : Nat → Int32} {i : Int32} (hll : l.stackTraces = false) (B : LL G A A1 A2 o1 o2 p s m args meth c rt) (hX : va_X b L xs s s.heap) (hbl : b < s.heap.size) (hbA : ¬ A b) (hi : INX i L) (I : INV st ms) (hW : LW G A A1 A2 am o1 o2 s ad st ms f g H) (hS : va_S A s.heap H locs) (hl : lv_has ls 9 [(0, .ref b), (1, .ref (ad 0 0)), (2, .ref (am 0)), (3, .ref o1), (4, .ref o2), (5, .int i)]) (hc : cells + 11 ≤ room_1.cells) (hs : slots + 248 ≤ room_1.slots)
    (kk : KK p l e s m args below meth c Q G A A1 A2 am o1 o2 ad b i cells slots) : W p l e room_1 s m args below meth c H locs cells slots Q (F0 m 2235 ls []) := by
  have ⟨⟨hx, hb, hr, hml, hown, hT, hlocks, hK⟩, hNC, hLR, hA⟩ := B
  refine lv_aload_n hx hb dL_law_2235 rfl (lv_at hl 1 rfl) ?_
  obtain ⟨r, st2, ms2, e5, e6, I2⟩ := ag_first I
  refine ll_xV B hW hS [] (n := 0) (v := .int r) (c_X5_first hll e5) wm_RL_260 wi_yX5_first ws_yX5_first wc_yX5_first rfl rfl (by decide +kernel) ⟨Nat.le_of_ble_eq_true rfl, Nat.le_of_ble_eq_true rfl⟩ ⟨by omega, by omega⟩ rfl hl.1 (Nat.le_of_ble_eq_true rfl) rfl dL_law_2236 (fun H locs hW hS => ?_)
  refine lv_aload_n hx hb dL_law_2239 rfl (lv_at hl 2 rfl) ?_
  refine ll_mV B hW hS [] (n := 0) (v := .int r) (c_X6_first e6) wm_RL_263 wi_yX6_first ws_yX6_first wc_yX6_first rfl rfl (by decide +kernel) ⟨Nat.le_of_ble_eq_true rfl, Nat.le_of_ble_eq_true rfl⟩ ⟨by omega, by omega⟩ rfl hl.1 (Nat.le_of_ble_eq_true rfl) rfl dL_law_2240 (fun H locs hW hS => ?_)
  refine lv_icmp_eq (tgt := 2507) hx hb dL_law_2243 (by decide) (fun c1 => ?_) (fun c1 => absurd rfl c1)
  exact W.widen (by omega) (by omega) (kk _ _ _ _ _ _ _ _ AE.rf I2 hW hS (lv_sub hl [0, 1, 2, 3, 4, 5] rfl))
set_option maxHeartbeats 4000000 in
set_option maxRecDepth 100000 in
theorem k_days {p : Program} {l : Launch} {e : Env} {s : State} {m : MethodId} {args : Array Value} {below : List Frame} {meth : Method} {c : Code} {H : Heap} {locs : List Loc} {cells slots : Nat} {Q : State → Prop} {ls : Array Slot} {G : GG} {A A1 A2 : Nat → Prop} {am : Nat → Nat} {o1 o2 : Nat} {ad : AD} {st : XS} {ms : MS} {f : Nat → Int64} {g : Nat → UInt64} {rt : Option FieldType} {b L : Nat} {xs : Nat → Int32} {i : Int32} (hll : l.stackTraces = false) (B : LL G A A1 A2 o1 o2 p s m args meth c rt) (hX : va_X b L xs s s.heap) (hbl : b < s.heap.size) (hbA : ¬ A b) (hi : INX i L) (I : INV st ms) (hW : LW G A A1 A2 am o1 o2 s ad st ms f g H) (hS : va_S A s.heap H locs) (hl : lv_has ls 9 [(0, .ref b), (1, .ref (ad 0 0)), (2, .ref (am 0)), (3, .ref o1), (4, .ref o2), (5, .int i)]) (hc : cells + 11 ≤ room_1.cells) (hs : slots + 248 ≤ room_1.slots)
    (kk : KK p l e s m args below meth c Q G A A1 A2 am o1 o2 ad b i cells slots) : W p l e room_1 s m args below meth c H locs cells slots Q (F0 m 2248 ls []) := by
  have ⟨⟨hx, hb, hr, hml, hown, hT, hlocks, hK⟩, hNC, hLR, hA⟩ := B
  refine lv_aload_n hx hb dL_law_2248 rfl (lv_at hl 1 rfl) ?_
  obtain ⟨r, st2, ms2, e5, e6, I2⟩ := ag_days I
  refine ll_xV B hW hS [] (n := 0) (v := .int r) (c_X5_days hll e5) wm_RL_264 wi_yX5_days ws_yX5_days wc_yX5_days rfl rfl (by decide +kernel) ⟨Nat.le_of_ble_eq_true rfl, Nat.le_of_ble_eq_true rfl⟩ ⟨by omega, by omega⟩ rfl hl.1 (Nat.le_of_ble_eq_true rfl) rfl dL_law_2249 (fun H locs hW hS => ?_)
  refine lv_aload_n hx hb dL_law_2252 rfl (lv_at hl 2 rfl) ?_
  refine ll_mV B hW hS [] (n := 0) (v := .int r) (c_X6_days e6) wm_RL_267 wi_yX6_days ws_yX6_days wc_yX6_days rfl rfl (by decide +kernel) ⟨Nat.le_of_ble_eq_true rfl, Nat.le_of_ble_eq_true rfl⟩ ⟨by omega, by omega⟩ rfl hl.1 (Nat.le_of_ble_eq_true rfl) rfl dL_law_2253 (fun H locs hW hS => ?_)
  refine lv_icmp_eq (tgt := 2507) hx hb dL_law_2256 (by decide) (fun c1 => ?_) (fun c1 => absurd rfl c1)
  exact W.widen (by omega) (by omega) (kk _ _ _ _ _ _ _ _ AE.rf I2 hW hS (lv_sub hl [0, 1, 2, 3, 4, 5] rfl))
set_option maxHeartbeats 4000000 in
set_option maxRecDepth 100000 in
theorem k_orders {p : Program} {l : Launch} {e : Env} {s : State} {m : MethodId} {args : Array Value} {below : List Frame} {meth : Method} {c : Code} {H : Heap} {locs : List Loc} {cells slots : Nat} {Q : State → Prop} {ls : Array Slot} {G : GG} {A A1 A2 : Nat → Prop} {am : Nat → Nat} {o1 o2 : Nat} {ad : AD} {st : XS} {ms : MS} {f : Nat → Int64} {g : Nat → UInt64} {rt : Option FieldType} {b L : Nat} {xs : Nat → Int32} {i : Int32} (hll : l.stackTraces = false) (B : LL G A A1 A2 o1 o2 p s m args meth c rt) (hX : va_X b L xs s s.heap) (hbl : b < s.heap.size) (hbA : ¬ A b) (hi : INX i L) (I : INV st ms) (hW : LW G A A1 A2 am o1 o2 s ad st ms f g H) (hS : va_S A s.heap H locs) (hl : lv_has ls 9 [(0, .ref b), (1, .ref (ad 0 0)), (2, .ref (am 0)), (3, .ref o1), (4, .ref o2), (5, .int i)]) (hc : cells + 11 ≤ room_1.cells) (hs : slots + 248 ≤ room_1.slots)
    (kk : KK p l e s m args below meth c Q G A A1 A2 am o1 o2 ad b i cells slots) : W p l e room_1 s m args below meth c H locs cells slots Q (F0 m 2261 ls []) := by
  have ⟨⟨hx, hb, hr, hml, hown, hT, hlocks, hK⟩, hNC, hLR, hA⟩ := B
  refine lv_aload_n hx hb dL_law_2261 rfl (lv_at hl 1 rfl) ?_
  refine lv_aload_n hx hb dL_law_2262 rfl (lv_at hl 3 rfl) ?_
  obtain ⟨r, st2, b9, ms2, e5, e6, I2, hk5, ht5, hv5⟩ := ag_orders I
  refine ll_wI B hW hS [.ref (ad 0 0), .ref o1] (n := 2) (c_L_orders hll e5 hk5) wm_RL_268 wt_yL_orders rfl wc_yL_orders rfl rfl (by decide +kernel) ⟨Nat.le_of_ble_eq_true rfl, Nat.le_of_ble_eq_true rfl⟩ ⟨by omega, by omega⟩ rfl hl.1 (Nat.le_of_ble_eq_true rfl) rfl dL_law_2263 (fun ad2 H locs hae hW hS => ?_)
  refine lv_istore (lv' := [(6, .int (lwc [1] r)), (0, .ref b), (1, .ref (ad 0 0)), (2, .ref (am 0)), (3, .ref o1), (4, .ref o2), (5, .int i)]) hx hb dL_law_2266 hl (by decide) rfl (fun ls hl => ?_)
  refine lv_aload_n hx hb dL_law_2268 rfl (lv_at hl 3 rfl) ?_
  refine ll_mV B hW hS [] (n := 0) (v := .int b9) (c_X6_orders e6) wm_RL_271 wi_yX6_orders ws_yX6_orders wc_yX6_orders rfl rfl (by decide +kernel) ⟨Nat.le_of_ble_eq_true rfl, Nat.le_of_ble_eq_true rfl⟩ ⟨by omega, by omega⟩ rfl hl.1 (Nat.le_of_ble_eq_true rfl) rfl dL_law_2269 (fun H locs hW hS => ?_)
  refine lv_istore (lv' := [(7, .int b9), (6, .int (lwc [1] r)), (0, .ref b), (1, .ref (ad 0 0)), (2, .ref (am 0)), (3, .ref o1), (4, .ref o2), (5, .int i)]) hx hb dL_law_2272 hl (by decide) rfl (fun ls hl => ?_)
  refine lv_aload_n hx hb dL_law_2274 rfl (lv_at hl 4 rfl) ?_
  refine ll_mV B hW hS [] (n := 0) (v := .int (ms2.1 0)) (c_X6_thrown (st := ms2) rfl) wm_RL_144 wi_yX6_thrown ws_yX6_thrown wc_yX6_thrown rfl rfl (by decide +kernel) ⟨Nat.le_of_ble_eq_true rfl, Nat.le_of_ble_eq_true rfl⟩ ⟨by omega, by omega⟩ rfl hl.1 (Nat.le_of_ble_eq_true rfl) rfl dL_law_2275 (fun H locs hW hS => ?_)
  refine lv_iload hx hb dL_law_2278 (lv_at hl 1 rfl) ?_
  refine lv_icmp_eq (tgt := 2285) hx hb dL_law_2280 (by decide) (fun c1 => ?_) (fun c1 => absurd ht5 c1)
  refine lv_iload hx hb dL_law_2285 (lv_at hl 1 rfl) ?_
  refine lv_if_ne (tgt := 2302) hx hb dL_law_2287 (by decide) (fun c2 => ?_) (fun c2 => ?_)
  · skip
    refine lv_goto (tgt := 2507) hx hb dL_law_2302 (by decide) ?_
    exact W.widen (by omega) (by omega) (kk _ _ _ _ _ _ _ _ hae I2 hW hS (lv_sub hl [2, 3, 4, 5, 6, 7] rfl))
  · obtain ⟨x9, rfl⟩ := lwc_0 c2
    obtain rfl := hv5 x9 rfl
    refine lv_aload_n hx hb dL_law_2290 rfl (lv_at hl 5 rfl) ?_
    refine lv_iconst (v := 0) hx hb dL_law_2291 (by decide) ?_
    refine ll_lald B hW dL_law_2292 ?_
    rw [louI_0]
    refine lv_iload hx hb dL_law_2293 (lv_at hl 0 rfl) ?_
    refine lv_i2l hx hb dL_law_2295 rfl ?_
    refine W.lcmp hx hb dL_law_2296 ?_
    refine lv_if_eq (tgt := 2302) hx hb dL_law_2297 (by decide) (fun c3 => ?_) (fun c3 => absurd (lg_cmp_self _) c3)
    refine lv_goto (tgt := 2507) hx hb dL_law_2302 (by decide) ?_
    exact W.widen (by omega) (by omega) (kk _ _ _ _ _ _ _ _ hae I2 hW hS (lv_sub hl [2, 3, 4, 5, 6, 7] rfl))
set_option maxHeartbeats 4000000 in
set_option maxRecDepth 100000 in
theorem k_best {p : Program} {l : Launch} {e : Env} {s : State} {m : MethodId} {args : Array Value} {below : List Frame} {meth : Method} {c : Code} {H : Heap} {locs : List Loc} {cells slots : Nat} {Q : State → Prop} {ls : Array Slot} {G : GG} {A A1 A2 : Nat → Prop} {am : Nat → Nat} {o1 o2 : Nat} {ad : AD} {st : XS} {ms : MS} {f : Nat → Int64} {g : Nat → UInt64} {rt : Option FieldType} {b L : Nat} {xs : Nat → Int32} {i : Int32} (hll : l.stackTraces = false) (B : LL G A A1 A2 o1 o2 p s m args meth c rt) (hX : va_X b L xs s s.heap) (hbl : b < s.heap.size) (hbA : ¬ A b) (hi : INX i L) (I : INV st ms) (hW : LW G A A1 A2 am o1 o2 s ad st ms f g H) (hS : va_S A s.heap H locs) (hl : lv_has ls 9 [(0, .ref b), (1, .ref (ad 0 0)), (2, .ref (am 0)), (3, .ref o1), (4, .ref o2), (5, .int i)]) (hc : cells + 11 ≤ room_1.cells) (hs : slots + 248 ≤ room_1.slots)
    (kk : KK p l e s m args below meth c Q G A A1 A2 am o1 o2 ad b i cells slots) : W p l e room_1 s m args below meth c H locs cells slots Q (F0 m 2305 ls []) := by
  have ⟨⟨hx, hb, hr, hml, hown, hT, hlocks, hK⟩, hNC, hLR, hA⟩ := B
  refine lv_aload_n hx hb dL_law_2305 rfl (lv_at hl 1 rfl) ?_
  refine lv_aload_n hx hb dL_law_2306 rfl (lv_at hl 3 rfl) ?_
  obtain ⟨r, st2, b9, ms2, e5, e6, I2, hk5, ht5, hv5⟩ := ag_best I
  refine ll_wI B hW hS [.ref (ad 0 0), .ref o1] (n := 2) (c_L_best hll e5 hk5) wm_RL_272 wt_yL_best rfl wc_yL_best rfl rfl (by decide +kernel) ⟨Nat.le_of_ble_eq_true rfl, Nat.le_of_ble_eq_true rfl⟩ ⟨by omega, by omega⟩ rfl hl.1 (Nat.le_of_ble_eq_true rfl) rfl dL_law_2307 (fun ad2 H locs hae hW hS => ?_)
  refine lv_istore (lv' := [(6, .int (lwc [1] r)), (0, .ref b), (1, .ref (ad 0 0)), (2, .ref (am 0)), (3, .ref o1), (4, .ref o2), (5, .int i)]) hx hb dL_law_2310 hl (by decide) rfl (fun ls hl => ?_)
  refine lv_aload_n hx hb dL_law_2312 rfl (lv_at hl 3 rfl) ?_
  refine ll_mV B hW hS [] (n := 0) (v := .int b9) (c_X6_best e6) wm_RL_274 wi_yX6_best ws_yX6_best wc_yX6_best rfl rfl (by decide +kernel) ⟨Nat.le_of_ble_eq_true rfl, Nat.le_of_ble_eq_true rfl⟩ ⟨by omega, by omega⟩ rfl hl.1 (Nat.le_of_ble_eq_true rfl) rfl dL_law_2313 (fun H locs hW hS => ?_)
  refine lv_istore (lv' := [(7, .int b9), (6, .int (lwc [1] r)), (0, .ref b), (1, .ref (ad 0 0)), (2, .ref (am 0)), (3, .ref o1), (4, .ref o2), (5, .int i)]) hx hb dL_law_2316 hl (by decide) rfl (fun ls hl => ?_)
  refine lv_aload_n hx hb dL_law_2318 rfl (lv_at hl 4 rfl) ?_
  refine ll_mV B hW hS [] (n := 0) (v := .int (ms2.1 0)) (c_X6_thrown (st := ms2) rfl) wm_RL_144 wi_yX6_thrown ws_yX6_thrown wc_yX6_thrown rfl rfl (by decide +kernel) ⟨Nat.le_of_ble_eq_true rfl, Nat.le_of_ble_eq_true rfl⟩ ⟨by omega, by omega⟩ rfl hl.1 (Nat.le_of_ble_eq_true rfl) rfl dL_law_2319 (fun H locs hW hS => ?_)
  refine lv_iload hx hb dL_law_2322 (lv_at hl 1 rfl) ?_
  refine lv_icmp_eq (tgt := 2329) hx hb dL_law_2324 (by decide) (fun c1 => ?_) (fun c1 => absurd ht5 c1)
  refine lv_iload hx hb dL_law_2329 (lv_at hl 1 rfl) ?_
  refine lv_if_ne (tgt := 2346) hx hb dL_law_2331 (by decide) (fun c2 => ?_) (fun c2 => ?_)
  · skip
    refine lv_goto (tgt := 2507) hx hb dL_law_2346 (by decide) ?_
    exact W.widen (by omega) (by omega) (kk _ _ _ _ _ _ _ _ hae I2 hW hS (lv_sub hl [2, 3, 4, 5, 6, 7] rfl))
  · obtain ⟨x9, rfl⟩ := lwc_0 c2
    obtain rfl := hv5 x9 rfl
    refine lv_aload_n hx hb dL_law_2334 rfl (lv_at hl 5 rfl) ?_
    refine lv_iconst (v := 0) hx hb dL_law_2335 (by decide) ?_
    refine ll_lald B hW dL_law_2336 ?_
    rw [louI_0]
    refine lv_iload hx hb dL_law_2337 (lv_at hl 0 rfl) ?_
    refine lv_i2l hx hb dL_law_2339 rfl ?_
    refine W.lcmp hx hb dL_law_2340 ?_
    refine lv_if_eq (tgt := 2346) hx hb dL_law_2341 (by decide) (fun c3 => ?_) (fun c3 => absurd (lg_cmp_self _) c3)
    refine lv_goto (tgt := 2507) hx hb dL_law_2346 (by decide) ?_
    exact W.widen (by omega) (by omega) (kk _ _ _ _ _ _ _ _ hae I2 hW hS (lv_sub hl [2, 3, 4, 5, 6, 7] rfl))
set_option maxHeartbeats 4000000 in
set_option maxRecDepth 100000 in
theorem k_checksum {p : Program} {l : Launch} {e : Env} {s : State} {m : MethodId} {args : Array Value} {below : List Frame} {meth : Method} {c : Code} {H : Heap} {locs : List Loc} {cells slots : Nat} {Q : State → Prop} {ls : Array Slot} {G : GG} {A A1 A2 : Nat → Prop} {am : Nat → Nat} {o1 o2 : Nat} {ad : AD} {st : XS} {ms : MS} {f : Nat → Int64} {g : Nat → UInt64} {rt : Option FieldType} {b L : Nat} {xs : Nat → Int32} {i : Int32} (hll : l.stackTraces = false) (B : LL G A A1 A2 o1 o2 p s m args meth c rt) (hX : va_X b L xs s s.heap) (hbl : b < s.heap.size) (hbA : ¬ A b) (hi : INX i L) (I : INV st ms) (hW : LW G A A1 A2 am o1 o2 s ad st ms f g H) (hS : va_S A s.heap H locs) (hl : lv_has ls 9 [(0, .ref b), (1, .ref (ad 0 0)), (2, .ref (am 0)), (3, .ref o1), (4, .ref o2), (5, .int i)]) (hc : cells + 11 ≤ room_1.cells) (hs : slots + 248 ≤ room_1.slots)
    (kk : KK p l e s m args below meth c Q G A A1 A2 am o1 o2 ad b i cells slots) : W p l e room_1 s m args below meth c H locs cells slots Q (F0 m 2349 ls []) := by
  have ⟨⟨hx, hb, hr, hml, hown, hT, hlocks, hK⟩, hNC, hLR, hA⟩ := B
  refine lv_aload_n hx hb dL_law_2349 rfl (lv_at hl 1 rfl) ?_
  obtain ⟨r, st2, ms2, e5, e6, I2⟩ := ag_checksum I
  refine ll_xV B hW hS [] (n := 0) (v := .long r) (c_X5_checksum hll e5) wm_RL_275 wi_yX5_checksum ws_yX5_checksum wc_yX5_checksum rfl rfl (by decide +kernel) ⟨Nat.le_of_ble_eq_true rfl, Nat.le_of_ble_eq_true rfl⟩ ⟨by omega, by omega⟩ rfl hl.1 (Nat.le_of_ble_eq_true rfl) rfl dL_law_2350 (fun H locs hW hS => ?_)
  refine lv_aload_n hx hb dL_law_2353 rfl (lv_at hl 2 rfl) ?_
  refine ll_mV B hW hS [] (n := 0) (v := .long r) (c_X6_checksum e6) wm_RL_279 wi_yX6_checksum ws_yX6_checksum wc_yX6_checksum rfl rfl (by decide +kernel) ⟨Nat.le_of_ble_eq_true rfl, Nat.le_of_ble_eq_true rfl⟩ ⟨by omega, by omega⟩ rfl hl.1 (Nat.le_of_ble_eq_true rfl) rfl dL_law_2354 (fun H locs hW hS => ?_)
  refine W.lcmp hx hb dL_law_2357 ?_
  refine lv_if_eq (tgt := 2507) hx hb dL_law_2358 (by decide) (fun c3 => ?_) (fun c3 => absurd (lg_cmp_self _) c3)
  exact W.widen (by omega) (by omega) (kk _ _ _ _ _ _ _ _ AE.rf I2 hW hS (lv_sub hl [0, 1, 2, 3, 4, 5] rfl))
set_option maxHeartbeats 4000000 in
set_option maxRecDepth 100000 in
theorem k_brokenShare {p : Program} {l : Launch} {e : Env} {s : State} {m : MethodId} {args : Array Value} {below : List Frame} {meth : Method} {c : Code} {H : Heap} {locs : List Loc} {cells slots : Nat} {Q : State → Prop} {ls : Array Slot} {G : GG} {A A1 A2 : Nat → Prop} {am : Nat → Nat} {o1 o2 : Nat} {ad : AD} {st : XS} {ms : MS} {f : Nat → Int64} {g : Nat → UInt64} {rt : Option FieldType} {b L : Nat} {xs : Nat → Int32} {i : Int32} (hll : l.stackTraces = false) (B : LL G A A1 A2 o1 o2 p s m args meth c rt) (hX : va_X b L xs s s.heap) (hbl : b < s.heap.size) (hbA : ¬ A b) (hi : INX i L) (I : INV st ms) (hW : LW G A A1 A2 am o1 o2 s ad st ms f g H) (hS : va_S A s.heap H locs) (hl : lv_has ls 9 [(0, .ref b), (1, .ref (ad 0 0)), (2, .ref (am 0)), (3, .ref o1), (4, .ref o2), (5, .int i)]) (hc : cells + 11 ≤ room_1.cells) (hs : slots + 248 ≤ room_1.slots)
    (kk : KK p l e s m args below meth c Q G A A1 A2 am o1 o2 ad b i cells slots) : W p l e room_1 s m args below meth c H locs cells slots Q (F0 m 2363 ls []) := by
  have ⟨⟨hx, hb, hr, hml, hown, hT, hlocks, hK⟩, hNC, hLR, hA⟩ := B
  refine lv_aload_n hx hb dL_law_2363 rfl (lv_at hl 1 rfl) ?_
  refine lv_aload hx hb dL_law_2364 (lv_at hl 4 rfl) ?_
  obtain ⟨r, st2, b9, ms2, e5, e6, I2, hk5, ht5, hv5⟩ := ag_brokenShare I
  refine ll_wD B hW hS [.ref (ad 0 0), .ref o2] (n := 2) (c_L_brokenShare hll e5 hk5 (fun x hx => (hv5 x hx).2)) wm_RL_280 wt_yL_brokenShare rfl wc_yL_brokenShare rfl rfl (by decide +kernel) ⟨Nat.le_of_ble_eq_true rfl, Nat.le_of_ble_eq_true rfl⟩ ⟨by omega, by omega⟩ rfl hl.1 (Nat.le_of_ble_eq_true rfl) rfl dL_law_2366 (fun ad2 H locs hae hW hS => ?_)
  refine lv_istore (lv' := [(6, .int (lwc [4] r)), (0, .ref b), (1, .ref (ad 0 0)), (2, .ref (am 0)), (3, .ref o1), (4, .ref o2), (5, .int i)]) hx hb dL_law_2369 hl (by decide) rfl (fun ls hl => ?_)
  refine lv_aload_n hx hb dL_law_2371 rfl (lv_at hl 3 rfl) ?_
  refine ll_mV B hW hS [] (n := 0) (v := .float b9) (c_X6_brokenShare e6) wm_RL_283 wi_yX6_brokenShare ws_yX6_brokenShare wc_yX6_brokenShare rfl rfl (by decide +kernel) ⟨Nat.le_of_ble_eq_true rfl, Nat.le_of_ble_eq_true rfl⟩ ⟨by omega, by omega⟩ rfl hl.1 (Nat.le_of_ble_eq_true rfl) rfl dL_law_2372 (fun H locs hW hS => ?_)
  refine lv_fstore (lv' := [(7, .float b9), (6, .int (lwc [4] r)), (0, .ref b), (1, .ref (ad 0 0)), (2, .ref (am 0)), (3, .ref o1), (4, .ref o2), (5, .int i)]) hx hb dL_law_2375 hl (by decide) rfl (fun ls hl => ?_)
  refine lv_aload_n hx hb dL_law_2377 rfl (lv_at hl 4 rfl) ?_
  refine ll_mV B hW hS [] (n := 0) (v := .int (ms2.1 0)) (c_X6_thrown (st := ms2) rfl) wm_RL_144 wi_yX6_thrown ws_yX6_thrown wc_yX6_thrown rfl rfl (by decide +kernel) ⟨Nat.le_of_ble_eq_true rfl, Nat.le_of_ble_eq_true rfl⟩ ⟨by omega, by omega⟩ rfl hl.1 (Nat.le_of_ble_eq_true rfl) rfl dL_law_2378 (fun H locs hW hS => ?_)
  refine lv_iload hx hb dL_law_2381 (lv_at hl 1 rfl) ?_
  refine lv_icmp_eq (tgt := 2388) hx hb dL_law_2383 (by decide) (fun c1 => ?_) (fun c1 => absurd ht5 c1)
  refine lv_iload hx hb dL_law_2388 (lv_at hl 1 rfl) ?_
  refine lv_if_ne (tgt := 2426) hx hb dL_law_2390 (by decide) (fun c2 => ?_) (fun c2 => ?_)
  · skip
    refine lv_goto (tgt := 2507) hx hb dL_law_2426 (by decide) ?_
    exact W.widen (by omega) (by omega) (kk _ _ _ _ _ _ _ _ hae I2 hW hS (lv_sub hl [2, 3, 4, 5, 6, 7] rfl))
  · obtain ⟨x9, rfl⟩ := lwc_0 c2
    obtain ⟨rfl, hv6⟩ := hv5 x9 rfl
    refine lv_aload hx hb dL_law_2393 (lv_at hl 6 rfl) ?_
    refine lv_iconst (v := 0) hx hb dL_law_2395 (by decide) ?_
    refine ll_dald B hW dL_law_2396 ?_
    rw [louF_0]
    refine lv_fload hx hb dL_law_2397 (lv_at hl 0 rfl) ?_
    refine lv_f2d hx hb dL_law_2399 (hv5 _ rfl).2 ?_
    refine lv_dcmp hx hb dL_law_2400 ?_
    refine lv_if_eq (tgt := 2426) hx hb dL_law_2401 (by decide) (fun c3 => ?_) (fun c3 => absurd (dcmp_self hv6) c3)
    refine lv_goto (tgt := 2507) hx hb dL_law_2426 (by decide) ?_
    exact W.widen (by omega) (by omega) (kk _ _ _ _ _ _ _ _ hae I2 hW hS (lv_sub hl [2, 3, 4, 5, 6, 7] rfl))
set_option maxHeartbeats 4000000 in
set_option maxRecDepth 100000 in
theorem k_meanLength {p : Program} {l : Launch} {e : Env} {s : State} {m : MethodId} {args : Array Value} {below : List Frame} {meth : Method} {c : Code} {H : Heap} {locs : List Loc} {cells slots : Nat} {Q : State → Prop} {ls : Array Slot} {G : GG} {A A1 A2 : Nat → Prop} {am : Nat → Nat} {o1 o2 : Nat} {ad : AD} {st : XS} {ms : MS} {f : Nat → Int64} {g : Nat → UInt64} {rt : Option FieldType} {b L : Nat} {xs : Nat → Int32} {i : Int32} (hll : l.stackTraces = false) (B : LL G A A1 A2 o1 o2 p s m args meth c rt) (hX : va_X b L xs s s.heap) (hbl : b < s.heap.size) (hbA : ¬ A b) (hi : INX i L) (I : INV st ms) (hW : LW G A A1 A2 am o1 o2 s ad st ms f g H) (hS : va_S A s.heap H locs) (hl : lv_has ls 9 [(0, .ref b), (1, .ref (ad 0 0)), (2, .ref (am 0)), (3, .ref o1), (4, .ref o2), (5, .int i)]) (hc : cells + 11 ≤ room_1.cells) (hs : slots + 248 ≤ room_1.slots)
    (kk : KK p l e s m args below meth c Q G A A1 A2 am o1 o2 ad b i cells slots) : W p l e room_1 s m args below meth c H locs cells slots Q (F0 m 2429 ls []) := by
  have ⟨⟨hx, hb, hr, hml, hown, hT, hlocks, hK⟩, hNC, hLR, hA⟩ := B
  refine lv_aload_n hx hb dL_law_2429 rfl (lv_at hl 1 rfl) ?_
  refine lv_aload hx hb dL_law_2430 (lv_at hl 4 rfl) ?_
  obtain ⟨r, st2, b9, ms2, e5, e6, I2, hk5, ht5, hv5⟩ := ag_meanLength I
  refine ll_wD B hW hS [.ref (ad 0 0), .ref o2] (n := 2) (c_L_meanLength hll e5 hk5) wm_RL_284 wt_yL_meanLength rfl wc_yL_meanLength rfl rfl (by decide +kernel) ⟨Nat.le_of_ble_eq_true rfl, Nat.le_of_ble_eq_true rfl⟩ ⟨by omega, by omega⟩ rfl hl.1 (Nat.le_of_ble_eq_true rfl) rfl dL_law_2432 (fun ad2 H locs hae hW hS => ?_)
  refine lv_istore (lv' := [(6, .int (lwc [4] r)), (0, .ref b), (1, .ref (ad 0 0)), (2, .ref (am 0)), (3, .ref o1), (4, .ref o2), (5, .int i)]) hx hb dL_law_2435 hl (by decide) rfl (fun ls hl => ?_)
  refine lv_aload_n hx hb dL_law_2437 rfl (lv_at hl 3 rfl) ?_
  refine ll_mV B hW hS [] (n := 0) (v := .double b9) (c_X6_meanLength e6) wm_RL_286 wi_yX6_meanLength ws_yX6_meanLength wc_yX6_meanLength rfl rfl (by decide +kernel) ⟨Nat.le_of_ble_eq_true rfl, Nat.le_of_ble_eq_true rfl⟩ ⟨by omega, by omega⟩ rfl hl.1 (Nat.le_of_ble_eq_true rfl) rfl dL_law_2438 (fun H locs hW hS => ?_)
  refine lv_dstore (lv' := [(7, .double b9), (6, .int (lwc [4] r)), (0, .ref b), (1, .ref (ad 0 0)), (2, .ref (am 0)), (3, .ref o1), (4, .ref o2), (5, .int i)]) hx hb dL_law_2441 hl (by decide) rfl (fun ls hl => ?_)
  refine lv_aload_n hx hb dL_law_2443 rfl (lv_at hl 4 rfl) ?_
  refine ll_mV B hW hS [] (n := 0) (v := .int (ms2.1 0)) (c_X6_thrown (st := ms2) rfl) wm_RL_144 wi_yX6_thrown ws_yX6_thrown wc_yX6_thrown rfl rfl (by decide +kernel) ⟨Nat.le_of_ble_eq_true rfl, Nat.le_of_ble_eq_true rfl⟩ ⟨by omega, by omega⟩ rfl hl.1 (Nat.le_of_ble_eq_true rfl) rfl dL_law_2444 (fun H locs hW hS => ?_)
  refine lv_iload hx hb dL_law_2447 (lv_at hl 1 rfl) ?_
  refine lv_icmp_eq (tgt := 2454) hx hb dL_law_2449 (by decide) (fun c1 => ?_) (fun c1 => absurd ht5 c1)
  refine lv_iload hx hb dL_law_2454 (lv_at hl 1 rfl) ?_
  refine lv_if_ne (tgt := 2491) hx hb dL_law_2456 (by decide) (fun c2 => ?_) (fun c2 => ?_)
  · skip
    refine lv_goto (tgt := 2507) hx hb dL_law_2491 (by decide) ?_
    exact W.widen (by omega) (by omega) (kk _ _ _ _ _ _ _ _ hae I2 hW hS (lv_sub hl [2, 3, 4, 5, 6, 7] rfl))
  · obtain ⟨x9, rfl⟩ := lwc_0 c2
    obtain ⟨rfl, hv6⟩ := hv5 x9 rfl
    refine lv_aload hx hb dL_law_2459 (lv_at hl 6 rfl) ?_
    refine lv_iconst (v := 0) hx hb dL_law_2461 (by decide) ?_
    refine ll_dald B hW dL_law_2462 ?_
    rw [louD_0]
    refine lv_dload hx hb dL_law_2463 (lv_at hl 0 rfl) ?_
    refine lv_dcmp hx hb dL_law_2465 ?_
    refine lv_if_eq (tgt := 2491) hx hb dL_law_2466 (by decide) (fun c3 => ?_) (fun c3 => absurd (dcmp_self hv6) c3)
    refine lv_goto (tgt := 2507) hx hb dL_law_2491 (by decide) ?_
    exact W.widen (by omega) (by omega) (kk _ _ _ _ _ _ _ _ hae I2 hW hS (lv_sub hl [2, 3, 4, 5, 6, 7] rfl))
set_option maxHeartbeats 4000000 in
set_option maxRecDepth 100000 in
theorem k_isSound {p : Program} {l : Launch} {e : Env} {s : State} {m : MethodId} {args : Array Value} {below : List Frame} {meth : Method} {c : Code} {H : Heap} {locs : List Loc} {cells slots : Nat} {Q : State → Prop} {ls : Array Slot} {G : GG} {A A1 A2 : Nat → Prop} {am : Nat → Nat} {o1 o2 : Nat} {ad : AD} {st : XS} {ms : MS} {f : Nat → Int64} {g : Nat → UInt64} {rt : Option FieldType} {b L : Nat} {xs : Nat → Int32} {i : Int32} (hll : l.stackTraces = false) (B : LL G A A1 A2 o1 o2 p s m args meth c rt) (hX : va_X b L xs s s.heap) (hbl : b < s.heap.size) (hbA : ¬ A b) (hi : INX i L) (I : INV st ms) (hW : LW G A A1 A2 am o1 o2 s ad st ms f g H) (hS : va_S A s.heap H locs) (hl : lv_has ls 9 [(0, .ref b), (1, .ref (ad 0 0)), (2, .ref (am 0)), (3, .ref o1), (4, .ref o2), (5, .int i)]) (hc : cells + 11 ≤ room_1.cells) (hs : slots + 248 ≤ room_1.slots)
    (kk : KK p l e s m args below meth c Q G A A1 A2 am o1 o2 ad b i cells slots) : W p l e room_1 s m args below meth c H locs cells slots Q (F0 m 2494 ls []) := by
  have ⟨⟨hx, hb, hr, hml, hown, hT, hlocks, hK⟩, hNC, hLR, hA⟩ := B
  refine lv_aload_n hx hb dL_law_2494 rfl (lv_at hl 1 rfl) ?_
  obtain ⟨r, st2, ms2, e5, e6, I2⟩ := ag_isSound I
  refine ll_xV B hW hS [] (n := 0) (v := .int r) (c_X5_isSound hll e5) wm_RL_287 wi_yX5_isSound ws_yX5_isSound wc_yX5_isSound rfl rfl (by decide +kernel) ⟨Nat.le_of_ble_eq_true rfl, Nat.le_of_ble_eq_true rfl⟩ ⟨by omega, by omega⟩ rfl hl.1 (Nat.le_of_ble_eq_true rfl) rfl dL_law_2495 (fun H locs hW hS => ?_)
  refine lv_aload_n hx hb dL_law_2498 rfl (lv_at hl 2 rfl) ?_
  refine ll_mV B hW hS [] (n := 0) (v := .int r) (c_X6_isSound e6) wm_RL_290 wi_yX6_isSound ws_yX6_isSound wc_yX6_isSound rfl rfl (by decide +kernel) ⟨Nat.le_of_ble_eq_true rfl, Nat.le_of_ble_eq_true rfl⟩ ⟨by omega, by omega⟩ rfl hl.1 (Nat.le_of_ble_eq_true rfl) rfl dL_law_2499 (fun H locs hW hS => ?_)
  refine lv_icmp_eq (tgt := 2507) hx hb dL_law_2502 (by decide) (fun c1 => ?_) (fun c1 => absurd rfl c1)
  exact W.widen (by omega) (by omega) (kk _ _ _ _ _ _ _ _ AE.rf I2 hW hS (lv_sub hl [0, 1, 2, 3, 4, 5] rfl))
