/-! The law's loop. -/
set_option maxHeartbeats 4000000 in
set_option maxRecDepth 100000 in
theorem law_sw {p : Program} {l : Launch} {e : Env} {s : State} {m : MethodId} {args : Array Value} {below : List Frame} {meth : Method} {c : Code} {H : Heap} {locs : List Loc} {cells slots : Nat} {Q : State → Prop} {ls : Array Slot} {G : GG} {A A1 A2 : Nat → Prop} {am : Nat → Nat} {o1 o2 : Nat} {ad : AD} {st : XS} {ms : MS} {f : Nat → Int64} {g : Nat → UInt64} {rt : Option FieldType} {b L : Nat} {xs : Nat → Int32} {i : Int32} {x : Int32} (hll : l.stackTraces = false) (B : LL G A A1 A2 o1 o2 p s m args meth c rt) (hX : va_X b L xs s s.heap) (hbl : b < s.heap.size) (hbA : ¬ A b) (hi : INX i L) (I : INV st ms) (hW : LW G A A1 A2 am o1 o2 s ad st ms f g H) (hS : va_S A s.heap H locs) (hl : lv_has ls 9 [(0, .ref b), (1, .ref (ad 0 0)), (2, .ref (am 0)), (3, .ref o1), (4, .ref o2), (5, .int i)]) (hc : cells + 11 ≤ room_1.cells) (hs : slots + 248 ≤ room_1.slots)
    (kk : KK p l e s m args below meth c Q G A A1 A2 am o1 o2 ad b i cells slots) : W p l e room_1 s m args below meth c H locs cells slots Q (F0 m 44 ls [.int x]) := by
  have ⟨⟨hx, hb, hr, hml, hown, hT, hlocks, hK⟩, hNC, hLR, hA⟩ := B
  by_cases h1 : x.toInt < 0 ∨ 41 < x.toInt
  · refine lv_tableOut (tgt := 2507) hx hb dL_law_44 h1 (by decide) ?_
    exact W.widen (by omega) (by omega) (kk _ _ _ _ _ _ _ _ AE.rf I hW hS hl)
  · have h2 : ¬ x.toInt < 0 := fun h => h1 (Or.inl h)
    have h3 : ¬ 41 < x.toInt := fun h => h1 (Or.inr h)
    obtain ⟨k, hk, hk2⟩ : ∃ k : Nat, x.toInt = (k : Int) ∧ k < 42 := ⟨x.toInt.toNat, by omega, by omega⟩
    have hk3 : (x.toInt - 0).toNat = k := by omega
    rcases (show k = 0 ∨ k = 1 ∨ k = 2 ∨ k = 3 ∨ k = 4 ∨ k = 5 ∨ k = 6 ∨ k = 7 ∨ k = 8 ∨ k = 9 ∨ k = 10 ∨ k = 11 ∨ k = 12 ∨ k = 13 ∨ k = 14 ∨ k = 15 ∨ k = 16 ∨ k = 17 ∨ k = 18 ∨ k = 19 ∨ k = 20 ∨ k = 21 ∨ k = 22 ∨ k = 23 ∨ k = 24 ∨ k = 25 ∨ k = 26 ∨ k = 27 ∨ k = 28 ∨ k = 29 ∨ k = 30 ∨ k = 31 ∨ k = 32 ∨ k = 33 ∨ k = 34 ∨ k = 35 ∨ k = 36 ∨ k = 37 ∨ k = 38 ∨ k = 39 ∨ k = 40 ∨ k = 41 by omega) with rfl | rfl | rfl | rfl | rfl | rfl | rfl | rfl | rfl | rfl | rfl | rfl | rfl | rfl | rfl | rfl | rfl | rfl | rfl | rfl | rfl | rfl | rfl | rfl | rfl | rfl | rfl | rfl | rfl | rfl | rfl | rfl | rfl | rfl | rfl | rfl | rfl | rfl | rfl | rfl | rfl | rfl
    · refine lv_tableIn (off := 184) (tgt := 228) hx hb dL_law_44 h2 h3 (by rw [hk3]; rfl) (by decide) ?_
      exact k_shot hll B hX hbl hbA hi I hW hS hl hc hs kk
    · refine lv_tableIn (off := 278) (tgt := 322) hx hb dL_law_44 h2 h3 (by rw [hk3]; rfl) (by decide) ?_
      exact k_drop hll B hX hbl hbA hi I hW hS hl hc hs kk
    · refine lv_tableIn (off := 334) (tgt := 378) hx hb dL_law_44 h2 h3 (by rw [hk3]; rfl) (by decide) ?_
      exact k_move hll B hX hbl hbA hi I hW hS hl hc hs kk
    · refine lv_tableIn (off := 402) (tgt := 446) hx hb dL_law_44 h2 h3 (by rw [hk3]; rfl) (by decide) ?_
      exact k_shots hll B hX hbl hbA hi I hW hS hl hc hs kk
    · refine lv_tableIn (off := 415) (tgt := 459) hx hb dL_law_44 h2 h3 (by rw [hk3]; rfl) (by decide) ?_
      exact k_at hll B hX hbl hbA hi I hW hS hl hc hs kk
    · refine lv_tableIn (off := 471) (tgt := 515) hx hb dL_law_44 h2 h3 (by rw [hk3]; rfl) (by decide) ?_
      exact k_place hll B hX hbl hbA hi I hW hS hl hc hs kk
    · refine lv_tableIn (off := 527) (tgt := 571) hx hb dL_law_44 h2 h3 (by rw [hk3]; rfl) (by decide) ?_
      exact k_camera hll B hX hbl hbA hi I hW hS hl hc hs kk
    · refine lv_tableIn (off := 609) (tgt := 653) hx hb dL_law_44 h2 h3 (by rw [hk3]; rfl) (by decide) ?_
      exact k_length hll B hX hbl hbA hi I hW hS hl hc hs kk
    · refine lv_tableIn (off := 677) (tgt := 721) hx hb dL_law_44 h2 h3 (by rw [hk3]; rfl) (by decide) ?_
      exact k_stand hll B hX hbl hbA hi I hW hS hl hc hs kk
    · refine lv_tableIn (off := 773) (tgt := 817) hx hb dL_law_44 h2 h3 (by rw [hk3]; rfl) (by decide) ?_
      exact k_enters hll B hX hbl hbA hi I hW hS hl hc hs kk
    · refine lv_tableIn (off := 855) (tgt := 899) hx hb dL_law_44 h2 h3 (by rw [hk3]; rfl) (by decide) ?_
      exact k_leaves hll B hX hbl hbA hi I hW hS hl hc hs kk
    · refine lv_tableIn (off := 937) (tgt := 981) hx hb dL_law_44 h2 h3 (by rw [hk3]; rfl) (by decide) ?_
      exact k_version hll B hX hbl hbA hi I hW hS hl hc hs kk
    · refine lv_tableIn (off := 993) (tgt := 1037) hx hb dL_law_44 h2 h3 (by rw [hk3]; rfl) (by decide) ?_
      exact k_time hll B hX hbl hbA hi I hW hS hl hc hs kk
    · refine lv_tableIn (off := 1049) (tgt := 1093) hx hb dL_law_44 h2 h3 (by rw [hk3]; rfl) (by decide) ?_
      exact k_seen hll B hX hbl hbA hi I hW hS hl hc hs kk
    · refine lv_tableIn (off := 1105) (tgt := 1149) hx hb dL_law_44 h2 h3 (by rw [hk3]; rfl) (by decide) ?_
      exact k_ended hll B hX hbl hbA hi I hW hS hl hc hs kk
    · refine lv_tableIn (off := 1161) (tgt := 1205) hx hb dL_law_44 h2 h3 (by rw [hk3]; rfl) (by decide) ?_
      exact k_lock hll B hX hbl hbA hi I hW hS hl hc hs kk
    · refine lv_tableIn (off := 1174) (tgt := 1218) hx hb dL_law_44 h2 h3 (by rw [hk3]; rfl) (by decide) ?_
      exact k_number hll B hX hbl hbA hi I hW hS hl hc hs kk
    · refine lv_tableIn (off := 1230) (tgt := 1274) hx hb dL_law_44 h2 h3 (by rw [hk3]; rfl) (by decide) ?_
      exact k_letter hll B hX hbl hbA hi I hW hS hl hc hs kk
    · refine lv_tableIn (off := 1286) (tgt := 1330) hx hb dL_law_44 h2 h3 (by rw [hk3]; rfl) (by decide) ?_
      exact k_named hll B hX hbl hbA hi I hW hS hl hc hs kk
    · refine lv_tableIn (off := 1356) (tgt := 1400) hx hb dL_law_44 h2 h3 (by rw [hk3]; rfl) (by decide) ?_
      exact k_wrong hll B hX hbl hbA hi I hW hS hl hc hs kk
    · refine lv_tableIn (off := 1412) (tgt := 1456) hx hb dL_law_44 h2 h3 (by rw [hk3]; rfl) (by decide) ?_
      exact k_excuse hll B hX hbl hbA hi I hW hS hl hc hs kk
    · refine lv_tableIn (off := 1482) (tgt := 1526) hx hb dL_law_44 h2 h3 (by rw [hk3]; rfl) (by decide) ?_
      exact k_isBroken hll B hX hbl hbA hi I hW hS hl hc hs kk
    · refine lv_tableIn (off := 1545) (tgt := 1589) hx hb dL_law_44 h2 h3 (by rw [hk3]; rfl) (by decide) ?_
      exact k_broken hll B hX hbl hbA hi I hW hS hl hc hs kk
    · refine lv_tableIn (off := 1558) (tgt := 1602) hx hb dL_law_44 h2 h3 (by rw [hk3]; rfl) (by decide) ?_
      exact k_hand hll B hX hbl hbA hi I hW hS hl hc hs kk
    · refine lv_tableIn (off := 1626) (tgt := 1670) hx hb dL_law_44 h2 h3 (by rw [hk3]; rfl) (by decide) ?_
      exact k_bring hll B hX hbl hbA hi I hW hS hl hc hs kk
    · refine lv_tableIn (off := 1701) (tgt := 1745) hx hb dL_law_44 h2 h3 (by rw [hk3]; rfl) (by decide) ?_
      exact k_with hll B hX hbl hbA hi I hW hS hl hc hs kk
    · refine lv_tableIn (off := 1757) (tgt := 1801) hx hb dL_law_44 h2 h3 (by rw [hk3]; rfl) (by decide) ?_
      exact k_conflicts hll B hX hbl hbA hi I hW hS hl hc hs kk
    · refine lv_tableIn (off := 1770) (tgt := 1814) hx hb dL_law_44 h2 h3 (by rw [hk3]; rfl) (by decide) ?_
      exact k_note hll B hX hbl hbA hi I hW hS hl hc hs kk
    · refine lv_tableIn (off := 1826) (tgt := 1870) hx hb dL_law_44 h2 h3 (by rw [hk3]; rfl) (by decide) ?_
      exact k_noteIs hll B hX hbl hbA hi I hW hS hl hc hs kk
    · refine lv_tableIn (off := 1882) (tgt := 1926) hx hb dL_law_44 h2 h3 (by rw [hk3]; rfl) (by decide) ?_
      exact k_close hll B hX hbl hbA hi I hW hS hl hc hs kk
    · refine lv_tableIn (off := 1973) (tgt := 2017) hx hb dL_law_44 h2 h3 (by rw [hk3]; rfl) (by decide) ?_
      exact k_renew hll B hX hbl hbA hi I hW hS hl hc hs kk
    · refine lv_tableIn (off := 2029) (tgt := 2073) hx hb dL_law_44 h2 h3 (by rw [hk3]; rfl) (by decide) ?_
      exact k_notes hll B hX hbl hbA hi I hW hS hl hc hs kk
    · refine lv_tableIn (off := 2087) (tgt := 2131) hx hb dL_law_44 h2 h3 (by rw [hk3]; rfl) (by decide) ?_
      exact k_dear hll B hX hbl hbA hi I hW hS hl hc hs kk
    · refine lv_tableIn (off := 2178) (tgt := 2222) hx hb dL_law_44 h2 h3 (by rw [hk3]; rfl) (by decide) ?_
      exact k_setups hll B hX hbl hbA hi I hW hS hl hc hs kk
    · refine lv_tableIn (off := 2191) (tgt := 2235) hx hb dL_law_44 h2 h3 (by rw [hk3]; rfl) (by decide) ?_
      exact k_first hll B hX hbl hbA hi I hW hS hl hc hs kk
    · refine lv_tableIn (off := 2204) (tgt := 2248) hx hb dL_law_44 h2 h3 (by rw [hk3]; rfl) (by decide) ?_
      exact k_days hll B hX hbl hbA hi I hW hS hl hc hs kk
    · refine lv_tableIn (off := 2217) (tgt := 2261) hx hb dL_law_44 h2 h3 (by rw [hk3]; rfl) (by decide) ?_
      exact k_orders hll B hX hbl hbA hi I hW hS hl hc hs kk
    · refine lv_tableIn (off := 2261) (tgt := 2305) hx hb dL_law_44 h2 h3 (by rw [hk3]; rfl) (by decide) ?_
      exact k_best hll B hX hbl hbA hi I hW hS hl hc hs kk
    · refine lv_tableIn (off := 2305) (tgt := 2349) hx hb dL_law_44 h2 h3 (by rw [hk3]; rfl) (by decide) ?_
      exact k_checksum hll B hX hbl hbA hi I hW hS hl hc hs kk
    · refine lv_tableIn (off := 2319) (tgt := 2363) hx hb dL_law_44 h2 h3 (by rw [hk3]; rfl) (by decide) ?_
      exact k_brokenShare hll B hX hbl hbA hi I hW hS hl hc hs kk
    · refine lv_tableIn (off := 2385) (tgt := 2429) hx hb dL_law_44 h2 h3 (by rw [hk3]; rfl) (by decide) ?_
      exact k_meanLength hll B hX hbl hbA hi I hW hS hl hc hs kk
    · refine lv_tableIn (off := 2450) (tgt := 2494) hx hb dL_law_44 h2 h3 (by rw [hk3]; rfl) (by decide) ?_
      exact k_isSound hll B hX hbl hbA hi I hW hS hl hc hs kk
theorem li_5 {j L : Nat} (hL : L ≤ 2560) (hj : 5 * j ≤ L) : (Int32.ofNat L - 5 < nI (5 * j)) ↔ L < 5 * j + 5 := by
  have e1 : (nI (5 * j)).toInt = (5 * j : Nat) := nI_toInt (by omega)
  have e2 : (Int32.ofNat L).toInt = (L : Nat) := nI_toInt (n := L) (by omega)
  have e3 : (Int32.ofNat L - 5).toInt = (L : Int) - 5 := by
    rw [Int32.toInt_sub, e2]
    show ((L : Int) - 5).bmod (2 ^ 32) = _
    rw [Int.bmod_eq_of_le] <;> omega
  rw [Int32.lt_iff_toInt_lt, e1, e3]
  omega
theorem nI_5 (n k : Nat) : nI n + nI k = nI (n + k) := by
  unfold nI
  exact (Int32.ofNat_add n k).symm
set_option maxHeartbeats 4000000 in
set_option maxRecDepth 100000 in
theorem law_loop {p : Program} {e : Env} {s : State} {m : MethodId} {below : List Frame} {meth : Method} {c : Code} {G : GG} {A1 A2 : Nat → Prop} {am : Nat → Nat} {o1 o2 a0 b L : Nat} {xs : Nat → Int32} (l : Launch) (hll : l.stackTraces = false) (B : LL G (fun q : Nat => s.heap.size ≤ q) A1 A2 o1 o2 p s m #[Value.ref b] meth c ret) (hX : va_X b L xs s s.heap) (hbl : b < s.heap.size) (hL : L ≤ 2560) : ∀ (n j : Nat), L < 5 * (j + n) → 5 * j ≤ L → ∀ (ad : AD) (st : XS) (ms : MS) (f : Nat → Int64) (g : Nat → UInt64) (H : Heap) (locs : List Loc) (cells slots : Nat) (ls : Array Slot), ad 0 0 = a0 → INV st ms → LW G (fun q : Nat => s.heap.size ≤ q) A1 A2 am o1 o2 s ad st ms f g H → va_S (fun q : Nat => s.heap.size ≤ q) s.heap H locs → lv_has ls 9 [(0, .ref b), (1, .ref a0), (2, .ref (am 0)), (3, .ref o1), (4, .ref o2), (5, .int (nI (5 * j)))] → cells = 100 + 11 * j → slots = 3000 + 248 * j → W p l e room_1 s m #[Value.ref b] below meth c H locs cells slots (lw_Z below #[Value.ref b] s) (F0 m 28 ls []) := by
  have ⟨⟨hx, hb, hr, hml, hown, hT, hlocks, hK⟩, hNC, hLR, hA⟩ := B
  have hbA : ¬ (fun q : Nat => s.heap.size ≤ q) b := Nat.not_le.mpr hbl
  have r1 : room_1.cells = 601024 := rfl
  have r2 : room_1.slots = 7293034 := rfl
  intro n
  induction n with
  | zero => intro j h1 h2; omega
  | succ n ih =>
    intro j h1 h2 ad st ms f g H locs cells slots ls ha I hW hS hl hcs hss
    refine lv_iload hx hb dL_law_28 (lv_at hl 5 rfl) ?_
    refine lv_aload_n hx hb dL_law_30 rfl (lv_at hl 0 rfl) ?_
    refine va_slen hx hb hX hbl hbA hS dL_law_31 ?_
    refine lv_iconst (v := 5) hx hb dL_law_32 (by decide) ?_
    refine lv_isub hx hb dL_law_33 ?_
    refine lv_icmp_gt (tgt := 2513) hx hb dL_law_34 (by decide) (fun c1 => ?_) (fun c1 => ?_)
    · refine lv_iconst (v := 1) hx hb dL_law_2513 (by decide) ?_
      refine va_forget (fun q hq => hS.2.2 q hq) ?_
      refine W.widen (k := 601024) (n := 7293034) (by omega) (by omega) ?_
      exact lw_ret (d0 := s.drawn) (Drawn.sameBut.refl s.drawn lw_cs) hx hb hr hlocks dL_law_2514
    · have h3 : 5 * j + 5 ≤ L := by
        have := (not_congr (li_5 hL h2)).mp c1
        omega
      refine lv_aload_n hx hb dL_law_37 rfl (lv_at hl 0 rfl) ?_
      refine lv_iload hx hb dL_law_38 (lv_at hl 5 rfl) ?_
      refine va_sld hx hb hX hbl hbA hS (vp_in_nI (by omega) (by omega)) dL_law_40 ?_
      refine lv_bipush (v := 63) hx hb dL_law_41 (by decide) ?_
      refine lv_iand hx hb dL_law_43 ?_
      have hi : INX (nI (5 * j)) L := by
        refine ⟨?_, ?_, ?_, ?_⟩
        · rw [show (1 : Int32) = nI 1 from rfl, nI_5]; exact vp_in_nI (by omega) (by omega)
        · rw [show (2 : Int32) = nI 2 from rfl, nI_5]; exact vp_in_nI (by omega) (by omega)
        · rw [show (3 : Int32) = nI 3 from rfl, nI_5]; exact vp_in_nI (by omega) (by omega)
        · rw [show (4 : Int32) = nI 4 from rfl, nI_5]; exact vp_in_nI (by omega) (by omega)
      refine law_sw hll B hX hbl hbA hi I hW hS (by rw [ha]; exact hl) (by omega) (by omega) ?_
      intro ad' st' ms' f' g' H' locs' ls' hae I' hW' hS' hl'
      refine lv_iinc (v := nI (5 * (j + 1))) (lv' := [(5, .int (nI (5 * (j + 1)))), (0, .ref b), (1, .ref a0), (2, .ref (am 0)), (3, .ref o1), (4, .ref o2)]) hx hb dL_law_2507 hl' (k := 5) rfl (by rw [show (Int32.ofInt 5) = nI 5 from rfl, nI_5]; rfl) (by decide) (by rw [ha]; rfl) (fun ls hl => ?_)
      refine lv_goto (tgt := 28) hx hb dL_law_2510 (by decide) ?_
      exact ih (j + 1) (by omega) (by omega) ad' st' ms' f' g' H' locs' _ _ ls (hae.1.trans ha) I' hW' hS' (lv_sub hl [1, 2, 3, 4, 5, 0] rfl) (by omega) (by omega)
