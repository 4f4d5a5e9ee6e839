/-- Arrays.copyOf of a row of things, to a longer one -/
theorem c_J_copyOf3 {l : Launch} {G : GG} {A : Nat → Prop} {ad : AD} {a n : Nat} {N : Nat} {f : Nat → Option Nat} {ci : Nat} (hc : Eci ci) (hn : n ≤ N) (hN : N ≤ 100) : Met l yJ7_copyOf_6403c (Cond.code yJ7_copyOf_6403c cJ7_copyOf_6403c 4 (some (.array (.object "java/lang/Object"))) :: TG) ({ frames := 1, cells := 1, slots := 100, locals := 60 } : Room) (PL G A ad [(a, .inl (G.2 5, n, .inr (.inr (.inr (.inr f)))))] (fun H => EE G A ci f H) [.ref a, .int (nI N), .ref (ad 16 0)]) (QL G A (fun v ws' => ∃ q, v = some (.ref q) ∧ ws' = [(a, .inl (G.2 5, n, .inr (.inr (.inr (.inr f))))), (q, .inl (G.2 5, N, .inr (.inr (.inr (.inr (va_cpy f (fun _ => none) 0 0 n))))))])) 1 100 A :=
  pl_of (own := RJ7) (by decide +kernel) rfl (Nat.le_of_ble_eq_true rfl) fun p e s m below meth c ls B hST hA hP hD hE hl => by
    have ⟨hx, hb, hr, hml, hown, hT, hlocks, hK⟩ := B
    have hMi := hST.2.2.2.2.2.2.1
    have hS : va_S A s.heap s.heap [] := va_S.rf
    refine lv_aload_n hx hb dJ7_copyOf_6403c_0 rfl (lv_at hl 2 rfl) ?_
    refine va_ldcM hx hb hown (hT _ wk_RJ7_110) hMi dJ7_copyOf_6403c_1 ?_
    refine lv_acmp_ne (rx := some (ad 16 0)) (ry := some (ad 16 0)) (tgt := 13) hx hb dJ7_copyOf_6403c_3 (by decide) (fun c1 => absurd rfl c1) (fun c1 => ?_)
    refine lv_iload_n hx hb dJ7_copyOf_6403c_6 rfl (lv_at hl 1 rfl) ?_
    refine va_newq hx hb hown (hT _ wk_RJ7_2) hST.2.2.2.2.2.2.2 hK hP hD hS hA (N' := N) (nI_pos (by omega)) (nI_clamp (by omega)) (by omega) (by show _ ≤ 1; omega) (by show _ ≤ 100; omega) dJ7_copyOf_6403c_7 (fun q cA H hK2 hP hD hS => ?_)
    have hcA : cA = G.2 5 := vk_obj hK (hK2.2 6 (cA, .object "java/lang/Object") rfl).2
    subst hcA
    have hq : ∀ x : Nat, x < s.heap.size → ¬ A x → H[x]? = s.heap[x]? := hS.2.1
    have hE2 := hE.kept hq
    refine lv_goto (tgt := 24) hx hb dJ7_copyOf_6403c_10 (by decide) ?_
    refine lv_astore_n (lv' := [(3, .ref q), (0, .ref a), (1, .int (nI N)), (2, .ref (ad 16 0))]) hx hb dJ7_copyOf_6403c_24 rfl hl (by decide) rfl (fun ls hl => ?_)
    refine lv_aload_n hx hb dJ7_copyOf_6403c_25 rfl (lv_at hl 1 rfl) ?_
    refine lv_iconst (v := 0) hx hb dJ7_copyOf_6403c_26 (by decide) ?_
    refine lv_aload_n hx hb dJ7_copyOf_6403c_27 rfl (lv_at hl 0 rfl) ?_
    refine lv_iconst (v := 0) hx hb dJ7_copyOf_6403c_28 (by decide) ?_
    refine lv_aload_n hx hb dJ7_copyOf_6403c_29 rfl (lv_at hl 1 rfl) ?_
    refine va_alen hx hb hK hP 0 5 rfl rfl (v := nI n) rfl dJ7_copyOf_6403c_30 ?_
    refine lv_iload_n hx hb dJ7_copyOf_6403c_31 rfl (lv_at hl 2 rfl) ?_
    refine va_mmin hx hb (hml.trans hl.1.symm) hown (hT _ wm_RJ7_304) (hT _ wt_yJ9_min_7cf53) (hT _ wn_RJ9) (hT _ wc_yJ9_min_7cf53) (Nat.le_of_ble_eq_true rfl) (Nat.le_of_ble_eq_true rfl) (by show _ ≤ 1; omega) (by show _ ≤ 100; omega) dJ7_copyOf_6403c_32 ?_
    have hmin : (if nI N < nI n then nI N else nI n) = nI n := if_neg (nI_nlt hn (by omega))
    rw [hmin]
    refine va_copyq hx hb (hml.trans hl.1.symm) hown (hT _ wm_RJ7_150) (hT _ wx_nac) (hT _ wx_sac) (hT _ wn_RJ10) hK hP hD hS 0 1 5 5 rfl rfl rfl rfl (C := ecn ci) (sp := 0) (dp := 0) (n := nI n) (by decide) (by decide) (nI_pos (by omega)) (by rw [nI_clamp (by omega), sb_cl0]; omega) (by rw [nI_clamp (by omega), sb_cl0]; omega) (fun i hi y hy => ?_) (ecn_asg hST hc) (Nat.le_of_ble_eq_true rfl) (Nat.le_of_ble_eq_true rfl) dJ7_copyOf_6403c_35 (fun H locs hP hD hS => ?_)
    · obtain ⟨cellV, k1, k2, k3⟩ := (hE2 _ y hy).1
      exact ⟨cellV, k1, k2, by rw [k3]; exact ecn_find hK hc⟩
    refine lv_aload_n hx hb dJ7_copyOf_6403c_38 rfl (lv_at hl 0 rfl) ?_
    refine W.widen (k := 1) (n := 100) (by omega) (by omega) ?_
    rw [nI_clamp (by omega), sb_cl0] at hP hD
    exact W.aret hx hb hr (Or.inr ⟨_, rfl⟩) (Or.inr ⟨_, rfl⟩) (fun t ht hW => ⟨_, _, rfl, ⟨q, rfl, rfl⟩, by rw [ht]; exact hP, hD, hS.F ht⟩) hS.2.2 dJ7_copyOf_6403c_39
theorem lr_recv {G : GG} {a n : Nat} {f : Nat → Option Nat} {H : Heap} {s : State} (hK : VK G s) (h : LR G a n f H) : ∃ cell : Cell, H[a]? = some cell ∧ cell.vm.isStatics = false ∧ s.vm.findClass "[Ljava/lang/Object;" = some cell.cls := by
  obtain ⟨_, _, _, _, _, h4⟩ := (hK.2 5 (G.2 5, .object "java/lang/Object") rfl).2
  exact ⟨_, h, rfl, h4⟩
theorem c_J_copyOf2 {l : Launch} {G : GG} {A : Nat → Prop} {ad : AD} {a n : Nat} {N : Nat} {f : Nat → Option Nat} {ci : Nat} (hc : Eci ci) (hn : n ≤ N) (hN : N ≤ 100) : Met l yJ7_copyOf_1904c (Cond.code yJ7_copyOf_1904c cJ7_copyOf_1904c 2 (some (.array (.object "java/lang/Object"))) :: TG) ({ frames := 2, cells := 1, slots := 100, locals := 90 } : Room) (PL G A ad [(a, .inl (G.2 5, n, .inr (.inr (.inr (.inr f)))))] (fun H => EE G A ci f H) [.ref a, .int (nI N)]) (QL G A (fun v ws' => ∃ q, v = some (.ref q) ∧ ws' = [(a, .inl (G.2 5, n, .inr (.inr (.inr (.inr f))))), (q, .inl (G.2 5, N, .inr (.inr (.inr (.inr (va_cpy f (fun _ => none) 0 0 n))))))])) 1 100 A :=
  pl_of (own := RJ7) (by decide +kernel) rfl (Nat.le_of_ble_eq_true rfl) fun p e s m below meth c ls B hST hA hP hD hE hl => by
    have ⟨hx, hb, hr, hml, hown, hT, hlocks, hK⟩ := B
    have hS : va_S A s.heap s.heap [] := va_S.rf
    refine lv_aload_n hx hb dJ7_copyOf_1904c_0 rfl (lv_at hl 0 rfl) ?_
    refine lv_iload_n hx hb dJ7_copyOf_1904c_1 rfl (lv_at hl 1 rfl) ?_
    refine lv_aload_n hx hb dJ7_copyOf_1904c_2 rfl (lv_at hl 0 rfl) ?_
    refine va_getC hx hb (hml.trans hl.1.symm) hown (hT _ wm_RJ7_86) (va_Nw.use rfl (hST.2.2.2.1 _ (by decide +kernel : Cond.declares ⟨"java/lang/Object", "getClass", "()Ljava/lang/Class;"⟩ ∈ nestW))) (hT _ wx_sgc) (hT _ wx_igc) (hT _ wx_ngc) hST.2.2.2.2.2.2.1 (lr_recv hK (hP 0 _ rfl)) (Nat.le_of_ble_eq_true rfl) (Nat.le_of_ble_eq_true rfl) dJ7_copyOf_1904c_3 ?_
    refine pl_callS B hST (fun _ h => h) hA hS hP hD hE [.ref a, .int (nI N), .ref (ad 16 0)] (n := 3) (c_J_copyOf3 hc hn hN) wm_RJ7_300 wt_yJ7_copyOf_6403c wn_RJ7 wc_yJ7_copyOf_6403c rfl rfl (by decide +kernel) ⟨Nat.le_of_ble_eq_true rfl, Nat.le_of_ble_eq_true rfl⟩ ⟨Nat.le_refl 1, Nat.le_refl 100⟩ rfl hl.1 (Nat.le_of_ble_eq_true rfl) rfl dJ7_copyOf_1904c_6 (fun v ws' H locs hp hP hD hS hq => ?_)
    obtain ⟨q, rfl, rfl⟩ := hp
    exact W.aret hx hb hr (Or.inr ⟨_, rfl⟩) (Or.inr ⟨_, rfl⟩) (fun t ht hW => ⟨_, _, rfl, ⟨q, rfl, rfl⟩, by rw [ht]; exact hP, hD, hS.F ht⟩) hS.2.2 dJ7_copyOf_1904c_9
/-- how much a full row grows -/
theorem grow_len {n : Nat} (h2 : 2 ≤ n) (hn : n ≤ 66) : nI n + (if nI (n + 1) - nI n < nI n >>> ((1 : Int32) &&& 31) then nI n >>> ((1 : Int32) &&& 31) else nI (n + 1) - nI n) = nI (n + n / 2) := by
  have es : nI n >>> ((1 : Int32) &&& 31) = nI (n / 2) := by
    have k := pk_shrN (n := n) (by omega) ((1 : Int32) &&& 31) 1 (by decide)
    rw [Nat.pow_one] at k
    exact k
  have ed : nI (n + 1) - nI n = nI 1 := by
    have k := pk_sub (a := n + 1) (b := n) (by omega)
    rw [Nat.add_sub_cancel_left] at k
    exact k
  rw [es, ed]
  by_cases c : 1 < n / 2
  · rw [if_pos (nI_lt c (by omega))]
    exact nI_add n (n / 2)
  · rw [if_neg (nI_nlt (by omega) (by omega))]
    have hd : n / 2 = 1 := by omega
    rw [hd]
    exact nI_add n 1
/-- the list's cells: with a row of its own, or with ArrayList's empty one -/
def wO (h0 : Nat) (mc : Int32) (a : Nat) (sz : Int32) : Nat × va_E := (h0, .inr (0, [.int mc, .ref a, .int sz]))
def wR (G : GG) (a n : Nat) (f : Nat → Option Nat) : Nat × va_E := (a, .inl (G.2 5, n, .inr (.inr (.inr (.inr f)))))
theorem c_J_grow1 {l : Launch} {G : GG} {A : Nat → Prop} {ad : AD} {h0 a n : Nat} {mc sz : Int32} {f : Nat → Option Nat} {ci : Nat} (hc : Eci ci) (h2 : 2 ≤ n) (hn : n ≤ 66) : Met l yJx4a65c_grow_92f84 (Cond.code yJx4a65c_grow_92f84 cJx4a65c_grow_92f84 4 (some (.array (.object "java/lang/Object"))) :: TG) ({ frames := 3, cells := 1, slots := 100, locals := 120 } : Room) (PL G A ad [wO h0 mc a sz, wR G a n f] (fun H => EE G A ci f H) [.ref h0, .int (nI (n + 1))]) (QL G A (fun v ws' => ∃ q, v = some (.ref q) ∧ ws' = [wO h0 mc q sz, wR G q (n + n / 2) (va_cpy f (fun _ => none) 0 0 n)])) 1 100 A :=
  pl_of (own := RJx4a65c) (by decide +kernel) rfl (Nat.le_of_ble_eq_true rfl) fun p e s m below meth c ls B hST hA hP hD hE hl => by
    have ⟨hx, hb, hr, hml, hown, hT, hlocks, hK⟩ := B
    have hS : va_S A s.heap s.heap [] := va_S.rf
    refine lv_aload_n hx hb dJx4a65c_grow_92f84_0 rfl (lv_at hl 0 rfl) ?_
    refine va_get (v := .ref a) hx hb hT inJx4a65c hown hK hP 0 rfl rfl 1 (by decide) (hT _ wf_RJx4a65c_9) (fun _ h => h) rfl dJx4a65c_grow_92f84_1 ?_
    refine va_alen hx hb hK hP 1 5 rfl rfl (v := nI n) rfl dJx4a65c_grow_92f84_4 ?_
    refine lv_istore_n (lv' := [(2, .int (nI n)), (0, .ref h0), (1, .int (nI (n + 1)))]) hx hb dJx4a65c_grow_92f84_5 rfl hl (by decide) rfl (fun ls hl => ?_)
    refine lv_iload_n hx hb dJx4a65c_grow_92f84_6 rfl (lv_at hl 0 rfl) ?_
    refine lv_if_gt (tgt := 20) hx hb dJx4a65c_grow_92f84_7 (by decide) (fun c1 => ?_) (fun c1 => absurd (by rw [← nI_0]; exact nI_lt (by omega) (by omega)) c1)
    refine lv_iload_n hx hb dJx4a65c_grow_92f84_20 rfl (lv_at hl 0 rfl) ?_
    refine lv_iload_n hx hb dJx4a65c_grow_92f84_21 rfl (lv_at hl 2 rfl) ?_
    refine lv_iload_n hx hb dJx4a65c_grow_92f84_22 rfl (lv_at hl 0 rfl) ?_
    refine lv_isub hx hb dJx4a65c_grow_92f84_23 ?_
    refine lv_iload_n hx hb dJx4a65c_grow_92f84_24 rfl (lv_at hl 0 rfl) ?_
    refine lv_iconst (v := 1) hx hb dJx4a65c_grow_92f84_25 (by decide) ?_
    refine lv_ishr hx hb dJx4a65c_grow_92f84_26 ?_
    refine ph_callS B [.int (nI n), .int (nI (n + 1) - nI n), .int (nI n >>> ((1 : Int32) &&& 31))] (n := 3) (F := fun _ => True) trivial (c_J_newLength (grow_len h2 hn) (nI_nle (by omega) (by omega)) (show ¬ nI 2147483639 < nI (n + n / 2) from nI_nlt (by omega) (by decide))) wm_RJx4a65c_73 wt_yJ8_newLength_cabcc wn_RJ8 wc_yJ8_newLength_cabcc rfl rfl (by decide +kernel) ⟨Nat.le_of_ble_eq_true rfl, Nat.le_of_ble_eq_true rfl⟩ ⟨by show _ ≤ 1; omega, by show _ ≤ 100; omega⟩ rfl hl.1 (Nat.le_of_ble_eq_true rfl) rfl dJx4a65c_grow_92f84_27 ?_
    refine lv_istore_n (lv' := [(3, .int (nI (n + n / 2))), (2, .int (nI n)), (0, .ref h0), (1, .int (nI (n + 1)))]) hx hb dJx4a65c_grow_92f84_30 rfl hl (by decide) rfl (fun ls hl => ?_)
    refine lv_aload_n hx hb dJx4a65c_grow_92f84_31 rfl (lv_at hl 2 rfl) ?_
    refine lv_aload_n hx hb dJx4a65c_grow_92f84_32 rfl (lv_at hl 2 rfl) ?_
    refine va_get (v := .ref a) hx hb hT inJx4a65c hown hK hP 0 rfl rfl 1 (by decide) (hT _ wf_RJx4a65c_9) (fun _ h => h) rfl dJx4a65c_grow_92f84_33 ?_
    refine lv_iload_n hx hb dJx4a65c_grow_92f84_36 rfl (lv_at hl 0 rfl) ?_
    have hPc := hP.sub (ws' := [wR G a n f]) [1] rfl
    have hDc := hD.sub (ws' := [wR G a n f]) [1] (by decide) rfl
    have hS0 := hS
    generalize hA0 : va_A [wR G a n f] s.heap.size = A1
    have hA1 : ∀ q, A1 q → A q := fun q hq => va_free (wc := [wR G a n f]) hD hS hA [1] rfl q (by rw [hA0]; exact hq)
    have hD1 : va_D A1 [wR G a n f] := by rw [← hA0]; exact hDc.self
    have hE1 : EE G A1 ci f s.heap := fun t y hy => ⟨(hE t y hy).1, fun z => (hE t y hy).2 (hA1 y z)⟩
    refine pl_callS B hST hA1 (fun q hq => by rw [← hA0]; exact Or.inr hq) hS hPc hD1 hE1 [.ref a, .int (nI (n + n / 2))] (n := 2) (c_J_copyOf2 hc (by omega) (by omega)) wm_RJx4a65c_66 wt_yJ7_copyOf_1904c wn_RJ7 wc_yJ7_copyOf_1904c rfl rfl (by decide +kernel) ⟨Nat.le_of_ble_eq_true rfl, Nat.le_of_ble_eq_true rfl⟩ ⟨Nat.le_refl 1, Nat.le_refl 100⟩ rfl hl.1 (Nat.le_of_ble_eq_true rfl) rfl dJx4a65c_grow_92f84_37 (fun v ws' H locs hp hP1 hD1 hS hq => ?_)
    obtain ⟨q, rfl, rfl⟩ := hp
    subst hA0
    obtain ⟨hP, hD⟩ := va_join (wr := [wO h0 mc a sz]) (w1 := [wR G a n f, wR G q (n + n / 2) (va_cpy f (fun _ => none) 0 0 n)]) hP hD [1] [0] rfl rfl (by decide) (by decide) hq hA1 hP1 hD1
    have hP : va_P G.1 vwCl [wO h0 mc a sz, wR G a n f, wR G q (n + n / 2) (va_cpy f (fun _ => none) 0 0 n)] H := hP
    have hD : va_D A [wO h0 mc a sz, wR G a n f, wR G q (n + n / 2) (va_cpy f (fun _ => none) 0 0 n)] := hD
    refine lv_dup_x1 hx hb dJx4a65c_grow_92f84_40 rfl rfl ?_
    refine va_put (v := .ref q) (ty := .array (.object "java/lang/Object")) hx hb hT inJx4a65c tyJx4a65c tyJx4a65c_ok nmJx4a65c hown hK hP hD hS 0 rfl rfl 1 (by decide) (hT _ wf_RJx4a65c_9) (fun _ h => h) rfl (by decide +kernel) rfl rfl (Nat.le_of_ble_eq_true rfl) dJx4a65c_grow_92f84_41 (fun H locs hP hD hS => ?_)
    have hP9 := hP.sub (ws' := [wO h0 mc q sz, wR G q (n + n / 2) (va_cpy f (fun _ => none) 0 0 n)]) [0, 2] rfl
    have hD9 := hD.sub (ws' := [wO h0 mc q sz, wR G q (n + n / 2) (va_cpy f (fun _ => none) 0 0 n)]) [0, 2] (by decide) rfl
    exact W.aret hx hb hr (Or.inr ⟨_, rfl⟩) (Or.inr ⟨_, rfl⟩) (fun t ht hW => ⟨_, _, rfl, ⟨q, rfl, rfl⟩, by rw [ht]; exact hP9, hD9, hS.F ht⟩) hS.2.2 dJx4a65c_grow_92f84_44
theorem c_J_grow0 {l : Launch} {G : GG} {A : Nat → Prop} {ad : AD} {h0 : Nat} {mc sz : Int32} {E : Heap → Prop} : Met l yJx4a65c_grow_92f84 (Cond.code yJx4a65c_grow_92f84 cJx4a65c_grow_92f84 4 (some (.array (.object "java/lang/Object"))) :: TG) ({ frames := 3, cells := 1, slots := 100, locals := 120 } : Room) (PL G A ad [wO h0 mc (ad 15 0) sz] E [.ref h0, .int (nI 1)]) (QL G A (fun v ws' => ∃ q, v = some (.ref q) ∧ ws' = [wO h0 mc q sz, wR G q 10 (fun _ => none)])) 1 100 A :=
  pl_of (own := RJx4a65c) (by decide +kernel) rfl (Nat.le_of_ble_eq_true rfl) fun p e s m below meth c ls B hST hA hP hD hE hl => by
    have ⟨hx, hb, hr, hml, hown, hT, hlocks, hK⟩ := B
    have hS : va_S A s.heap s.heap [] := va_S.rf
    refine lv_aload_n hx hb dJx4a65c_grow_92f84_0 rfl (lv_at hl 0 rfl) ?_
    refine va_get (v := .ref (ad 15 0)) hx hb hT inJx4a65c hown hK hP 0 rfl rfl 1 (by decide) (hT _ wf_RJx4a65c_9) (fun _ h => h) rfl dJx4a65c_grow_92f84_1 ?_
    refine va_tlen hx hb hST.2.2.2.2.2.1 hS (v := 0) rfl dJx4a65c_grow_92f84_4 ?_
    refine lv_istore_n (lv' := [(2, .int 0), (0, .ref h0), (1, .int (nI 1))]) hx hb dJx4a65c_grow_92f84_5 rfl hl (by decide) rfl (fun ls hl => ?_)
    refine lv_iload_n hx hb dJx4a65c_grow_92f84_6 rfl (lv_at hl 0 rfl) ?_
    refine lv_if_gt (tgt := 20) hx hb dJx4a65c_grow_92f84_7 (by decide) (fun c1 => absurd c1 (by decide)) (fun c1 => ?_)
    refine lv_aload_n hx hb dJx4a65c_grow_92f84_10 rfl (lv_at hl 1 rfl) ?_
    refine va_get (v := .ref (ad 15 0)) hx hb hT inJx4a65c hown hK hP 0 rfl rfl 1 (by decide) (hT _ wf_RJx4a65c_9) (fun _ h => h) rfl dJx4a65c_grow_92f84_11 ?_
    refine va_gets hx hb hST.2.2.2.2.1 hS hown (hT _ wf_RJx4a65c_39) (fun _ h => h) dJx4a65c_grow_92f84_14 ?_
    refine lv_acmp_eq (rx := some (ad 15 0)) (ry := some (ad 15 0)) (tgt := 45) hx hb dJx4a65c_grow_92f84_17 (by decide) (fun c2 => ?_) (fun c2 => absurd rfl c2)
    refine lv_aload_n hx hb dJx4a65c_grow_92f84_45 rfl (lv_at hl 1 rfl) ?_
    refine lv_bipush (v := 10) hx hb dJx4a65c_grow_92f84_46 (by decide) ?_
    refine lv_iload_n hx hb dJx4a65c_grow_92f84_48 rfl (lv_at hl 2 rfl) ?_
    refine va_mmax hx hb (hml.trans hl.1.symm) hown (hT _ wm_RJx4a65c_79) (hT _ wt_yJ9_max_7cf53) (hT _ wn_RJ9) (hT _ wc_yJ9_max_7cf53) (Nat.le_of_ble_eq_true rfl) (Nat.le_of_ble_eq_true rfl) (by show _ ≤ 1; omega) (by show _ ≤ 100; omega) dJx4a65c_grow_92f84_49 ?_
    have hmax : (if (10 : Int32) < nI 1 then nI 1 else 10) = nI 10 := by decide +kernel
    rw [hmax]
    refine va_newq hx hb hown (hT _ wk_RJx4a65c_7) hST.2.2.2.2.2.2.2 hK hP hD hS hA (N' := 10) (nI_pos (by omega)) (nI_clamp (by omega)) (by omega) (by show _ ≤ 1; omega) (by show _ ≤ 100; omega) dJx4a65c_grow_92f84_52 (fun q cA H hK2 hP hD hS => ?_)
    have hcA : cA = G.2 5 := vk_obj hK (hK2.2 6 (cA, .object "java/lang/Object") rfl).2
    subst hcA
    refine lv_dup_x1 hx hb dJx4a65c_grow_92f84_55 rfl rfl ?_
    refine va_put (v := .ref q) (ty := .array (.object "java/lang/Object")) hx hb hT inJx4a65c tyJx4a65c tyJx4a65c_ok nmJx4a65c hown hK hP hD hS 0 rfl rfl 1 (by decide) (hT _ wf_RJx4a65c_9) (fun _ h => h) rfl (by decide +kernel) rfl rfl (Nat.le_of_ble_eq_true rfl) dJx4a65c_grow_92f84_56 (fun H locs hP hD hS => ?_)
    refine W.widen (k := 1) (n := 100) (by omega) (by omega) ?_
    exact W.aret hx hb hr (Or.inr ⟨_, rfl⟩) (Or.inr ⟨_, rfl⟩) (fun t ht hW => ⟨_, _, rfl, ⟨q, rfl, rfl⟩, by rw [ht]; exact hP, hD, hS.F ht⟩) hS.2.2 dJx4a65c_grow_92f84_59
/-- grow(): a full row, or ArrayList's empty one -/
theorem c_J_grow1' {l : Launch} {G : GG} {A : Nat → Prop} {ad : AD} {h0 a n : Nat} {mc : Int32} {f : Nat → Option Nat} {ci : Nat} (hc : Eci ci) (h2 : 2 ≤ n) (hn : n ≤ 66) : Met l yJx4a65c_grow_d5877 (Cond.code yJx4a65c_grow_d5877 cJx4a65c_grow_d5877 1 (some (.array (.object "java/lang/Object"))) :: TG) ({ frames := 4, cells := 1, slots := 100, locals := 150 } : Room) (PL G A ad [wO h0 mc a (nI n), wR G a n f] (fun H => EE G A ci f H) [.ref h0]) (QL G A (fun v ws' => ∃ q, v = some (.ref q) ∧ ws' = [wO h0 mc q (nI n), wR G q (n + n / 2) (va_cpy f (fun _ => none) 0 0 n)])) 1 100 A :=
  pl_of (own := RJx4a65c) (by decide +kernel) rfl (Nat.le_of_ble_eq_true rfl) fun p e s m below meth c ls B hST hA hP hD hE hl => by
    have ⟨hx, hb, hr, hml, hown, hT, hlocks, hK⟩ := B
    have hS : va_S A s.heap s.heap [] := va_S.rf
    refine lv_aload_n hx hb dJx4a65c_grow_d5877_0 rfl (lv_at hl 0 rfl) ?_
    refine lv_aload_n hx hb dJx4a65c_grow_d5877_1 rfl (lv_at hl 0 rfl) ?_
    refine va_get (v := .int (nI n)) hx hb hT inJx4a65c hown hK hP 0 rfl rfl 2 (by decide) (hT _ wf_RJx4a65c_48) (fun _ h => h) rfl dJx4a65c_grow_d5877_2 ?_
    refine lv_iconst (v := 1) hx hb dJx4a65c_grow_d5877_5 (by decide) ?_
    refine lv_iadd hx hb dJx4a65c_grow_d5877_6 ?_
    rw [nI_1]
    refine pl_callV B hST (fun _ h => h) hA hS hP hD hE (va_recv hK hP (q0 := 0) (ci := 0) rfl rfl) [.int (nI (n + 1))] (n := 1) (c_J_grow1 hc h2 hn) wm_RJx4a65c_69 wi_yJx4a65c_grow_92f84 ws_yJx4a65c_grow_92f84 wn_RJx4a65c wc_yJx4a65c_grow_92f84 rfl rfl (by decide +kernel) ⟨Nat.le_of_ble_eq_true rfl, Nat.le_of_ble_eq_true rfl⟩ ⟨Nat.le_refl 1, Nat.le_refl 100⟩ rfl hl.1 (Nat.le_of_ble_eq_true rfl) rfl dJx4a65c_grow_d5877_7 (fun v ws' H locs hp hP hD hS hq => ?_)
    obtain ⟨q, rfl, rfl⟩ := hp
    exact W.aret hx hb hr (Or.inr ⟨_, rfl⟩) (Or.inr ⟨_, rfl⟩) (fun t ht hW => ⟨_, _, rfl, ⟨q, rfl, rfl⟩, by rw [ht]; exact hP, hD, hS.F ht⟩) hS.2.2 dJx4a65c_grow_d5877_10
theorem c_J_grow0' {l : Launch} {G : GG} {A : Nat → Prop} {ad : AD} {h0 : Nat} {mc : Int32} {E : Heap → Prop} : Met l yJx4a65c_grow_d5877 (Cond.code yJx4a65c_grow_d5877 cJx4a65c_grow_d5877 1 (some (.array (.object "java/lang/Object"))) :: TG) ({ frames := 4, cells := 1, slots := 100, locals := 150 } : Room) (PL G A ad [wO h0 mc (ad 15 0) (nI 0)] E [.ref h0]) (QL G A (fun v ws' => ∃ q, v = some (.ref q) ∧ ws' = [wO h0 mc q (nI 0), wR G q 10 (fun _ => none)])) 1 100 A :=
  pl_of (own := RJx4a65c) (by decide +kernel) rfl (Nat.le_of_ble_eq_true rfl) fun p e s m below meth c ls B hST hA hP hD hE hl => by
    have ⟨hx, hb, hr, hml, hown, hT, hlocks, hK⟩ := B
    have hS : va_S A s.heap s.heap [] := va_S.rf
    refine lv_aload_n hx hb dJx4a65c_grow_d5877_0 rfl (lv_at hl 0 rfl) ?_
    refine lv_aload_n hx hb dJx4a65c_grow_d5877_1 rfl (lv_at hl 0 rfl) ?_
    refine va_get (v := .int (nI 0)) hx hb hT inJx4a65c hown hK hP 0 rfl rfl 2 (by decide) (hT _ wf_RJx4a65c_48) (fun _ h => h) rfl dJx4a65c_grow_d5877_2 ?_
    refine lv_iconst (v := 1) hx hb dJx4a65c_grow_d5877_5 (by decide) ?_
    refine lv_iadd hx hb dJx4a65c_grow_d5877_6 ?_
    rw [nI_1]
    refine pl_callV B hST (fun _ h => h) hA hS hP hD hE (va_recv hK hP (q0 := 0) (ci := 0) rfl rfl) [.int (nI 1)] (n := 1) c_J_grow0 wm_RJx4a65c_69 wi_yJx4a65c_grow_92f84 ws_yJx4a65c_grow_92f84 wn_RJx4a65c wc_yJx4a65c_grow_92f84 rfl rfl (by decide +kernel) ⟨Nat.le_of_ble_eq_true rfl, Nat.le_of_ble_eq_true rfl⟩ ⟨Nat.le_refl 1, Nat.le_refl 100⟩ rfl hl.1 (Nat.le_of_ble_eq_true rfl) rfl dJx4a65c_grow_d5877_7 (fun v ws' H locs hp hP hD hS hq => ?_)
    obtain ⟨q, rfl, rfl⟩ := hp
    exact W.aret hx hb hr (Or.inr ⟨_, rfl⟩) (Or.inr ⟨_, rfl⟩) (fun t ht hW => ⟨_, _, rfl, ⟨q, rfl, rfl⟩, by rw [ht]; exact hP, hD, hS.F ht⟩) hS.2.2 dJx4a65c_grow_d5877_10
/-- putfield of ArrayList's own numbers -/
theorem jl_hsame {own : String} {s : State} {args : Array Value} {ref : String} (hT : ∀ w ∈ TG, w.before args s = true) (hw : Cond.sameField "java/util/ArrayList" "java/util/AbstractList" "modCount" "I" ∈ TG) : ∀ x, s.fieldFound? "java/util/AbstractList" "modCount" "I" = some x → s.fieldFound? "java/util/ArrayList" "modCount" "I" = some x := fun x h => u_same (hT _ hw) x h
/-- what the list's cells are: with a row of its own (n places, f), or with the empty one -/
def lws (G : GG) (ad : AD) (h0 : Nat) (mc : Int32) (o : Option (Nat × Nat × (Nat → Option Nat))) (sz : Int32) : va_W := match o with
  | none => [wO h0 mc (ad 15 0) sz]
  | some (a, n, f) => [wO h0 mc a sz, wR G a n f]
def lrf (ad : AD) (o : Option (Nat × Nat × (Nat → Option Nat))) : Nat := match o with
  | none => ad 15 0
  | some (a, _, _) => a
def lcp (o : Option (Nat × Nat × (Nat → Option Nat))) : Nat := match o with
  | none => 0
  | some (_, n, _) => n
def lfn (o : Option (Nat × Nat × (Nat → Option Nat))) : Nat → Option Nat := match o with
  | none => fun _ => none
  | some (_, _, f) => f
theorem lws_recv {G : GG} {ad : AD} {h0 : Nat} {mc sz : Int32} {o : Option (Nat × Nat × (Nat → Option Nat))} {H : Heap} {s : State} (hK : VK G s) (hP : va_P G.1 vwCl (lws G ad h0 mc o sz) H) : ∃ cellB : Cell, H[h0]? = some cellB ∧ cellB.vm.isStatics = false ∧ s.vm.findClass RJx4a65c = some cellB.cls := by
  cases o with
  | none => exact va_recv hK hP (q0 := 0) (ci := 0) rfl rfl
  | some q => exact va_recv hK hP (q0 := 0) (ci := 0) rfl rfl
/-- grow(), either way: a row with room, that holds what was held -/
theorem c_J_grow {l : Launch} {G : GG} {A : Nat → Prop} {ad : AD} {h0 c : Nat} {mc : Int32} {o : Option (Nat × Nat × (Nat → Option Nat))} {ci : Nat} (hc : Eci ci) (ho : (o = none ∧ c = 0) ∨ ∃ a f, o = some (a, c, f) ∧ 2 ≤ c ∧ c ≤ 66) : Met l yJx4a65c_grow_d5877 (Cond.code yJx4a65c_grow_d5877 cJx4a65c_grow_d5877 1 (some (.array (.object "java/lang/Object"))) :: TG) ({ frames := 4, cells := 1, slots := 100, locals := 150 } : Room) (PL G A ad (lws G ad h0 mc o (nI c)) (fun H => EE G A ci (lfn o) H) [.ref h0]) (QL G A (fun v ws' => ∃ q N g, v = some (.ref q) ∧ ws' = lws G ad h0 mc (some (q, N, g)) (nI c) ∧ c < N ∧ N ≤ 100 ∧ 2 ≤ N ∧ (∀ t, t < c → g t = lfn o t) ∧ ∀ t, c ≤ t → g t = none)) 1 100 A := by
  rcases ho with ⟨rfl, rfl⟩ | ⟨a, f, rfl, h2, hn⟩
  · exact ql_mono c_J_grow0' fun v ws' ⟨q, h1, h2⟩ => ⟨q, 10, fun _ => none, h1, h2, by omega, by omega, by omega, fun t ht => absurd ht (Nat.not_lt_zero t), fun _ _ => rfl⟩
  · exact ql_mono (c_J_grow1' hc h2 hn) fun v ws' ⟨q, h1, h2'⟩ => ⟨q, c + c / 2, va_cpy f (fun _ => none) 0 0 c, h1, h2', by omega, by omega, by omega, fun t ht => by rw [pk_cpy_in (Nat.zero_le t) (by omega)]; simp [lfn], fun t ht => pk_cpy_out (Or.inr (by omega))⟩
