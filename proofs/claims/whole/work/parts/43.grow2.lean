/-! The ends of shot and note, behind their checks. -/
noncomputable def f_X5_shot_121 (st : XS) (x1 : Int32) (x2 : Int32) (x3 : Int32) (x4 : Int32) (x5 : Int32) (x6 : Int32) : Option ((Nat ⊕ Int32) × XS) :=
  gd ((narrow .char (.int x1) = .int x1 ∧ fits .char (.int x1) = true) ∧ (narrow .char (.int x6) = .int x6 ∧ fits .char (.int x6) = true) ∧ (xL st 0).length = xN st 0 ∧ (xL st 0).length < 60 ∧ (xL st 1).length < 60 ∧ vp_in x4 ((xL st 1).length + 1))
    (some (.inr (nI (xN st 0)), sL (sL (sF (sF (nwS st x1 x2 x3) 1 (xN st 0) 7 x5) 1 (xN st 0) 8 x6) 0 (xL st 0 ++ [xN st 0])) 1 ((xL st 1).insertIdx x4.toNatClampNeg (xN st 0))))
set_option maxHeartbeats 4000000 in
set_option maxRecDepth 100000 in
theorem w_X5_shot_121 {p : Program} {l : Launch} {e : Env} {s : State} {m : MethodId} {args : Array Value} {below : List Frame} {meth : Method} {c : Code} {G : GG} {A : Nat → Prop} {ad : AD} (B : XB G A ad p l s m args meth c cX5_shot 8 RX5 (some .int)) {r : (Nat ⊕ Int32)} {st' : XS} : ∀ (cells slots : Nat) (st : XS) (x1 : Int32) (x2 : Int32) (x3 : Int32) (x4 : Int32) (x5 : Int32) (x6 : Int32) (H : Heap) (locs : List Loc) (ls : Array Slot), cells + 9 ≤ 11 → slots + 236 ≤ 248 → f_X5_shot_121 st x1 x2 x3 x4 x5 x6 = some (r, st') → XW G A ad st H → va_S A s.heap H locs → lv_has ls 8 [(0, .ref (ad 0 0)), (1, .int x1), (2, .int x2), (3, .int x3), (4, .int x4), (5, .int x5), (6, .int x6)] → W p l e ({ frames := 8, cells := 11, slots := 248, locals := 400 } : Room) s m args below meth c H locs cells slots (vx_MQ below (QEr G A ad (ovw (fun x => some (.int x)) r) st') (QEx G A ad (ovw (fun x => some (.int x)) r) st') args s 11 248 A) (F0 m 121 ls []) := by
  have ⟨⟨hx, hb, hr, hml, hown, hT, hlocks, hK⟩, hnt, hST, hA, hll⟩ := B
  intro cells slots st x1 x2 x3 x4 x5 x6 H locs ls hc hs h hM hS hl
  rw [f_X5_shot_121] at h
  obtain ⟨⟨g1, g6, gn, gl0, gl1, gi⟩, h⟩ := gd_e h
  cases h
  have hAH : ∀ q : Nat, H.size ≤ q → A q := fun q hq => hA q (Nat.le_trans hS.1 hq)
  refine xn_new B.1 5 (C := RX4) (T := TX4) (N := 12) rfl inX4 (ty := tyX4) tyX4_ok wk_RX5_70 wo_RX4 wn_RX4 [.int 0, .null, .null, .int 0, .int 0, .int 0, .int 0, .int 0, .int 0, .int 0, .int 0, .int 0] (fun j hj => by rcases (show j = 0 ∨ j = 1 ∨ j = 2 ∨ j = 3 ∨ j = 4 ∨ j = 5 ∨ j = 6 ∨ j = 7 ∨ j = 8 ∨ j = 9 ∨ j = 10 ∨ j = 11 by omega) with rfl | rfl | rfl | rfl | rfl | rfl | rfl | rfl | rfl | rfl | rfl | rfl <;> rfl) (by show _ ≤ 11; omega) (by show _ ≤ 248; omega) dX5_shot_121 (fun H1 hq z1 o1 => ?_)
  have hM1 := hM.kept2 o1
  have hS1 : va_S A s.heap H1 locs := ⟨Nat.le_trans hS.1 (by omega), fun x h1 h2 => (o1 x (Nat.lt_of_lt_of_le h1 hS.1)).trans (hS.2.1 x h1 h2), hS.2.2⟩
  refine lv_dup hx hb dX5_shot_124 rfl ?_
  refine lv_aload_n hx hb dX5_shot_125 rfl (lv_at hl 0 rfl) ?_
  refine xw_get B.1 hM1 0 0 (Or.inl ⟨rfl, rfl⟩) (ci := 6) (N := 6) (fs := fTR ad st) (C := RX5) (T := TX5) (fun _ => rfl) rfl inX5 0 (by decide) wf_RX5_10 rfl (v := .ref (ad 13 0)) rfl dX5_shot_126 ?_
  refine xw_size B hM1 hS1 0 (by decide) wm_RX5_37 ⟨Nat.le_of_ble_eq_true rfl, Nat.le_of_ble_eq_true rfl⟩ ⟨by show _ ≤ 11; omega, by show _ ≤ 248; omega⟩ hl.1 (Nat.le_of_ble_eq_true rfl) dX5_shot_129 ?_
  refine lv_iload_n hx hb dX5_shot_132 rfl (lv_at hl 1 rfl) ?_
  refine lv_iload_n hx hb dX5_shot_133 rfl (lv_at hl 2 rfl) ?_
  refine lv_iload_n hx hb dX5_shot_134 rfl (lv_at hl 3 rfl) ?_
  have hP1 : va_P G.1 vwCl ([] ++ [(H.size, .inr (5, [.int 0, .null, .null, .int 0, .int 0, .int 0, .int 0, .int 0, .int 0, .int 0, .int 0, .int 0]))]) H1 := va_P1 hq
  have hD1 : va_D A ([] ++ [(H.size, .inr (5, [.int 0, .null, .null, .int 0, .int 0, .int 0, .int 0, .int 0, .int 0, .int 0, .int 0, .int 0]))] : va_W) := by
    refine ⟨fun i j a b hi hj _ => ?_, fun k x hx => ?_⟩
    · have h1 := (List.getElem?_eq_some_iff.mp hi).1
      have h2 := (List.getElem?_eq_some_iff.mp hj).1
      simp at h1 h2
      omega
    · have h1 : k < 1 := (List.getElem?_eq_some_iff.mp hx).1
      rw [show k = 0 by omega] at hx
      cases hx
      exact hAH _ (Nat.le_refl _)
  rw [gn]
  refine li_call (ro := []) (wr := []) (wc := [(H.size, .inr (5, [.int 0, .null, .null, .int 0, .int 0, .int 0, .int 0, .int 0, .int 0, .int 0, .int 0, .int 0]))]) ⟨B.1, hST, hA⟩ hP1 hD1 hS1 (fun x hx => by cases hx) [.int (nI (xN st 0)), .int x1, .int x2, .int x3] (n := 4) (c_I_X4 g1) wm_RX5_72 wi_yX4_init wn_RX4 wc_yX4_init rfl rfl rfl (by decide +kernel) ⟨Nat.le_of_ble_eq_true rfl, Nat.le_of_ble_eq_true rfl⟩ ⟨by show _ ≤ 11; omega, by show _ ≤ 248; omega⟩ rfl hl.1 (Nat.le_of_ble_eq_true rfl) rfl dX5_shot_135 (fun qs H2 locs2 hP2 hD2 hS2 z2 o2 => ?_)
  have hM2 : XW G A (adS ad (xN st 0) H.size qs) (nwS st x1 x2 x3) H2 := by
    refine xw_growS hM hAH (fun x hx => ?_) hP2 z2.2 (fun x hx => ?_)
    · rw [o2 x (by omega) (fun h => ?_), o1 x hx]
      rcases h with ⟨k, e, h⟩ | h
      · have h1 : k < 1 := (List.getElem?_eq_some_iff.mp h).1
        rw [show k = 0 by omega] at h
        cases h
        omega
      · omega
    · rcases hx with ⟨k, e, h⟩ | h
      · have h1 : k < 1 := (List.getElem?_eq_some_iff.mp h).1
        rw [show k = 0 by omega] at h
        cases h
        exact Nat.le_refl _
      · omega
  have hae : AE ad (adS ad (xN st 0) H.size qs) := ⟨by unfold adS; split <;> rfl, by unfold adS; split <;> rfl, by unfold adS; split <;> rfl⟩
  have a1 : H.size = adS ad (xN st 0) H.size qs 1 (xN st 0) := by simp [adS]
  obtain ⟨ad', had⟩ : ∃ ad', ad' = adS ad (xN st 0) H.size qs := ⟨_, rfl⟩
  rw [← had] at hae hM2 a1
  have hB2 := B.ad hae
  refine xe_mono2 hae ?_
  rw [show (Value.ref H.size) = .ref (ad' 1 (xN st 0)) from congrArg _ a1]
  have hl : lv_has ls 8 [(0, .ref (ad' 0 0)), (1, .int x1), (2, .int x2), (3, .int x3), (4, .int x4), (5, .int x5), (6, .int x6)] := by rw [hae.1]; exact hl
  have hv : xN st 0 < xN (nwS st x1 x2 x3) 0 := Nat.lt_succ_self _
  refine lv_astore (lv' := [(7, .ref (ad' 1 (xN st 0))), (0, .ref (ad' 0 0)), (1, .int x1), (2, .int x2), (3, .int x3), (4, .int x4), (5, .int x5), (6, .int x6)]) hx hb dX5_shot_138 hl (by decide) rfl (fun ls hl => ?_)
  refine lv_aload hx hb dX5_shot_140 (lv_at hl 0 rfl) ?_
  refine lv_iload hx hb dX5_shot_142 (lv_at hl 6 rfl) ?_
  refine xw_putF B.1 hM2 hS2 1 (xN st 0) 1 (Or.inr (Or.inl ⟨rfl, rfl⟩)) (xv_s (k := 1) (by decide) hv) (ci := 5) (N := 12) (fs := fSh ad' (nwS st x1 x2 x3) (xN st 0)) (C := RX4) (T := TX4) (fun _ => rfl) rfl inX4 tyX4_ok nmX4 7 (by decide) wf_RX5_75 rfl rfl rfl rfl (Nat.le_of_ble_eq_true rfl) (fun _ => by simp [enX, fSh, sF, xF, xU]) dX5_shot_144 (fun H locs hM hS => ?_)
  refine lv_aload hx hb dX5_shot_147 (lv_at hl 0 rfl) ?_
  refine lv_iload hx hb dX5_shot_149 (lv_at hl 7 rfl) ?_
  refine xw_putF B.1 hM hS 1 (xN st 0) 1 (Or.inr (Or.inl ⟨rfl, rfl⟩)) (xv_s (k := 1) (by decide) hv) (ci := 5) (N := 12) (fs := fSh ad' (sF (nwS st x1 x2 x3) 1 (xN st 0) 7 x5) (xN st 0)) (C := RX4) (T := TX4) (fun _ => rfl) rfl inX4 tyX4_ok nmX4 8 (by decide) wf_RX5_79 rfl rfl g6.1 g6.2 (Nat.le_of_ble_eq_true rfl) (fun _ => by simp [enX, fSh, sF, xF, xU]) dX5_shot_151 (fun H locs hM hS => ?_)
  refine lv_aload_n hx hb dX5_shot_154 rfl (lv_at hl 1 rfl) ?_
  refine xw_get B.1 hM 0 0 (Or.inl ⟨rfl, rfl⟩) (ci := 6) (N := 6) (fs := fTR ad' _) (C := RX5) (T := TX5) (fun _ => rfl) rfl inX5 0 (by decide) wf_RX5_10 rfl (v := .ref (ad' 13 0)) rfl dX5_shot_155 ?_
  refine lv_aload hx hb dX5_shot_158 (lv_at hl 0 rfl) ?_
  refine xw_ladd hB2 hM hS 0 (by decide) wm_RX5_83 (x := xN st 0) (show xN st 0 < xN st 0 + 1 by omega) (by show (xL st 0).length < 60; exact gl0) ⟨Nat.le_of_ble_eq_true rfl, Nat.le_of_ble_eq_true rfl⟩ ⟨by show _ ≤ 11; omega, by show _ ≤ 248; omega⟩ hl.1 (Nat.le_of_ble_eq_true rfl) dX5_shot_160 (fun H locs hM hS => ?_)
  refine lv_pop hx hb dX5_shot_163 rfl ?_
  refine lv_aload_n hx hb dX5_shot_164 rfl (lv_at hl 1 rfl) ?_
  refine xw_get B.1 hM 0 0 (Or.inl ⟨rfl, rfl⟩) (ci := 6) (N := 6) (fs := fTR ad' _) (C := RX5) (T := TX5) (fun _ => rfl) rfl inX5 1 (by decide) wf_RX5_16 rfl (v := .ref (ad' 13 1)) rfl dX5_shot_165 ?_
  refine lv_iload hx hb dX5_shot_168 (lv_at hl 5 rfl) ?_
  refine lv_aload hx hb dX5_shot_170 (lv_at hl 0 rfl) ?_
  refine xw_laddAt hB2 hM hS 1 (by decide) wm_RX5_87 (x := xN st 0) (show xN st 0 < xN st 0 + 1 by omega) (by show (xL st 1).length < 60; exact gl1) (by show vp_in x4 ((xL st 1).length + 1); exact gi) ⟨Nat.le_of_ble_eq_true rfl, Nat.le_of_ble_eq_true rfl⟩ ⟨by show _ ≤ 11; omega, by show _ ≤ 248; omega⟩ hl.1 (Nat.le_of_ble_eq_true rfl) dX5_shot_172 (fun H locs hM hS => ?_)
  refine lv_aload hx hb dX5_shot_175 (lv_at hl 0 rfl) ?_
  refine xw_get B.1 hM 1 (xN st 0) (xv_s (k := 1) (by decide) hv) (ci := 5) (N := 12) (fs := fSh ad' _ (xN st 0)) (C := RX4) (T := TX4) (fun _ => rfl) rfl inX4 0 (by decide) wf_RX5_90 rfl (v := .int (nI (xN st 0))) rfl dX5_shot_177 ?_
  exact xx_iret hB2 hM hS (by show _ ≤ 11; omega) (by show _ ≤ 248; omega) dX5_shot_180 rfl
noncomputable def f_X5_note_33 (st : XS) (x2 : Nat) : Option ((Nat ⊕ Int32) × XS) :=
  gd (x2 < xN st 0 ∧ (xL st 2).length < 60 ∧ (xL st 2).length = xN st 1)
    (some (.inr (nI ((xL st 2).length + 1) - 1), sL (nwN st x2) 2 (xL st 2 ++ [xN st 1])))
set_option maxHeartbeats 4000000 in
set_option maxRecDepth 100000 in
theorem w_X5_note_33 {p : Program} {l : Launch} {e : Env} {s : State} {m : MethodId} {args : Array Value} {below : List Frame} {meth : Method} {c : Code} {G : GG} {A : Nat → Prop} {ad : AD} (B : XB G A ad p l s m args meth c cX5_note 3 RX5 (some .int)) {r : (Nat ⊕ Int32)} {st' : XS} : ∀ (cells slots : Nat) (st : XS) (x2 : Nat) (H : Heap) (locs : List Loc) (ls : Array Slot), cells + 2 ≤ 4 → slots + 103 ≤ 115 → f_X5_note_33 st x2 = some (r, st') → XW G A ad st H → va_S A s.heap H locs → lv_has ls 3 [(0, .ref (ad 0 0)), (2, .ref (ad 1 x2))] → W p l e ({ frames := 8, cells := 4, slots := 115, locals := 400 } : Room) s m args below meth c H locs cells slots (vx_MQ below (QEr G A ad (ovw (fun x => some (.int x)) r) st') (QEx G A ad (ovw (fun x => some (.int x)) r) st') args s 4 115 A) (F0 m 33 ls []) := by
  have ⟨⟨hx, hb, hr, hml, hown, hT, hlocks, hK⟩, hnt, hST, hA, hll⟩ := B
  intro cells slots st x2 H locs ls hc hs h hM hS hl
  rw [f_X5_note_33] at h
  obtain ⟨⟨g1, g2, g3⟩, h⟩ := gd_e h
  cases h
  have hAH : ∀ q : Nat, H.size ≤ q → A q := fun q hq => hA q (Nat.le_trans hS.1 hq)
  refine lv_aload_n hx hb dX5_note_33 rfl (lv_at hl 0 rfl) ?_
  refine xw_get B.1 hM 0 0 (Or.inl ⟨rfl, rfl⟩) (ci := 6) (N := 6) (fs := fTR ad st) (C := RX5) (T := TX5) (fun _ => rfl) rfl inX5 2 (by decide) wf_RX5_19 rfl (v := .ref (ad 13 2)) rfl dX5_note_34 ?_
  refine xn_new B.1 2 (C := RX1) (T := TX1) (N := 3) rfl inX1 (ty := tyX1) tyX1_ok wk_RX5_245 wo_RX1 wn_RX1 [.null, .int 0, .int 0] (fun j hj => by rcases (show j = 0 ∨ j = 1 ∨ j = 2 by omega) with rfl | rfl | rfl <;> rfl) (by show _ ≤ 4; omega) (by show _ ≤ 115; omega) dX5_note_37 (fun H1 hq z1 o1 => ?_)
  have hM1 := hM.kept2 o1
  have hS1 : va_S A s.heap H1 locs := ⟨Nat.le_trans hS.1 (by omega), fun x h1 h2 => (o1 x (Nat.lt_of_lt_of_le h1 hS.1)).trans (hS.2.1 x h1 h2), hS.2.2⟩
  refine lv_dup hx hb dX5_note_40 rfl ?_
  refine lv_aload_n hx hb dX5_note_41 rfl (lv_at hl 1 rfl) ?_
  have hP1 : va_P G.1 vwCl ([] ++ [(H.size, .inr (2, [.null, .int 0, .int 0]))]) H1 := va_P1 hq
  have hD1 : va_D A ([] ++ [(H.size, .inr (2, [.null, .int 0, .int 0]))] : va_W) := by
    refine ⟨fun i j a b hi hj _ => ?_, fun k x hx => ?_⟩
    · have h1 := (List.getElem?_eq_some_iff.mp hi).1
      have h2 := (List.getElem?_eq_some_iff.mp hj).1
      simp at h1 h2
      omega
    · have h1 : k < 1 := (List.getElem?_eq_some_iff.mp hx).1
      rw [show k = 0 by omega] at hx
      cases hx
      exact hAH _ (Nat.le_refl _)
  have hsh : va_at G.1 vwCl (ad 1 x2, .inr (5, fSh ad st x2)) H1 ∧ ad 1 x2 < H.size := by
    obtain ⟨gh, hW, -⟩ := hM
    have h0 := (hW.1 (1, x2) (Or.inl (xv_s (k := 1) (by decide) g1))).1
    exact ⟨h0.kept (o1 _ h0.lt), h0.lt⟩
  refine li_call (ro := [(ad 1 x2, .inr (5, fSh ad st x2))]) (wr := []) (wc := [(H.size, .inr (2, [.null, .int 0, .int 0]))]) ⟨B.1, hST, hA⟩ hP1 hD1 hS1 (fun x hx => ?_) [.ref (ad 1 x2)] (n := 1) (c_I_X1 (ve := xF st 1 x2 6) rfl) wm_RX5_247 wi_yX1_init wn_RX1 wc_yX1_init rfl rfl rfl (by decide +kernel) ⟨Nat.le_of_ble_eq_true rfl, Nat.le_of_ble_eq_true rfl⟩ ⟨by show _ ≤ 4; omega, by show _ ≤ 115; omega⟩ rfl hl.1 (Nat.le_of_ble_eq_true rfl) rfl dX5_note_42 (fun qs H2 locs2 hP2 hD2 hS2 z2 o2 => ?_)
  · rw [List.mem_singleton.mp hx]
    refine ⟨hsh.1, fun h => ?_⟩
    rcases h with ⟨k, e, h⟩ | h
    · have h1 : k < 1 := (List.getElem?_eq_some_iff.mp h).1
      rw [show k = 0 by omega] at h
      have h2 : H.size = ad 1 x2 := by injection h with h; injection h
      have := hsh.2
      omega
    · have := hsh.2
      have h3 : H1.size ≤ ad 1 x2 := h
      omega
  have hM2 : XW G A (adN ad (xN st 1) H.size) (nwN st x2) H2 := by
    refine xw_growN hM hAH g1 (fun x hx => ?_) (Nat.le_refl _) (hP2 0 _ rfl)
    rw [o2 x (by omega) (fun h => ?_), o1 x hx]
    rcases h with ⟨k, e, h⟩ | h
    · have h1 : k < 1 := (List.getElem?_eq_some_iff.mp h).1
      rw [show k = 0 by omega] at h
      cases h
      omega
    · omega
  have hae : AE ad (adN ad (xN st 1) H.size) := ⟨rfl, rfl, rfl⟩
  have a1 : H.size = adN ad (xN st 1) H.size (elk 2) (xN st 1) := by simp [adN, elk]
  have a13 : ad 13 2 = adN ad (xN st 1) H.size 13 2 := rfl
  obtain ⟨ad', had⟩ : ∃ ad', ad' = adN ad (xN st 1) H.size := ⟨_, rfl⟩
  rw [← had] at hae hM2 a1 a13
  have hB2 := B.ad hae
  refine xe_mono2 hae ?_
  rw [show (Value.ref H.size) = .ref (ad' (elk 2) (xN st 1)) from congrArg _ a1, a13]
  have hl : lv_has ls 3 [(0, .ref (ad' 0 0)), (2, .ref (ad 1 x2))] := by rw [hae.1]; exact hl
  refine xw_ladd hB2 hM2 hS2 2 (by decide) wm_RX5_83 (x := xN st 1) (show xN st 1 < xN st 1 + 1 by omega) (by show (xL st 2).length < 60; exact g2) ⟨Nat.le_of_ble_eq_true rfl, Nat.le_of_ble_eq_true rfl⟩ ⟨by show _ ≤ 4; omega, by show _ ≤ 115; omega⟩ hl.1 (Nat.le_of_ble_eq_true rfl) dX5_note_45 (fun H locs hM hS => ?_)
  refine lv_pop hx hb dX5_note_48 rfl ?_
  refine lv_aload_n hx hb dX5_note_49 rfl (lv_at hl 0 rfl) ?_
  refine xw_get B.1 hM 0 0 (Or.inl ⟨rfl, rfl⟩) (ci := 6) (N := 6) (fs := fTR ad' _) (C := RX5) (T := TX5) (fun _ => rfl) rfl inX5 2 (by decide) wf_RX5_19 rfl (v := .ref (ad' 13 2)) rfl dX5_note_50 ?_
  refine xw_size hB2 hM hS 2 (by decide) wm_RX5_37 ⟨Nat.le_of_ble_eq_true rfl, Nat.le_of_ble_eq_true rfl⟩ ⟨by show _ ≤ 4; omega, by show _ ≤ 115; omega⟩ hl.1 (Nat.le_of_ble_eq_true rfl) dX5_note_53 ?_
  refine lv_iconst (v := 1) hx hb dX5_note_56 (by decide) ?_
  refine lv_isub hx hb dX5_note_57 ?_
  have el : (xL (sL (nwN st x2) 2 (xL (nwN st x2) 2 ++ [xN st 1])) 2).length = (xL st 2).length + 1 := by simp [xL, sL, nwN]
  rw [el]
  exact xx_iret hB2 hM hS (by show _ ≤ 4; omega) (by show _ ≤ 115; omega) dX5_note_58 rfl
