theorem c_J_range {l : Launch} {G : GG} {ad : AD} {h0 : Nat} {mc sz i : Int32} {o : Option (Nat × Nat × (Nat → Option Nat))} (h1 : ¬ sz < i) (h2 : 0 ≤ i) : Met l yJx4a65c_rangeCheckForAdd_d00df (Cond.code yJx4a65c_rangeCheckForAdd_d00df cJx4a65c_rangeCheckForAdd_d00df 2 none :: TG) ({ frames := 0, cells := 0, slots := 0, locals := 0 } : Room) (PH G (fun H => va_P G.1 vwCl (lws G ad h0 mc o sz) H) [.ref h0, .int i]) QHv 0 0 (fun _ => False) :=
  ph_of (own := RJx4a65c) (by decide +kernel) rfl (Nat.le_of_ble_eq_true rfl) fun p e s m below meth c ls B hP hl => by
    have ⟨hx, hb, hr, hml, hown, hT, hlocks, hK⟩ := B
    refine lv_iload_n hx hb dJx4a65c_rangeCheckForAdd_d00df_0 rfl (lv_at hl 1 rfl) ?_
    refine lv_aload_n hx hb dJx4a65c_rangeCheckForAdd_d00df_1 rfl (lv_at hl 0 rfl) ?_
    refine jl_gsiz B hP dJx4a65c_rangeCheckForAdd_d00df_2 ?_
    refine lv_icmp_gt (tgt := 12) hx hb dJx4a65c_rangeCheckForAdd_d00df_5 (by decide) (fun c1 => absurd c1 h1) (fun c1 => ?_)
    refine lv_iload_n hx hb dJx4a65c_rangeCheckForAdd_d00df_8 rfl (lv_at hl 1 rfl) ?_
    refine lv_if_ge (tgt := 25) hx hb dJx4a65c_rangeCheckForAdd_d00df_9 (by decide) (fun c2 => ?_) (fun c2 => absurd h2 c2)
    exact W.vret hx hb hr (fun t ht hW => ⟨rfl, ht⟩) nof dJx4a65c_rangeCheckForAdd_d00df_25
def insP (o : Option (Nat × Nat × (Nat → Option Nat))) (c i x : Nat) (N : Nat) (g : Nat → Option Nat) : Prop := c < N ∧ N ≤ 100 ∧ 2 ≤ N ∧ (∀ t, t < i → g t = lfn o t) ∧ g i = some x ∧ (∀ t, i < t → t ≤ c → g t = lfn o (t - 1)) ∧ ∀ t, c < t → g t = none
/-- add(i, e) -/
theorem c_J_addAt {l : Launch} {G : GG} {A : Nat → Prop} {ad : AD} {h0 c i x : Nat} {mc : Int32} {o : Option (Nat × Nat × (Nat → Option Nat))} {ci : Nat} (hc : Eci ci) (hcap : lcp o ≤ 100 ∧ (o ≠ none → 2 ≤ lcp o)) (hle : c ≤ lcp o) (hlt : c < 60) (hno : ∀ t, c ≤ t → lfn o t = none) (hi : i ≤ c) : Met l yJx4a65c_add_7a177 (Cond.code yJx4a65c_add_7a177 cJx4a65c_add_7a177 5 none :: TG) ({ frames := 6, cells := 1, slots := 100, locals := 220 } : Room) (PL G A ad (lws G ad h0 mc o (nI c)) (fun H => EE G A ci (lfn o) H ∧ EL G ci x H ∧ ¬ A x) [.ref h0, .int (nI i), .ref x]) (QL G A (fun v ws' => v = none ∧ ∃ q N g, ws' = lws G ad h0 (mc + 1) (some (q, N, g)) (nI (c + 1)) ∧ insP o c i x N g)) 1 100 A :=
  pl_of (own := RJx4a65c) (by decide +kernel) rfl (Nat.le_of_ble_eq_true rfl) fun p e s m below meth c' ls B hST hA hP hD hE hl => by
    have ⟨hx, hb, hr, hml, hown, hT, hlocks, hK⟩ := B
    have hS : va_S A s.heap s.heap [] := va_S.rf
    have hl : lv_has ls 5 [(0, .ref h0), (1, .int (nI i)), (2, .ref x)] := hl
    have tail : ∀ (q N : Nat) (g : Nat → Option Nat) (H : Heap) (locs : List Loc) (ls : Array Slot) (cells slots : Nat), cells ≤ 1 → slots ≤ 100 → c < N → N ≤ 100 → 2 ≤ N → (∀ t, t < c → g t = lfn o t) → (∀ t, c ≤ t → g t = none) → va_P G.1 vwCl (lws G ad h0 (mc + 1) (some (q, N, g)) (nI c)) H → va_D A (lws G ad h0 (mc + 1) (some (q, N, g)) (nI c)) → va_S A s.heap H locs → lv_has ls 5 [(0, .ref h0), (1, .int (nI i)), (2, .ref x), (3, .int (nI c)), (4, .ref q)] → W p l e ({ frames := 6, cells := 1, slots := 100, locals := 220 } : Room) s m ([.ref h0, .int (nI i), .ref x] : List Value).toArray below meth c' H locs cells slots (MQ below (QL G A (fun v ws' => v = none ∧ ∃ q N g, ws' = lws G ad h0 (mc + 1) (some (q, N, g)) (nI (c + 1)) ∧ insP o c i x N g)) ([.ref h0, .int (nI i), .ref x] : List Value).toArray s 1 100 A) (F0 m 38 ls []) := by
      intro q N g H locs ls cells slots hc1 hs1 hcN hN hN2 hg1 hg2 hP hD hS hl
      refine lv_aload hx hb dJx4a65c_add_7a177_38 (lv_at hl 4 rfl) ?_
      refine lv_iload_n hx hb dJx4a65c_add_7a177_40 rfl (lv_at hl 1 rfl) ?_
      refine lv_aload hx hb dJx4a65c_add_7a177_41 (lv_at hl 4 rfl) ?_
      refine lv_iload_n hx hb dJx4a65c_add_7a177_43 rfl (lv_at hl 1 rfl) ?_
      refine lv_iconst (v := 1) hx hb dJx4a65c_add_7a177_44 (by decide) ?_
      refine lv_iadd hx hb dJx4a65c_add_7a177_45 ?_
      rw [nI_1]
      refine lv_iload_n hx hb dJx4a65c_add_7a177_46 rfl (lv_at hl 3 rfl) ?_
      refine lv_iload_n hx hb dJx4a65c_add_7a177_47 rfl (lv_at hl 1 rfl) ?_
      refine lv_isub hx hb dJx4a65c_add_7a177_48 ?_
      rw [pk_sub hi]
      have hEg : ∀ t y, g t = some y → EL G ci y H := fun t y hy => by
        rcases Nat.lt_or_ge t c with h | h
        · rw [hg1 t h] at hy
          exact (hE.1 t y hy).1.kept (hE.1 t y hy).2 hS.2.1
        · rw [hg2 t h] at hy
          cases hy
      refine va_copyq hx hb (hml.trans hl.1.symm) hown (hT _ wm_RJx4a65c_112) (hT _ wx_nac) (hT _ wx_sac) (hT _ wn_RJ10) hK hP hD hS 1 1 5 5 rfl rfl rfl rfl (C := ecn ci) (sp := nI i) (dp := nI (i + 1)) (n := nI (c - i)) (nI_pos (by omega)) (nI_pos (by omega)) (nI_pos (by omega)) (by rw [nI_clamp (by omega), nI_clamp (by omega)]; omega) (by rw [nI_clamp (by omega), nI_clamp (by omega)]; omega) (fun t ht y hy => ?_) (ecn_asg hST hc) (Nat.le_of_ble_eq_true rfl) (Nat.le_of_ble_eq_true rfl) dJx4a65c_add_7a177_49 (fun H locs hP hD hS => ?_)
      · obtain ⟨cellV, k1, k2, k3⟩ := hEg _ y hy
        exact ⟨cellV, k1, k2, by rw [k3]; exact ecn_find hK hc⟩
      rw [nI_clamp (by omega), nI_clamp (by omega), nI_clamp (by omega)] at hP hD
      refine lv_aload hx hb dJx4a65c_add_7a177_52 (lv_at hl 4 rfl) ?_
      refine lv_iload_n hx hb dJx4a65c_add_7a177_54 rfl (lv_at hl 1 rfl) ?_
      refine lv_aload_n hx hb dJx4a65c_add_7a177_55 rfl (lv_at hl 2 rfl) ?_
      have hAny : va_Any "java/lang/Object" s H x := ecn_any hK hST hc (hE.2.1.kept hE.2.2 hS.2.1)
      refine va_astqM hx hb hK hP hD hS 1 5 rfl rfl hAny (vp_in_nI (by omega) (by omega)) dJx4a65c_add_7a177_56 (fun H locs hP hD hS => ?_)
      rw [nI_clamp (by omega)] at hP hD
      have hP : va_P G.1 vwCl (lws G ad h0 (mc + 1) (some (q, N, va_up (va_cpy g g i (i + 1) (c - i)) i (some x))) (nI c)) H := hP
      have hD : va_D A (lws G ad h0 (mc + 1) (some (q, N, va_up (va_cpy g g i (i + 1) (c - i)) i (some x))) (nI c)) := hD
      refine lv_aload_n hx hb dJx4a65c_add_7a177_57 rfl (lv_at hl 0 rfl) ?_
      refine lv_iload_n hx hb dJx4a65c_add_7a177_58 rfl (lv_at hl 3 rfl) ?_
      refine lv_iconst (v := 1) hx hb dJx4a65c_add_7a177_59 (by decide) ?_
      refine lv_iadd hx hb dJx4a65c_add_7a177_60 ?_
      rw [nI_1]
      refine jl_siz B hP hD hS dJx4a65c_add_7a177_61 (fun H locs hP hD hS => ?_)
      refine W.widen hc1 hs1 ?_
      refine W.vret hx hb hr (fun t ht hW => ⟨none, _, rfl, ⟨rfl, q, N, _, rfl, hcN, hN, hN2, fun t h => ?_, va_up_self _ _ _, fun t h h' => ?_, fun t h => ?_⟩, by rw [ht]; exact hP, hD, hS.F ht⟩) hS.2.2 dJx4a65c_add_7a177_64
      · rw [va_up_ne _ _ (by omega), pk_cpy_out (Or.inl (by omega))]
        exact hg1 t (by omega)
      · rw [va_up_ne _ _ (by omega), pk_cpy_in (by omega) (by omega), show i + (t - (i + 1)) = t - 1 by omega]
        exact hg1 _ (by omega)
      · rw [va_up_ne _ _ (by omega), pk_cpy_out (Or.inr (by omega))]
        exact hg2 t (by omega)
    refine lv_aload_n hx hb dJx4a65c_add_7a177_0 rfl (lv_at hl 0 rfl) ?_
    refine lv_iload_n hx hb dJx4a65c_add_7a177_1 rfl (lv_at hl 1 rfl) ?_
    refine ph_callVv B (lws_recv hK hP) [.int (nI i)] (n := 1) (F := fun H => va_P G.1 vwCl (lws G ad h0 mc o (nI c)) H) hP (c_J_range (nI_nlt hi (by omega)) (nI_pos' (by omega))) wm_RJx4a65c_135 wi_yJx4a65c_rangeCheckForAdd_d00df ws_yJx4a65c_rangeCheckForAdd_d00df wn_RJx4a65c wc_yJx4a65c_rangeCheckForAdd_d00df rfl rfl (by decide +kernel) ⟨Nat.le_of_ble_eq_true rfl, Nat.le_of_ble_eq_true rfl⟩ ⟨by show _ ≤ 1; omega, by show _ ≤ 100; omega⟩ rfl hl.1 (Nat.le_of_ble_eq_true rfl) rfl dJx4a65c_add_7a177_2 ?_
    refine lv_aload_n hx hb dJx4a65c_add_7a177_5 rfl (lv_at hl 0 rfl) ?_
    refine lv_dup hx hb dJx4a65c_add_7a177_6 rfl ?_
    refine jl_gmod B hP dJx4a65c_add_7a177_7 ?_
    refine lv_iconst (v := 1) hx hb dJx4a65c_add_7a177_10 (by decide) ?_
    refine lv_iadd hx hb dJx4a65c_add_7a177_11 ?_
    refine jl_mod B hP hD hS dJx4a65c_add_7a177_12 (fun H locs hP hD hS => ?_)
    refine lv_aload_n hx hb dJx4a65c_add_7a177_15 rfl (lv_at hl 0 rfl) ?_
    refine jl_gsiz B hP dJx4a65c_add_7a177_16 ?_
    refine lv_dup hx hb dJx4a65c_add_7a177_19 rfl ?_
    refine lv_istore_n (lv' := [(3, .int (nI c)), (0, .ref h0), (1, .int (nI i)), (2, .ref x)]) hx hb dJx4a65c_add_7a177_20 rfl hl (by decide) rfl (fun ls hl => ?_)
    refine lv_aload_n hx hb dJx4a65c_add_7a177_21 rfl (lv_at hl 1 rfl) ?_
    refine jl_gdat B hP dJx4a65c_add_7a177_22 ?_
    refine lv_dup hx hb dJx4a65c_add_7a177_25 rfl ?_
    refine lv_astore (lv' := [(4, .ref (lrf ad o)), (3, .int (nI c)), (0, .ref h0), (1, .int (nI i)), (2, .ref x)]) hx hb dJx4a65c_add_7a177_26 hl (by decide) rfl (fun ls hl => ?_)
    refine jl_len B hST hP hS dJx4a65c_add_7a177_28 ?_
    refine lv_icmp_ne (tgt := 38) hx hb dJx4a65c_add_7a177_29 (by decide) (fun c1 => ?_) (fun c1 => ?_)
    · have hne : c ≠ lcp o := fun z => c1 (by rw [z])
      cases o with
      | none => exact absurd (Nat.le_antisymm hle (Nat.zero_le c)) (fun z => hne z)
      | some q =>
        obtain ⟨a, n, f⟩ := q
        exact tail a n f _ _ _ 0 0 (by omega) (by omega) (Nat.lt_of_le_of_ne hle hne) hcap.1 (hcap.2 (by simp)) (fun _ _ => rfl) hno hP hD hS (lv_sub hl [2, 3, 4, 1, 0] rfl)
    · have heq : c = lcp o := (nI_eq (by omega) (by have := hcap.1; omega)).mp c1
      refine lv_aload_n hx hb dJx4a65c_add_7a177_32 rfl (lv_at hl 2 rfl) ?_
      have ho : (o = none ∧ c = 0) ∨ ∃ a f, o = some (a, c, f) ∧ 2 ≤ c ∧ c ≤ 66 := by
        cases o with
        | none => exact Or.inl ⟨rfl, heq⟩
        | some q =>
          obtain ⟨a, n, f⟩ := q
          have h2 := hcap.2 (by simp)
          exact Or.inr ⟨a, f, by rw [heq]; rfl, by rw [heq]; exact h2, by omega⟩
      have hE1 : EE G A ci (lfn o) H := hE.1.kept hS.2.1
      refine pl_callV B hST (fun _ h => h) (fun q hq => hA q (Nat.le_trans hS.1 hq)) hS hP hD hE1 (lws_recv hK hP) [] (n := 0) (c_J_grow hc ho) wm_RJx4a65c_129 wi_yJx4a65c_grow_d5877 ws_yJx4a65c_grow_d5877 wn_RJx4a65c wc_yJx4a65c_grow_d5877 rfl rfl (by decide +kernel) ⟨Nat.le_of_ble_eq_true rfl, Nat.le_of_ble_eq_true rfl⟩ ⟨Nat.le_refl 1, Nat.le_refl 100⟩ rfl hl.1 (Nat.le_of_ble_eq_true rfl) rfl dJx4a65c_add_7a177_33 (fun v ws' H locs hp hP hD hS hq => ?_)
      obtain ⟨q, N, g, rfl, rfl, hcN, hN, hN2, hg1, hg2⟩ := hp
      refine lv_astore (lv' := [(4, .ref q), (3, .int (nI c)), (0, .ref h0), (1, .int (nI i)), (2, .ref x)]) hx hb dJx4a65c_add_7a177_36 hl (by decide) rfl (fun ls hl => ?_)
      exact tail q N g _ _ _ _ _ (by omega) (by omega) hcN hN hN2 hg1 hg2 hP hD hS (lv_sub hl [2, 3, 4, 1, 0] rfl)
def rmvP (f : Nat → Option Nat) (c i : Nat) (g : Nat → Option Nat) : Prop := (∀ t, t < i → g t = f t) ∧ (∀ t, i ≤ t → t < c → g t = f (t + 1)) ∧ ∀ t, c ≤ t → g t = none
/-- fastRemove(row, i): c + 1 things, one less behind it -/
theorem c_J_fast {l : Launch} {G : GG} {A : Nat → Prop} {ad : AD} {h0 a n c i : Nat} {mc : Int32} {f : Nat → Option Nat} {ci : Nat} (hc : Eci ci) (hn : n ≤ 100) (hle : c + 1 ≤ n) (hno : ∀ t, c + 1 ≤ t → f t = none) (hi : i < c + 1) : Met l yJx4a65c_fastRemove_b59b0 (Cond.code yJx4a65c_fastRemove_b59b0 cJx4a65c_fastRemove_b59b0 4 none :: TG) ({ frames := 1, cells := 0, slots := 0, locals := 60 } : Room) (PL G A ad (lws G ad h0 mc (some (a, n, f)) (nI (c + 1))) (fun H => EE G A ci f H) [.ref h0, .ref a, .int (nI i)]) (QL G A (fun v ws' => v = none ∧ ∃ g, ws' = lws G ad h0 (mc + 1) (some (a, n, g)) (nI c) ∧ rmvP f c i g)) 0 0 A :=
  pl_of (own := RJx4a65c) (by decide +kernel) rfl (Nat.le_of_ble_eq_true rfl) fun p e s m below meth c' ls B hST hA hP hD hE hl => by
    have ⟨hx, hb, hr, hml, hown, hT, hlocks, hK⟩ := B
    have hS : va_S A s.heap s.heap [] := va_S.rf
    have hl : lv_has ls 4 [(0, .ref h0), (1, .ref a), (2, .int (nI i))] := hl
    have tail : ∀ (g : Nat → Option Nat) (H : Heap) (locs : List Loc) (ls : Array Slot), (∀ t, t < i → g t = f t) → (∀ t, i ≤ t → t < c → g t = f (t + 1)) → (∀ t, c + 1 ≤ t → g t = none) → va_P G.1 vwCl (lws G ad h0 (mc + 1) (some (a, n, g)) (nI (c + 1))) H → va_D A (lws G ad h0 (mc + 1) (some (a, n, g)) (nI (c + 1))) → va_S A s.heap H locs → lv_has ls 4 [(0, .ref h0), (1, .ref a), (3, .int (nI c))] → W p l e ({ frames := 1, cells := 0, slots := 0, locals := 60 } : Room) s m ([.ref h0, .ref a, .int (nI i)] : List Value).toArray below meth c' H locs 0 0 (MQ below (QL G A (fun v ws' => v = none ∧ ∃ g, ws' = lws G ad h0 (mc + 1) (some (a, n, g)) (nI c) ∧ rmvP f c i g)) ([.ref h0, .ref a, .int (nI i)] : List Value).toArray s 0 0 A) (F0 m 34 ls []) := by
      intro g H locs ls hg1 hg2 hg3 hP hD hS hl
      refine lv_aload_n hx hb dJx4a65c_fastRemove_b59b0_34 rfl (lv_at hl 1 rfl) ?_
      refine lv_aload_n hx hb dJx4a65c_fastRemove_b59b0_35 rfl (lv_at hl 0 rfl) ?_
      refine lv_iload_n hx hb dJx4a65c_fastRemove_b59b0_36 rfl (lv_at hl 2 rfl) ?_
      refine lv_dup_x1 hx hb dJx4a65c_fastRemove_b59b0_37 rfl rfl ?_
      refine jl_siz B hP hD hS dJx4a65c_fastRemove_b59b0_38 (fun H locs hP hD hS => ?_)
      refine lv_null hx hb dJx4a65c_fastRemove_b59b0_41 ?_
      refine va_astqN hx hb hK hP hD hS 1 5 rfl rfl (vp_in_nI (by omega) (by omega)) dJx4a65c_fastRemove_b59b0_42 (fun H locs hP hD hS => ?_)
      rw [nI_clamp (by omega)] at hP hD
      refine W.vret hx hb hr (fun t ht hW => ⟨none, _, rfl, ⟨rfl, va_up g c none, rfl, fun t h => ?_, fun t h h' => ?_, fun t h => ?_⟩, by rw [ht]; exact hP, hD, hS.F ht⟩) hS.2.2 dJx4a65c_fastRemove_b59b0_43
      · rw [va_up_ne _ _ (by omega)]
        exact hg1 t h
      · rw [va_up_ne _ _ (by omega)]
        exact hg2 t h h'
      · by_cases e : t = c
        · subst e
          exact va_up_self _ _ _
        · rw [va_up_ne _ _ e]
          exact hg3 t (by omega)
    refine lv_aload_n hx hb dJx4a65c_fastRemove_b59b0_0 rfl (lv_at hl 0 rfl) ?_
    refine lv_dup hx hb dJx4a65c_fastRemove_b59b0_1 rfl ?_
    refine jl_gmod B hP dJx4a65c_fastRemove_b59b0_2 ?_
    refine lv_iconst (v := 1) hx hb dJx4a65c_fastRemove_b59b0_5 (by decide) ?_
    refine lv_iadd hx hb dJx4a65c_fastRemove_b59b0_6 ?_
    refine jl_mod B hP hD hS dJx4a65c_fastRemove_b59b0_7 (fun H locs hP hD hS => ?_)
    refine lv_aload_n hx hb dJx4a65c_fastRemove_b59b0_10 rfl (lv_at hl 0 rfl) ?_
    refine jl_gsiz B hP dJx4a65c_fastRemove_b59b0_11 ?_
    refine lv_iconst (v := 1) hx hb dJx4a65c_fastRemove_b59b0_14 (by decide) ?_
    refine lv_isub hx hb dJx4a65c_fastRemove_b59b0_15 ?_
    rw [nI_pred]
    refine lv_dup hx hb dJx4a65c_fastRemove_b59b0_16 rfl ?_
    refine lv_istore_n (lv' := [(3, .int (nI c)), (0, .ref h0), (1, .ref a), (2, .int (nI i))]) hx hb dJx4a65c_fastRemove_b59b0_17 rfl hl (by decide) rfl (fun ls hl => ?_)
    refine lv_iload_n hx hb dJx4a65c_fastRemove_b59b0_18 rfl (lv_at hl 3 rfl) ?_
    refine lv_icmp_le (tgt := 34) hx hb dJx4a65c_fastRemove_b59b0_19 (by decide) (fun c1 => ?_) (fun c1 => ?_)
    · have hci : c ≤ i := (nI_leI (by omega) (by omega)).mp c1
      exact tail f _ _ _ (fun _ _ => rfl) (fun t h h' => by omega) hno hP hD hS (lv_sub hl [1, 2, 0] rfl)
    · have hci : i < c := Nat.lt_of_not_le fun z => c1 (nI_le z (by omega))
      refine lv_aload_n hx hb dJx4a65c_fastRemove_b59b0_22 rfl (lv_at hl 2 rfl) ?_
      refine lv_iload_n hx hb dJx4a65c_fastRemove_b59b0_23 rfl (lv_at hl 3 rfl) ?_
      refine lv_iconst (v := 1) hx hb dJx4a65c_fastRemove_b59b0_24 (by decide) ?_
      refine lv_iadd hx hb dJx4a65c_fastRemove_b59b0_25 ?_
      rw [nI_1]
      refine lv_aload_n hx hb dJx4a65c_fastRemove_b59b0_26 rfl (lv_at hl 2 rfl) ?_
      refine lv_iload_n hx hb dJx4a65c_fastRemove_b59b0_27 rfl (lv_at hl 3 rfl) ?_
      refine lv_iload_n hx hb dJx4a65c_fastRemove_b59b0_28 rfl (lv_at hl 0 rfl) ?_
      refine lv_iload_n hx hb dJx4a65c_fastRemove_b59b0_29 rfl (lv_at hl 3 rfl) ?_
      refine lv_isub hx hb dJx4a65c_fastRemove_b59b0_30 ?_
      rw [pk_sub (Nat.le_of_lt hci)]
      have hE1 : EE G A ci f H := hE.kept hS.2.1
      refine va_copyq hx hb (hml.trans hl.1.symm) hown (hT _ wm_RJx4a65c_112) (hT _ wx_nac) (hT _ wx_sac) (hT _ wn_RJ10) hK hP hD hS 1 1 5 5 rfl rfl rfl rfl (C := ecn ci) (sp := nI (i + 1)) (dp := nI i) (n := nI (c - i)) (nI_pos (by omega)) (nI_pos (by omega)) (nI_pos (by omega)) (by rw [nI_clamp (by omega), nI_clamp (by omega)]; omega) (by rw [nI_clamp (by omega), nI_clamp (by omega)]; omega) (fun t ht y hy => ?_) (ecn_asg hST hc) (Nat.le_of_ble_eq_true rfl) (Nat.le_of_ble_eq_true rfl) dJx4a65c_fastRemove_b59b0_31 (fun H locs hP hD hS => ?_)
      · obtain ⟨cellV, k1, k2, k3⟩ := (hE1 _ y hy).1
        exact ⟨cellV, k1, k2, by rw [k3]; exact ecn_find hK hc⟩
      rw [nI_clamp (by omega), nI_clamp (by omega), nI_clamp (by omega)] at hP hD
      refine tail (va_cpy f f (i + 1) i (c - i)) _ _ _ (fun t h => pk_cpy_out (Or.inl h)) (fun t h h' => ?_) (fun t h => ?_) hP hD hS (lv_sub hl [1, 2, 0] rfl)
      · rw [pk_cpy_in h (by omega), show i + 1 + (t - i) = t + 1 by omega]
      · rw [pk_cpy_out (Or.inr (by omega))]
        exact hno t h
/-- remove(i) -/
theorem c_J_remove {l : Launch} {G : GG} {A : Nat → Prop} {ad : AD} {h0 a n c i x : Nat} {mc : Int32} {f : Nat → Option Nat} {ci : Nat} (hc : Eci ci) (hn : n ≤ 100) (hle : c + 1 ≤ n) (hno : ∀ t, c + 1 ≤ t → f t = none) (hi : i < c + 1) (hf : f i = some x) : Met l yJx4a65c_remove_915e3 (Cond.code yJx4a65c_remove_915e3 cJx4a65c_remove_915e3 4 (some (.object "java/lang/Object")) :: TG) ({ frames := 2, cells := 0, slots := 0, locals := 90 } : Room) (PL G A ad (lws G ad h0 mc (some (a, n, f)) (nI (c + 1))) (fun H => EE G A ci f H) [.ref h0, .int (nI i)]) (QL G A (fun v ws' => v = some (.ref x) ∧ ∃ g, ws' = lws G ad h0 (mc + 1) (some (a, n, g)) (nI c) ∧ rmvP f c i g)) 0 0 A :=
  pl_of (own := RJx4a65c) (by decide +kernel) rfl (Nat.le_of_ble_eq_true rfl) fun p e s m below meth c' ls B hST hA hP hD hE hl => by
    have ⟨hx, hb, hr, hml, hown, hT, hlocks, hK⟩ := B
    have hS : va_S A s.heap s.heap [] := va_S.rf
    refine lv_iload_n hx hb dJx4a65c_remove_915e3_0 rfl (lv_at hl 1 rfl) ?_
    refine lv_aload_n hx hb dJx4a65c_remove_915e3_1 rfl (lv_at hl 0 rfl) ?_
    refine jl_gsiz B hP dJx4a65c_remove_915e3_2 ?_
    refine ph_callS B [.int (nI i), .int (nI (c + 1))] (n := 2) (F := fun _ => True) trivial (c_J_check2 (nI_pos (by omega)) (nI_lt hi (by omega))) wm_RJx4a65c_118 wt_yJ15_checkIndex_7cf53 wn_RJ15 wc_yJ15_checkIndex_7cf53 rfl rfl (by decide +kernel) ⟨Nat.le_of_ble_eq_true rfl, Nat.le_of_ble_eq_true rfl⟩ ⟨Nat.le_refl 0, Nat.le_refl 0⟩ rfl hl.1 (Nat.le_of_ble_eq_true rfl) rfl dJx4a65c_remove_915e3_5 ?_
    refine lv_pop hx hb dJx4a65c_remove_915e3_8 rfl ?_
    refine lv_aload_n hx hb dJx4a65c_remove_915e3_9 rfl (lv_at hl 0 rfl) ?_
    refine jl_gdat B hP dJx4a65c_remove_915e3_10 ?_
    refine lv_astore_n (lv' := [(2, .ref a), (0, .ref h0), (1, .int (nI i))]) hx hb dJx4a65c_remove_915e3_13 rfl hl (by decide) rfl (fun ls hl => ?_)
    refine lv_aload_n hx hb dJx4a65c_remove_915e3_14 rfl (lv_at hl 0 rfl) ?_
    refine lv_iload_n hx hb dJx4a65c_remove_915e3_15 rfl (lv_at hl 2 rfl) ?_
    refine va_aldq hx hb hK hP 1 5 rfl rfl (vp_in_nI (by omega) (by omega)) dJx4a65c_remove_915e3_16 ?_
    rw [nI_clamp (by omega), hf]
    refine lv_astore_n (x := x) (lv' := [(3, .ref x), (2, .ref a), (0, .ref h0), (1, .int (nI i))]) hx hb dJx4a65c_remove_915e3_17 rfl hl (by decide) rfl (fun ls hl => ?_)
    refine lv_aload_n hx hb dJx4a65c_remove_915e3_18 rfl (lv_at hl 2 rfl) ?_
    refine lv_aload_n hx hb dJx4a65c_remove_915e3_19 rfl (lv_at hl 1 rfl) ?_
    refine lv_iload_n hx hb dJx4a65c_remove_915e3_20 rfl (lv_at hl 3 rfl) ?_
    refine pl_callV B hST (fun _ h => h) hA hS hP hD hE (lws_recv hK hP) [.ref a, .int (nI i)] (n := 2) (c_J_fast hc hn hle hno hi) wm_RJx4a65c_144 wi_yJx4a65c_fastRemove_b59b0 ws_yJx4a65c_fastRemove_b59b0 wn_RJx4a65c wc_yJx4a65c_fastRemove_b59b0 rfl rfl (by decide +kernel) ⟨Nat.le_of_ble_eq_true rfl, Nat.le_of_ble_eq_true rfl⟩ ⟨Nat.le_refl 0, Nat.le_refl 0⟩ rfl hl.1 (Nat.le_of_ble_eq_true rfl) rfl dJx4a65c_remove_915e3_21 (fun v ws' H locs hp hP hD hS hq => ?_)
    obtain ⟨rfl, g, rfl, hg⟩ := hp
    refine lv_aload_n hx hb dJx4a65c_remove_915e3_24 rfl (lv_at hl 0 rfl) ?_
    exact W.aret hx hb hr (Or.inl ⟨_, rfl⟩) (Or.inr ⟨_, rfl⟩) (fun t ht hW => ⟨_, _, rfl, ⟨rfl, g, rfl, hg⟩, by rw [ht]; exact hP, hD, hS.F ht⟩) hS.2.2 dJx4a65c_remove_915e3_25
