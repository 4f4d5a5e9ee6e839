theorem lws_0 {G : GG} {ad : AD} {h0 : Nat} {mc sz : Int32} {o : Option (Nat × Nat × (Nat → Option Nat))} : (lws G ad h0 mc o sz)[0]? = some (h0, .inr (0, [.int mc, .ref (lrf ad o), .int sz])) := by
  cases o with
  | none => rfl
  | some q => rfl
theorem lws_s0 {G : GG} {ad : AD} {h0 : Nat} {mc sz mc' : Int32} {o : Option (Nat × Nat × (Nat → Option Nat))} : (lws G ad h0 mc o sz).set 0 (h0, .inr (0, [.int mc', .ref (lrf ad o), .int sz])) = lws G ad h0 mc' o sz := by
  cases o with
  | none => rfl
  | some q => rfl
theorem lws_s2 {G : GG} {ad : AD} {h0 : Nat} {mc sz sz' : Int32} {o : Option (Nat × Nat × (Nat → Option Nat))} : (lws G ad h0 mc o sz).set 0 (h0, .inr (0, [.int mc, .ref (lrf ad o), .int sz'])) = lws G ad h0 mc o sz' := by
  cases o with
  | none => rfl
  | some q => rfl
section JLA
variable {p : Program} {l : Launch} {e : Env} {R : Room} {s : State} {m : MethodId} {args : Array Value} {below : List Frame} {meth : Method} {c : Code} {H : Heap} {locs : List Loc} {cells slots : Nat} {Q : State → Prop}
variable {cc : ByteArray} {nL pc : Nat} {rt : Option FieldType} {ls : Array Slot} {rest : List Value} {G : GG} {A : Nat → Prop} {ad : AD} {h0 : Nat} {mc sz : Int32} {o : Option (Nat × Nat × (Nat → Option Nat))}
/-- modCount one more -/
theorem jl_mod (B : MB G p s m args meth c cc nL RJx4a65c rt) (hP : va_P G.1 vwCl (lws G ad h0 mc o sz) H) (hD : va_D A (lws G ad h0 mc o sz)) (hS : va_S A s.heap H locs) {x : Int32} (hdg : decode cc pc = .ok (.putfield 63, 3))
    (kk : ∀ (H1 : Heap) (locs1 : List Loc), va_P G.1 vwCl (lws G ad h0 x o sz) H1 → va_D A (lws G ad h0 x o sz) → va_S A s.heap H1 locs1 → W p l e R s m args below meth c H1 locs1 cells slots Q (F0 m (pc + 3) ls rest)) : W p l e R s m args below meth c H locs cells slots Q (F0 m pc ls (.int x :: .ref h0 :: rest)) := by
  obtain ⟨hx, hb, hr, hml, hown, hT, hlocks, hK⟩ := B
  exact va_put (v := .int x) (ty := .int) hx hb hT inJx4a65c tyJx4a65c tyJx4a65c_ok nmJx4a65c hown hK hP hD hS 0 lws_0 rfl 0 (by decide) (hT _ wf_RJx4a65c_63) (jl_hsame (own := RJx4a65c) (ref := RJx4a65c) hT wx_sf) rfl (by decide +kernel) rfl rfl (Nat.le_of_ble_eq_true rfl) hdg fun H1 locs1 h1 h2 h3 => kk H1 locs1 (by rw [← lws_s0]; exact h1) (by rw [← lws_s0]; exact h2) h3
theorem jl_siz (B : MB G p s m args meth c cc nL RJx4a65c rt) (hP : va_P G.1 vwCl (lws G ad h0 mc o sz) H) (hD : va_D A (lws G ad h0 mc o sz)) (hS : va_S A s.heap H locs) {x : Int32} (hdg : decode cc pc = .ok (.putfield 48, 3))
    (kk : ∀ (H1 : Heap) (locs1 : List Loc), va_P G.1 vwCl (lws G ad h0 mc o x) H1 → va_D A (lws G ad h0 mc o x) → va_S A s.heap H1 locs1 → W p l e R s m args below meth c H1 locs1 cells slots Q (F0 m (pc + 3) ls rest)) : W p l e R s m args below meth c H locs cells slots Q (F0 m pc ls (.int x :: .ref h0 :: rest)) := by
  obtain ⟨hx, hb, hr, hml, hown, hT, hlocks, hK⟩ := B
  exact va_put (v := .int x) (ty := .int) hx hb hT inJx4a65c tyJx4a65c tyJx4a65c_ok nmJx4a65c hown hK hP hD hS 0 lws_0 rfl 2 (by decide) (hT _ wf_RJx4a65c_48) (fun _ h => h) rfl (by decide +kernel) rfl rfl (Nat.le_of_ble_eq_true rfl) hdg fun H1 locs1 h1 h2 h3 => kk H1 locs1 (by rw [← lws_s2]; exact h1) (by rw [← lws_s2]; exact h2) h3
theorem jl_gmod (B : MB G p s m args meth c cc nL RJx4a65c rt) (hP : va_P G.1 vwCl (lws G ad h0 mc o sz) H) (hdg : decode cc pc = .ok (.getfield 63, 3))
    (kk : W p l e R s m args below meth c H locs cells slots Q (F0 m (pc + 3) ls (.int mc :: rest))) : W p l e R s m args below meth c H locs cells slots Q (F0 m pc ls (.ref h0 :: rest)) := by
  obtain ⟨hx, hb, hr, hml, hown, hT, hlocks, hK⟩ := B
  exact va_get (v := .int mc) hx hb hT inJx4a65c hown hK hP 0 lws_0 rfl 0 (by decide) (hT _ wf_RJx4a65c_63) (jl_hsame (own := RJx4a65c) (ref := RJx4a65c) hT wx_sf) rfl hdg kk
theorem jl_gdat (B : MB G p s m args meth c cc nL RJx4a65c rt) (hP : va_P G.1 vwCl (lws G ad h0 mc o sz) H) (hdg : decode cc pc = .ok (.getfield 9, 3))
    (kk : W p l e R s m args below meth c H locs cells slots Q (F0 m (pc + 3) ls (.ref (lrf ad o) :: rest))) : W p l e R s m args below meth c H locs cells slots Q (F0 m pc ls (.ref h0 :: rest)) := by
  obtain ⟨hx, hb, hr, hml, hown, hT, hlocks, hK⟩ := B
  exact va_get (v := .ref (lrf ad o)) hx hb hT inJx4a65c hown hK hP 0 lws_0 rfl 1 (by decide) (hT _ wf_RJx4a65c_9) (fun _ h => h) rfl hdg kk
theorem jl_gsiz (B : MB G p s m args meth c cc nL RJx4a65c rt) (hP : va_P G.1 vwCl (lws G ad h0 mc o sz) H) (hdg : decode cc pc = .ok (.getfield 48, 3))
    (kk : W p l e R s m args below meth c H locs cells slots Q (F0 m (pc + 3) ls (.int sz :: rest))) : W p l e R s m args below meth c H locs cells slots Q (F0 m pc ls (.ref h0 :: rest)) := by
  obtain ⟨hx, hb, hr, hml, hown, hT, hlocks, hK⟩ := B
  exact va_get (v := .int sz) hx hb hT inJx4a65c hown hK hP 0 lws_0 rfl 2 (by decide) (hT _ wf_RJx4a65c_48) (fun _ h => h) rfl hdg kk
/-- how long the row is -/
theorem jl_len (B : MB G p s m args meth c cc nL RJx4a65c rt) (hST : ST G A ad s s.heap) (hP : va_P G.1 vwCl (lws G ad h0 mc o sz) H) (hS : va_S A s.heap H locs) (hdg : decode cc pc = .ok (.arraylength, 1))
    (kk : W p l e R s m args below meth c H locs cells slots Q (F0 m (pc + 1) ls (.int (nI (lcp o)) :: rest))) : W p l e R s m args below meth c H locs cells slots Q (F0 m pc ls (.ref (lrf ad o) :: rest)) := by
  obtain ⟨hx, hb, hr, hml, hown, hT, hlocks, hK⟩ := B
  cases o with
  | none => exact va_tlen hx hb hST.2.2.2.2.2.1 hS (v := nI 0) rfl hdg kk
  | some q =>
    obtain ⟨a, n, f⟩ := q
    exact va_alen hx hb hK hP 1 5 rfl rfl (v := nI n) rfl hdg kk
end JLA
/-- what an added thing's row is -/
def addP (o : Option (Nat × Nat × (Nat → Option Nat))) (c x : Nat) (N : Nat) (g : Nat → Option Nat) : Prop := c < N ∧ N ≤ 100 ∧ 2 ≤ N ∧ (∀ t, t < c → g t = lfn o t) ∧ g c = some x ∧ ∀ t, c < t → g t = none
/-- the private add(e, row, size) -/
theorem c_J_add3 {l : Launch} {G : GG} {A : Nat → Prop} {ad : AD} {h0 c x : Nat} {mc : Int32} {o : Option (Nat × Nat × (Nat → Option Nat))} {ci : Nat} (hc : Eci ci) (hcap : lcp o ≤ 100 ∧ (o ≠ none → 2 ≤ lcp o)) (hle : c ≤ lcp o) (hlt : c < 60) (hno : ∀ t, c ≤ t → lfn o t = none) : Met l yJx4a65c_add_72be8 (Cond.code yJx4a65c_add_72be8 cJx4a65c_add_72be8 4 none :: TG) ({ frames := 5, cells := 1, slots := 100, locals := 180 } : Room) (PL G A ad (lws G ad h0 mc o (nI c)) (fun H => EE G A ci (lfn o) H ∧ EL G ci x H ∧ ¬ A x) [.ref h0, .ref x, .ref (lrf ad o), .int (nI c)]) (QL G A (fun v ws' => v = none ∧ ∃ q N g, ws' = lws G ad h0 mc (some (q, N, g)) (nI (c + 1)) ∧ addP o c x N g)) 1 100 A :=
  pl_of (own := RJx4a65c) (by decide +kernel) rfl (Nat.le_of_ble_eq_true rfl) fun p e s m below meth c' ls B hST hA hP hD hE hl => by
    have ⟨hx, hb, hr, hml, hown, hT, hlocks, hK⟩ := B
    have hS : va_S A s.heap s.heap [] := va_S.rf
    have hE0 := hE.1
    have tail : ∀ (q N : Nat) (g : Nat → Option Nat) (H : Heap) (locs : List Loc) (ls : Array Slot) (cells slots : Nat), cells ≤ 1 → slots ≤ 100 → c < N → N ≤ 100 → 2 ≤ N → (∀ t, t < c → g t = lfn o t) → (∀ t, c ≤ t → g t = none) → va_P G.1 vwCl (lws G ad h0 mc (some (q, N, g)) (nI c)) H → va_D A (lws G ad h0 mc (some (q, N, g)) (nI c)) → va_S A s.heap H locs → lv_has ls 4 [(0, .ref h0), (1, .ref x), (2, .ref q), (3, .int (nI c))] → W p l e ({ frames := 5, cells := 1, slots := 100, locals := 180 } : Room) s m ([.ref h0, .ref x, .ref (lrf ad o), .int (nI c)] : List Value).toArray below meth c' H locs cells slots (MQ below (QL G A (fun v ws' => v = none ∧ ∃ q N g, ws' = lws G ad h0 mc (some (q, N, g)) (nI (c + 1)) ∧ addP o c x N g)) ([.ref h0, .ref x, .ref (lrf ad o), .int (nI c)] : List Value).toArray s 1 100 A) (F0 m 11 ls []) := by
      intro q N g H locs ls cells slots hc1 hs1 hcN hN hN2 hg1 hg2 hP hD hS hl
      refine lv_aload_n hx hb dJx4a65c_add_72be8_11 rfl (lv_at hl 2 rfl) ?_
      refine lv_iload_n hx hb dJx4a65c_add_72be8_12 rfl (lv_at hl 3 rfl) ?_
      refine lv_aload_n hx hb dJx4a65c_add_72be8_13 rfl (lv_at hl 1 rfl) ?_
      have hAny : va_Any "java/lang/Object" s H x := ecn_any hK hST hc (hE.2.1.kept hE.2.2 hS.2.1)
      refine va_astqM hx hb hK hP hD hS 1 5 rfl rfl hAny (vp_in_nI hcN (by omega)) dJx4a65c_add_72be8_14 (fun H locs hP hD hS => ?_)
      rw [nI_clamp (by omega)] at hP hD
      have hP : va_P G.1 vwCl (lws G ad h0 mc (some (q, N, va_up g c (some x))) (nI c)) H := hP
      have hD : va_D A (lws G ad h0 mc (some (q, N, va_up g c (some x))) (nI c)) := hD
      refine lv_aload_n hx hb dJx4a65c_add_72be8_15 rfl (lv_at hl 0 rfl) ?_
      refine lv_iload_n hx hb dJx4a65c_add_72be8_16 rfl (lv_at hl 3 rfl) ?_
      refine lv_iconst (v := 1) hx hb dJx4a65c_add_72be8_17 (by decide) ?_
      refine lv_iadd hx hb dJx4a65c_add_72be8_18 ?_
      rw [nI_1]
      refine jl_siz B hP hD hS dJx4a65c_add_72be8_19 (fun H locs hP hD hS => ?_)
      refine W.widen hc1 hs1 ?_
      exact W.vret hx hb hr (fun t ht hW => ⟨none, _, rfl, ⟨rfl, q, N, va_up g c (some x), rfl, hcN, hN, hN2, fun t h => by rw [va_up_ne _ _ (by omega)]; exact hg1 t h, va_up_self _ _ _, fun t h => by rw [va_up_ne _ _ (by omega)]; exact hg2 t (by omega)⟩, by rw [ht]; exact hP, hD, hS.F ht⟩) hS.2.2 dJx4a65c_add_72be8_22
    refine lv_iload_n hx hb dJx4a65c_add_72be8_0 rfl (lv_at hl 3 rfl) ?_
    refine lv_aload_n hx hb dJx4a65c_add_72be8_1 rfl (lv_at hl 2 rfl) ?_
    refine jl_len B hST hP hS dJx4a65c_add_72be8_2 ?_
    refine lv_icmp_ne (tgt := 11) hx hb dJx4a65c_add_72be8_3 (by decide) (fun c1 => ?_) (fun c1 => ?_)
    · have hne : c ≠ lcp o := fun z => c1 (by rw [z])
      cases o with
      | none => exact absurd (Nat.le_antisymm hle (Nat.zero_le c)) (fun z => hne z)
      | some q =>
        obtain ⟨a, n, f⟩ := q
        exact tail a n f _ _ _ 0 0 (by omega) (by omega) (Nat.lt_of_le_of_ne hle hne) hcap.1 (hcap.2 (by simp)) (fun _ _ => rfl) hno hP hD hS (lv_sub hl [0, 1, 2, 3] rfl)
    · have heq : c = lcp o := (nI_eq (by omega) (by have := hcap.1; omega)).mp c1
      refine lv_aload_n hx hb dJx4a65c_add_72be8_6 rfl (lv_at hl 0 rfl) ?_
      have ho : (o = none ∧ c = 0) ∨ ∃ a f, o = some (a, c, f) ∧ 2 ≤ c ∧ c ≤ 66 := by
        cases o with
        | none => exact Or.inl ⟨rfl, heq⟩
        | some q =>
          obtain ⟨a, n, f⟩ := q
          have h2 := hcap.2 (by simp)
          exact Or.inr ⟨a, f, by rw [heq]; rfl, by rw [heq]; exact h2, by omega⟩
      refine pl_callV B hST (fun _ h => h) hA hS hP hD hE0 (lws_recv hK hP) [] (n := 0) (c_J_grow hc ho) wm_RJx4a65c_129 wi_yJx4a65c_grow_d5877 ws_yJx4a65c_grow_d5877 wn_RJx4a65c wc_yJx4a65c_grow_d5877 rfl rfl (by decide +kernel) ⟨Nat.le_of_ble_eq_true rfl, Nat.le_of_ble_eq_true rfl⟩ ⟨Nat.le_refl 1, Nat.le_refl 100⟩ rfl hl.1 (Nat.le_of_ble_eq_true rfl) rfl dJx4a65c_add_72be8_7 (fun v ws' H locs hp hP hD hS hq => ?_)
      obtain ⟨q, N, g, rfl, rfl, hcN, hN, hN2, hg1, hg2⟩ := hp
      refine lv_astore_n (lv' := [(2, .ref q), (0, .ref h0), (1, .ref x), (3, .int (nI c))]) hx hb dJx4a65c_add_72be8_10 rfl hl (by decide) rfl (fun ls hl => ?_)
      exact tail q N g _ _ _ _ _ (by omega) (by omega) hcN hN hN2 hg1 hg2 hP hD hS (lv_sub hl [1, 2, 0, 3] rfl)
/-- add(e) -/
theorem c_J_add {l : Launch} {G : GG} {A : Nat → Prop} {ad : AD} {h0 c x : Nat} {mc : Int32} {o : Option (Nat × Nat × (Nat → Option Nat))} {ci : Nat} (hc : Eci ci) (hcap : lcp o ≤ 100 ∧ (o ≠ none → 2 ≤ lcp o)) (hle : c ≤ lcp o) (hlt : c < 60) (hno : ∀ t, c ≤ t → lfn o t = none) : Met l yJx4a65c_add_9ea2d (Cond.code yJx4a65c_add_9ea2d cJx4a65c_add_9ea2d 2 (some .boolean) :: TG) ({ frames := 6, cells := 1, slots := 100, locals := 220 } : Room) (PL G A ad (lws G ad h0 mc o (nI c)) (fun H => EE G A ci (lfn o) H ∧ EL G ci x H ∧ ¬ A x) [.ref h0, .ref x]) (QL G A (fun v ws' => v = some (.int 1) ∧ ∃ q N g, ws' = lws G ad h0 (mc + 1) (some (q, N, g)) (nI (c + 1)) ∧ addP o c x N g)) 1 100 A :=
  pl_of (own := RJx4a65c) (by decide +kernel) rfl (Nat.le_of_ble_eq_true rfl) fun p e s m below meth c' ls B hST hA hP hD hE hl => by
    have ⟨hx, hb, hr, hml, hown, hT, hlocks, hK⟩ := B
    have hS : va_S A s.heap s.heap [] := va_S.rf
    refine lv_aload_n hx hb dJx4a65c_add_9ea2d_0 rfl (lv_at hl 0 rfl) ?_
    refine lv_dup hx hb dJx4a65c_add_9ea2d_1 rfl ?_
    refine jl_gmod B hP dJx4a65c_add_9ea2d_2 ?_
    refine lv_iconst (v := 1) hx hb dJx4a65c_add_9ea2d_5 (by decide) ?_
    refine lv_iadd hx hb dJx4a65c_add_9ea2d_6 ?_
    refine jl_mod B hP hD hS dJx4a65c_add_9ea2d_7 (fun H locs hP hD hS => ?_)
    refine lv_aload_n hx hb dJx4a65c_add_9ea2d_10 rfl (lv_at hl 0 rfl) ?_
    refine lv_aload_n hx hb dJx4a65c_add_9ea2d_11 rfl (lv_at hl 1 rfl) ?_
    refine lv_aload_n hx hb dJx4a65c_add_9ea2d_12 rfl (lv_at hl 0 rfl) ?_
    refine jl_gdat B hP dJx4a65c_add_9ea2d_13 ?_
    refine lv_aload_n hx hb dJx4a65c_add_9ea2d_16 rfl (lv_at hl 0 rfl) ?_
    refine jl_gsiz B hP dJx4a65c_add_9ea2d_17 ?_
    have hE1 : EE G A ci (lfn o) H ∧ EL G ci x H ∧ ¬ A x := ⟨hE.1.kept hS.2.1, hE.2.1.kept hE.2.2 hS.2.1, hE.2.2⟩
    refine pl_callV B hST (fun _ h => h) (fun q hq => hA q (Nat.le_trans hS.1 hq)) hS hP hD hE1 (lws_recv hK hP) [.ref x, .ref (lrf ad o), .int (nI c)] (n := 3) (c_J_add3 hc hcap hle hlt hno) wm_RJx4a65c_131 wi_yJx4a65c_add_72be8 ws_yJx4a65c_add_72be8 wn_RJx4a65c wc_yJx4a65c_add_72be8 rfl rfl (by decide +kernel) ⟨Nat.le_of_ble_eq_true rfl, Nat.le_of_ble_eq_true rfl⟩ ⟨Nat.le_refl 1, Nat.le_refl 100⟩ rfl hl.1 (Nat.le_of_ble_eq_true rfl) rfl dJx4a65c_add_9ea2d_20 (fun v ws' H locs hp hP hD hS hq => ?_)
    obtain ⟨rfl, q, N, g, rfl, hg⟩ := hp
    refine lv_iconst (v := 1) hx hb dJx4a65c_add_9ea2d_23 (by decide) ?_
    exact W.zret hx hb hr (by rfl) (fun t ht hW => ⟨_, _, rfl, ⟨rfl, q, N, g, rfl, hg⟩, by rw [ht]; exact hP, hD, hS.F ht⟩) hS.2.2 dJx4a65c_add_9ea2d_24
