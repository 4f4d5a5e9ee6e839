/-! The rows of the class's lists. -/
section XRL
variable {G : GG} {A : Nat → Prop} {ad : AD} {st : XS} {H : Heap} {gh : LG}
def lgo (gh : LG) (j : Nat) : Option (Nat × Nat × (Nat → Option Nat)) := if (gh j).2.2.1 = 0 then none else some ((gh j).2.1, (gh j).2.2.1, (gh j).2.2.2)
theorem lgo_cp {j : Nat} : lcp (lgo gh j) = (gh j).2.2.1 := by
  unfold lgo
  split
  · next h => rw [h]; rfl
  · rfl
theorem lgo_rf {j : Nat} : lrf ad (lgo gh j) = if (gh j).2.2.1 = 0 then ad 15 0 else (gh j).2.1 := by
  unfold lgo
  split
  · rfl
  · rfl
theorem lgo_fn {j : Nat} (hL : LOK ad st gh) (hj : j < 3) : ∀ t y, lfn (lgo gh j) t = some y → t < (xL st j).length ∧ y = ad (elk j) ((xL st j).getD t 0) := by
  intro t y h
  have h1 := hL j hj
  unfold lgo at h
  split at h
  · cases h
  · have h2 : (gh j).2.2.2 t = some y := h
    rcases Nat.lt_or_ge t (xL st j).length with q | q
    · rw [h1.2.2.1 t q] at h2
      exact ⟨q, (Option.some.inj h2).symm⟩
    · rw [h1.2.2.2.1 t q] at h2
      cases h2
theorem lgo_eq {j : Nat} (hL : LOK ad st gh) (hj : j < 3) : ∀ t, t < (xL st j).length → lfn (lgo gh j) t = some (ad (elk j) ((xL st j).getD t 0)) := by
  intro t h
  have h1 := hL j hj
  have hc : (gh j).2.2.1 ≠ 0 := by have := h1.1; omega
  unfold lgo
  rw [if_neg hc]
  exact h1.2.2.1 t h
theorem lgo_no {j : Nat} (hL : LOK ad st gh) (hj : j < 3) : ∀ t, (xL st j).length ≤ t → lfn (lgo gh j) t = none := by
  intro t h
  have h1 := hL j hj
  unfold lgo
  split
  · rfl
  · exact h1.2.2.2.1 t h
def lrg (ad : AD) (gh : LG) (H : Heap) (j : Nat) : Nat → Prop := fun q => q = ad 13 j ∨ ((gh j).2.2.1 ≠ 0 ∧ q = (gh j).2.1) ∨ H.size ≤ q
theorem vx_13 {j : Nat} (hj : j < 3) : VX st gh (13, j) := Or.inr (Or.inl ⟨rfl, hj⟩)
theorem vx_14 {j : Nat} (hj : j < 3) (hc : (gh j).2.2.1 ≠ 0) : VX st gh (14, j) := Or.inr (Or.inr ⟨rfl, hj, hc⟩)
theorem vx_el {j x : Nat} (hx : x < xN st (elc j)) : VX st gh (elk j, x) := by
  unfold elk elc at *
  split
  · next h => rw [if_pos h] at hx; exact Or.inl (xv_n hx)
  · next h => rw [if_neg h] at hx; exact Or.inl (xv_s (k := 1) (by decide) hx)
theorem elk_14 {j : Nat} : elk j ≠ 14 ∧ elk j ≠ 13 := by
  unfold elk
  split <;> decide
def eci (j : Nat) : Nat := if j = 2 then 2 else 5
theorem eci_ok (j : Nat) : Eci (eci j) := by
  unfold eci
  split
  · exact Or.inr rfl
  · exact Or.inl rfl
theorem xl_el (hW : FW G.1 (VX st gh) (adx ad gh) (enX G ad gh st) A H) {j x : Nat} (hx : x < xN st (elc j)) : EL G (eci j) (ad (elk j) x) H := by
  have h1 := (hW.1 (elk j, x) (vx_el hx)).1
  rw [adx_ne elk_14.1] at h1
  unfold eci
  unfold elk at h1 ⊢
  split
  · next h =>
    rw [if_pos h] at h1
    obtain ⟨r, q0, cell, q1, q2, q3, -⟩ := h1
    exact ⟨cell, q1, by rw [q3]; rfl, q2⟩
  · next h =>
    rw [if_neg h] at h1
    obtain ⟨r, q0, cell, q1, q2, q3, -⟩ := h1
    exact ⟨cell, q1, by rw [q3]; rfl, q2⟩
/-- what is no cell of the list stays out of its region -/
theorem lrg_out (hW : FW G.1 (VX st gh) (adx ad gh) (enX G ad gh st) A H) {j : Nat} (hj : j < 3) {q : Nat × Nat} (hv : VX st gh q) (h1 : q ≠ (13, j)) (h2 : q ≠ (14, j)) : ¬ lrg ad gh H j (adx ad gh q) := by
  rintro (h | ⟨hc, h⟩ | h)
  · exact h1 (hW.2 q (13, j) hv (vx_13 hj) h)
  · exact h2 (hW.2 q (14, j) hv (vx_14 hj hc) (by rw [h]; rfl))
  · exact absurd (hW.1 q hv).1.lt (Nat.not_lt.mpr h)
theorem lrg_el (hW : FW G.1 (VX st gh) (adx ad gh) (enX G ad gh st) A H) {j x : Nat} (hj : j < 3) (hx : x < xN st (elc j)) : ¬ lrg ad gh H j (ad (elk j) x) := by
  have h := lrg_out hW hj (vx_el (gh := gh) hx) (fun z => elk_14.2 (congrArg Prod.fst z)) (fun z => elk_14.1 (congrArg Prod.fst z))
  rw [adx_ne elk_14.1] at h
  exact h
theorem lrg_A (hW : FW G.1 (VX st gh) (adx ad gh) (enX G ad gh st) A H) {j : Nat} (hj : j < 3) (hA : ∀ q : Nat, H.size ≤ q → A q) : ∀ q, lrg ad gh H j q → A q := by
  rintro q (h | ⟨hc, h⟩ | h)
  · rw [h]
    exact (hW.1 (13, j) (vx_13 hj)).2
  · rw [h]
    exact (hW.1 (14, j) (vx_14 hj hc)).2
  · exact hA q h
theorem lws_P (hW : FW G.1 (VX st gh) (adx ad gh) (enX G ad gh st) A H) {j : Nat} (hj : j < 3) : va_P G.1 vwCl (lws G ad (ad 13 j) (gh j).1 (lgo gh j) (nI (xL st j).length)) H := by
  have h13 := (hW.1 (13, j) (vx_13 hj)).1
  unfold lgo
  by_cases hc : (gh j).2.2.1 = 0
  · rw [if_pos hc]
    have e : enX G ad gh st (13, j) = .inr (0, [.int (gh j).1, .ref (ad 15 0), .int (nI (xL st j).length)]) := by simp [enX, hc]
    rw [e] at h13
    exact va_P1 h13
  · rw [if_neg hc]
    have h14 := (hW.1 (14, j) (vx_14 hj hc)).1
    have e : enX G ad gh st (13, j) = .inr (0, [.int (gh j).1, .ref (gh j).2.1, .int (nI (xL st j).length)]) := by simp [enX, hc]
    rw [e] at h13
    intro k z hz
    rcases k with _ | _ | k
    · cases hz; exact h13
    · cases hz; exact h14
    · cases hz
theorem lws_D (hW : FW G.1 (VX st gh) (adx ad gh) (enX G ad gh st) A H) {j : Nat} (hj : j < 3) {mc sz : Int32} : va_D (lrg ad gh H j) (lws G ad (ad 13 j) mc (lgo gh j) sz) := by
  unfold lgo
  by_cases hc : (gh j).2.2.1 = 0
  · rw [if_pos hc]
    refine ⟨fun a b p q ha hb _ => ?_, fun k q hk => ?_⟩
    · rcases a with _ | a
      · rcases b with _ | b
        · rfl
        · cases hb
      · cases ha
    · rcases k with _ | k
      · cases hk; exact Or.inl rfl
      · cases hk
  · rw [if_neg hc]
    have hne : ad 13 j ≠ (gh j).2.1 := fun z => by
      have := hW.2 (13, j) (14, j) (vx_13 hj) (vx_14 hj hc) z
      cases this
    refine ⟨fun a b p q ha hb hpq => ?_, fun k q hk => ?_⟩
    · rcases a with _ | _ | a <;> rcases b with _ | _ | b
      · rfl
      · cases ha; cases hb; exact absurd hpq hne
      · cases hb
      · cases ha; cases hb; exact absurd hpq.symm hne
      · rfl
      · cases hb
      · cases ha
      · cases ha
      · cases ha
    · rcases k with _ | _ | k
      · cases hk; exact Or.inl rfl
      · cases hk; exact Or.inr (Or.inl ⟨hc, rfl⟩)
      · cases hk
/-- the class's world behind a change of one list -/
theorem xw_relist (hW : FW G.1 (VX st gh) (adx ad gh) (enX G ad gh st) A H) (hL : LOK ad st gh) (hU : ∀ i, i < xN st 1 → xU st i < xN st 0) {j : Nat} (hj : j < 3) {H1 : Heap} {mc : Int32} {q N : Nat} {g : Nat → Option Nat} {l' : List Nat} (hA1 : ∀ q, lrg ad gh H j q → A q) (hP1 : va_P G.1 vwCl (lws G ad (ad 13 j) mc (some (q, N, g)) (nI l'.length)) H1) (hD1 : va_D (lrg ad gh H j) (lws G ad (ad 13 j) mc (some (q, N, g)) (nI l'.length))) (hq : ∀ x : Nat, x < H.size → ¬ lrg ad gh H j x → H1[x]? = H[x]?) (hN : l'.length ≤ N ∧ N ≤ 100 ∧ 2 ≤ N) (hg1 : ∀ t, t < l'.length → g t = some (ad (elk j) (l'.getD t 0))) (hg2 : ∀ t, l'.length ≤ t → g t = none) (hv : ∀ x ∈ l', x < xN st (elc j)) : XW G A ad (sL st j l') H1 := by
  have hqr : lrg ad gh H j q := hD1.2 1 (wR G q N g) rfl
  have hq13 : ad 13 j ≠ q := fun z => absurd (hD1.1 0 1 (wO (ad 13 j) mc q (nI l'.length)) (wR G q N g) rfl rfl z) (by decide)
  refine ⟨fun j' => if j' = j then (mc, q, N, g) else gh j', ⟨fun x hx => ?_, fun x y hx hy hxy => ?_⟩, fun j' hj' => ?_, hU⟩
  · by_cases h13 : x = (13, j)
    · subst h13
      have := hP1 0 (wO (ad 13 j) mc q (nI l'.length)) rfl
      refine ⟨?_, hA1 _ (Or.inl rfl)⟩
      have hN0 : N ≠ 0 := by omega
      have e : enX G ad (fun j' => if j' = j then (mc, q, N, g) else gh j') (sL st j l') (13, j) = (wO (ad 13 j) mc q (nI l'.length)).2 := by simp [enX, wO, hN0, sL, xL]
      rw [e]
      exact this
    · by_cases h14 : x = (14, j)
      · subst h14
        have := hP1 1 (wR G q N g) rfl
        have ea : adx ad (fun j' => if j' = j then (mc, q, N, g) else gh j') (14, j) = q := by simp [adx]
        have ee : enX G ad (fun j' => if j' = j then (mc, q, N, g) else gh j') (sL st j l') (14, j) = (wR G q N g).2 := by simp [enX, wR]
        rw [ea, ee]
        exact ⟨this, hA1 _ hqr⟩
      · have hv0 : VX st gh x := by
          rcases hx with h | h | h
          · exact Or.inl h
          · exact Or.inr (Or.inl h)
          · have hne : x.2 ≠ j := fun z => h14 (Prod.ext h.1 z)
            have h3 := h.2.2
            simp only [if_neg hne] at h3
            exact Or.inr (Or.inr ⟨h.1, h.2.1, h3⟩)
        have ea : adx ad (fun j' => if j' = j then (mc, q, N, g) else gh j') x = adx ad gh x := by
          unfold adx
          by_cases h : x.1 = 14
          · have hne : x.2 ≠ j := fun z => h14 (Prod.ext h z)
            simp [h, hne]
          · simp [h]
        have ee : enX G ad (fun j' => if j' = j then (mc, q, N, g) else gh j') (sL st j l') x = enX G ad gh st x := by
          obtain ⟨k, i⟩ := x
          rcases k with _ | _ | _ | _ | _ | _ | _ | _ | _ | _ | _ | _ | _ | _ | k
          all_goals first | rfl | skip
          · have hne : i ≠ j := fun z => h13 (by rw [z])
            simp [enX, hne, sL, xL]
          · by_cases hk : k = 0
            · subst hk
              have hne : i ≠ j := fun z => h14 (by rw [z])
              simp [enX, hne]
            · rcases hv0 with h | h | h
              · rcases h with h | h | h | h <;> (have := h.1; simp at this <;> omega)
              · have := h.1; simp at this
              · have := h.1; simp at this; omega
        rw [ea, ee]
        refine ⟨(hW.1 x hv0).1.kept (hq _ (hW.1 x hv0).1.lt (lrg_out hW hj hv0 h13 h14)), (hW.1 x hv0).2⟩
  · have key : ∀ z, VX (sL st j l') (fun j' => if j' = j then (mc, q, N, g) else gh j') z → (z = (14, j) ∧ adx ad (fun j' => if j' = j then (mc, q, N, g) else gh j') z = q) ∨ (z ≠ (14, j) ∧ VX st gh z ∧ adx ad (fun j' => if j' = j then (mc, q, N, g) else gh j') z = adx ad gh z) := by
      intro z hz
      by_cases h14 : z = (14, j)
      · subst h14
        exact Or.inl ⟨rfl, by simp [adx]⟩
      · refine Or.inr ⟨h14, ?_, ?_⟩
        · rcases hz with h | h | h
          · exact Or.inl h
          · exact Or.inr (Or.inl h)
          · have hne : z.2 ≠ j := fun w => h14 (Prod.ext h.1 w)
            have h3 := h.2.2
            simp only [if_neg hne] at h3
            exact Or.inr (Or.inr ⟨h.1, h.2.1, h3⟩)
        · unfold adx
          by_cases h : z.1 = 14
          · have hne : z.2 ≠ j := fun w => h14 (Prod.ext h w)
            simp [h, hne]
          · simp [h]
    have other : ∀ z, z ≠ (14, j) → VX st gh z → adx ad gh z ≠ q := by
      intro z hz hv0 he
      by_cases h13 : z = (13, j)
      · subst h13
        exact hq13 he
      · exact lrg_out hW hj hv0 h13 hz (by rw [he]; exact hqr)
    rcases key x hx with ⟨rfl, e1⟩ | ⟨n1, v1, e1⟩ <;> rcases key y hy with ⟨rfl, e2⟩ | ⟨n2, v2, e2⟩
    · rfl
    · exact absurd (e2.symm.trans (hxy.symm.trans e1)) (other y n2 v2)
    · exact absurd (e1.symm.trans (hxy.trans e2)) (other x n1 v1)
    · exact hW.2 x y v1 v2 (e1.symm.trans (hxy.trans e2))
  · by_cases hjj : j' = j
    · subst hjj
      have e : xL (sL st j' l') j' = l' := by simp [xL, sL]
      rw [e]
      simp only [if_pos rfl]
      exact ⟨hN.1, hN.2.1, hg1, hg2, fun _ => hN.2.2, hv⟩
    · have e : xL (sL st j l') j' = xL st j' := by simp [xL, sL, hjj]
      rw [e]
      simp only [if_neg hjj]
      exact hL j' hj'
end XRL
section XWL
variable {p : Program} {l : Launch} {e : Env} {R : Room} {s : State} {m : MethodId} {args : Array Value} {below : List Frame} {meth : Method} {c : Code} {H : Heap} {locs : List Loc} {cells slots MC MS : Nat} {Q : State → Prop}
variable {cc : ByteArray} {nL pc : Nat} {own : String} {rt : Option FieldType} {ls : Array Slot} {rest : List Value} {G : GG} {A : Nat → Prop} {ad : AD} {st : XS} {index : Nat}
def lemp (st : XS) (j : Nat) : Int32 := if (xL st j).length = 0 then 1 else 0
theorem xw_size (B : XB G A ad p l s m args meth c cc nL own rt) (hM : XW G A ad st H) (hS : va_S A s.heap H locs) (j : Nat) (hj : j < 3) (h1 : Cond.methodLink own index yJx4a65c_size_8abf5 ∈ TG) (hR : 1 ≤ R.frames ∧ 20 ≤ R.locals) (hf : cells ≤ R.cells ∧ slots ≤ R.slots) (hls : ls.size = nL) (hW8 : (rest.map fun v => v.category).sum ≤ 8) (hdg : decode cc pc = .ok (.invokevirtual index, 3))
    (kk : W p l e R s m args below meth c H locs cells slots Q (F0 m (pc + 3) ls (.int (nI (xL st j).length) :: rest))) : W p l e R s m args below meth c H locs cells slots Q (F0 m pc ls (.ref (ad 13 j) :: rest)) := by
  obtain ⟨gh, hW, hL, hU⟩ := hM
  have h13 := (hW.1 (13, j) (vx_13 hj)).1
  exact ph_callV B.1 (F := LO G (ad 13 j) (gh j).1 (if (gh j).2.2.1 = 0 then ad 15 0 else (gh j).2.1) (nI (xL st j).length)) (lo_recv (xb_vk B) h13) [] (n := 0) h13 c_J_size h1 wi_yJx4a65c_size_8abf5 ws_yJx4a65c_size_8abf5 wn_RJx4a65c wc_yJx4a65c_size_8abf5 rfl rfl (by decide +kernel) ⟨hR.1, by show 8 + (1 + 11) + 0 ≤ _; exact hR.2⟩ hf rfl hls hW8 rfl hdg kk
theorem xw_isEmpty (B : XB G A ad p l s m args meth c cc nL own rt) (hM : XW G A ad st H) (hS : va_S A s.heap H locs) (j : Nat) (hj : j < 3) (h1 : Cond.methodLink own index yJx4a65c_isEmpty_aae02 ∈ TG) (hR : 1 ≤ R.frames ∧ 20 ≤ R.locals) (hf : cells ≤ R.cells ∧ slots ≤ R.slots) (hls : ls.size = nL) (hW8 : (rest.map fun v => v.category).sum ≤ 8) (hdg : decode cc pc = .ok (.invokevirtual index, 3))
    (kk : W p l e R s m args below meth c H locs cells slots Q (F0 m (pc + 3) ls (.int (lemp st j) :: rest))) : W p l e R s m args below meth c H locs cells slots Q (F0 m pc ls (.ref (ad 13 j) :: rest)) := by
  obtain ⟨gh, hW, hL, hU⟩ := hM
  have h13 := (hW.1 (13, j) (vx_13 hj)).1
  have hlen : (xL st j).length < 2 ^ 31 := by have := hL j hj; omega
  have e : lemp st j = if nI (xL st j).length = 0 then 1 else 0 := by
    unfold lemp
    by_cases hz : (xL st j).length = 0
    · rw [if_pos hz, hz, nI_0, if_pos rfl]
    · rw [if_neg hz, if_neg (nI_ne0 (Nat.pos_of_ne_zero hz) hlen)]
  rw [e] at kk
  exact ph_callV B.1 (F := LO G (ad 13 j) (gh j).1 (if (gh j).2.2.1 = 0 then ad 15 0 else (gh j).2.1) (nI (xL st j).length)) (lo_recv (xb_vk B) h13) [] (n := 0) h13 c_J_isEmpty h1 wi_yJx4a65c_isEmpty_aae02 ws_yJx4a65c_isEmpty_aae02 wn_RJx4a65c wc_yJx4a65c_isEmpty_aae02 rfl rfl (by decide +kernel) ⟨hR.1, by show 8 + (1 + 11) + 0 ≤ _; exact hR.2⟩ hf rfl hls hW8 rfl hdg kk
theorem xw_lget (B : XB G A ad p l s m args meth c cc nL own rt) (hM : XW G A ad st H) (hS : va_S A s.heap H locs) (j : Nat) (hj : j < 3) (h1 : Cond.methodLink own index yJx4a65c_get_915e3 ∈ TG) {i : Int32} (hin : vp_in i (xL st j).length) (hR : 3 ≤ R.frames ∧ 64 ≤ R.locals) (hf : cells ≤ R.cells ∧ slots ≤ R.slots) (hls : ls.size = nL) (hW8 : (rest.map fun v => v.category).sum ≤ 8) (hdg : decode cc pc = .ok (.invokevirtual index, 3))
    (kk : W p l e R s m args below meth c H locs cells slots Q (F0 m (pc + 3) ls (.ref (ad (elk j) ((xL st j).getD i.toNatClampNeg 0)) :: rest))) : W p l e R s m args below meth c H locs cells slots Q (F0 m pc ls (.int i :: .ref (ad 13 j) :: rest)) := by
  obtain ⟨gh, hW, hL, hU⟩ := hM
  have h1j := hL j hj
  have hlen : (xL st j).length < 2 ^ 31 := by omega
  obtain ⟨k, hk, rfl⟩ := vp_in_of hin hlen
  rw [nI_clamp (by omega)] at kk
  have hc : (gh j).2.2.1 ≠ 0 := by omega
  have h13 := (hW.1 (13, j) (vx_13 hj)).1
  have h14 := (hW.1 (14, j) (vx_14 hj hc)).1
  have e : enX G ad gh st (13, j) = .inr (0, [.int (gh j).1, .ref (gh j).2.1, .int (nI (xL st j).length)]) := by simp [enX, hc]
  rw [e] at h13
  exact ph_callV B.1 (F := fun H => LO G (ad 13 j) (gh j).1 (gh j).2.1 (nI (xL st j).length) H ∧ LR G (gh j).2.1 (gh j).2.2.1 (gh j).2.2.2 H) (lo_recv (xb_vk B) h13) [.int (nI k)] (n := 1) ⟨h13, h14⟩ (c_J_get (nI_pos (by omega)) (nI_lt hk hlen) (vp_in_nI (by omega) (by omega)) (by rw [nI_clamp (by omega)]; exact h1j.2.2.1 k hk)) h1 wi_yJx4a65c_get_915e3 ws_yJx4a65c_get_915e3 wn_RJx4a65c wc_yJx4a65c_get_915e3 rfl rfl (by decide +kernel) ⟨hR.1, by show 8 + (2 + 11) + 43 ≤ _; exact hR.2⟩ hf rfl hls hW8 rfl hdg kk
theorem xw_ladd (B : XB G A ad p l s m args meth c cc nL own rt) (hM : XW G A ad st H) (hS : va_S A s.heap H locs) (j : Nat) (hj : j < 3) (h1 : Cond.methodLink own index yJx4a65c_add_9ea2d ∈ TG) {x : Nat} (hx : x < xN st (elc j)) (hlen : (xL st j).length < 60) (hR : 8 ≤ R.frames ∧ 400 ≤ R.locals) (hf : cells + 1 ≤ R.cells ∧ slots + 100 ≤ R.slots) (hls : ls.size = nL) (hW8 : (rest.map fun v => v.category).sum ≤ 8) (hdg : decode cc pc = .ok (.invokevirtual index, 3))
    (kk : ∀ (H1 : Heap) (locs1 : List Loc), XW G A ad (sL st j (xL st j ++ [x])) H1 → va_S A s.heap H1 locs1 → W p l e R s m args below meth c H1 locs1 (cells + 1) (slots + 100) Q (F0 m (pc + 3) ls (.int 1 :: rest))) : W p l e R s m args below meth c H locs cells slots Q (F0 m pc ls (.ref (ad (elk j) x) :: .ref (ad 13 j) :: rest)) := by
  obtain ⟨gh, hW, hL, hU⟩ := hM
  have h1j := hL j hj
  have hlen31 : (xL st j).length < 2 ^ 31 := by omega
  have ⟨⟨hx', hb, hr, hml, hown, hT, hlocks, hK⟩, hnt, hST, hA, hll⟩ := B
  have hAH : ∀ q : Nat, H.size ≤ q → A q := fun q hq => hA q (Nat.le_trans hS.1 hq)
  have hP := lws_P hW hj
  have hD := lws_D hW hj (mc := (gh j).1) (sz := nI (xL st j).length)
  have hA1 := lrg_A hW hj hAH
  have hEE : EE G (lrg ad gh H j) (eci j) (lfn (lgo gh j)) H := by
    intro t y hy
    obtain ⟨ht, rfl⟩ := lgo_fn hL hj t y hy
    have hm : (xL st j).getD t 0 ∈ xL st j := by
      rw [List.getD_eq_getElem?_getD, List.getElem?_eq_getElem ht]
      exact List.getElem_mem ht
    exact ⟨xl_el hW (h1j.2.2.2.2.2 _ hm), lrg_el hW hj (h1j.2.2.2.2.2 _ hm)⟩
  have hcap : lcp (lgo gh j) ≤ 100 ∧ (lgo gh j ≠ none → 2 ≤ lcp (lgo gh j)) := by
    rw [lgo_cp]
    refine ⟨h1j.2.1, fun h => ?_⟩
    have hc : (gh j).2.2.1 ≠ 0 := fun z => h (by unfold lgo; rw [if_pos z])
    exact h1j.2.2.2.2.1 hc
  refine pl_callV B.1 hST hA1 (fun q hq => Or.inr (Or.inr hq)) hS hP hD ⟨hEE, xl_el hW hx, lrg_el hW hj hx⟩ (lws_recv hK hP) [.ref (ad (elk j) x)] (n := 1) (c_J_add (eci_ok j) hcap (by rw [lgo_cp]; exact h1j.1) hlen (lgo_no hL hj)) h1 wi_yJx4a65c_add_9ea2d ws_yJx4a65c_add_9ea2d wn_RJx4a65c wc_yJx4a65c_add_9ea2d rfl rfl (by decide +kernel) ⟨Nat.le_trans (by decide) hR.1, Nat.le_trans (by decide) hR.2⟩ hf rfl hls hW8 rfl hdg (fun v ws' H1 locs1 hp hP1 hD1 hS1 hq => ?_)
  obtain ⟨rfl, q, N, g, rfl, hg⟩ := hp
  obtain ⟨g1, g2, g3, g4, g5, g6⟩ := hg
  have hl' : (xL st j ++ [x]).length = (xL st j).length + 1 := by simp
  refine kk H1 locs1 (xw_relist hW hL hU hj (l' := xL st j ++ [x]) hA1 (by rw [hl']; exact hP1) (by rw [hl']; exact hD1) hq ⟨by rw [hl']; omega, g2, by omega⟩ (fun t ht => ?_) (fun t ht => g6 t (by rw [hl'] at ht; omega)) (fun y hy => ?_)) hS1
  · rw [hl'] at ht
    by_cases e : t = (xL st j).length
    · subst e
      rw [g5, List.getD_eq_getElem?_getD]
      simp
    · rw [g4 t (by omega), lgo_eq hL hj t (by omega), List.getD_eq_getElem?_getD, List.getD_eq_getElem?_getD, List.getElem?_append_left (by omega)]
  · rcases List.mem_append.mp hy with h | h
    · exact h1j.2.2.2.2.2 y h
    · rw [List.mem_singleton.mp h]
      exact hx
theorem xw_laddAt (B : XB G A ad p l s m args meth c cc nL own rt) (hM : XW G A ad st H) (hS : va_S A s.heap H locs) (j : Nat) (hj : j < 3) (h1 : Cond.methodLink own index yJx4a65c_add_7a177 ∈ TG) {x : Nat} (hx : x < xN st (elc j)) (hlen : (xL st j).length < 60) {i : Int32} (hin : vp_in i ((xL st j).length + 1)) (hR : 8 ≤ R.frames ∧ 400 ≤ R.locals) (hf : cells + 1 ≤ R.cells ∧ slots + 100 ≤ R.slots) (hls : ls.size = nL) (hW8 : (rest.map fun v => v.category).sum ≤ 8) (hdg : decode cc pc = .ok (.invokevirtual index, 3))
    (kk : ∀ (H1 : Heap) (locs1 : List Loc), XW G A ad (sL st j ((xL st j).insertIdx i.toNatClampNeg x)) H1 → va_S A s.heap H1 locs1 → W p l e R s m args below meth c H1 locs1 (cells + 1) (slots + 100) Q (F0 m (pc + 3) ls rest)) : W p l e R s m args below meth c H locs cells slots Q (F0 m pc ls (.ref (ad (elk j) x) :: .int i :: .ref (ad 13 j) :: rest)) := by
  obtain ⟨gh, hW, hL, hU⟩ := hM
  have h1j := hL j hj
  have hlen31 : (xL st j).length < 2 ^ 31 := by omega
  have ⟨⟨hx', hb, hr, hml, hown, hT, hlocks, hK⟩, hnt, hST, hA, hll⟩ := B
  have hAH : ∀ q : Nat, H.size ≤ q → A q := fun q hq => hA q (Nat.le_trans hS.1 hq)
  have hP := lws_P hW hj
  have hD := lws_D hW hj (mc := (gh j).1) (sz := nI (xL st j).length)
  have hA1 := lrg_A hW hj hAH
  have hEE : EE G (lrg ad gh H j) (eci j) (lfn (lgo gh j)) H := by
    intro t y hy
    obtain ⟨ht, rfl⟩ := lgo_fn hL hj t y hy
    have hm : (xL st j).getD t 0 ∈ xL st j := by
      rw [List.getD_eq_getElem?_getD, List.getElem?_eq_getElem ht]
      exact List.getElem_mem ht
    exact ⟨xl_el hW (h1j.2.2.2.2.2 _ hm), lrg_el hW hj (h1j.2.2.2.2.2 _ hm)⟩
  have hcap : lcp (lgo gh j) ≤ 100 ∧ (lgo gh j ≠ none → 2 ≤ lcp (lgo gh j)) := by
    rw [lgo_cp]
    refine ⟨h1j.2.1, fun h => ?_⟩
    have hc : (gh j).2.2.1 ≠ 0 := fun z => h (by unfold lgo; rw [if_pos z])
    exact h1j.2.2.2.2.1 hc
  obtain ⟨k, hk, rfl⟩ := vp_in_of hin (by omega)
  rw [nI_clamp (by omega)] at kk
  refine pl_callV B.1 hST hA1 (fun q hq => Or.inr (Or.inr hq)) hS hP hD ⟨hEE, xl_el hW hx, lrg_el hW hj hx⟩ (lws_recv hK hP) [.int (nI k), .ref (ad (elk j) x)] (n := 2) (c_J_addAt (eci_ok j) hcap (by rw [lgo_cp]; exact h1j.1) hlen (lgo_no hL hj) (by omega)) h1 wi_yJx4a65c_add_7a177 ws_yJx4a65c_add_7a177 wn_RJx4a65c wc_yJx4a65c_add_7a177 rfl rfl (by decide +kernel) ⟨Nat.le_trans (by decide) hR.1, Nat.le_trans (by decide) hR.2⟩ hf rfl hls hW8 rfl hdg (fun v ws' H1 locs1 hp hP1 hD1 hS1 hq => ?_)
  obtain ⟨rfl, q, N, g, rfl, hg⟩ := hp
  obtain ⟨g1, g2, g3, g4, g5, g6, g7⟩ := hg
  have hl' : ((xL st j).insertIdx k x).length = (xL st j).length + 1 := List.length_insertIdx_of_le_length (by omega) _
  refine kk H1 locs1 (xw_relist hW hL hU hj (l' := (xL st j).insertIdx k x) hA1 (by rw [hl']; exact hP1) (by rw [hl']; exact hD1) hq ⟨by rw [hl']; omega, g2, by omega⟩ (fun t ht => ?_) (fun t ht => g7 t (by rw [hl'] at ht; omega)) (fun y hy => ?_)) hS1
  · rw [hl'] at ht
    rw [List.getD_eq_getElem?_getD, List.getElem?_insertIdx]
    by_cases e1 : t < k
    · rw [if_pos e1, g4 t e1, lgo_eq hL hj t (by omega), List.getD_eq_getElem?_getD]
    · rw [if_neg e1]
      by_cases e2 : t = k
      · subst e2
        rw [g5, if_pos rfl, if_pos (by omega)]
        rfl
      · rw [if_neg e2, g6 t (by omega) (by omega), lgo_eq hL hj _ (by omega), List.getD_eq_getElem?_getD]
  · rcases (List.mem_insertIdx (by omega)).mp hy with h | h
    · rw [h]
      exact hx
    · exact h1j.2.2.2.2.2 y h
theorem xw_lremove (B : XB G A ad p l s m args meth c cc nL own rt) (hM : XW G A ad st H) (hS : va_S A s.heap H locs) (j : Nat) (hj : j < 3) (h1 : Cond.methodLink own index yJx4a65c_remove_915e3 ∈ TG) {i : Int32} (hin : vp_in i (xL st j).length) (hR : 8 ≤ R.frames ∧ 400 ≤ R.locals) (hf : cells ≤ R.cells ∧ slots ≤ R.slots) (hls : ls.size = nL) (hW8 : (rest.map fun v => v.category).sum ≤ 8) (hdg : decode cc pc = .ok (.invokevirtual index, 3))
    (kk : ∀ (H1 : Heap) (locs1 : List Loc), XW G A ad (sL st j ((xL st j).eraseIdx i.toNatClampNeg)) H1 → va_S A s.heap H1 locs1 → W p l e R s m args below meth c H1 locs1 cells slots Q (F0 m (pc + 3) ls (.ref (ad (elk j) ((xL st j).getD i.toNatClampNeg 0)) :: rest))) : W p l e R s m args below meth c H locs cells slots Q (F0 m pc ls (.int i :: .ref (ad 13 j) :: rest)) := by
  obtain ⟨gh, hW, hL, hU⟩ := hM
  have h1j := hL j hj
  have hlen31 : (xL st j).length < 2 ^ 31 := by omega
  have ⟨⟨hx', hb, hr, hml, hown, hT, hlocks, hK⟩, hnt, hST, hA, hll⟩ := B
  have hAH : ∀ q : Nat, H.size ≤ q → A q := fun q hq => hA q (Nat.le_trans hS.1 hq)
  have hP := lws_P hW hj
  have hD := lws_D hW hj (mc := (gh j).1) (sz := nI (xL st j).length)
  have hA1 := lrg_A hW hj hAH
  have hEE : EE G (lrg ad gh H j) (eci j) (lfn (lgo gh j)) H := by
    intro t y hy
    obtain ⟨ht, rfl⟩ := lgo_fn hL hj t y hy
    have hm : (xL st j).getD t 0 ∈ xL st j := by
      rw [List.getD_eq_getElem?_getD, List.getElem?_eq_getElem ht]
      exact List.getElem_mem ht
    exact ⟨xl_el hW (h1j.2.2.2.2.2 _ hm), lrg_el hW hj (h1j.2.2.2.2.2 _ hm)⟩
  obtain ⟨k, hk, rfl⟩ := vp_in_of hin hlen31
  rw [nI_clamp (by omega)] at kk
  have hc : (gh j).2.2.1 ≠ 0 := by omega
  obtain ⟨c, hcl⟩ : ∃ c, (xL st j).length = c + 1 := ⟨(xL st j).length - 1, by omega⟩
  have ego : lgo gh j = some ((gh j).2.1, (gh j).2.2.1, (gh j).2.2.2) := by unfold lgo; rw [if_neg hc]
  rw [ego, hcl] at hP
  rw [ego, hcl] at hD
  rw [ego] at hEE
  refine pl_callV B.1 hST hA1 (fun q hq => Or.inr (Or.inr hq)) hS hP hD hEE (lws_recv hK hP) [.int (nI k)] (n := 1) (c_J_remove (x := ad (elk j) ((xL st j).getD k 0)) (eci_ok j) h1j.2.1 (by omega) (fun t ht => h1j.2.2.2.1 t (by omega)) (by omega) (h1j.2.2.1 k hk)) h1 wi_yJx4a65c_remove_915e3 ws_yJx4a65c_remove_915e3 wn_RJx4a65c wc_yJx4a65c_remove_915e3 rfl rfl (by decide +kernel) ⟨Nat.le_trans (by decide) hR.1, Nat.le_trans (by decide) hR.2⟩ hf rfl hls hW8 rfl hdg (fun v ws' H1 locs1 hp hP1 hD1 hS1 hq => ?_)
  obtain ⟨rfl, g, rfl, hg⟩ := hp
  obtain ⟨g4, g5, g6⟩ := hg
  have hl' : ((xL st j).eraseIdx k).length = c := by rw [List.length_eraseIdx_of_lt hk]; omega
  refine kk H1 locs1 (xw_relist hW hL hU hj (l' := (xL st j).eraseIdx k) hA1 (by rw [hl']; exact hP1) (by rw [hl']; exact hD1) hq ⟨by rw [hl']; omega, h1j.2.1, h1j.2.2.2.2.1 hc⟩ (fun t ht => ?_) (fun t ht => g6 t (by rw [hl'] at ht; omega)) (fun y hy => h1j.2.2.2.2.2 y (List.mem_of_mem_eraseIdx hy))) hS1
  rw [hl'] at ht
  rw [List.getD_eq_getElem?_getD, List.getElem?_eraseIdx]
  by_cases e1 : t < k
  · rw [if_pos e1, g4 t e1, h1j.2.2.1 t (by omega), List.getD_eq_getElem?_getD]
  · rw [if_neg e1, g5 t (by omega) ht, h1j.2.2.1 _ (by omega), List.getD_eq_getElem?_getD]
end XWL
