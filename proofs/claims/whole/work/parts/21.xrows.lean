section XWR
variable {p : Program} {l : Launch} {e : Env} {R : Room} {s : State} {m : MethodId} {args : Array Value} {below : List Frame} {meth : Method} {c : Code} {H : Heap} {locs : List Loc} {cells slots : Nat} {Q : State → Prop}
variable {cc : ByteArray} {nL pc : Nat} {own : String} {rt : Option FieldType} {ls : Array Slot} {rest : List Value} {G : GG} {A : Nat → Prop} {H0 : Heap} {ad : AD} {st : XS}
theorem adx_ne {gh : LG} {k i : Nat} (hk : k ≠ 14) : adx ad gh (k, i) = ad k i := if_neg hk
theorem xv_0 : VXs st 0 0 := Or.inl ⟨rfl, rfl⟩
theorem xv_s {k i : Nat} (hk : 1 ≤ k ∧ k < 8) (h : i < xN st 0) : VXs st k i := Or.inr (Or.inl ⟨hk.1, hk.2, h⟩)
theorem xv_n {i : Nat} (h : i < xN st 1) : VXs st 8 i := Or.inr (Or.inr (Or.inl ⟨rfl, h⟩))
theorem xv_o {k : Nat} (hk : 9 ≤ k ∧ k < 13) : VXs st k 0 := Or.inr (Or.inr (Or.inr ⟨hk.1, hk.2, rfl⟩))
theorem xv_14 {k i : Nat} (h : VXs st k i) : k ≠ 14 := by
  rcases h with h | h | h | h <;> omega
/-- a field of a thing of the class's world -/
theorem xw_get (B : MB G p s m args meth c cc nL own rt) (hM : XW G A ad st H) (k i : Nat) (hv : VXs st k i) {ci N : Nat} {fs : List Value} (he : ∀ gh, enX G ad gh st (k, i) = .inr (ci, fs)) {C : String} {T : u_T} (hc : vwCl[ci]? = some (C, T, N)) (hin : ∀ w ∈ u_ws C T N, w ∈ TG) (f : Nat) (hk : f < N) {index : Nat} (hlink : Cond.fieldLink own index C (T f).2.1 (T f).2.2.1 ∈ TG) (ht : (T f).1 = C) {v : Value} (hv2 : fs[f]? = some v) (hdg : decode cc pc = .ok (.getfield index, 3))
    (kk : W p l e R s m args below meth c H locs cells slots Q (F0 m (pc + 3) ls (v :: rest))) : W p l e R s m args below meth c H locs cells slots Q (F0 m pc ls (.ref (ad k i) :: rest)) := by
  obtain ⟨gh, hW, -, -⟩ := hM
  have h1 := fw_get (l := l) (e := e) (R := R) (below := below) (locs := locs) (cells := cells) (slots := slots) (Q := Q) (pc := pc) (ls := ls) (rest := rest) B hW (k, i) (Or.inl hv) (he gh) hc hin f hk hlink (fun x h => by rw [ht] at h; exact h) hv2 hdg kk
  rw [adx_ne (xv_14 hv)] at h1
  exact h1
theorem xw_putF (B : MB G p s m args meth c cc nL own rt) (hM : XW G A ad st H) (hS : va_S A H0 H locs) (k i fk : Nat) (hk3 : (k = 0 ∧ fk = 0 ∧ i = 0) ∨ (k = 1 ∧ fk = 1) ∨ (k = 3 ∧ fk = 2) ∨ (k = 8 ∧ fk = 3) ∨ (k = 9 ∧ fk = 4 ∧ i = 0)) (hv : VXs st k i) {ci N : Nat} {fs : List Value} (he : ∀ gh, enX G ad gh st (k, i) = .inr (ci, fs)) {C : String} {T : u_T} (hc : vwCl[ci]? = some (C, T, N)) (hin : ∀ w ∈ u_ws C T N, w ∈ TG) {ty0 : Nat → FieldType} (hty : ∀ k, k < N → parseFieldDescriptor (T k).2.2.1 = some (ty0 k)) (hnm : ∀ a, a < N → ∀ b, b < N → a ≠ b → (T a).2.1 ≠ (T b).2.1) (f : Nat) (hk : f < N) {index : Nat} (hlink : Cond.fieldLink own index C (T f).2.1 (T f).2.2.1 ∈ TG) (ht : (T f).1 = C) (hfin : (T f).2.2.2 = false) {x : Int32} (hn : narrow (ty0 f) (.int x) = .int x) (hfit : fits (ty0 f) (.int x) = true) (hl : f < fs.length) (hset : ∀ gh, enX G ad gh (sF st fk i f x) (k, i) = .inr (ci, fs.set f (.int x))) (hdg : decode cc pc = .ok (.putfield index, 3))
    (kk : ∀ (H1 : Heap) (locs1 : List Loc), XW G A ad (sF st fk i f x) H1 → va_S A H0 H1 locs1 → W p l e R s m args below meth c H1 locs1 cells slots Q (F0 m (pc + 3) ls rest)) : W p l e R s m args below meth c H locs cells slots Q (F0 m pc ls (.int x :: .ref (ad k i) :: rest)) := by
  obtain ⟨gh, hW, hL, hU⟩ := hM
  have h1 := fw_put (l := l) (e := e) (R := R) (below := below) (cells := cells) (slots := slots) (Q := Q) (pc := pc) (ls := ls) (rest := rest) B hW hS (k, i) (Or.inl hv) (he gh) hc hin hty hnm f hk hlink (fun x h => by rw [ht] at h; exact h) hfin hn hfit hl hdg fun H1 locs1 h1 h2 => kk H1 locs1 (xw_setF hk3 h1 hL hU (hset gh)) h2
  rw [adx_ne (xv_14 hv)] at h1
  exact h1
/-! the rows of a cast -/
theorem enx_row {gh : LG} {w i : Nat} (hw : w < 4) : enX G ad gh st (4 + w, i) = .inl (G.2 1, 4, .inl (xR st w i)) := by
  rcases w with _ | _ | _ | _ | w
  · rfl
  · rfl
  · rfl
  · rfl
  · omega
theorem xw_cald (B : MB G p s m args meth c cc nL own rt) (hM : XW G A ad st H) (w i : Nat) (hw : w < 4) (hv : i < xN st 0) {j : Int32} (hin : vp_in j 4) (hdg : decode cc pc = .ok (.caload, 1))
    (kk : W p l e R s m args below meth c H locs cells slots Q (F0 m (pc + 1) ls (.int (xR st w i j.toNatClampNeg) :: rest))) : W p l e R s m args below meth c H locs cells slots Q (F0 m pc ls (.int j :: .ref (ad (4 + w) i) :: rest)) := by
  obtain ⟨gh, hW, hL, hU⟩ := hM
  have hv1 : VXs st (4 + w) i := xv_s ⟨by omega, by omega⟩ hv
  have h1 := fw_cald (l := l) (e := e) (R := R) (below := below) (locs := locs) (cells := cells) (slots := slots) (Q := Q) (pc := pc) (ls := ls) (rest := rest) B hW (4 + w, i) (Or.inl hv1) (enx_row hw) hin hdg kk
  rw [adx_ne (xv_14 hv1)] at h1
  exact h1
theorem xw_cast (B : MB G p s m args meth c cc nL own rt) (hM : XW G A ad st H) (hS : va_S A H0 H locs) (w i : Nat) (hw : w < 4) (hv : i < xN st 0) {j x : Int32} (hin : vp_in j 4) (hdg : decode cc pc = .ok (.castore, 1))
    (kk : ∀ (H1 : Heap) (locs1 : List Loc), XW G A ad (sR st w i j.toNatClampNeg (vp_nar .char x)) H1 → va_S A H0 H1 locs1 → W p l e R s m args below meth c H1 locs1 cells slots Q (F0 m (pc + 1) ls rest)) : W p l e R s m args below meth c H locs cells slots Q (F0 m pc ls (.int x :: .int j :: .ref (ad (4 + w) i) :: rest)) := by
  obtain ⟨gh, hW, hL, hU⟩ := hM
  have hv1 : VXs st (4 + w) i := xv_s ⟨by omega, by omega⟩ hv
  have h1 := fw_cast (l := l) (e := e) (R := R) (below := below) (cells := cells) (slots := slots) (Q := Q) (pc := pc) (ls := ls) (rest := rest) (x := x) B hW hS (4 + w, i) (Or.inl hv1) (enx_row hw) hin hdg fun H1 locs1 h1 h2 => kk H1 locs1 ⟨gh, FW.congr h1 fun q hq => by
    by_cases hqq : q = (4 + w, i)
    · subst hqq
      rw [up2_self, enx_row hw]
      simp [sR, xR]
    · rw [up2_ne _ _ hqq]
      exact enx_R hw hqq, hL, hU⟩ h2
  rw [adx_ne (xv_14 hv1)] at h1
  exact h1
/-! the rows of the orders -/
theorem xw_zald (B : MB G p s m args meth c cc nL own rt) (hM : XW G A ad st H) {j : Int32} (hin : vp_in j 36) (hdg : decode cc pc = .ok (.baload, 1))
    (kk : W p l e R s m args below meth c H locs cells slots Q (F0 m (pc + 1) ls (.int (xR st 4 0 j.toNatClampNeg) :: rest))) : W p l e R s m args below meth c H locs cells slots Q (F0 m pc ls (.int j :: .ref (ad 10 0) :: rest)) := by
  obtain ⟨gh, hW, hL, hU⟩ := hM
  exact fw_zald B hW (10, 0) (Or.inl (xv_o ⟨by omega, by omega⟩)) rfl hin hdg kk
theorem xw_iald (B : MB G p s m args meth c cc nL own rt) (hM : XW G A ad st H) (k : Nat) (hk : k = 11 ∨ k = 12) {j : Int32} (hin : vp_in j 384) (hdg : decode cc pc = .ok (.iaload, 1))
    (kk : W p l e R s m args below meth c H locs cells slots Q (F0 m (pc + 1) ls (.int (xR st (k - 6) 0 j.toNatClampNeg) :: rest))) : W p l e R s m args below meth c H locs cells slots Q (F0 m pc ls (.int j :: .ref (ad k 0) :: rest)) := by
  obtain ⟨gh, hW, hL, hU⟩ := hM
  rcases hk with rfl | rfl
  · exact fw_iald B hW (11, 0) (Or.inl (xv_o ⟨by omega, by omega⟩)) rfl hin hdg kk
  · exact fw_iald B hW (12, 0) (Or.inl (xv_o ⟨by omega, by omega⟩)) rfl hin hdg kk
theorem xw_zast (B : MB G p s m args meth c cc nL own rt) (hM : XW G A ad st H) (hS : va_S A H0 H locs) {j x : Int32} (hin : vp_in j 36) (hdg : decode cc pc = .ok (.bastore, 1))
    (kk : ∀ (H1 : Heap) (locs1 : List Loc), XW G A ad (sR st 4 0 j.toNatClampNeg (vp_nar .boolean x)) H1 → va_S A H0 H1 locs1 → W p l e R s m args below meth c H1 locs1 cells slots Q (F0 m (pc + 1) ls rest)) : W p l e R s m args below meth c H locs cells slots Q (F0 m pc ls (.int x :: .int j :: .ref (ad 10 0) :: rest)) := by
  obtain ⟨gh, hW, hL, hU⟩ := hM
  exact fw_zast (x := x) B hW hS (10, 0) (Or.inl (xv_o ⟨by omega, by omega⟩)) rfl hin hdg fun H1 locs1 h1 h2 => kk H1 locs1 ⟨gh, FW.congr h1 fun q hq => by
    by_cases hqq : q = (10, 0)
    · subst hqq
      rw [up2_self]
      simp [enX, sR, xR]
    · rw [up2_ne _ _ hqq]
      exact enx_O (k := 10) (Or.inl rfl) hq hqq, hL, hU⟩ h2
theorem xw_iast (B : MB G p s m args meth c cc nL own rt) (hM : XW G A ad st H) (hS : va_S A H0 H locs) (k : Nat) (hk : k = 11 ∨ k = 12) {j x : Int32} (hin : vp_in j 384) (hdg : decode cc pc = .ok (.iastore, 1))
    (kk : ∀ (H1 : Heap) (locs1 : List Loc), XW G A ad (sR st (k - 6) 0 j.toNatClampNeg x) H1 → va_S A H0 H1 locs1 → W p l e R s m args below meth c H1 locs1 cells slots Q (F0 m (pc + 1) ls rest)) : W p l e R s m args below meth c H locs cells slots Q (F0 m pc ls (.int x :: .int j :: .ref (ad k 0) :: rest)) := by
  obtain ⟨gh, hW, hL, hU⟩ := hM
  rcases hk with rfl | rfl
  · exact fw_iast (x := x) B hW hS (11, 0) (Or.inl (xv_o ⟨by omega, by omega⟩)) rfl hin hdg fun H1 locs1 h1 h2 => kk H1 locs1 ⟨gh, FW.congr h1 fun q hq => by
      by_cases hqq : q = (11, 0)
      · subst hqq
        rw [up2_self]
        simp [enX, sR, xR]
      · rw [up2_ne _ _ hqq]
        exact enx_O (k := 11) (Or.inr (Or.inl rfl)) hq hqq, hL, hU⟩ h2
  · exact fw_iast (x := x) B hW hS (12, 0) (Or.inl (xv_o ⟨by omega, by omega⟩)) rfl hin hdg fun H1 locs1 h1 h2 => kk H1 locs1 ⟨gh, FW.congr h1 fun q hq => by
      by_cases hqq : q = (12, 0)
      · subst hqq
        rw [up2_self]
        simp [enX, sR, xR]
      · rw [up2_ne _ _ hqq]
        exact enx_O (k := 12) (Or.inr (Or.inr rfl)) hq hqq, hL, hU⟩ h2
/-- a thing's class -/
theorem xw_recv (hK : VK G s) (hM : XW G A ad st H) (k i : Nat) (hv : VX st (fun _ => (0, 0, 0, fun _ => none)) (k, i)) {ci N : Nat} (he : ∀ gh, ∃ fs, enX G ad gh st (k, i) = .inr (ci, fs)) {C : String} {T : u_T} (hc : vwCl[ci]? = some (C, T, N)) : ∃ cellB : Cell, H[ad k i]? = some cellB ∧ cellB.vm.isStatics = false ∧ s.vm.findClass C = some cellB.cls := by
  obtain ⟨gh, hW, -, -⟩ := hM
  have hk14 : k ≠ 14 ∧ VX st gh (k, i) := by
    rcases hv with h | h | h
    · exact ⟨xv_14 h, Or.inl h⟩
    · exact ⟨by have := h.1; omega, Or.inr (Or.inl h)⟩
    · exact absurd rfl h.2.2
  obtain ⟨fs, he⟩ := he gh
  have h1 := (hW.1 (k, i) hk14.2).1
  rw [he, adx_ne hk14.1] at h1
  obtain ⟨r, q0, cell, q1, q2, q3, -⟩ := h1
  cases q0.symm.trans hc
  exact ⟨cell, q1, by rw [q3]; rfl, by rw [q2]; exact (hK.1 ci _ hc).2.1⟩
theorem xw_castShot (B : MB G p s m args meth c cc nL own rt) (hM : XW G A ad st H) {i index : Nat} (hv : i < xN st 0) (hlink : Cond.classLink own index RX4 ∈ TG) (hdg : decode cc pc = .ok (.checkcast index, 3))
    (kk : W p l e R s m args below meth c H locs cells slots Q (F0 m (pc + 3) ls (.ref (ad 1 i) :: rest))) : W p l e R s m args below meth c H locs cells slots Q (F0 m pc ls (.ref (ad 1 i) :: rest)) := by
  obtain ⟨hx, hb, -, -, hown, hT, -, hK⟩ := B
  exact va_castS hx hb hown (hT _ hlink) ((hK.1 5 _ rfl).2) (xw_recv hK hM 1 i (Or.inl (xv_s ⟨by omega, by omega⟩ hv)) (fun gh => ⟨_, rfl⟩) rfl) hdg kk
theorem xw_castNote (B : MB G p s m args meth c cc nL own rt) (hM : XW G A ad st H) {i index : Nat} (hv : i < xN st 1) (hlink : Cond.classLink own index RX1 ∈ TG) (hdg : decode cc pc = .ok (.checkcast index, 3))
    (kk : W p l e R s m args below meth c H locs cells slots Q (F0 m (pc + 3) ls (.ref (ad 8 i) :: rest))) : W p l e R s m args below meth c H locs cells slots Q (F0 m pc ls (.ref (ad 8 i) :: rest)) := by
  obtain ⟨hx, hb, -, -, hown, hT, -, hK⟩ := B
  exact va_castS hx hb hown (hT _ hlink) ((hK.1 2 _ rfl).2) (xw_recv hK hM 8 i (Or.inl (xv_n hv)) (fun gh => ⟨_, rfl⟩) rfl) hdg kk
end XWR
