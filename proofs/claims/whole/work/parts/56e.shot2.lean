/-! Agreement: shot, the shot itself. -/
section B5
variable {st : XS} {ms : MS}
theorem r45_4 : ∀ {c : Nat}, c < 4 → r45 4 c = 45 := by
  intro c hc
  match c, hc with
  | 0, _ => rfl
  | 1, _ => rfl
  | 2, _ => rfl
  | 3, _ => rfl
/-- the class's state behind a new shot -/
def stA (st : XS) (a b c n l : Int32) (k : Nat) : XS := sL (sL (sF (sF (nwS st a b c) 1 (xN st 0) 7 n) 1 (xN st 0) 8 l) 0 (xL st 0 ++ [xN st 0])) 1 ((xL st 1).insertIdx k (xN st 0))
theorem nwS_F (st : XS) (a b c : Int32) (k i f : Nat) : xF (nwS st a b c) k i f = if i = xN st 0 ∧ k = 1 then nwF a b c f else if i = xN st 0 ∧ k = 2 then (if f = 0 then 45 else 0) else xF st k i f := rfl
theorem nwS_R (st : XS) (a b c : Int32) (w i : Nat) : xR (nwS st a b c) w i = if i = xN st 0 ∧ w < 4 then r45 4 else xR st w i := rfl
theorem stA_L0 (a b c n l : Int32) (k : Nat) : xL (stA st a b c n l k) 0 = xL st 0 ++ [xN st 0] := rfl
theorem stA_L1 (a b c n l : Int32) (k : Nat) : xL (stA st a b c n l k) 1 = (xL st 1).insertIdx k (xN st 0) := rfl
theorem stA_L2 (a b c n l : Int32) (k : Nat) : xL (stA st a b c n l k) 2 = xL st 2 := rfl
theorem stA_N0 (a b c n l : Int32) (k : Nat) : xN (stA st a b c n l k) 0 = xN st 0 + 1 := rfl
theorem stA_N1 (a b c n l : Int32) (k : Nat) : xN (stA st a b c n l k) 1 = xN st 1 := rfl
theorem stA_U (a b c n l : Int32) (k : Nat) (j : Nat) : xU (stA st a b c n l k) j = xU st j := rfl
theorem stA_F (a b c n l : Int32) (k x i f : Nat) (h : ¬ (i = xN st 0 ∧ (x = 1 ∨ x = 2))) : xF (stA st a b c n l k) x i f = xF st x i f := by
  show xF (sF (sF (nwS st a b c) 1 (xN st 0) 7 n) 1 (xN st 0) 8 l) x i f = _
  rw [xF_sF, if_neg (fun z => h ⟨z.2.1, Or.inl z.1⟩), xF_sF, if_neg (fun z => h ⟨z.2.1, Or.inl z.1⟩), nwS_F, if_neg (fun z => h ⟨z.1, Or.inl z.2⟩), if_neg (fun z => h ⟨z.1, Or.inr z.2⟩)]
theorem stA_F1 (a b c n l : Int32) (k f : Nat) : xF (stA st a b c n l k) 1 (xN st 0) f = if f = 8 then l else if f = 7 then n else nwF a b c f := by
  show xF (sF (sF (nwS st a b c) 1 (xN st 0) 7 n) 1 (xN st 0) 8 l) 1 (xN st 0) f = _
  rw [xF_sF, xF_sF, nwS_F, if_pos (show xN st 0 = xN st 0 ∧ 1 = 1 from ⟨rfl, rfl⟩)]
  by_cases h8 : f = 8
  · rw [if_pos ⟨rfl, rfl, h8⟩, if_pos h8]
  · rw [if_neg (fun z => h8 z.2.2), if_neg h8]
    by_cases h7 : f = 7
    · rw [if_pos ⟨rfl, rfl, h7⟩, if_pos h7]
    · rw [if_neg (fun z => h7 z.2.2), if_neg h7]
theorem stA_F2 (a b c n l : Int32) (k f : Nat) : xF (stA st a b c n l k) 2 (xN st 0) f = if f = 0 then 45 else 0 := by
  show xF (sF (sF (nwS st a b c) 1 (xN st 0) 7 n) 1 (xN st 0) 8 l) 2 (xN st 0) f = _
  rw [xF_sF, if_neg (by rintro ⟨z, -⟩; cases z), xF_sF, if_neg (by rintro ⟨z, -⟩; cases z), nwS_F, if_neg (by rintro ⟨-, z⟩; cases z), if_pos ⟨rfl, rfl⟩]
theorem stA_R (a b c n l : Int32) (k w i : Nat) (h : i ≠ xN st 0) : xR (stA st a b c n l k) w i = xR st w i := by
  show xR (nwS st a b c) w i = _
  rw [nwS_R, if_neg (fun z => h z.1)]
theorem stA_Rn (a b c n l : Int32) (k w t : Nat) (hw : w < 4) (ht : t < 4) : xR (stA st a b c n l k) w (xN st 0) t = 45 := by
  show xR (nwS st a b c) w (xN st 0) t = _
  rw [nwS_R, if_pos ⟨rfl, hw⟩, r45_4 ht]
/-- the reference's rows behind a new shot -/
def clM (ms : MS) (N : Nat) : Nat → MS
  | 0 => ms
  | k + 1 => setA (setA (setA (setA (clM ms N k) 11 (4 * N + k) 45) 12 (4 * N + k) 45) 13 (4 * N + k) 45) 14 (4 * N + k) 45
theorem clM_1 (ms : MS) (N j : Nat) : ∀ k, (clM ms N k).1 j = ms.1 j
  | 0 => rfl
  | k + 1 => clM_1 ms N j k
theorem clM_2 (ms : MS) (N a b : Nat) : ∀ k, (clM ms N k).2 a b = if (11 ≤ a ∧ a ≤ 14) ∧ 4 * N ≤ b ∧ b < 4 * N + k then 45 else ms.2 a b := by
  intro k
  induction k with
  | zero => rw [if_neg (by omega)]; rfl
  | succ k ih =>
    show (setA (setA (setA (setA (clM ms N k) 11 (4 * N + k) 45) 12 (4 * N + k) 45) 13 (4 * N + k) 45) 14 (4 * N + k) 45).2 a b = _
    rw [sA_2, sA_2, sA_2, sA_2, ih]
    by_cases h14 : a = 14 ∧ b = 4 * N + k
    · rw [if_pos h14, if_pos (by omega)]
    · rw [if_neg h14]
      by_cases h13 : a = 13 ∧ b = 4 * N + k
      · rw [if_pos h13, if_pos (by omega)]
      · rw [if_neg h13]
        by_cases h12 : a = 12 ∧ b = 4 * N + k
        · rw [if_pos h12, if_pos (by omega)]
        · rw [if_neg h12]
          by_cases h11 : a = 11 ∧ b = 4 * N + k
          · rw [if_pos h11, if_pos (by omega)]
          · rw [if_neg h11]
            by_cases hz : (11 ≤ a ∧ a ≤ 14) ∧ 4 * N ≤ b ∧ b < 4 * N + k
            · rw [if_pos hz, if_pos (by omega)]
            · rw [if_neg hz, if_neg (by omega)]
def msA (ms : MS) (N : Nat) (a b c n l : Int32) : MS := setA (setA (setA (setA (setA (setA (setA ms 4 N a) 5 N b) 6 N c) 9 N n) 10 N l) 16 N 45) 20 N (-1)
def msB (ms : MS) (N : Nat) (a b c n l : Int32) (f : Nat → Int32) (L : Nat) : MS := setS (setS (sRow (clM (msA ms N a b c n l) N 4) f) 2 (nI L)) 1 (nI (N + 1))
theorem msA_2 (ms : MS) (N : Nat) (a b c n l : Int32) (x t : Nat) (h : t ≠ N) : (msA ms N a b c n l).2 x t = ms.2 x t := by
  unfold msA
  simp only [sA_2]
  rw [if_neg (fun z => h z.2), if_neg (fun z => h z.2), if_neg (fun z => h z.2), if_neg (fun z => h z.2), if_neg (fun z => h z.2), if_neg (fun z => h z.2), if_neg (fun z => h z.2)]
theorem msA_o (ms : MS) (N : Nat) (a b c n l : Int32) (x t : Nat) (h : ¬ (x = 4 ∨ x = 5 ∨ x = 6 ∨ x = 9 ∨ x = 10 ∨ x = 16 ∨ x = 20)) : (msA ms N a b c n l).2 x t = ms.2 x t := by
  unfold msA
  simp only [sA_2]
  rw [if_neg (fun z => h (by omega)), if_neg (fun z => h (by omega)), if_neg (fun z => h (by omega)), if_neg (fun z => h (by omega)), if_neg (fun z => h (by omega)), if_neg (fun z => h (by omega)), if_neg (fun z => h (by omega))]
theorem msB_2 (ms : MS) (N : Nat) (a b c n l : Int32) (f : Nat → Int32) (L x t : Nat) (h3 : x ≠ 3) (h : ¬ ((11 ≤ x ∧ x ≤ 14) ∧ 4 * N ≤ t ∧ t < 4 * N + 4)) : (msB ms N a b c n l f L).2 x t = (msA ms N a b c n l).2 x t := by
  show (sRow (clM (msA ms N a b c n l) N 4) f).2 x t = _
  rw [sRow_o _ _ _ h3, clM_2, if_neg h]
theorem msB_c (ms : MS) (N : Nat) (a b c n l : Int32) (f : Nat → Int32) (L x t : Nat) (h : 11 ≤ x ∧ x ≤ 14) (ht : t < 4) : (msB ms N a b c n l f L).2 x (4 * N + t) = 45 := by
  show (sRow (clM (msA ms N a b c n l) N 4) f).2 x (4 * N + t) = _
  rw [sRow_o _ _ _ (by omega), clM_2, if_pos ⟨h, by omega, by omega⟩]
theorem msB_1 (ms : MS) (N : Nat) (a b c n l : Int32) (f : Nat → Int32) (L j : Nat) (h1 : j ≠ 1) (h2 : j ≠ 2) : (msB ms N a b c n l f L).1 j = ms.1 j := by
  unfold msB
  rw [sS_1, if_neg h1, sS_1, if_neg h2, sRow_1, clM_1]
  rfl
theorem BI.num (hb : BI st) (hl : xF st 0 0 4 ≠ 0) {x : Nat} (hx : x ∈ xL st 1) : 0 ≤ xF st 1 x 7 := (hb.nok.2 hl).1 x hx
theorem INV.shot (I : INV st ms) {a b c n l : Int32} {k : Nat} {f : Nat → Int32} (hN : xN st 0 < 24) (hk : k ≤ (xL st 1).length) (hc : camok a b) (hcl : 1 ≤ c ∧ c ≤ 240)
    (hl : l = 45 ∨ (65 ≤ l ∧ l ≤ 70)) (hn : n = -1 ∨ 0 ≤ n) (hu : xF st 0 0 4 = 0 → n = -1 ∧ l = 45) (hlk : xF st 0 0 4 ≠ 0 → 0 ≤ n ∧ ¬ tkn st n l)
    (hf : ∀ t, t < ((xL st 1).insertIdx k (xN st 0)).length → f t = nI (((xL st 1).insertIdx k (xN st 0)).getD t 0)) :
    INV (stA st a b c n l k) (msB ms (xN st 0) a b c n l f ((xL st 1).insertIdx k (xN st 0)).length) := by
  have hb := I.1
  have hnm : ∀ {x}, x ∈ xL st 1 → x ≠ xN st 0 := fun hx e => by have := hb.reel_lt hx; omega
  obtain ⟨⟨b1, b2, b3, b4, b5, b6, b7, b8, b9, b10, b11⟩, ⟨h1, h2, h3, h4, h5, h6, h7, h8, h9, h10⟩⟩ := I
  have f0 : ∀ x i g, x ≠ 1 → x ≠ 2 → xF (stA st a b c n l k) x i g = xF st x i g := fun x i g y1 y2 => stA_F a b c n l k x i g (fun z => z.2.elim y1 y2)
  have fi : ∀ x i g, i ≠ xN st 0 → xF (stA st a b c n l k) x i g = xF st x i g := fun x i g y => stA_F a b c n l k x i g (fun z => y z.1)
  have m2 : ∀ x t, x ≠ 3 → ¬ (11 ≤ x ∧ x ≤ 14) → t ≠ xN st 0 → (msB ms (xN st 0) a b c n l f ((xL st 1).insertIdx k (xN st 0)).length).2 x t = ms.2 x t := fun x t y1 y2 y3 => by
    rw [msB_2 _ _ _ _ _ _ _ _ _ _ _ y1 (fun z => y2 z.1), msA_2 _ _ _ _ _ _ _ _ _ y3]
  have mo : ∀ x t, ¬ (3 ≤ x ∧ x ≤ 6) → ¬ (9 ≤ x ∧ x ≤ 14) → x ≠ 16 → x ≠ 20 → (msB ms (xN st 0) a b c n l f ((xL st 1).insertIdx k (xN st 0)).length).2 x t = ms.2 x t := fun x t y1 y2 y3 y4 => by
    rw [msB_2 _ _ _ _ _ _ _ _ _ _ _ (by omega) (fun z => y2 (by omega)), msA_o _ _ _ _ _ _ _ _ _ (by omega)]
  refine ⟨⟨?_, ?_, ?_, fun x hx => ?_, ?_, ?_, fun j hj => ?_, fun j hj => ?_, fun j hj => ?_, ?_, ?_⟩, ⟨?_, ?_, ?_, ?_, ?_, fun t ht => ?_, fun j hj => ?_, fun j hj => ?_, fun j hj => ?_, fun j hj => ?_⟩⟩
  · rw [stA_L0, stA_N0, b1, List.range_succ]
  · rw [stA_N0]; omega
  · rw [stA_L1]
    exact ins_nodup _ _ b3 (fun z => hnm z rfl)
  · rw [stA_L1] at hx
    rw [stA_N0]
    rcases ins_mem _ _ hx with e | e
    · omega
    · have := b4 x e
      omega
  · rw [stA_L2, stA_N1]; exact b5
  · rw [stA_N1]; exact b6
  · rw [stA_N1] at hj
    rw [stA_U, stA_N0]
    have := b7 j hj
    omega
  · rw [stA_N0] at hj
    by_cases e : j = xN st 0
    · subst e
      unfold SOK COK
      simp only [stA_F1, stA_F2]
      refine ⟨hc.1, ⟨hc.2.1, ?_⟩, hcl, hl, hn, Or.inl rfl, Or.inl rfl, fun t ht => Or.inl ⟨?_, ?_, ?_, ?_⟩⟩
      · exact (i_lt5 b).mpr hc.2.2
      · exact stA_Rn _ _ _ _ _ _ _ _ (by decide) ht
      · exact stA_Rn _ _ _ _ _ _ _ _ (by decide) ht
      · exact stA_Rn _ _ _ _ _ _ _ _ (by decide) ht
      · exact stA_Rn _ _ _ _ _ _ _ _ (by decide) ht
    · have := b8 j (by omega)
      unfold SOK COK at this ⊢
      simp only [fi _ _ _ e, stA_R _ _ _ _ _ _ _ _ e]
      exact this
  · rw [stA_N1] at hj
    rw [f0 3 _ _ (by decide) (by decide)]
    exact b9 j hj
  · rw [f0 0 _ _ (by decide) (by decide)]; exact b10
  · unfold NOK
    rw [f0 0 _ _ (by decide) (by decide), stA_L1, stA_N0]
    refine ⟨fun hz i hi => ?_, fun hz => ⟨fun x hx => ?_, fun x hx y hy hne => ?_⟩⟩
    · by_cases e : i = xN st 0
      · subst e
        rw [stA_F1, stA_F1]
        exact hu hz
      · rw [fi _ _ _ e, fi _ _ _ e]
        exact b11.1 hz i (by omega)
    · rcases ins_mem _ _ hx with e | e
      · subst e
        rw [stA_F1]
        exact (hlk hz).1
      · rw [fi _ _ _ (hnm e)]
        exact (b11.2 hz).1 x e
    · have q1 := (b11.2 hz).2
      rcases ins_mem _ _ hx with e | e
      · subst e
        rw [fi _ _ _ hne, fi _ _ _ hne, stA_F1, stA_F1]
        exact fun z => (hlk hz).2 ⟨y, by omega, z⟩
      · rw [fi _ x _ (hnm e), fi _ x _ (hnm e)]
        by_cases ey : y = xN st 0
        · subst ey
          rw [stA_F1, stA_F1]
          exact fun z => (hlk hz).2 ⟨x, b4 x e, z.1.symm, z.2.symm⟩
        · rw [fi _ y _ ey, fi _ y _ ey]
          exact q1 x e y (by omega) hne
  · rw [stA_N0]; rfl
  · rw [stA_L1]; rfl
  · rw [msB_1 _ _ _ _ _ _ _ _ _ 15 (by decide) (by decide), f0 0 _ _ (by decide) (by decide)]; exact h3
  · rw [msB_1 _ _ _ _ _ _ _ _ _ 22 (by decide) (by decide), f0 0 _ _ (by decide) (by decide)]; exact h4
  · rw [msB_1 _ _ _ _ _ _ _ _ _ 23 (by decide) (by decide), stA_N1]; exact h5
  · exact hf t ht
  · rw [stA_N0] at hj
    by_cases e : j = xN st 0
    · subst e
      obtain ⟨z1, z2, z3, z4, z5, z6⟩ := h8 (xN st 0) (Nat.le_refl _)
      unfold RS
      simp only [stA_F1, stA_F2]
      rw [mo 7 _ (by decide) (by decide) (by decide) (by decide), mo 8 _ (by decide) (by decide) (by decide) (by decide), mo 17 _ (by decide) (by decide) (by decide) (by decide), mo 18 _ (by decide) (by decide) (by decide) (by decide), mo 19 _ (by decide) (by decide) (by decide) (by decide), mo 21 _ (by decide) (by decide) (by decide) (by decide)]
      refine ⟨?_, ?_, ?_, z1, z2, ?_, ?_, ?_, z3, z4, z5, ?_, z6, fun t ht => ?_⟩
      · rw [msB_2 _ _ _ _ _ _ _ _ _ _ _ (by decide) (by omega)]; unfold msA; simp [sA_2, nwF]
      · rw [msB_2 _ _ _ _ _ _ _ _ _ _ _ (by decide) (by omega)]; unfold msA; simp [sA_2, nwF]
      · rw [msB_2 _ _ _ _ _ _ _ _ _ _ _ (by decide) (by omega)]; unfold msA; simp [sA_2, nwF]
      · rw [msB_2 _ _ _ _ _ _ _ _ _ _ _ (by decide) (by omega)]; unfold msA; simp [sA_2]
      · rw [msB_2 _ _ _ _ _ _ _ _ _ _ _ (by decide) (by omega)]; unfold msA; simp [sA_2]
      · rw [msB_2 _ _ _ _ _ _ _ _ _ _ _ (by decide) (by omega)]; unfold msA; simp [sA_2]
      · rw [msB_2 _ _ _ _ _ _ _ _ _ _ _ (by decide) (by omega)]; unfold msA; simp [sA_2, nwF]
      · rw [msB_c _ _ _ _ _ _ _ _ _ 11 _ (by decide) ht, msB_c _ _ _ _ _ _ _ _ _ 12 _ (by decide) ht, msB_c _ _ _ _ _ _ _ _ _ 13 _ (by decide) ht, msB_c _ _ _ _ _ _ _ _ _ 14 _ (by decide) ht, stA_Rn _ _ _ _ _ _ _ _ (by decide) ht, stA_Rn _ _ _ _ _ _ _ _ (by decide) ht, stA_Rn _ _ _ _ _ _ _ _ (by decide) ht, stA_Rn _ _ _ _ _ _ _ _ (by decide) ht]
        exact ⟨rfl, rfl, rfl, rfl⟩
    · have hr := h7 j (by omega)
      unfold RS at hr ⊢
      obtain ⟨r1, r2, r3, r4, r5, r6, r7, r8, r9, r10, r11, r12, r13, r14⟩ := hr
      simp only [fi _ _ _ e, stA_R _ _ _ _ _ _ _ _ e]
      rw [m2 4 _ (by decide) (by decide) e, m2 5 _ (by decide) (by decide) e, m2 6 _ (by decide) (by decide) e, m2 7 _ (by decide) (by decide) e, m2 8 _ (by decide) (by decide) e, m2 9 _ (by decide) (by decide) e, m2 10 _ (by decide) (by decide) e, m2 16 _ (by decide) (by decide) e, m2 17 _ (by decide) (by decide) e, m2 18 _ (by decide) (by decide) e, m2 19 _ (by decide) (by decide) e, m2 20 _ (by decide) (by decide) e, m2 21 _ (by decide) (by decide) e]
      refine ⟨r1, r2, r3, r4, r5, r6, r7, r8, r9, r10, r11, r12, r13, fun t ht => ?_⟩
      have mc : ∀ x, x = 11 ∨ x = 12 ∨ x = 13 ∨ x = 14 → (msB ms (xN st 0) a b c n l f ((xL st 1).insertIdx k (xN st 0)).length).2 x (4 * j + t) = ms.2 x (4 * j + t) := fun x hx => by
        rw [msB_2 _ _ _ _ _ _ _ _ _ _ _ (by omega) (by omega), msA_o _ _ _ _ _ _ _ _ _ (by omega)]
      rw [mc 11 (by decide), mc 12 (by decide), mc 13 (by decide), mc 14 (by decide)]
      exact r14 t ht
  · rw [stA_N0] at hj
    have hr := h8 j (by omega)
    unfold RZ at hr ⊢
    rw [mo 7 _ (by decide) (by decide) (by decide) (by decide), mo 8 _ (by decide) (by decide) (by decide) (by decide), mo 17 _ (by decide) (by decide) (by decide) (by decide), mo 18 _ (by decide) (by decide) (by decide) (by decide), mo 19 _ (by decide) (by decide) (by decide) (by decide), mo 21 _ (by decide) (by decide) (by decide) (by decide)]
    exact hr
  · rw [stA_N1] at hj
    rw [mo 24 _ (by decide) (by decide) (by decide) (by decide), mo 25 _ (by decide) (by decide) (by decide) (by decide), mo 26 _ (by decide) (by decide) (by decide) (by decide), stA_U, f0 3 _ _ (by decide) (by decide), f0 3 _ _ (by decide) (by decide)]
    exact h9 j hj
  · rw [mo 29 _ (by decide) (by decide) (by decide) (by decide)]; exact h10 j hj
end B5
