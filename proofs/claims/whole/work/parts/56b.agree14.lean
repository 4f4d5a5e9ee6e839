/-! Agreements: named, lock. -/
section B2
variable {st : XS} {ms : MS}
theorem get_inj {l : List Nat} (hn : l.Nodup) {j k : Nat} (hj : j < l.length) (hk : k < l.length) (e : l.getD j 0 = l.getD k 0) : j = k := by
  rw [← plc_get hn hj, e, plc_get hn hk]
/-- no two shots of the reel have one name -/
theorem nm_uniq (hb : BI st) {i j : Nat} (hi : i ∈ xL st 1) (hj : j ∈ xL st 1) (e : nmb st i = nmb st j) (e8 : xF st 1 i 8 = xF st 1 j 8) : i = j := by
  have hlen := hb.len
  have i1 := List.idxOf_lt_length_of_mem hi
  have j1 := List.idxOf_lt_length_of_mem hj
  unfold nmb at e
  by_cases hl : xF st 0 0 4 = 0
  · rw [if_pos hl, if_pos hl, if_pos hi, if_pos hj, nI_eq (by omega) (by omega)] at e
    rw [← get_idx hi, ← get_idx hj, show (xL st 1).idxOf i = (xL st 1).idxOf j by omega]
  · rw [if_neg hl, if_neg hl] at e
    exact Classical.not_not.mp fun hne => (hb.nok.2 hl).2 j hj i (hb.reel_lt hi) hne ⟨e, e8⟩
def isNm (st : XS) (x c : Int32) (k : Nat) : Prop := k < (xL st 1).length ∧ nmb st ((xL st 1).getD k 0) = x ∧ xF st 1 ((xL st 1).getD k 0) 8 = c
theorem isNm_uniq (hb : BI st) {x c : Int32} {j k : Nat} (hj : isNm st x c j) (hk : isNm st x c k) : j = k :=
  get_inj hb.2.2.1 hj.1 hk.1 (nm_uniq hb (get_mem hj.1) (get_mem hk.1) (hj.2.1.trans hk.2.1.symm) (hj.2.2.trans hk.2.2.symm))
noncomputable def nmI (st : XS) (x c : Int32) : Int32 := @dite _ (∃ k, isNm st x c k) (Classical.propDecidable _) (fun h => nI ((xL st 1).getD h.choose 0)) (fun _ => -1)
theorem nmI_y (hb : BI st) {x c : Int32} {k : Nat} (h : isNm st x c k) : nmI st x c = nI ((xL st 1).getD k 0) := by
  have he : ∃ k, isNm st x c k := ⟨k, h⟩
  unfold nmI
  rw [dif_pos he, isNm_uniq hb he.choose_spec h]
theorem nmI_n {x c : Int32} (h : ∀ k, ¬ isNm st x c k) : nmI st x c = -1 := by
  unfold nmI
  exact dif_neg (fun ⟨k, hk⟩ => h k hk)
theorem p_named_go {x c : Int32} (hb : BI st) : ∀ (n k : Nat), k ≤ (xL st 1).length → (xL st 1).length < k + n → (∀ j, j < k → ¬ isNm st x c j) → f_X5_named_2 n st x c (nI k) = bi (nmI st x c = -1) (some (.inl 4, st)) (some (.inr (nmI st x c), st)) := by
  have hlen := hb.len
  have h24 := hb.n24
  intro n
  induction n with
  | zero => intro k h1 h2; omega
  | succ n ih =>
    intro k h1 h2 h3
    rw [f_X5_named_2]
    by_cases hk : k = (xL st 1).length
    · rw [bi_pos (nI_le (by omega) (by omega)), bi_pos (nmI_n (fun j hj => h3 j (hk ▸ hj.1) hj))]
    · have hk' : k < (xL st 1).length := by omega
      have hg := hb.get hk'
      have go : ¬ isNm st x c k → f_X5_named_55 (f_X5_named_2 n) st x c (nI k) = bi (nmI st x c = -1) (some (.inl 4, st)) (some (.inr (nmI st x c), st)) := by
        intro hn
        rw [f_X5_named_55, nI_1]
        refine ih (k + 1) (by omega) (by omega) fun j hj => ?_
        by_cases e : j = k
        · subst e; exact hn
        · exact h3 j (by omega)
      rw [bi_neg (nI_ge (by omega) (by omega)), p_nmA hb hk', bd_some]
      by_cases e1 : nmb st ((xL st 1).getD k 0) = x
      · rw [bi_pos e1, gd_pos (vp_in_nI hk' (by omega)), nI_clamp (by omega), gd_pos hg]
        by_cases e2 : xF st 1 ((xL st 1).getD k 0) 8 = c
        · rw [bi_pos e2, gd_pos (vp_in_nI hk' (by omega)), nmI_y hb ⟨hk', e1, e2⟩, bi_neg (nI_ne_m1 (by omega))]
        · rw [bi_neg e2]
          exact go (fun z => e2 z.2.2)
      · rw [bi_neg e1]
        exact go (fun z => e1 z.2.1)
theorem r_named_go {x c : Int32} (hb : BI st) (h : RE st ms) : ∀ (n k : Nat) (acc : Int32), k ≤ (xL st 1).length → (xL st 1).length < k + n → ((∃ j, j < k ∧ isNm st x c j ∧ acc = nI ((xL st 1).getD j 0)) ∨ ((∀ j, j < k → ¬ isNm st x c j) ∧ acc = -1)) → f_X6_named_5 n ms x c acc (nI k) = bi (nmI st x c = -1) (f_X6_named_74 ms (nmI st x c) 1) (f_X6_named_74 ms (nmI st x c) 0) := by
  have hlen := hb.len
  have h24 := hb.n24
  intro n
  induction n with
  | zero => intro k acc h1 h2; omega
  | succ n ih =>
    intro k acc h1 h2 h3
    rw [f_X6_named_5, h.2.1]
    by_cases hk : k = (xL st 1).length
    · have e : acc = nmI st x c := by
        rcases h3 with ⟨j, hj, h4, h5⟩ | ⟨h4, h5⟩
        · rw [h5, nmI_y hb h4]
        · rw [h5, nmI_n (fun j hj => h4 j (hk ▸ hj.1) hj)]
      rw [bi_pos (nI_le (by omega) (by omega)), e]
    · have hk' : k < (xL st 1).length := by omega
      have hg := hb.get hk'
      have h10 : ms.2 10 ((xL st 1).getD k 0) = xF st 1 ((xL st 1).getD k 0) 8 := (r_shot h hg).2.2.2.2.2.2.1
      have go : ¬ isNm st x c k → f_X6_named_55 (f_X6_named_5 n) ms x c acc (nI k) = bi (nmI st x c = -1) (f_X6_named_74 ms (nmI st x c) 1) (f_X6_named_74 ms (nmI st x c) 0) := by
        intro hn
        rw [f_X6_named_55, f_X6_named_56, nI_1]
        refine ih (k + 1) acc (by omega) (by omega) ?_
        rcases h3 with ⟨j, hj, h4, h5⟩ | ⟨h4, h5⟩
        · exact Or.inl ⟨j, by omega, h4, h5⟩
        · refine Or.inr ⟨fun j hj => ?_, h5⟩
          by_cases e : j = k
          · subst e; exact hn
          · exact h4 j (by omega)
      rw [bi_neg (nI_ge (by omega) (by omega)), gd_pos (vp24 (by omega) rfl), nI_clamp (by omega), r_get hb h hk', r_numberOf hb h hg (nmb_reel hb (get_mem hk')), bd_some]
      by_cases e1 : nmb st ((xL st 1).getD k 0) = x
      · rw [bi_pos e1, gd_pos (vp24 (by omega) rfl), r_get hb h hk', gd_pos (vp24 (by omega) rfl), nI_clamp (by omega), h10]
        by_cases e2 : xF st 1 ((xL st 1).getD k 0) 8 = c
        · rw [bi_pos e2, gd_pos (vp24 (by omega) rfl), f_X6_named_56, nI_1]
          exact ih (k + 1) _ (by omega) (by omega) (Or.inl ⟨k, by omega, ⟨hk', e1, e2⟩, rfl⟩)
        · rw [bi_neg e2]
          exact go (fun z => e2 z.2.2)
      · rw [bi_neg e1]
        exact go (fun z => e1 z.2.1)
theorem ag_named (I : INV st ms) {x1 : Int32} {x2 : Int32} (h2 : CH x2) : ∃ r st' b ms', f_X5_named st x1 x2 = some (r, st') ∧ f_X6_named ms x1 x2 = some (b, ms') ∧ INV st' ms' ∧ (∀ k, r = .inl k → k ∈ [4]) ∧ ms'.1 0 = lwc [4] r ∧ ∀ x, r = .inr x → x = b := by
  have hb := I.1
  have h := I.2
  have hlen := hb.len
  have hr := r_named_go (x := x1) (c := x2) hb h FU 0 (-1) (Nat.zero_le _) (by show _ < 0 + 1000000; omega) (Or.inr ⟨fun j hj => absurd hj (Nat.not_lt_zero _), rfl⟩)
  have hr : f_X6_named ms x1 x2 = _ := hr
  have hp := p_named_go (x := x1) (c := x2) hb FU 0 (Nat.zero_le _) (by show _ < 0 + 1000000; omega) (fun j hj => absurd hj (Nat.not_lt_zero _))
  have hp : f_X5_named st x1 x2 = _ := hp
  by_cases hc : nmI st x1 x2 = -1
  · refine ⟨.inl 4, st, 0, setS ms 0 1, ?_, ?_, I.code 1, yes_l (by decide), code_0 _ _, no_r⟩
    · rw [hp, bi_pos hc]
    · rw [hr, bi_pos hc]
      simp only [f_X6_named_74, p_fails1, bd_some, e10, bi_F, f_X6_named_85]
  · refine ⟨.inr (nmI st x1 x2), st, nmI st x1 x2, setS ms 0 0, ?_, ?_, I.code 0, no_l, code_0 _ _, yes_r rfl⟩
    · rw [hp, bi_neg hc]
    · rw [hr, bi_neg hc]
      simp only [f_X6_named_74, p_fails0, bd_some, e00, bi_T, f_X6_named_85]
/-! lock -/
/-- the class's state with the first k numbers given -/
def lkS (st : XS) : Nat → XS
  | 0 => st
  | k + 1 => sF (lkS st k) 1 ((xL st 1).getD k 0) 7 (nI (k + 1))
def lkM (st : XS) (ms : MS) : Nat → MS
  | 0 => ms
  | k + 1 => setA (setA (lkM st ms k) 9 ((xL st 1).getD k 0) (nI (k + 1))) 10 ((xL st 1).getD k 0) 45
theorem take_succ' {l : List Nat} {k : Nat} (hk : k < l.length) : l.take (k + 1) = l.take k ++ [l.getD k 0] := by
  rw [List.take_succ, List.getD_eq_getElem?_getD, List.getElem?_eq_getElem hk]
  rfl
theorem in_take {l : List Nat} {k i : Nat} (hk : k < l.length) : i ∈ l.take (k + 1) ↔ i ∈ l.take k ∨ i = l.getD k 0 := by
  rw [take_succ' hk, List.mem_append, List.mem_singleton]
theorem lkS_L (st : XS) (j : Nat) : ∀ k, xL (lkS st k) j = xL st j
  | 0 => rfl
  | k + 1 => (xL_sF _ _ _ _ _ _).trans (lkS_L st j k)
theorem lkS_N (st : XS) (j : Nat) : ∀ k, xN (lkS st k) j = xN st j
  | 0 => rfl
  | k + 1 => (xN_sF _ _ _ _ _ _).trans (lkS_N st j k)
theorem lkS_U (st : XS) (j : Nat) : ∀ k, xU (lkS st k) j = xU st j
  | 0 => rfl
  | k + 1 => (xU_sF _ _ _ _ _ _).trans (lkS_U st j k)
theorem lkS_R (st : XS) (a b c : Nat) : ∀ k, xR (lkS st k) a b c = xR st a b c
  | 0 => rfl
  | k + 1 => by
    have := xR_sF (lkS st k) 1 ((xL st 1).getD k 0) 7 (nI (k + 1)) a b
    exact (congrFun this c).trans (lkS_R st a b c k)
theorem lkS_F (st : XS) (hb : BI st) (a b c : Nat) : ∀ k, k ≤ (xL st 1).length → xF (lkS st k) a b c = if a = 1 ∧ c = 7 ∧ b ∈ (xL st 1).take k then nI ((xL st 1).idxOf b + 1) else xF st a b c := by
  intro k
  induction k with
  | zero => intro _; rw [if_neg (by simp)]; rfl
  | succ k ih =>
    intro hk
    have ih := ih (by omega)
    show xF (sF (lkS st k) 1 ((xL st 1).getD k 0) 7 (nI (k + 1))) a b c = _
    rw [xF_sF, ih]
    have hm := in_take (i := b) (show k < (xL st 1).length by omega)
    by_cases h1 : a = 1 ∧ b = (xL st 1).getD k 0 ∧ c = 7
    · rw [if_pos h1, if_pos ⟨h1.1, h1.2.2, hm.mpr (Or.inr h1.2.1)⟩, h1.2.1, plc_get hb.2.2.1 (by omega)]
    · rw [if_neg h1]
      by_cases h2 : a = 1 ∧ c = 7 ∧ b ∈ (xL st 1).take k
      · rw [if_pos h2, if_pos ⟨h2.1, h2.2.1, hm.mpr (Or.inl h2.2.2)⟩]
      · rw [if_neg h2, if_neg (fun z => (hm.mp z.2.2).elim (fun y => h2 ⟨z.1, z.2.1, y⟩) (fun y => h1 ⟨z.1, y, z.2.1⟩))]
theorem lkM_1 (st : XS) (ms : MS) (j : Nat) : ∀ k, (lkM st ms k).1 j = ms.1 j
  | 0 => rfl
  | k + 1 => lkM_1 st ms j k
theorem lkM_2 (st : XS) (ms : MS) (hb : BI st) (a b : Nat) : ∀ k, k ≤ (xL st 1).length → (lkM st ms k).2 a b = if b ∈ (xL st 1).take k then (if a = 9 then nI ((xL st 1).idxOf b + 1) else if a = 10 then 45 else ms.2 a b) else ms.2 a b := by
  intro k
  induction k with
  | zero => intro _; rw [if_neg (by simp)]; rfl
  | succ k ih =>
    intro hk
    have ih := ih (by omega)
    show (setA (setA (lkM st ms k) 9 ((xL st 1).getD k 0) (nI (k + 1))) 10 ((xL st 1).getD k 0) 45).2 a b = _
    rw [sA_2, sA_2, ih]
    have hm := in_take (i := b) (show k < (xL st 1).length by omega)
    by_cases hk2 : b = (xL st 1).getD k 0
    · have e : (xL st 1).idxOf b = k := by rw [hk2, plc_get hb.2.2.1 (by omega)]
      rw [if_pos (hm.mpr (Or.inr hk2)), e]
      by_cases h10 : a = 10
      · rw [if_pos ⟨h10, hk2⟩, if_neg (by omega), if_pos h10]
      · rw [if_neg (fun z => h10 z.1)]
        by_cases h9 : a = 9
        · rw [if_pos ⟨h9, hk2⟩, if_pos h9]
        · rw [if_neg (fun z => h9 z.1), if_neg h9, if_neg h10, ite_self]
    · rw [if_neg (fun z => hk2 z.2), if_neg (fun z => hk2 z.2)]
      by_cases hz : b ∈ (xL st 1).take k
      · rw [if_pos hz, if_pos (hm.mpr (Or.inl hz))]
      · rw [if_neg hz, if_neg (fun z => (hm.mp z).elim hz hk2)]
theorem p_lock_go (hb : BI st) (hl : xF st 0 0 4 = 0) (x : Int32) : ∀ (n k : Nat), k ≤ (xL st 1).length → (xL st 1).length < k + n → f_X5_lock_14 n (lkS st k) x (nI k) = f_X5_lock_55 (sF (lkS st (xL st 1).length) 0 0 4 1) x := by
  have hlen := hb.len
  intro n
  induction n with
  | zero => intro k h1 h2; omega
  | succ n ih =>
    intro k h1 h2
    rw [f_X5_lock_14, lkS_L, lkS_N]
    by_cases hk : k = (xL st 1).length
    · rw [bi_pos (nI_le (by omega) (by omega)), hk]
    · have hk' : k < (xL st 1).length := by omega
      have hl' : xF (lkS st k) 0 0 4 = 0 := (lkS_F st hb 0 0 4 k h1).trans ((if_neg (by rintro ⟨z, -⟩; cases z)).trans hl)
      rw [bi_neg (nI_ge (by omega) (by omega)), gd_pos (vp_in_nI hk' (by omega)), nI_clamp (by omega), gd_pos (hb.get hk'), p_nmA0 hl', bd_some, lkS_N, gd_pos (hb.get hk'), nI_1]
      exact ih (k + 1) (by omega) (by omega)
theorem r_lock_go (hb : BI st) (h : RE st ms) : ∀ (n k : Nat), k ≤ (xL st 1).length → (xL st 1).length < k + n → f_X6_lock_12 n (lkM st ms k) 0 (nI k) = f_X6_lock_57 (lkM st ms (xL st 1).length) 0 := by
  have hlen := hb.len
  have h24 := hb.n24
  intro n
  induction n with
  | zero => intro k h1 h2; omega
  | succ n ih =>
    intro k h1 h2
    rw [f_X6_lock_12, lkM_1, h.2.1]
    by_cases hk : k = (xL st 1).length
    · rw [bi_pos (nI_le (by omega) (by omega)), hk]
    · have hk' : k < (xL st 1).length := by omega
      have hg := hb.get hk'
      have e3 : (lkM st ms k).2 3 k = nI ((xL st 1).getD k 0) := by
        rw [lkM_2 st ms hb 3 k k h1, if_neg (show ¬ 3 = 9 by decide), if_neg (show ¬ 3 = 10 by decide), ite_self, r_get hb h hk']
      rw [bi_neg (nI_ge (by omega) (by omega)), bi_pos rfl, gd_pos (vp24 (by omega) rfl), nI_clamp (by omega), e3, gd_pos (vp24 (by omega) rfl), gd_pos (vp24 (by omega) rfl), nI_clamp (by omega), sA_2, if_neg (by rintro ⟨z, -⟩; cases z), e3, gd_pos (vp24 (by omega) rfl), nI_clamp (by omega), nI_1]
      exact ih (k + 1) (by omega) (by omega)
theorem INV.lock (I : INV st ms) (hl : xF st 0 0 4 = 0) : INV (sF (lkS st (xL st 1).length) 0 0 4 1) (setS (lkM st ms (xL st 1).length) 15 1) := by
  have hb := I.1
  have hbn := hb.nok.1 hl
  obtain ⟨⟨b1, b2, b3, b4, b5, b6, b7, b8, b9, b10, b11⟩, ⟨h1, h2, h3, h4, h5, h6, h7, h8, h9, h10⟩⟩ := I
  have hlen := hb.len
  have eL : ∀ j, xL (sF (lkS st (xL st 1).length) 0 0 4 1) j = xL st j := fun j => (xL_sF _ _ _ _ _ _).trans (lkS_L st j _)
  have eN : ∀ j, xN (sF (lkS st (xL st 1).length) 0 0 4 1) j = xN st j := fun j => (xN_sF _ _ _ _ _ _).trans (lkS_N st j _)
  have eU : ∀ j, xU (sF (lkS st (xL st 1).length) 0 0 4 1) j = xU st j := fun j => (xU_sF _ _ _ _ _ _).trans (lkS_U st j _)
  have eR : ∀ a b c, xR (sF (lkS st (xL st 1).length) 0 0 4 1) a b c = xR st a b c := fun a b c => (congrFun (xR_sF _ _ _ _ _ a b) c).trans (lkS_R st a b c _)
  have eF : ∀ a b c, ¬ (a = 1 ∧ c = 7) → ¬ (a = 0 ∧ c = 4) → xF (sF (lkS st (xL st 1).length) 0 0 4 1) a b c = xF st a b c := fun a b c z1 z2 => by
    rw [xF_sF, if_neg (fun y => z2 ⟨y.1, y.2.2⟩), lkS_F st hb _ _ _ _ (Nat.le_refl _), if_neg (fun y => z1 ⟨y.1, y.2.1⟩)]
  have e7 : ∀ b, xF (sF (lkS st (xL st 1).length) 0 0 4 1) 1 b 7 = if b ∈ xL st 1 then nI ((xL st 1).idxOf b + 1) else xF st 1 b 7 := fun b => by
    rw [xF_sF, if_neg (by rintro ⟨z, -⟩; cases z), lkS_F st hb _ _ _ _ (Nat.le_refl _), List.take_length]
    by_cases hm : b ∈ xL st 1
    · rw [if_pos ⟨rfl, rfl, hm⟩, if_pos hm]
    · rw [if_neg (fun z => hm z.2.2), if_neg hm]
  have e4 : xF (sF (lkS st (xL st 1).length) 0 0 4 1) 0 0 4 = 1 := by rw [xF_sF, if_pos ⟨rfl, rfl, rfl⟩]
  have m1 : ∀ j, j ≠ 15 → (setS (lkM st ms (xL st 1).length) 15 1).1 j = ms.1 j := fun j hj => by
    rw [sS_1, if_neg hj, lkM_1]
  have m2 : ∀ a b, a ≠ 9 → a ≠ 10 → (setS (lkM st ms (xL st 1).length) 15 1).2 a b = ms.2 a b := fun a b z1 z2 => by
    rw [sS_2, lkM_2 st ms hb _ _ _ (Nat.le_refl _), if_neg z1, if_neg z2, ite_self]
  have m9 : ∀ b, (setS (lkM st ms (xL st 1).length) 15 1).2 9 b = if b ∈ xL st 1 then nI ((xL st 1).idxOf b + 1) else ms.2 9 b := fun b => by
    rw [sS_2, lkM_2 st ms hb _ _ _ (Nat.le_refl _), List.take_length, if_pos rfl]
  have m10 : ∀ b, (setS (lkM st ms (xL st 1).length) 15 1).2 10 b = if b ∈ xL st 1 then 45 else ms.2 10 b := fun b => by
    rw [sS_2, lkM_2 st ms hb _ _ _ (Nat.le_refl _), List.take_length, if_neg (show ¬ (10 : Nat) = 9 by decide), if_pos rfl]
  unfold INV BI RE
  simp only [eL, eN, eU, e4]
  refine ⟨⟨b1, b2, b3, b4, b5, b6, b7, fun i hi => ?_, fun i hi => ?_, Or.inr trivial, ?_⟩, ⟨?_, ?_, ?_, ?_, ?_, fun t ht => ?_, fun i hi => ?_, fun i hi => ?_, fun i hi => ?_, fun i hi => ?_⟩⟩
  · have := b8 i hi
    unfold SOK COK at this ⊢
    obtain ⟨q1, q2, q3, q4, q5, q6⟩ := this
    simp only [eR, eF 1 i 3 (by decide) (by decide), eF 1 i 4 (by decide) (by decide), eF 1 i 5 (by decide) (by decide), eF 1 i 8 (by decide) (by decide), eF 1 i 11 (by decide) (by decide), eF 2 i 0 (by decide) (by decide)]
    refine ⟨q1, q2, q3, q4, ?_, q6⟩
    rw [e7]
    by_cases hm : i ∈ xL st 1
    · have := List.idxOf_lt_length_of_mem hm
      rw [if_pos hm]
      exact Or.inr (nI_pos' (by omega))
    · rw [if_neg hm]; exact q5
  · rw [eF 3 i 2 (by decide) (by decide)]; exact b9 i hi
  · unfold NOK
    rw [e4]
    refine ⟨fun z => absurd z (by decide), fun _ => ⟨fun x hx => ?_, fun x hx y hy hne z => ?_⟩⟩
    · rw [eL] at hx
      have := List.idxOf_lt_length_of_mem hx
      rw [e7, if_pos hx]
      exact nI_pos' (by omega)
    · rw [eL] at hx
      rw [eN] at hy
      have i1 := List.idxOf_lt_length_of_mem hx
      have z1 := z.1
      rw [e7, e7, if_pos hx] at z1
      by_cases hm : y ∈ xL st 1
      · have i2 := List.idxOf_lt_length_of_mem hm
        rw [if_pos hm, nI_eq (by omega) (by omega)] at z1
        exact hne (by rw [← get_idx hm, ← get_idx hx, show (xL st 1).idxOf y = (xL st 1).idxOf x by omega])
      · rw [if_neg hm, (hbn y hy).1] at z1
        exact nI_ne_m1 (by omega) z1.symm
  · rw [m1 1 (by decide)]; exact h1
  · rw [m1 2 (by decide)]; exact h2
  · rw [sS_1, if_pos rfl]
  · rw [m1 22 (by decide), eF 0 0 5 (by decide) (by decide)]; exact h4
  · rw [m1 23 (by decide)]; exact h5
  · rw [m2 3 t (by decide) (by decide)]; exact h6 t ht
  · have hr := h7 i hi
    unfold RS at hr ⊢
    obtain ⟨r1, r2, r3, r4, r5, r6, r7, r8, r9, r10, r11, r12, r13, r14⟩ := hr
    rw [m2 4 i (by decide) (by decide), m2 5 i (by decide) (by decide), m2 6 i (by decide) (by decide), m2 7 i (by decide) (by decide), m2 8 i (by decide) (by decide), m2 16 i (by decide) (by decide), m2 17 i (by decide) (by decide), m2 18 i (by decide) (by decide), m2 19 i (by decide) (by decide), m2 20 i (by decide) (by decide), m2 21 i (by decide) (by decide), m9, m10, e7]
    rw [eF 1 i 3 (by decide) (by decide), eF 1 i 4 (by decide) (by decide), eF 1 i 5 (by decide) (by decide), eF 1 i 6 (by decide) (by decide), eF 1 i 11 (by decide) (by decide), eF 1 i 8 (by decide) (by decide), eF 2 i 0 (by decide) (by decide), eF 2 i 1 (by decide) (by decide), eF 2 i 2 (by decide) (by decide), eF 2 i 3 (by decide) (by decide), eF 1 i 9 (by decide) (by decide), eF 1 i 10 (by decide) (by decide)]
    refine ⟨r1, r2, r3, r4, r5, ?_, ?_, r8, r9, r10, r11, r12, r13, fun c hc => ?_⟩
    · rw [r6]
    · by_cases hm : i ∈ xL st 1
      · rw [if_pos hm, (hbn i hi).2]
      · rw [if_neg hm, r7]
    · rw [m2 11 _ (by decide) (by decide), m2 12 _ (by decide) (by decide), m2 13 _ (by decide) (by decide), m2 14 _ (by decide) (by decide), eR, eR, eR, eR]
      exact r14 c hc
  · have hr := h8 i hi
    unfold RZ at hr ⊢
    rw [m2 7 i (by decide) (by decide), m2 8 i (by decide) (by decide), m2 17 i (by decide) (by decide), m2 18 i (by decide) (by decide), m2 19 i (by decide) (by decide), m2 21 i (by decide) (by decide)]
    exact hr
  · rw [m2 24 i (by decide) (by decide), m2 25 i (by decide) (by decide), m2 26 i (by decide) (by decide), eF 3 i 1 (by decide) (by decide), eF 3 i 2 (by decide) (by decide)]
    exact h9 i hi
  · rw [m2 29 i (by decide) (by decide)]; exact h10 i hi
theorem ag_lock (I : INV st ms) : ∃ r st' ms', f_X5_lock st = some (r, st') ∧ f_X6_lock ms = some (r, ms') ∧ INV st' ms' := by
  have hb := I.1
  have hlen := hb.len
  have I0 := I.code 0
  have h := I0.2
  have e15 : (setS ms 0 0).1 15 = xF st 0 0 4 := h.2.2.1
  by_cases hl : xF st 0 0 4 = 0
  · refine ⟨0, _, _, ?_, ?_, I0.lock hl⟩
    · have := p_lock_go hb hl 0 FU 0 (Nat.zero_le _) (by show _ < 0 + 1000000; omega)
      rw [f_X5_lock, bi_pos hl, hl]
      refine Eq.trans this ?_
      rw [f_X5_lock_55, gd_pos nb_0]
    · have := r_lock_go hb h FU 0 (Nat.zero_le _) (by show _ < 0 + 1000000; omega)
      rw [f_X6_lock, e15, hl]
      refine Eq.trans this ?_
      rw [f_X6_lock_57, gd_pos nb_0]
  · have h1 : xF st 0 0 4 = 1 := (hb.2.2.2.2.2.2.2.2.2.1).resolve_left hl
    refine ⟨1, st, setS (setS ms 0 0) 15 1, ?_, ?_, ?_⟩
    · rw [f_X5_lock, bi_neg hl, f_X5_lock_55, h1, gd_pos nb_1]
    · rw [f_X6_lock, e15, h1]
      show f_X6_lock_12 (999999 + 1) (setS ms 0 0) 1 0 = _
      rw [f_X6_lock_12, bi_neg (show ¬ (1 : Int32) = 0 by decide), f_X6_lock_57, gd_pos nb_1]
      by_cases hz : (setS ms 0 0).1 2 ≤ 0
      · rw [bi_pos hz]
      · rw [bi_neg hz]
    · refine ⟨hb, ?_⟩
      have : setS (setS ms 0 0) 15 1 = setS ms 0 0 := by
        show ((_, _) : MS) = _
        refine Prod.ext ?_ rfl
        funext j
        show (setS (setS ms 0 0) 15 1).1 j = _
        rw [sS_1]
        by_cases hj : j = 15
        · rw [if_pos hj, hj, e15, h1]
        · rw [if_neg hj]
      rw [this]
      exact h
end B2
