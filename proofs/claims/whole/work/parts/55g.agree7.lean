/-! Agreements: a new note. -/
section A7
variable {st : XS} {ms : MS}
def stN (st : XS) (i : Nat) : XS := sL (nwN st i) 2 (xL st 2 ++ [xN st 1])
theorem stN_F (st : XS) (i a b c : Nat) (h : ¬ (a = 3 ∧ b = xN st 1)) : xF (stN st i) a b c = xF st a b c := if_neg h
theorem stN_R (st : XS) (i a b : Nat) : xR (stN st i) a b = xR st a b := rfl
theorem stN_L (st : XS) (i : Nat) (j : Nat) (h : j ≠ 2) : xL (stN st i) j = xL st j := if_neg h
theorem stN_L2 (st : XS) (i : Nat) : xL (stN st i) 2 = xL st 2 ++ [xN st 1] := rfl
theorem stN_N (st : XS) (i : Nat) (j : Nat) (h : j ≠ 1) : xN (stN st i) j = xN st j := if_neg h
theorem stN_N1 (st : XS) (i : Nat) : xN (stN st i) 1 = xN st 1 + 1 := rfl
theorem stN_U (st : XS) (i : Nat) (j : Nat) : xU (stN st i) j = if j = xN st 1 then i else xU st j := rfl
def msN (ms : MS) (k : Nat) (x v : Int32) : MS := setS (setA (setA (setA ms 24 k x) 25 k v) 26 k 111) 23 (nI (k + 1))
theorem msN_1 (ms : MS) (k : Nat) (x v : Int32) (j : Nat) (h : j ≠ 23) : (msN ms k x v).1 j = ms.1 j := if_neg h
theorem msN_2 (ms : MS) (k : Nat) (x v : Int32) (a b : Nat) (h : ¬ (24 ≤ a ∧ a ≤ 26)) : (msN ms k x v).2 a b = ms.2 a b := by
  unfold msN
  rw [sS_2, sA_2, if_neg (fun z => h (by omega)), sA_2, if_neg (fun z => h (by omega)), sA_2, if_neg (fun z => h (by omega))]
theorem msN_2b (ms : MS) (k : Nat) (x v : Int32) (a b : Nat) (h : b ≠ k) : (msN ms k x v).2 a b = ms.2 a b := by
  unfold msN
  rw [sS_2, sA_2, if_neg (fun z => h z.2), sA_2, if_neg (fun z => h z.2), sA_2, if_neg (fun z => h z.2)]
theorem INV.newN (I : INV st ms) {i : Nat} (hi : i < xN st 0) (hk : xN st 1 < 40) : INV (stN st i) (msN ms (xN st 1) (nI i) (xF st 1 i 6)) := by
  obtain ⟨⟨b1, b2, b3, b4, b5, b6, b7, b8, b9, b10, b11⟩, ⟨h1, h2, h3, h4, h5, h6, h7, h8, h9, h10⟩⟩ := I
  have f0 : ∀ a b c, a ≠ 3 → xF (stN st i) a b c = xF st a b c := fun a b c ha => stN_F st i a b c (fun z => ha z.1)
  have m2 : ∀ a b, ¬ (24 ≤ a ∧ a ≤ 26) → (msN ms (xN st 1) (nI i) (xF st 1 i 6)).2 a b = ms.2 a b := fun a b h => msN_2 _ _ _ _ a b h
  refine ⟨⟨?_, ?_, ?_, ?_, ?_, ?_, fun j hj => ?_, fun j hj => ?_, fun j hj => ?_, ?_, ?_⟩, ⟨?_, ?_, ?_, ?_, ?_, fun t ht => ?_, fun j hj => ?_, fun j hj => ?_, fun j hj => ?_, fun j hj => ?_⟩⟩
  · rw [stN_L _ _ 0 (by decide), stN_N _ _ 0 (by decide)]; exact b1
  · rw [stN_N _ _ 0 (by decide)]; exact b2
  · rw [stN_L _ _ 1 (by decide)]; exact b3
  · rw [stN_L _ _ 1 (by decide), stN_N _ _ 0 (by decide)]; exact b4
  · rw [stN_L2, stN_N1, b5, List.range_succ]
  · rw [stN_N1]; omega
  · rw [stN_N1] at hj
    rw [stN_U, stN_N _ _ 0 (by decide)]
    by_cases e : j = xN st 1
    · rw [if_pos e]; exact hi
    · rw [if_neg e]; exact b7 j (by omega)
  · rw [stN_N _ _ 0 (by decide)] at hj
    have := b8 j hj
    unfold SOK COK at this ⊢
    simp only [f0 1 _ _ (show 1 ≠ 3 by decide), f0 2 _ _ (show 2 ≠ 3 by decide), stN_R]
    exact this
  · rw [stN_N1] at hj
    by_cases e : j = xN st 1
    · subst e
      exact Or.inl (if_pos ⟨rfl, rfl⟩)
    · rw [stN_F _ _ _ _ _ (fun z => e z.2)]
      exact b9 j (by omega)
  · rw [f0 0 _ _ (by decide)]; exact b10
  · unfold NOK at b11 ⊢
    simp only [f0 0 _ _ (show 0 ≠ 3 by decide), f0 1 _ _ (show 1 ≠ 3 by decide), stN_L _ _ 1 (show 1 ≠ 2 by decide), stN_N _ _ 0 (show 0 ≠ 1 by decide)]
    exact b11
  · rw [msN_1 _ _ _ _ 1 (by decide), stN_N _ _ 0 (by decide)]; exact h1
  · rw [msN_1 _ _ _ _ 2 (by decide), stN_L _ _ 1 (by decide)]; exact h2
  · rw [msN_1 _ _ _ _ 15 (by decide), f0 0 _ _ (by decide)]; exact h3
  · rw [msN_1 _ _ _ _ 22 (by decide), f0 0 _ _ (by decide)]; exact h4
  · rw [stN_N1]
    rfl
  · rw [stN_L _ _ 1 (by decide)] at ht ⊢
    rw [m2 3 _ (by decide)]; exact h6 t ht
  · rw [stN_N _ _ 0 (by decide)] at hj
    have := h7 j hj
    unfold RS at this ⊢
    simp only [f0 1 _ _ (show 1 ≠ 3 by decide), f0 2 _ _ (show 2 ≠ 3 by decide), stN_R]
    rw [m2 4 _ (by decide), m2 5 _ (by decide), m2 6 _ (by decide), m2 7 _ (by decide), m2 8 _ (by decide), m2 9 _ (by decide), m2 10 _ (by decide), m2 16 _ (by decide), m2 17 _ (by decide), m2 18 _ (by decide), m2 19 _ (by decide), m2 20 _ (by decide), m2 21 _ (by decide)]
    simp only [m2 11 _ (show ¬ (24 ≤ 11 ∧ 11 ≤ 26) by decide), m2 12 _ (show ¬ (24 ≤ 12 ∧ 12 ≤ 26) by decide), m2 13 _ (show ¬ (24 ≤ 13 ∧ 13 ≤ 26) by decide), m2 14 _ (show ¬ (24 ≤ 14 ∧ 14 ≤ 26) by decide)]
    exact this
  · rw [stN_N _ _ 0 (by decide)] at hj
    have := h8 j hj
    unfold RZ at this ⊢
    rw [m2 7 _ (by decide), m2 8 _ (by decide), m2 17 _ (by decide), m2 18 _ (by decide), m2 19 _ (by decide), m2 21 _ (by decide)]
    exact this
  · rw [stN_N1] at hj
    by_cases e : j = xN st 1
    · subst e
      have e1 : xF (stN st i) 3 (xN st 1) 1 = xF st 1 i 6 := if_pos ⟨rfl, rfl⟩
      have e2 : xF (stN st i) 3 (xN st 1) 2 = 111 := if_pos ⟨rfl, rfl⟩
      rw [stN_U, if_pos rfl, e1, e2]
      unfold msN
      refine ⟨?_, ?_, ?_⟩
      · rw [sS_2, sA_2, if_neg (by rintro ⟨z, -⟩; cases z), sA_2, if_neg (by rintro ⟨z, -⟩; cases z), sA_2, if_pos ⟨rfl, rfl⟩]
      · rw [sS_2, sA_2, if_neg (by rintro ⟨z, -⟩; cases z), sA_2, if_pos ⟨rfl, rfl⟩]
      · rw [sS_2, sA_2, if_pos ⟨rfl, rfl⟩]
    · rw [stN_U, if_neg e, stN_F _ _ _ _ _ (fun z => e z.2), stN_F _ _ _ _ _ (fun z => e z.2), msN_2b _ _ _ _ _ _ e, msN_2b _ _ _ _ _ _ e, msN_2b _ _ _ _ _ _ e]
      exact h9 j (by omega)
  · rw [m2 29 _ (by decide)]; exact h10 j hj
theorem ag_note (I : INV st ms) {x1 : Int32} : ∃ r st' b ms', f_X5_note st x1 = some (r, st') ∧ f_X6_note ms x1 = some (b, ms') ∧ INV st' ms' ∧ (∀ k, r = .inl k → k ∈ [3, 1, 2]) ∧ ms'.1 0 = lwc [3, 1, 2] r ∧ ∀ x, r = .inr x → x = b := by
  have hb := I.1
  have h := I.2
  have h24 := hb.n24
  have h40 := hb.k40
  have el : (xL st 2).length = xN st 1 := by rw [hb.2.2.2.2.1, List.length_range]
  rcases p_rng (N := xN st 0) (by omega) x1 with ⟨i, hi, rfl⟩ | hx
  · by_cases hm : i ∈ xL st 1
    · have hge := (plc_ge hb.len).mpr hm
      by_cases hk : xN st 1 = 40
      · have c1 : ¬ nI (xL st 2).length < 40 := by rw [el, hk]; decide
        have c2 : ms.1 23 = 40 := by rw [h.2.2.2.2.1, hk]; rfl
        refine ⟨.inl 2, st, 0, setS ms 0 3, ?_, ?_, I.code 3, yes_l (by decide), code_0 _ _, no_r⟩
        · simp only [f_X5_note, p_made hb hi, bdx_r, p_chk hb hi hm, eq_false c1, bi_F]
        · simp only [f_X6_note, p_isShot hb h hi, bd_some, e10, bi_F, r_placeOf hb h hi, eq_true hge, bi_T, eq_true c2, f_X6_note_39, p_fails3]
      · have hk' : xN st 1 < 40 := by omega
        have c1 : nI (xL st 2).length < 40 := by
          rw [el, show (40 : Int32) = nI 40 from rfl, nI_ltI (by omega) (by decide)]; exact hk'
        have c2 : ¬ ms.1 23 = 40 := by
          rw [h.2.2.2.2.1, show (40 : Int32) = nI 40 from rfl, nI_eq (by omega) (by decide)]; exact hk
        have hv : ms.2 7 i = xF st 1 i 6 := (r_shot h hi).2.2.2.1
        have c23 : (setS ms 0 0).1 23 = nI (xN st 1) := by rw [sS_1, if_neg (by decide)]; exact h.2.2.2.2.1
        refine ⟨.inr (nI (xN st 1)), stN st i, nI (xN st 1), msN (setS ms 0 0) (xN st 1) (nI i) (xF st 1 i 6), ?_, ?_, (I.code 0).newN hi hk', no_l, rfl, yes_r rfl⟩
        · simp only [f_X5_note, p_made hb hi, bdx_r, p_chk hb hi hm, eq_true c1, bi_T, f_X5_note_33, gd_pos (show i < xN st 0 ∧ (xL st 2).length < 60 ∧ (xL st 2).length = xN st 1 from ⟨hi, by omega, el⟩)]
          rw [el, nI_pred]
          rfl
        · simp only [f_X6_note, p_isShot hb h hi, bd_some, e10, bi_F, r_placeOf hb h hi, eq_true hge, bi_T, eq_false c2, f_X6_note_39, p_fails0, e00, c23, sA_1, gd_pos (vp40 hk' (j := 24) rfl), gd_pos (vp40 hk' (j := 25) rfl), gd_pos (vp40 hk' (j := 26) rfl), gd_pos (vp24 (show i < 24 by omega) (j := 7) rfl), nI_clamp (show xN st 1 < 2 ^ 31 by omega), nI_clamp (show i < 2 ^ 31 by omega)]
          have e7 : (setA (setS ms 0 0) 24 (xN st 1) (nI i)).2 7 i = xF st 1 i 6 := by rw [sA_2, if_neg (by rintro ⟨z, -⟩; cases z), sS_2, hv]
          rw [e7, nI_1]
          have ep : ∀ q : MS, (setS q 23 (nI (xN st 1 + 1))).1 23 - 1 = nI (xN st 1) := fun q => by rw [sS_1, if_pos rfl, nI_pred]
          rw [ep]
          rfl
    · have hge : ¬ 0 ≤ plc (xL st 1) i := fun h2 => hm ((plc_ge hb.len).mp h2)
      refine ⟨.inl 1, st, 0, setS ms 0 2, ?_, ?_, I.code 2, yes_l (by decide), code_0 _ _, no_r⟩
      · simp only [f_X5_note, p_made hb hi, bdx_r, p_chk_no hb hi hm, bdx_l]
      · simp only [f_X6_note, p_isShot hb h hi, bd_some, e10, bi_F, r_placeOf hb h hi, eq_false hge, f_X6_note_39, p_fails2]
  · refine ⟨.inl 3, st, 0, setS ms 0 1, ?_, ?_, I.code 1, yes_l (by decide), code_0 _ _, no_r⟩
    · simp only [f_X5_note, p_made_no hb hx, bdx_l]
    · simp only [f_X6_note, p_isShot_no hb h hx, bd_some, e00, bi_T, f_X6_note_39, p_fails1, e10, bi_F]
end A7
