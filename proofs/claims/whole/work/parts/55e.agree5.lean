/-! Agreements: hand, number, letter. -/
section A5
variable {st : XS} {ms : MS}
theorem BI.made (h : BI st) : xL st 0 = List.range (xN st 0) := h.1
theorem p_boards_go {x : Int32} (e : xL st 0 = List.range (xN st 0)) (hN : xN st 0 ≤ 24) : ∀ (n k : Nat), k ≤ xN st 0 → xN st 0 < k + n → f_X5_boardsWith_4 n st x (nI (fb_ct (fun j => decide (xF st 1 j 9 = x)) k)) (nI k) = some (nI (fb_ct (fun j => decide (xF st 1 j 9 = x)) (xN st 0)), st) := by
  have el : (xL st 0).length = xN st 0 := by rw [e, List.length_range]
  intro n
  induction n with
  | zero => intro k h1 h2; omega
  | succ n ih =>
    intro k h1 h2
    rw [f_X5_boardsWith_4, el]
    by_cases hk : k = xN st 0
    · rw [hk, bi_pos (nI_le (by omega) (by omega))]
    · have hk' : k < xN st 0 := by omega
      rw [bi_neg (nI_ge (by omega) (by omega)), gd_pos (vp_in_nI hk' (by omega)), nI_clamp (by omega), e, p_range hk', gd_pos hk']
      have := ih (k + 1) (by omega) (by omega)
      rw [fb_ct_succ] at this
      by_cases hv : xF st 1 k 9 = x
      · rw [bi_pos hv, f_X5_boardsWith_36, nI_1, nI_1]
        rw [if_pos (by simp [hv])] at this
        exact this
      · rw [bi_neg hv, f_X5_boardsWith_36, nI_1]
        rw [if_neg (by simp [hv])] at this
        exact this
theorem p_boards {x : Int32} (e : xL st 0 = List.range (xN st 0)) (hN : xN st 0 ≤ 24) : f_X5_boardsWith st x = some (nI (fb_ct (fun j => decide (xF st 1 j 9 = x)) (xN st 0)), st) :=
  p_boards_go e hN FU 0 (Nat.zero_le _) (by show _ < 0 + 1000000; omega)
theorem r_boards_go {x : Int32} {N : Nat} (e : ms.1 1 = nI N) (hN : N ≤ 24) : ∀ (n k : Nat), k ≤ N → N < k + n → f_X6_hand_81 n ms x (nI (fb_ct (fun j => decide (ms.2 20 j = x)) k)) (nI k) = some (nI (fb_ct (fun j => decide (ms.2 20 j = x)) N), ms) := by
  intro n
  induction n with
  | zero => intro k h1 h2; omega
  | succ n ih =>
    intro k h1 h2
    rw [f_X6_hand_81, e]
    by_cases hk : k = N
    · rw [hk, bi_pos (nI_le (by omega) (by omega))]
    · have hk' : k < N := by omega
      rw [bi_neg (nI_ge (by omega) (by omega)), gd_pos (vp24 (by omega) rfl), nI_clamp (by omega)]
      have := ih (k + 1) (by omega) (by omega)
      rw [fb_ct_succ] at this
      by_cases hv : ms.2 20 k = x
      · rw [bi_pos hv, f_X6_hand_108, nI_1, nI_1]
        rw [if_pos (by simp [hv])] at this
        exact this
      · rw [bi_neg hv, f_X6_hand_108, nI_1]
        rw [if_neg (by simp [hv])] at this
        exact this
theorem ag_hand (I : INV st ms) {x1 : Int32} {x2 : Int32} : ∃ r st' b ms', f_X5_hand st x1 x2 = some (r, st') ∧ f_X6_hand ms x1 x2 = some (b, ms') ∧ INV st' ms' ∧ (∀ k, r = .inl k → k ∈ [3, 0, 1]) ∧ ms'.1 0 = lwc [3, 0, 1] r ∧ ∀ x, r = .inr x → x = b := by
  have hb := I.1
  have h := I.2
  have h24 := hb.n24
  rcases p_rng (N := xN st 0) (by omega) x1 with ⟨i, hi, rfl⟩ | hx
  · by_cases hc : 0 ≤ x2 ∧ x2 ≤ 3
    · have c0 : ¬ x2 < 0 := fun z => (i_lt0 x2).mp z hc.1
      have c4 : x2 < 4 := (i_lt4 x2).mpr hc.2
      have i24 : i < 24 := by omega
      have c31 : i < 2 ^ 31 := by omega
      have hr := r_shot h hi
      have h9 : ms.2 20 i = xF st 1 i 9 := hr.2.2.2.2.2.2.2.2.2.2.2.1
      by_cases hm : i ∈ xL st 1
      · have hge : ¬ plc (xL st 1) i < 0 := fun z => (plc_lt hb.len).mp z hm
        by_cases hh : xF st 1 i 9 = -1
        · have hs := hb.sok hi
          have hz := hr.rows
          have hzs := hs.rows
          have hS := ((SB.rf st i).f1 9 x2).f1 10 (xF st 1 i 6)
          have hM := (((SM.rf ms i).s0 0).a 20 (by decide) x2).a 21 (by decide) (ms.2 7 i)
          have I2 : INV (sF (sF st 1 i 9 x2) 1 i 10 (xF st 1 i 6)) (setA (setA (setS ms 0 0) 20 i x2) 21 i (ms.2 7 i)) := by
            refine ⟨BI_shot hb hS ?_ (by rw [sf_ne (by decide), sf_ne (by decide)]) (by rw [sf_ne (by decide), sf_ne (by decide)]), RE_shot h hi hS hM ?_⟩
            · simp only [SOK, COK_sF, xF_sF, xR_sF] at hs ⊢
              simp at hs ⊢
              simp [hs]
              exact hzs
            · simp only [RS, sA_2, sS_2, xF_sF, xR_sF] at hr ⊢
              simp at hr ⊢
              simp [hr]
              exact hz
          have e6 : xF (sF st 1 i 9 x2) 1 i 6 = xF st 1 i 6 := sf_ne (by decide)
          have e7 : (setA (setS ms 0 0) 20 i x2).2 7 i = ms.2 7 i := by rw [sA_2, if_neg (by rintro ⟨z, -⟩; cases z), sS_2]
          have eq : fb_ct (fun j => decide (xF (sF (sF st 1 i 9 x2) 1 i 10 (xF st 1 i 6)) 1 j 9 = x2)) (xN st 0) = fb_ct (fun j => decide ((setA (setA (setS ms 0 0) 20 i x2) 21 i (ms.2 7 i)).2 20 j = x2)) (xN st 0) := by
            refine fb_ct_cong fun j hj => ?_
            have := (r_shot I2.2 (i := j) hj).2.2.2.2.2.2.2.2.2.2.2.1
            rw [this]
          refine ⟨.inr (nI (fb_ct (fun j => decide (xF (sF (sF st 1 i 9 x2) 1 i 10 (xF st 1 i 6)) 1 j 9 = x2)) (xN st 0))), sF (sF st 1 i 9 x2) 1 i 10 (xF st 1 i 6), nI (fb_ct (fun j => decide ((setA (setA (setS ms 0 0) 20 i x2) 21 i (ms.2 7 i)).2 20 j = x2)) (xN st 0)), setA (setA (setS ms 0 0) 20 i x2) 21 i (ms.2 7 i), ?_, ?_, I2, no_l, rfl, yes_r (by rw [eq])⟩
          · have hbd := p_boards (st := sF (sF st 1 i 9 x2) 1 i 10 (xF st 1 i 6)) (x := x2) hb.made h24
            simp only [f_X5_hand, p_made hb hi, bdx_r, eq_false c0, eq_true c4, bi_F, bi_T, p_chk hb hi hm, gd_pos hi, eq_true hh, e6, hbd, bd_some]
            rfl
          · have hbd := r_boards_go (ms := setA (setA (setS ms 0 0) 20 i x2) 21 i (ms.2 7 i)) (x := x2) (N := xN st 0) (by rw [sA_1, sA_1, sS_1, if_neg (by decide)]; exact h.1) h24 FU 0 (Nat.zero_le _) (by show _ < 0 + 1000000; omega)
            have hbd : f_X6_hand_81 FU (setA (setA (setS ms 0 0) 20 i x2) 21 i (ms.2 7 i)) x2 0 0 = _ := hbd
            simp only [f_X6_hand, p_isShot hb h hi, bd_some, e10, bi_F, p_in, b2i_t hc, r_placeOf hb h hi, eq_false hge, gd_pos (vp24 i24 (j := 20) rfl), nI_clamp c31, h9, eq_true hh, bi_T, f_X6_hand_49, p_fails0, e00, gd_pos (vp24 i24 (j := 7) rfl), gd_pos (vp24 i24 (j := 21) rfl), e7, hbd]
        · refine ⟨.inl 1, st, 0, setS ms 0 3, ?_, ?_, I.code 3, yes_l (by decide), code_0 _ _, no_r⟩
          · simp only [f_X5_hand, p_made hb hi, bdx_r, eq_false c0, eq_true c4, bi_F, bi_T, p_chk hb hi hm, gd_pos hi, eq_false hh]
          · simp only [f_X6_hand, p_isShot hb h hi, bd_some, e10, bi_F, p_in, b2i_t hc, r_placeOf hb h hi, eq_false hge, gd_pos (vp24 i24 (j := 20) rfl), nI_clamp c31, h9, eq_false hh, f_X6_hand_44, f_X6_hand_49, p_fails3]
      · have hge : plc (xL st 1) i < 0 := (plc_lt hb.len).mpr hm
        refine ⟨.inl 1, st, 0, setS ms 0 3, ?_, ?_, I.code 3, yes_l (by decide), code_0 _ _, no_r⟩
        · simp only [f_X5_hand, p_made hb hi, bdx_r, eq_false c0, eq_true c4, bi_F, bi_T, p_chk_no hb hi hm, bdx_l]
        · simp only [f_X6_hand, p_isShot hb h hi, bd_some, e10, bi_F, p_in, b2i_t hc, r_placeOf hb h hi, eq_true hge, bi_T, f_X6_hand_44, f_X6_hand_49, p_fails3]
    · refine ⟨.inl 0, st, 0, setS ms 0 2, ?_, ?_, I.code 2, yes_l (by decide), code_0 _ _, no_r⟩
      · simp only [f_X5_hand, p_made hb hi, bdx_r, f_X5_hand_15]
        by_cases c0 : x2 < 0
        · rw [bi_pos c0]
        · rw [bi_neg c0, bi_neg (fun z => hc ⟨Classical.not_not.mp (fun y => c0 ((i_lt0 x2).mpr y)), (i_lt4 x2).mp z⟩)]
      · simp only [f_X6_hand, p_isShot hb h hi, bd_some, e10, bi_F, p_in, b2i_f hc, e00, bi_T, f_X6_hand_49, p_fails2]
  · refine ⟨.inl 3, st, 0, setS ms 0 1, ?_, ?_, I.code 1, yes_l (by decide), code_0 _ _, no_r⟩
    · simp only [f_X5_hand, p_made_no hb hx, bdx_l]
    · simp only [f_X6_hand, p_isShot_no hb h hx, bd_some, e00, bi_T, f_X6_hand_49, p_fails1, e10, bi_F]
/-! names -/
noncomputable def nmb (st : XS) (i : Nat) : Int32 := if xF st 0 0 4 = 0 then (if i ∈ xL st 1 then nI ((xL st 1).idxOf i + 1) else -1) else xF st 1 i 7
theorem p_nmA0 {x : Int32} (hl : xF st 0 0 4 = 0) : f_X5_nameNumberAt st x = some (x + 1, st) := by
  unfold f_X5_nameNumberAt f_X5_nameNumberAt_27
  rw [bi_pos hl]
theorem p_nmA {k : Nat} (hb : BI st) (hk : k < (xL st 1).length) : f_X5_nameNumberAt st (nI k) = some (nmb st ((xL st 1).getD k 0), st) := by
  have := hb.len
  unfold nmb
  by_cases hl : xF st 0 0 4 = 0
  · rw [p_nmA0 hl, if_pos hl, if_pos (get_mem hk), plc_get hb.2.2.1 hk, nI_1]
  · unfold f_X5_nameNumberAt f_X5_nameNumberAt_27
    rw [bi_neg hl, if_neg hl, gd_pos (vp_in_nI hk (by omega)), nI_clamp (by omega), gd_pos (hb.get hk)]
theorem p_nmb {i : Nat} (hb : BI st) (hi : i < xN st 0) : f_X5_nameNumberOf st i = some (nmb st i, st) := by
  unfold f_X5_nameNumberOf nmb f_X5_nameNumberOf_32
  by_cases hl : xF st 0 0 4 = 0
  · rw [bi_pos hl, if_pos hl, p_placeOf hb hi, bd_some]
    by_cases hm : i ∈ xL st 1
    · rw [if_pos hm, bi_neg (fun z => (plc_m1 hb.len).mp z hm), plc_in hm, p_nmA0 hl, bd_some, nI_1]
    · rw [if_neg hm, bi_pos ((plc_m1 hb.len).mpr hm)]
  · rw [bi_neg hl, if_neg hl, gd_pos hi]
theorem BI.nok (h : BI st) : NOK st := h.2.2.2.2.2.2.2.2.2.2
theorem nI_ne_m1 {k : Nat} (hk : k < 2 ^ 31) : ¬ nI k = -1 := fun e => by
  have h1 := nI_pos' hk
  rw [e] at h1
  exact absurd h1 (by decide)
theorem ge_ne_m1 {x : Int32} (h : 0 ≤ x) : ¬ x = -1 := fun e => by
  rw [e] at h
  exact absurd h (by decide)
theorem nmb_reel (hb : BI st) {i : Nat} (hm : i ∈ xL st 1) : nmb st i ≠ -1 := by
  unfold nmb
  have := List.idxOf_lt_length_of_mem hm
  have := hb.len
  by_cases hl : xF st 0 0 4 = 0
  · rw [if_pos hl, if_pos hm]
    exact nI_ne_m1 (by omega)
  · rw [if_neg hl]
    exact ge_ne_m1 ((hb.nok.2 hl).1 i hm)
theorem r_hn22 {y : Int32} (h : y = 0 ∨ y = 1) : f_X6_hasName_22 ms y = some (y, ms) := by
  unfold f_X6_hasName_22
  rw [gd_pos (by rcases h with rfl | rfl <;> rfl)]
theorem r_hasName {i : Nat} (hb : BI st) (h : RE st ms) (hi : i < xN st 0) : f_X6_hasName ms (nI i) = some (b2i (nmb st i ≠ -1), ms) := by
  have h24 := hb.n24
  have h9 : ms.2 9 i = xF st 1 i 7 := (r_shot h hi).2.2.2.2.2.1
  unfold f_X6_hasName f_X6_hasName_17
  rw [r_placeOf hb h hi, bd_some]
  by_cases hm : i ∈ xL st 1
  · rw [bi_pos ((plc_ge hb.len).mpr hm), r_hn22 (Or.inr rfl), b2i_t (nmb_reel hb hm)]
  · rw [bi_neg (fun z => hm ((plc_ge hb.len).mp z)), gd_pos (vp24 (by omega) rfl), nI_clamp (by omega), h9]
    have hs := (hb.sok hi).2.2.2.2.1
    by_cases hl : xF st 0 0 4 = 0
    · have h7 := ((hb.nok.1 hl) i hi).1
      rw [h7, bi_pos (by decide), r_hn22 (Or.inl rfl), b2i_f]
      unfold nmb
      rw [if_pos hl, if_neg hm]
      exact fun z => z rfl
    · rcases hs with e | e
      · rw [e, bi_pos (by decide), r_hn22 (Or.inl rfl), b2i_f]
        unfold nmb
        rw [if_neg hl, e]
        exact fun z => z rfl
      · rw [bi_neg (fun z => (i_lt0 _).mp z e), r_hn22 (Or.inr rfl), b2i_t]
        unfold nmb
        rw [if_neg hl]
        exact ge_ne_m1 e
theorem r_numberOf {i : Nat} (hb : BI st) (h : RE st ms) (hi : i < xN st 0) (hn : nmb st i ≠ -1) : f_X6_numberOf ms (nI i) = some (nmb st i, ms) := by
  have h24 := hb.n24
  have h9 : ms.2 9 i = xF st 1 i 7 := (r_shot h hi).2.2.2.2.2.1
  have h15 : ms.1 15 = xF st 0 0 4 := h.2.2.1
  unfold f_X6_numberOf f_X6_numberOf_23
  rw [h15]
  unfold nmb at hn ⊢
  by_cases hl : xF st 0 0 4 = 0
  · rw [if_pos hl] at hn ⊢
    rw [bi_pos hl, r_placeOf hb h hi, bd_some]
    by_cases hm : i ∈ xL st 1
    · rw [if_pos hm, plc_in hm, nI_1]
    · rw [if_neg hm] at hn
      exact absurd rfl hn
  · rw [if_neg hl, bi_neg hl, gd_pos (vp24 (by omega) rfl), nI_clamp (by omega), h9]
theorem ag_number (I : INV st ms) {x1 : Int32} : ∃ r st' b ms', f_X5_number st x1 = some (r, st') ∧ f_X6_number ms x1 = some (b, ms') ∧ INV st' ms' ∧ (∀ k, r = .inl k → k ∈ [3, 4]) ∧ ms'.1 0 = lwc [3, 4] r ∧ ∀ x, r = .inr x → x = b := by
  have hb := I.1
  have h := I.2
  have h24 := hb.n24
  rcases p_rng (N := xN st 0) (by omega) x1 with ⟨i, hi, rfl⟩ | hx
  · by_cases hn : nmb st i = -1
    · have hn0 : b2i (nmb st i ≠ -1) = 0 := b2i_f (fun z => z hn)
      refine ⟨.inl 4, st, 0, setS ms 0 2, ?_, ?_, I.code 2, yes_l (by decide), code_0 _ _, no_r⟩
      · simp only [f_X5_number, p_made hb hi, bdx_r, f_X5_foundNumber, p_nmb hb hi, bd_some, eq_true hn, bi_T, bdx_l]
      · simp only [f_X6_number, p_isShot hb h hi, bd_some, e10, bi_F, r_hasName hb h hi, hn0, e00, bi_T, f_X6_number_26, p_fails2, f_X6_number_41]
    · refine ⟨.inr (nmb st i), st, nmb st i, setS ms 0 0, ?_, ?_, I.code 0, no_l, code_0 _ _, yes_r rfl⟩
      · simp only [f_X5_number, p_made hb hi, bdx_r, f_X5_foundNumber, p_nmb hb hi, bd_some, eq_false hn, bi_F]
      · simp only [f_X6_number, p_isShot hb h hi, bd_some, e10, bi_F, r_hasName hb h hi, b2i_t hn, f_X6_number_26, p_fails0, e00, bi_T, r_numberOf hb (h.code 0) hi hn, f_X6_number_41]
  · refine ⟨.inl 3, st, 0, setS ms 0 1, ?_, ?_, I.code 1, yes_l (by decide), code_0 _ _, no_r⟩
    · simp only [f_X5_number, p_made_no hb hx, bdx_l]
    · simp only [f_X6_number, p_isShot_no hb h hx, bd_some, e00, bi_T, f_X6_number_26, p_fails1, e10, bi_F, f_X6_number_41]
theorem nc_small {n : Nat} (h : n < 65536) : narrow .char (.int (nI n)) = .int (nI n) ∧ fits .char (.int (nI n)) = true ∧ vp_nar .char (nI n) = nI n := by
  have h1 : (nI n).toInt = n := nI_toInt (by omega)
  have e : (nI n).toUInt32.toUInt16.toUInt32.toInt32 = nI n := lg_i2c_small (by omega) (by omega)
  have e1 : narrow .char (.int (nI n)) = .int (nI n) := congrArg Value.int e
  refine ⟨e1, ?_, ?_⟩
  · show (decide (0 ≤ nI n) && decide (nI n ≤ 65535)) = true
    have h2 : nI n ≤ 65535 := nI_le (show n ≤ 65535 by omega) (by decide)
    rw [decide_eq_true (nI_pos' (by omega)), decide_eq_true h2]
    rfl
  · unfold vp_nar
    rw [e1]
theorem nc_letter {x : Int32} (h : x = 45 ∨ (65 ≤ x ∧ x ≤ 70)) : narrow .char (.int x) = .int x ∧ fits .char (.int x) = true ∧ vp_nar .char x = x := by
  rcases h with rfl | ⟨h1, h2⟩
  · exact ⟨rfl, rfl, rfl⟩
  · have h0 : ¬ x < 0 := by
      rw [Int32.le_iff_toInt_le] at h1
      rw [Int32.lt_iff_toInt_lt]
      have : (65 : Int32).toInt = 65 := rfl
      have : (0 : Int32).toInt = 0 := rfl
      omega
    obtain ⟨j, hj, rfl⟩ := nI_of h0
    rw [show (70 : Int32) = nI 70 from rfl, nI_leI hj (by decide)] at h2
    exact nc_small (by omega)
theorem ag_letter (I : INV st ms) {x1 : Int32} : ∃ r st' b ms', f_X5_letter st x1 = some (r, st') ∧ f_X6_letter ms x1 = some (b, ms') ∧ INV st' ms' ∧ (∀ k, r = .inl k → k ∈ [3, 4]) ∧ ms'.1 0 = lwc [3, 4] r ∧ ∀ x, r = .inr x → x = b := by
  have hb := I.1
  have h := I.2
  have h24 := hb.n24
  have n32 : narrow .char (.int 32) = .int 32 := rfl
  rcases p_rng (N := xN st 0) (by omega) x1 with ⟨i, hi, rfl⟩ | hx
  · have n8 := (nc_letter (hb.sok hi).2.2.2.1).1
    have h8 : ms.2 10 i = xF st 1 i 8 := (r_shot h hi).2.2.2.2.2.2.1
    by_cases hn : nmb st i = -1
    · have hn0 : b2i (nmb st i ≠ -1) = 0 := b2i_f (fun z => z hn)
      refine ⟨.inl 4, st, 32, setS ms 0 2, ?_, ?_, I.code 2, yes_l (by decide), code_0 _ _, no_r⟩
      · simp only [f_X5_letter, p_made hb hi, bdx_r, f_X5_foundNumber, p_nmb hb hi, bd_some, eq_true hn, bi_T, bdx_l]
      · simp only [f_X6_letter, p_isShot hb h hi, bd_some, e10, bi_F, r_hasName hb h hi, hn0, e00, bi_T, f_X6_letter_26, p_fails2, f_X6_letter_43, gd_pos n32]
    · refine ⟨.inr (xF st 1 i 8), st, xF st 1 i 8, setS ms 0 0, ?_, ?_, I.code 0, no_l, code_0 _ _, yes_r rfl⟩
      · simp only [f_X5_letter, p_made hb hi, bdx_r, f_X5_foundNumber, p_nmb hb hi, bd_some, eq_false hn, bi_F, gd_pos hi, gd_pos n8]
      · simp only [f_X6_letter, p_isShot hb h hi, bd_some, e10, bi_F, r_hasName hb h hi, b2i_t hn, f_X6_letter_26, p_fails0, e00, bi_T, gd_pos (vp24 (show i < 24 by omega) (j := 10) rfl), sS_2, nI_clamp (show i < 2 ^ 31 by omega), h8, f_X6_letter_43, gd_pos n8]
  · refine ⟨.inl 3, st, 32, setS ms 0 1, ?_, ?_, I.code 1, yes_l (by decide), code_0 _ _, no_r⟩
    · simp only [f_X5_letter, p_made_no hb hx, bdx_l]
    · simp only [f_X6_letter, p_isShot_no hb h hx, bd_some, e00, bi_T, f_X6_letter_26, p_fails1, e10, bi_F, f_X6_letter_43, gd_pos n32]
end A5
