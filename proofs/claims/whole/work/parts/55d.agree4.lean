/-! Agreements: length, bring, hand. -/
section A4
variable {st : XS} {ms : MS}
theorem b_len {x : Int32} : b2i (1 ≤ x ∧ x ≤ 240) = 1 ↔ (1 ≤ x ∧ x ≤ 240) := by
  by_cases h : 1 ≤ x ∧ x ≤ 240
  · rw [b2i_t h]; exact ⟨fun _ => h, fun _ => rfl⟩
  · rw [b2i_f h]; exact ⟨fun e => absurd e (by decide), fun e => absurd e h⟩
theorem ag_length (I : INV st ms) {x1 : Int32} {x2 : Int32} : ∃ r st' b ms', f_X5_length st x1 x2 = some (r, st') ∧ f_X6_length ms x1 x2 = some (b, ms') ∧ INV st' ms' ∧ (∀ k, r = .inl k → k ∈ [3, 0, 1]) ∧ ms'.1 0 = lwc [3, 0, 1] r ∧ ∀ x, r = .inr x → x = b := by
  have hb := I.1
  have h := I.2
  have h24 := hb.n24
  rcases p_rng (N := xN st 0) (by omega) x1 with ⟨i, hi, rfl⟩ | hx
  · by_cases hc : 1 ≤ x2 ∧ x2 ≤ 240
    · by_cases hm : i ∈ xL st 1
      · have hr := r_shot h hi
        have hs := hb.sok hi
        have hz := hr.rows
        have hzs := hs.rows
        have i24 : i < 24 := by omega
        have c31 : i < 2 ^ 31 := by omega
        have hge := (plc_ge hb.len).mpr hm
        by_cases hcc : xF st 1 i 5 = x2
        · have hM := (((SM.rf ms i).s0 0).a 7 (by decide) (ms.2 7 i)).a 6 (by decide) x2
          refine ⟨.inr (xF st 1 i 5), st, xF st 1 i 5, setA (setA (setS ms 0 0) 7 i (ms.2 7 i)) 6 i x2, ?_, ?_, ⟨hb, RE_shot h hi (SB.rf st i) hM ?_⟩, no_l, rfl, yes_r rfl⟩
          · simp only [f_X5_length, p_made hb hi, bdx_r, p_len hc, p_chk hb hi hm, gd_pos hi, f_X4_changeLength, eq_true hcc, bi_T, f_X4_changeLength_25, bd_some]
          · simp only [f_X6_length, p_isShot hb h hi, bd_some, e10, bi_F, p_in, b2i_t hc, r_placeOf hb h hi, eq_true hge, bi_T, f_X6_length_41, p_fails0, e00, gd_pos (vp24 i24 (j := 6) rfl), sS_2, nI_clamp c31, hr.2.2.1, eq_true hcc, f_X6_length_68, r_change0 i24 rfl]
          · simp only [RS, sA_2, sS_2, xF_sF, xR_sF] at hr ⊢
            simp at hr ⊢
            simp [hr, hcc]
            exact hz
        · have hS := ((SB.rf st i).f1 5 x2).f1 6 (xF st 1 i 6 + 1)
          have hM := (((SM.rf ms i).s0 0).a 7 (by decide) (ms.2 7 i + 1)).a 6 (by decide) x2
          have e6 : xF (sF st 1 i 5 x2) 1 i 6 = xF st 1 i 6 := by rw [sf_ne (by decide)]
          refine ⟨.inr (xF st 1 i 5), sF (sF st 1 i 5 x2) 1 i 6 (xF st 1 i 6 + 1), xF st 1 i 5, setA (setA (setS ms 0 0) 7 i (ms.2 7 i + 1)) 6 i x2, ?_, ?_, ⟨BI_shot hb hS ?_ (by rw [sf_ne (by decide), sf_ne (by decide)]) (by rw [sf_ne (by decide), sf_ne (by decide)]), RE_shot h hi hS hM ?_⟩, no_l, rfl, yes_r rfl⟩
          · simp only [f_X5_length, p_made hb hi, bdx_r, p_len hc, p_chk hb hi hm, gd_pos hi, f_X4_changeLength, eq_false hcc, bi_F, f_X4_changeLength_25, bd_some, e6]
          · simp only [f_X6_length, p_isShot hb h hi, bd_some, e10, bi_F, p_in, b2i_t hc, r_placeOf hb h hi, eq_true hge, bi_T, f_X6_length_41, p_fails0, e00, gd_pos (vp24 i24 (j := 6) rfl), sS_2, nI_clamp c31, hr.2.2.1, eq_false hcc, f_X6_length_68, r_change1 i24]
          · simp only [SOK, COK_sF, xF_sF, xR_sF] at hs ⊢
            simp at hs ⊢
            simp [hs, hc.1, hc.2]
            exact hzs
          · simp only [RS, sA_2, sS_2, xF_sF, xR_sF] at hr ⊢
            simp at hr ⊢
            simp [hr]
            exact hz
      · have hge : ¬ 0 ≤ plc (xL st 1) i := fun h2 => hm ((plc_ge hb.len).mp h2)
        refine ⟨.inl 1, st, 0, setS ms 0 3, ?_, ?_, I.code 3, yes_l (by decide), code_0 _ _, no_r⟩
        · simp only [f_X5_length, p_made hb hi, bdx_r, p_len hc, p_chk_no hb hi hm, bdx_l]
        · simp only [f_X6_length, p_isShot hb h hi, bd_some, e10, bi_F, p_in, b2i_t hc, r_placeOf hb h hi, eq_false hge, f_X6_length_41, p_fails3]
    · refine ⟨.inl 0, st, 0, setS ms 0 2, ?_, ?_, I.code 2, yes_l (by decide), code_0 _ _, no_r⟩
      · simp only [f_X5_length, p_made hb hi, bdx_r, p_len_no hc, bdx_l]
      · simp only [f_X6_length, p_isShot hb h hi, bd_some, e10, bi_F, p_in, b2i_f hc, e00, bi_T, f_X6_length_41, p_fails2]
  · refine ⟨.inl 3, st, 0, setS ms 0 1, ?_, ?_, I.code 1, yes_l (by decide), code_0 _ _, no_r⟩
    · simp only [f_X5_length, p_made_no hb hx, bdx_l]
    · simp only [f_X6_length, p_isShot_no hb h hx, bd_some, e00, bi_T, f_X6_length_41, p_fails1, e10, bi_F]
/-- a count of conflicts, both ways -/
theorem INV.conf {st' : XS} {ms' : MS} (I : INV st' ms') (x : Int32) : INV (sF st' 0 0 5 x) (setS ms' 22 x) := by
  obtain ⟨⟨b1, b2, b3, b4, b5, b6, b7, b8, b9, b10, b11⟩, ⟨h1, h2, h3, h4, h5, h6, h7, h8, h9, h10⟩⟩ := I
  refine ⟨⟨b1, b2, b3, b4, b5, b6, b7, b8, b9, ?_, ?_⟩, ⟨h1, h2, ?_, ?_, h5, h6, h7, h8, h9, h10⟩⟩
  · rw [sf_ne (by decide)]; exact b10
  · unfold NOK at b11 ⊢
    rw [sf_ne (by decide)]; exact b11
  · rw [sf_ne (by decide), sS_1, if_neg (by decide)]; exact h3
  · rw [sS_1, if_pos rfl, xF_sF, if_pos ⟨rfl, rfl, rfl⟩]
theorem conf_same {ms' : MS} : setS ms' 22 (ms'.1 22) = ms' := by
  unfold setS
  congr 1
  funext k
  unfold upd
  by_cases h : k = 22
  · rw [if_pos h, h]
  · rw [if_neg h]
theorem ag_bring (I : INV st ms) {x1 : Int32} {x2 : Int32} : ∃ r st' b ms', f_X5_bring st x1 x2 = some (r, st') ∧ f_X6_bring ms x1 x2 = some (b, ms') ∧ INV st' ms' ∧ (∀ k, r = .inl k → k ∈ [3, 0, 1]) ∧ ms'.1 0 = lwc [3, 0, 1] r ∧ ∀ x, r = .inr x → x = b := by
  have hb := I.1
  have h := I.2
  have h24 := hb.n24
  rcases p_rng (N := xN st 0) (by omega) x1 with ⟨i, hi, rfl⟩ | hx
  · by_cases hc : 1 ≤ x2 ∧ x2 ≤ 240
    · have hr := r_shot h hi
      have hs := hb.sok hi
      have hz := hr.rows
      have hzs := hs.rows
      have i24 : i < 24 := by omega
      have c31 : i < 2 ^ 31 := by omega
      have h9 : ms.2 20 i = xF st 1 i 9 := hr.2.2.2.2.2.2.2.2.2.2.2.1
      have h10 : ms.2 21 i = xF st 1 i 10 := hr.2.2.2.2.2.2.2.2.2.2.2.2.1
      have h7 : ms.2 7 i = xF st 1 i 6 := hr.2.2.2.1
      have h6 : ms.2 6 i = xF st 1 i 5 := hr.2.2.1
      have h22 : ms.1 22 = xF st 0 0 5 := h.2.2.2.1
      by_cases hh : xF st 1 i 9 = -1
      · refine ⟨.inl 1, st, 0, setS ms 0 3, ?_, ?_, I.code 3, yes_l (by decide), code_0 _ _, no_r⟩
        · simp only [f_X5_bring, p_made hb hi, bdx_r, p_len hc, gd_pos hi, eq_true hh, bi_T]
        · simp only [f_X6_bring, p_isShot hb h hi, bd_some, e10, bi_F, p_in, b2i_t hc, gd_pos (vp24 i24 (j := 20) rfl), nI_clamp c31, h9, eq_true hh, bi_T, f_X6_bring_43, p_fails3]
      · by_cases hv : xF st 1 i 10 = xF st 1 i 6
        · have hv' : xF (sF st 1 i 9 (-1)) 1 i 6 = xF (sF st 1 i 9 (-1)) 1 i 10 := by rw [sf_ne (by decide), sf_ne (by decide), hv]
          have e5 : xF (sF st 1 i 9 (-1)) 1 i 5 = xF st 1 i 5 := by rw [sf_ne (by decide)]
          by_cases hcc : xF st 1 i 5 = x2
          · have hS := (SB.rf st i).f1 9 (-1)
            have hM := ((((SM.rf ms i).s0 0).a 20 (by decide) (-1)).a 7 (by decide) (ms.2 7 i)).a 6 (by decide) x2
            refine ⟨.inr 1, sF st 1 i 9 (-1), 1, setA (setA (setA (setS ms 0 0) 20 i (-1)) 7 i (ms.2 7 i)) 6 i x2, ?_, ?_, ⟨BI_shot hb hS ?_ (sf_ne (by decide)) (sf_ne (by decide)), RE_shot h hi hS hM ?_⟩, no_l, rfl, yes_r rfl⟩
            · simp only [f_X5_bring, p_made hb hi, bdx_r, p_len hc, gd_pos hi, eq_false hh, bi_F, eq_true hv', bi_T, f_X4_changeLength, xN_sF, e5, eq_true hcc, f_X4_changeLength_25, bd_some]
            · have e0 : setS (setA (setS ms 0 0) 20 i (-1)) 22 ((setA (setS ms 0 0) 20 i (-1)).1 22) = setA (setS ms 0 0) 20 i (-1) := conf_same
              simp only [f_X6_bring, p_isShot hb h hi, bd_some, e10, bi_F, p_in, b2i_t hc, gd_pos (vp24 i24 (j := 20) rfl), nI_clamp c31, h9, eq_false hh, f_X6_bring_43, p_fails0, e00, bi_T, gd_pos (vp24 i24 (j := 21) rfl), gd_pos (vp24 i24 (j := 7) rfl), sS_2, h10, h7, eq_true hv, f_X6_bring_71, f_X6_bring_97, gd_pos (vp24 i24 (j := 6) rfl), e0]
              have e6 : (setA (setS ms 0 0) 20 i (-1)).2 6 i = x2 := by rw [sA_2, if_neg (by rintro ⟨z, -⟩; cases z), sS_2, h6, hcc]
              have e7 : (setA (setS ms 0 0) 20 i (-1)).2 7 i = xF st 1 i 6 := by rw [sA_2, if_neg (by rintro ⟨z, -⟩; cases z), sS_2, h7]
              simp only [eq_true e6, bi_T, f_X6_bring_120, f_X6_bring_121, r_change0 i24 rfl, bd_some, e10, bi_F, f_X6_bring_143, gd_pos (vp24 i24 (j := 6) rfl), gd_pos nb_1, nI_clamp c31, e7]
            · simp only [SOK, COK_sF, xF_sF, xR_sF] at hs ⊢
              simp at hs ⊢
              simp [hs]
              exact hzs
            · simp only [RS, sA_2, sS_2, xF_sF, xR_sF] at hr ⊢
              simp at hr ⊢
              simp [hr, hcc]
              exact hz
          · have hS := (((SB.rf st i).f1 9 (-1)).f1 5 x2).f1 6 (xF st 1 i 6 + 1)
            have hM := ((((SM.rf ms i).s0 0).a 20 (by decide) (-1)).a 7 (by decide) (ms.2 7 i + 1)).a 6 (by decide) x2
            have e6x : xF (sF (sF st 1 i 9 (-1)) 1 i 5 x2) 1 i 6 = xF st 1 i 6 := by rw [sf_ne (by decide), sf_ne (by decide)]
            refine ⟨.inr 1, sF (sF (sF st 1 i 9 (-1)) 1 i 5 x2) 1 i 6 (xF st 1 i 6 + 1), 1, setA (setA (setA (setS ms 0 0) 20 i (-1)) 7 i (ms.2 7 i + 1)) 6 i x2, ?_, ?_, ⟨BI_shot hb hS ?_ (by rw [sf_ne (by decide), sf_ne (by decide), sf_ne (by decide)]) (by rw [sf_ne (by decide), sf_ne (by decide), sf_ne (by decide)]), RE_shot h hi hS hM ?_⟩, no_l, rfl, yes_r rfl⟩
            · simp only [f_X5_bring, p_made hb hi, bdx_r, p_len hc, gd_pos hi, eq_false hh, bi_F, eq_true hv', bi_T, f_X4_changeLength, xN_sF, e5, eq_false hcc, f_X4_changeLength_25, bd_some, e6x]
            · have e0 : setS (setA (setS ms 0 0) 20 i (-1)) 22 ((setA (setS ms 0 0) 20 i (-1)).1 22) = setA (setS ms 0 0) 20 i (-1) := conf_same
              simp only [f_X6_bring, p_isShot hb h hi, bd_some, e10, bi_F, p_in, b2i_t hc, gd_pos (vp24 i24 (j := 20) rfl), nI_clamp c31, h9, eq_false hh, f_X6_bring_43, p_fails0, e00, bi_T, gd_pos (vp24 i24 (j := 21) rfl), gd_pos (vp24 i24 (j := 7) rfl), sS_2, h10, h7, eq_true hv, f_X6_bring_71, f_X6_bring_97, gd_pos (vp24 i24 (j := 6) rfl), e0]
              have e6 : ¬ (setA (setS ms 0 0) 20 i (-1)).2 6 i = x2 := by rw [sA_2, if_neg (by rintro ⟨z, -⟩; cases z), sS_2, h6]; exact hcc
              have e7 : (setA (setS ms 0 0) 20 i (-1)).2 7 i = xF st 1 i 6 := by rw [sA_2, if_neg (by rintro ⟨z, -⟩; cases z), sS_2, h7]
              simp only [eq_false e6, bi_F, f_X6_bring_121, r_change1 i24, bd_some, e10, f_X6_bring_143, gd_pos (vp24 i24 (j := 6) rfl), gd_pos nb_1, nI_clamp c31, e7]
            · simp only [SOK, COK_sF, xF_sF, xR_sF] at hs ⊢
              simp at hs ⊢
              simp [hs, hc.1, hc.2]
              exact hzs
            · simp only [RS, sA_2, sS_2, xF_sF, xR_sF] at hr ⊢
              simp at hr ⊢
              simp [hr]
              exact hz
        · have hv' : ¬ xF (sF st 1 i 9 (-1)) 1 i 6 = xF (sF st 1 i 9 (-1)) 1 i 10 := by
            rw [sf_ne (by decide), sf_ne (by decide)]
            exact fun e => hv e.symm
          have hS := (SB.rf st i).f1 9 (-1)
          have hM := ((((SM.rf ms i).s0 0).a 20 (by decide) (-1)).a 7 (by decide) (xF st 1 i 6)).a 6 (by decide) (xF st 1 i 5)
          have I2 : INV (sF st 1 i 9 (-1)) (setA (setA (setA (setS ms 0 0) 20 i (-1)) 7 i (xF st 1 i 6)) 6 i (xF st 1 i 5)) := by
            refine ⟨BI_shot hb hS ?_ (sf_ne (by decide)) (sf_ne (by decide)), RE_shot h hi hS hM ?_⟩
            · simp only [SOK, COK_sF, xF_sF, xR_sF] at hs ⊢
              simp at hs ⊢
              simp [hs]
              exact hzs
            · simp only [RS, sA_2, sS_2, xF_sF, xR_sF] at hr ⊢
              simp at hr ⊢
              simp [hr]
              exact hz
          have e5 : xF (sF st 1 i 9 (-1)) 0 0 5 = xF st 0 0 5 := by rw [xF_sF, if_neg (by rintro ⟨z, -⟩; cases z)]
          refine ⟨.inr 0, sF (sF st 1 i 9 (-1)) 0 0 5 (xF st 0 0 5 + 1), 0, setS (setA (setA (setA (setS ms 0 0) 20 i (-1)) 7 i (xF st 1 i 6)) 6 i (xF st 1 i 5)) 22 (xF st 0 0 5 + 1), ?_, ?_, I2.conf _, no_l, rfl, yes_r rfl⟩
          · simp only [f_X5_bring, p_made hb hi, bdx_r, p_len hc, gd_pos hi, eq_false hh, bi_F, eq_false hv', e5]
          · simp only [f_X6_bring, p_isShot hb h hi, bd_some, e10, bi_F, p_in, b2i_t hc, gd_pos (vp24 i24 (j := 20) rfl), nI_clamp c31, h9, eq_false hh, f_X6_bring_43, p_fails0, e00, bi_T, gd_pos (vp24 i24 (j := 21) rfl), gd_pos (vp24 i24 (j := 7) rfl), sS_2, h10, h7, eq_false hv, f_X6_bring_71, f_X6_bring_97, gd_pos (vp24 i24 (j := 6) rfl), f_X6_bring_120, f_X6_bring_121, r_change0 i24 rfl, f_X6_bring_143, gd_pos nb_0]
            have e22 : (setA (setS ms 0 0) 20 i (-1)).1 22 = xF st 0 0 5 := by rw [sA_1, sS_1, if_neg (by decide), h22]
            rw [e22]
            have e7 : (setA (setS ms 0 0) 20 i (-1)).2 7 i = xF st 1 i 6 := by rw [sA_2, if_neg (by rintro ⟨z, -⟩; cases z), sS_2, h7]
            have e6 : (setA (setS (setA (setS ms 0 0) 20 i (-1)) 22 (xF st 0 0 5 + 1)) 7 i (xF st 1 i 6)).2 6 i = xF st 1 i 5 := by rw [sA_2, if_neg (by rintro ⟨z, -⟩; cases z), sS_2, sA_2, if_neg (by rintro ⟨z, -⟩; cases z), sS_2, h6]
            rw [e7, e6]
            rfl
    · refine ⟨.inl 0, st, 0, setS ms 0 2, ?_, ?_, I.code 2, yes_l (by decide), code_0 _ _, no_r⟩
      · simp only [f_X5_bring, p_made hb hi, bdx_r, p_len_no hc, bdx_l]
      · simp only [f_X6_bring, p_isShot hb h hi, bd_some, e10, bi_F, p_in, b2i_f hc, e00, bi_T, f_X6_bring_43, p_fails2]
  · refine ⟨.inl 3, st, 0, setS ms 0 1, ?_, ?_, I.code 1, yes_l (by decide), code_0 _ _, no_r⟩
    · simp only [f_X5_bring, p_made_no hb hx, bdx_l]
    · simp only [f_X6_bring, p_isShot_no hb h hx, bd_some, e00, bi_T, f_X6_bring_43, p_fails1, e10, bi_F]
end A4
