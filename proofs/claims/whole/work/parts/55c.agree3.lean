/-! Agreements: camera, length, hand, bring. -/
section A3
variable {st : XS} {ms : MS}
def camok (a b : Int32) : Prop := (a = 115 ∨ a = 110 ∨ a = 48) ∧ 0 ≤ b ∧ b ≤ 4
theorem i_lt5 (b : Int32) : b < 5 ↔ b ≤ 4 := by
  rw [Int32.lt_iff_toInt_lt, Int32.le_iff_toInt_le]
  have : (5 : Int32).toInt = 5 := rfl
  have : (4 : Int32).toInt = 4 := rfl
  omega
theorem i_lt0 (b : Int32) : b < 0 ↔ ¬ 0 ≤ b := by
  rw [Int32.lt_iff_toInt_lt, Int32.le_iff_toInt_le]
  omega
theorem i_lt1 (b : Int32) : b < 1 ↔ ¬ 1 ≤ b := by
  rw [Int32.lt_iff_toInt_lt, Int32.le_iff_toInt_le]
  omega
theorem i_lt4 (b : Int32) : b < 4 ↔ b ≤ 3 := by
  rw [Int32.lt_iff_toInt_lt, Int32.le_iff_toInt_le]
  have : (4 : Int32).toInt = 4 := rfl
  have : (3 : Int32).toInt = 3 := rfl
  omega
theorem p_cam29 {b : Int32} : f_X5_checkCamera_29 st b = some (if 0 ≤ b ∧ b ≤ 4 then .inr () else .inl 0, st) := by
  unfold f_X5_checkCamera_29 f_X5_checkCamera_38
  by_cases h1 : b < 0
  · rw [bi_pos h1, if_neg (fun h => (i_lt0 b).mp h1 h.1)]
  · rw [bi_neg h1]
    have h1' : 0 ≤ b := Classical.not_not.mp (fun h => h1 ((i_lt0 b).mpr h))
    by_cases h2 : b < 5
    · rw [bi_pos h2, if_pos ⟨h1', (i_lt5 b).mp h2⟩]
    · rw [bi_neg h2, if_neg (fun h => h2 ((i_lt5 b).mpr h.2))]
theorem p_cam {a b : Int32} (h : camok a b) : f_X5_checkCamera st a b = some (.inr (), st) := by
  obtain ⟨h1, h2⟩ := h
  unfold f_X5_checkCamera
  rw [p_cam29, if_pos h2]
  rcases h1 with rfl | rfl | rfl
  · rw [bi_pos rfl]
  · rw [bi_neg (by decide), bi_pos rfl]
  · rw [bi_neg (by decide), bi_neg (by decide), bi_pos rfl]
theorem p_cam_no {a b : Int32} (h : ¬ camok a b) : f_X5_checkCamera st a b = some (.inl 0, st) := by
  unfold f_X5_checkCamera
  rw [p_cam29]
  by_cases h2 : 0 ≤ b ∧ b ≤ 4
  · have h3 : ¬ (a = 115 ∨ a = 110 ∨ a = 48) := fun h3 => h ⟨h3, h2⟩
    rw [bi_neg (fun e => h3 (Or.inl e)), bi_neg (fun e => h3 (Or.inr (Or.inl e))), bi_neg (fun e => h3 (Or.inr (Or.inr e)))]
  · rw [if_neg h2]
    by_cases h1 : a = 115
    · rw [bi_pos h1]
    · rw [bi_neg h1]
      by_cases h1 : a = 110
      · rw [bi_pos h1]
      · rw [bi_neg h1]
        by_cases h1 : a = 48
        · rw [bi_pos h1]
        · rw [bi_neg h1]
theorem r_cam32 {y : Int32} (h : y = 0 ∨ y = 1) : f_X6_isCamera_32 ms y = some (y, ms) := by
  unfold f_X6_isCamera_32
  rw [gd_pos (by rcases h with rfl | rfl <;> rfl)]
theorem r_cam18 {b : Int32} : f_X6_isCamera_18 ms b = some (b2i (0 ≤ b ∧ b ≤ 4), ms) := by
  unfold f_X6_isCamera_18 f_X6_isCamera_31
  rw [p_in, bd_some]
  by_cases h : 0 ≤ b ∧ b ≤ 4
  · rw [b2i_t h, bi_neg (by decide), r_cam32 (Or.inr rfl)]
  · rw [b2i_f h, bi_pos rfl, r_cam32 (Or.inl rfl)]
theorem r_cam {a b : Int32} (h : camok a b) : f_X6_isCamera ms a b = some (1, ms) := by
  obtain ⟨h1, h2⟩ := h
  unfold f_X6_isCamera
  rw [r_cam18, b2i_t h2]
  rcases h1 with rfl | rfl | rfl
  · rw [bi_pos rfl]
  · rw [bi_neg (by decide), bi_pos rfl]
  · rw [bi_neg (by decide), bi_neg (by decide), bi_pos rfl]
theorem r_cam_no {a b : Int32} (h : ¬ camok a b) : f_X6_isCamera ms a b = some (0, ms) := by
  unfold f_X6_isCamera f_X6_isCamera_31
  rw [r_cam18, r_cam32 (Or.inl rfl)]
  by_cases h2 : 0 ≤ b ∧ b ≤ 4
  · have h3 : ¬ (a = 115 ∨ a = 110 ∨ a = 48) := fun h3 => h ⟨h3, h2⟩
    rw [bi_neg (fun e => h3 (Or.inl e)), bi_neg (fun e => h3 (Or.inr (Or.inl e))), bi_neg (fun e => h3 (Or.inr (Or.inr e)))]
  · rw [b2i_f h2]
    by_cases h1 : a = 115
    · rw [bi_pos h1]
    · rw [bi_neg h1]
      by_cases h1 : a = 110
      · rw [bi_pos h1]
      · rw [bi_neg h1]
        by_cases h1 : a = 48
        · rw [bi_pos h1]
        · rw [bi_neg h1]
theorem p_len {x : Int32} (h : 1 ≤ x ∧ x ≤ 240) : f_X5_checkLength st x = some (.inr (), st) := by
  unfold f_X5_checkLength
  rw [bi_neg (fun h2 => (i_lt1 x).mp h2 h.1), bi_pos h.2]
theorem p_len_no {x : Int32} (h : ¬ (1 ≤ x ∧ x ≤ 240)) : f_X5_checkLength st x = some (.inl 0, st) := by
  unfold f_X5_checkLength f_X5_checkLength_12
  by_cases h1 : x < 1
  · rw [bi_pos h1]
  · rw [bi_neg h1, bi_neg (fun h2 => h ⟨Classical.not_not.mp (fun h3 => h1 ((i_lt1 x).mpr h3)), h2⟩)]
theorem r_change0 {i : Nat} (hi : i < 24) (hz : ms.2 7 i = ms.2 7 i) : f_X6_change ms (nI i) 0 = some ((), setA ms 7 i (ms.2 7 i)) := by
  simp only [f_X6_change, e00, bi_T, gd_pos (vp24 hi (j := 7) rfl), f_X6_change_26, nI_clamp (show i < 2 ^ 31 by omega)]
theorem r_change1 {i : Nat} (hi : i < 24) : f_X6_change ms (nI i) 1 = some ((), setA ms 7 i (ms.2 7 i + 1)) := by
  simp only [f_X6_change, e10, bi_F, gd_pos (vp24 hi (j := 7) rfl), f_X6_change_26, nI_clamp (show i < 2 ^ 31 by omega)]
theorem vn_cam {a b : Int32} (h : camok a b) : vp_nar .char a = a ∧ narrow .char (.int a) = .int a ∧ fits .char (.int a) = true := by
  rcases h.1 with rfl | rfl | rfl <;> exact ⟨rfl, rfl, rfl⟩
theorem ag_camera (I : INV st ms) {x1 : Int32} {x2 : Int32} {x3 : Int32} (h2 : CH x2) : ∃ r st' b ms', f_X5_camera st x1 x2 x3 = some (r, st') ∧ f_X6_camera ms x1 x2 x3 = some (b, ms') ∧ INV st' ms' ∧ (∀ k, r = .inl k → k ∈ [3, 0, 1]) ∧ ms'.1 0 = lwc [3, 0, 1] r ∧ ∀ x, r = .inr x → x = b := by
  have hb := I.1
  have h := I.2
  have h24 := hb.n24
  rcases p_rng (N := xN st 0) (by omega) x1 with ⟨i, hi, rfl⟩ | hx
  · by_cases hc : camok x2 x3
    · by_cases hm : i ∈ xL st 1
      · have hr := r_shot h hi
        have hs := hb.sok hi
        have hz := hr.rows
        have hzs := hs.rows
        obtain ⟨v2, n2⟩ := vn_cam hc
        have i24 : i < 24 := by omega
        have c31 : i < 2 ^ 31 := by omega
        have hge := (plc_ge hb.len).mpr hm
        by_cases hcc : xF st 1 i 3 = x2 ∧ xF st 1 i 4 = x3
        · have hM := ((((SM.rf ms i).s0 0).a 7 (by decide) (ms.2 7 i)).a 4 (by decide) x2).a 5 (by decide) x3
          refine ⟨.inr (xF st 1 i 6), st, xF st 1 i 6, setA (setA (setA (setS ms 0 0) 7 i (ms.2 7 i)) 4 i x2) 5 i x3, ?_, ?_, ⟨hb, RE_shot h hi (SB.rf st i) hM ?_⟩, no_l, rfl, yes_r rfl⟩
          · simp only [f_X5_camera, p_made hb hi, bdx_r, p_cam hc, p_chk hb hi hm, gd_pos hi, f_X4_film, eq_true hcc.1, eq_true hcc.2, bi_T, f_X4_film_36, bd_some]
          · simp only [f_X6_camera, p_isShot hb h hi, bd_some, e10, bi_F, r_cam hc, r_placeOf hb h hi, eq_true hge, bi_T, f_X6_camera_38, p_fails0, e00, gd_pos (vp24 i24 (j := 4) rfl), gd_pos (vp24 i24 (j := 5) rfl), gd_pos (vp24 i24 (j := 7) rfl), sS_2, nI_clamp c31, hr.1, hr.2.1, eq_true hcc.1, eq_true hcc.2, f_X6_camera_73, r_change0 i24 rfl, v2]
            simp [sA_2, hr.2.2.2.1]
          · simp only [RS, sA_2, sS_2, xF_sF, xR_sF] at hr ⊢
            simp at hr ⊢
            simp [hr, hcc]
            exact hz
        · have hS := (((SB.rf st i).f1 3 x2).f1 4 x3).f1 6 (xF st 1 i 6 + 1)
          have hM := ((((SM.rf ms i).s0 0).a 7 (by decide) (ms.2 7 i + 1)).a 4 (by decide) x2).a 5 (by decide) x3
          have e6 : xF (sF (sF st 1 i 3 x2) 1 i 4 x3) 1 i 6 = xF st 1 i 6 := by rw [sf_ne (by decide), sf_ne (by decide)]
          refine ⟨.inr (xF st 1 i 6 + 1), sF (sF (sF st 1 i 3 x2) 1 i 4 x3) 1 i 6 (xF st 1 i 6 + 1), xF st 1 i 6 + 1, setA (setA (setA (setS ms 0 0) 7 i (ms.2 7 i + 1)) 4 i x2) 5 i x3, ?_, ?_, ⟨BI_shot hb hS ?_ (by rw [sf_ne (by decide), sf_ne (by decide), sf_ne (by decide)]) (by rw [sf_ne (by decide), sf_ne (by decide), sf_ne (by decide)]), RE_shot h hi hS hM ?_⟩, no_l, rfl, yes_r rfl⟩
          · have h16 : f_X4_film_16 st i x2 x3 = some ((), sF (sF (sF st 1 i 3 x2) 1 i 4 x3) 1 i 6 (xF st 1 i 6 + 1)) := by
              simp only [f_X4_film_16, gd_pos hi, gd_pos n2, f_X4_film_36, e6]
            have hfl : f_X4_film st i x2 x3 = some ((), sF (sF (sF st 1 i 3 x2) 1 i 4 x3) 1 i 6 (xF st 1 i 6 + 1)) := by
              unfold f_X4_film
              rw [gd_pos hi]
              by_cases e3 : xF st 1 i 3 = x2
              · rw [bi_pos e3, bi_neg (fun e4 => hcc ⟨e3, e4⟩), h16]
              · rw [bi_neg e3, h16]
            simp only [f_X5_camera, p_made hb hi, bdx_r, p_cam hc, p_chk hb hi hm, gd_pos hi, hfl, bd_some, xN_sF, xF_sF]
            simp
          · have h68 : f_X6_camera_68 (setS ms 0 0) (nI i) x2 x3 (nI i) = some (xF st 1 i 6 + 1, setA (setA (setA (setS ms 0 0) 7 i (ms.2 7 i + 1)) 4 i x2) 5 i x3) := by
              simp only [f_X6_camera_68, f_X6_camera_73, r_change1 i24, bd_some, gd_pos (vp24 i24 (j := 4) rfl), gd_pos (vp24 i24 (j := 5) rfl), gd_pos (vp24 i24 (j := 7) rfl), nI_clamp c31, v2]
              simp [sA_2, sS_2, hr.2.2.2.1]
            have h38 : f_X6_camera_38 ms (nI i) x2 x3 0 = some (xF st 1 i 6 + 1, setA (setA (setA (setS ms 0 0) 7 i (ms.2 7 i + 1)) 4 i x2) 5 i x3) := by
              simp only [f_X6_camera_38, p_fails0, bd_some, e00, bi_T, gd_pos (vp24 i24 (j := 4) rfl), gd_pos (vp24 i24 (j := 5) rfl), sS_2, nI_clamp c31, hr.1, hr.2.1]
              by_cases e3 : xF st 1 i 3 = x2
              · rw [bi_pos e3, bi_neg (fun e4 => hcc ⟨e3, e4⟩), h68]
              · rw [bi_neg e3, h68]
            simp only [f_X6_camera, p_isShot hb h hi, bd_some, e10, bi_F, r_cam hc, r_placeOf hb h hi, eq_true hge, bi_T, h38]
          · simp only [SOK, COK_sF, xF_sF, xR_sF] at hs ⊢
            simp at hs ⊢
            simp [hs, hc.1, hc.2.1, (i_lt5 x3).mpr hc.2.2]
            exact hzs
          · simp only [RS, sA_2, sS_2, xF_sF, xR_sF] at hr ⊢
            simp at hr ⊢
            simp [hr]
            exact hz
      · have hge : ¬ 0 ≤ plc (xL st 1) i := fun h2 => hm ((plc_ge hb.len).mp h2)
        refine ⟨.inl 1, st, 0, setS ms 0 3, ?_, ?_, I.code 3, yes_l (by decide), code_0 _ _, no_r⟩
        · simp only [f_X5_camera, p_made hb hi, bdx_r, p_cam hc, p_chk_no hb hi hm, bdx_l]
        · simp only [f_X6_camera, p_isShot hb h hi, bd_some, e10, bi_F, r_cam hc, r_placeOf hb h hi, eq_false hge, f_X6_camera_38, p_fails3]
    · refine ⟨.inl 0, st, 0, setS ms 0 2, ?_, ?_, I.code 2, yes_l (by decide), code_0 _ _, no_r⟩
      · simp only [f_X5_camera, p_made hb hi, bdx_r, p_cam_no hc, bdx_l]
      · simp only [f_X6_camera, p_isShot hb h hi, bd_some, e10, bi_F, r_cam_no hc, e00, bi_T, f_X6_camera_38, p_fails2]
  · refine ⟨.inl 3, st, 0, setS ms 0 1, ?_, ?_, I.code 1, yes_l (by decide), code_0 _ _, no_r⟩
    · simp only [f_X5_camera, p_made_no hb hx, bdx_l]
    · simp only [f_X6_camera, p_isShot_no hb h hx, bd_some, e00, bi_T, f_X6_camera_38, p_fails1, e10, bi_F]
end A3
