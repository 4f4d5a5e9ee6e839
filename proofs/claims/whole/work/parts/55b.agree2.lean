/-! Agreements: a shot's numbers change. -/
section A2
variable {st : XS} {ms : MS}
theorem sf_ne {st : XS} {k i f : Nat} {x : Int32} {k' i' f' : Nat} (h : f' ≠ f) : xF (sF st k i f x) k' i' f' = xF st k' i' f' := by rw [xF_sF, if_neg (fun z => h z.2.2)]
theorem RS.rows {i : Nat} (h : RS st ms i) : ∀ c, c < 4 → ms.2 11 (4 * i + c) = xR st 0 i c ∧ ms.2 12 (4 * i + c) = xR st 1 i c ∧ ms.2 13 (4 * i + c) = xR st 2 i c ∧ ms.2 14 (4 * i + c) = xR st 3 i c := h.2.2.2.2.2.2.2.2.2.2.2.2.2
theorem SOK.rows {i : Nat} (h : SOK st i) : ∀ c, c < 4 → COK st i c := h.2.2.2.2.2.2.2
theorem COK_sF {k i f : Nat} {x : Int32} {j c : Nat} : COK (sF st k i f x) j c = COK st j c := rfl
theorem BI.sok (h : BI st) {i : Nat} (hi : i < xN st 0) : SOK st i := h.2.2.2.2.2.2.2.1 i hi
theorem ag_time (I : INV st ms) {x1 : Int32} : ∃ r st' b ms', f_X5_time st x1 = some (r, st') ∧ f_X6_time ms x1 = some (b, ms') ∧ INV st' ms' ∧ (∀ k, r = .inl k → k ∈ [3, 4]) ∧ ms'.1 0 = lwc [3, 4] r ∧ ∀ x, r = .inr x → x = b := by
  have hb := I.1
  have h := I.2
  have h24 := hb.n24
  have hlen := hb.len
  rcases p_rng (N := xN st 0) (by omega) x1 with ⟨i, hi, rfl⟩ | hx
  · by_cases hm : i ∈ xL st 1
    · have hlt := List.idxOf_lt_length_of_mem hm
      refine ⟨.inr (nI (fsm st ((xL st 1).idxOf i))), st, nI (fsm st ((xL st 1).idxOf i)), setS ms 0 0, ?_, ?_, I.code 0, no_l, code_0 _ _, yes_r rfl⟩
      · simp only [f_X5_time, p_made hb hi, bdx_r, p_found hb hi hm, p_beginOf hb (Nat.le_of_lt hlt), bd_some]
      · simp only [f_X6_time, p_isShot hb h hi, bd_some, e10, bi_F, r_placeOf hb h hi, r_placeOf hb (h.code 0) hi, bi_T, f_X6_time_26, p_fails0, e00, f_X6_time_45, plc_in hm, r_begins hb (h.code 0) (Nat.le_of_lt hlt)]
        rw [bi_pos (by rw [← plc_in hm]; exact (plc_ge hb.len).mpr hm)]
    · refine ⟨.inl 4, st, 0, setS ms 0 2, ?_, ?_, I.code 2, yes_l (by decide), code_0 _ _, no_r⟩
      · simp only [f_X5_time, p_made hb hi, bdx_r, p_found_no hb hi hm, bdx_l]
      · simp only [f_X6_time, p_isShot hb h hi, bd_some, e10, bi_F, r_placeOf hb h hi, eq_false (fun h2 => hm ((plc_ge hb.len).mp h2)), f_X6_time_26, p_fails2, f_X6_time_45]
  · refine ⟨.inl 3, st, 0, setS ms 0 1, ?_, ?_, I.code 1, yes_l (by decide), code_0 _ _, no_r⟩
    · simp only [f_X5_time, p_made_no hb hx, bdx_l]
    · simp only [f_X6_time, p_isShot_no hb h hx, bd_some, e00, bi_T, f_X6_time_26, p_fails1, e10, bi_F, f_X6_time_45]
theorem ag_with (I : INV st ms) {x1 : Int32} : ∃ r st' b ms', f_X5_with st x1 = some (r, st') ∧ f_X6_with ms x1 = some (b, ms') ∧ INV st' ms' ∧ (∀ k, r = .inl k → k ∈ [3, 4]) ∧ ms'.1 0 = lwc [3, 4] r ∧ ∀ x, r = .inr x → x = b := by
  have hb := I.1
  have h := I.2
  have h24 := hb.n24
  rcases p_rng (N := xN st 0) (by omega) x1 with ⟨i, hi, rfl⟩ | hx
  · have hr : ms.2 20 i = xF st 1 i 9 := (r_shot h hi).2.2.2.2.2.2.2.2.2.2.2.1
    by_cases hm : xF st 1 i 9 = -1
    · refine ⟨.inl 4, st, 0, setS ms 0 2, ?_, ?_, I.code 2, yes_l (by decide), code_0 _ _, no_r⟩
      · simp only [f_X5_with, p_made hb hi, bdx_r, gd_pos hi, eq_true hm, bi_T]
      · simp only [f_X6_with, p_isShot hb h hi, bd_some, e10, bi_F, gd_pos (vp24 (show i < 24 by omega) (j := 20) rfl), nI_clamp (show i < 2 ^ 31 by omega), hr, eq_true hm, bi_T, f_X6_with_28, p_fails2, f_X6_with_44]
    · refine ⟨.inr (xF st 1 i 9), st, xF st 1 i 9, setS ms 0 0, ?_, ?_, I.code 0, no_l, code_0 _ _, yes_r rfl⟩
      · simp only [f_X5_with, p_made hb hi, bdx_r, gd_pos hi, eq_false hm, bi_F]
      · simp only [f_X6_with, p_isShot hb h hi, bd_some, e10, bi_F, gd_pos (vp24 (show i < 24 by omega) (j := 20) rfl), nI_clamp (show i < 2 ^ 31 by omega), hr, eq_false hm, bi_F, f_X6_with_28, p_fails0, e00, bi_T, f_X6_with_44, sS_2]
  · refine ⟨.inl 3, st, 0, setS ms 0 1, ?_, ?_, I.code 1, yes_l (by decide), code_0 _ _, no_r⟩
    · simp only [f_X5_with, p_made_no hb hx, bdx_l]
    · simp only [f_X6_with, p_isShot_no hb h hx, bd_some, e00, bi_T, f_X6_with_28, p_fails1, e10, bi_F, f_X6_with_44]
theorem ag_dear (I : INV st ms) {x1 : Int32} {x2 : Int32} (h2 : x2 = 0 ∨ x2 = 1) : ∃ r st' b ms', f_X5_dear st x1 x2 = some (r, st') ∧ f_X6_dear ms x1 x2 = some (b, ms') ∧ INV st' ms' ∧ (∀ k, r = .inl k → k ∈ [3]) ∧ ms'.1 0 = lwc [3] r ∧ ∀ x, r = .inr x → x = b := by
  have hb := I.1
  have h := I.2
  have h24 := hb.n24
  rcases p_rng (N := xN st 0) (by omega) x1 with ⟨i, hi, rfl⟩ | hx
  · have hr := r_shot h hi
    have hs := hb.sok hi
    have h11 : xF st 1 i 11 = 0 ∨ xF st 1 i 11 = 1 := hs.2.2.2.2.2.1
    have n11 : narrow .boolean (.int (xF st 1 i 11)) = .int (xF st 1 i 11) := by rcases h11 with e | e <;> rw [e] <;> rfl
    have n2 : narrow .boolean (.int x2) = .int x2 ∧ fits .boolean (.int x2) = true := by rcases h2 with e | e <;> rw [e] <;> exact ⟨rfl, rfl⟩
    have v2 : vp_nar .boolean x2 = x2 := by rcases h2 with e | e <;> rw [e] <;> rfl
    have hS := (SB.rf st i).f1 11 x2
    have hM := ((SM.rf ms i).s0 0).a 8 (by decide) x2
    refine ⟨.inr (xF st 1 i 11), sF st 1 i 11 x2, xF st 1 i 11, setA (setS ms 0 0) 8 i x2, ?_, ?_, ⟨BI_shot hb hS ?_ (sf_ne (by decide)) (sf_ne (by decide)), RE_shot h hi hS hM ?_⟩, no_l, rfl, yes_r rfl⟩
    · simp only [f_X5_dear, p_made hb hi, bdx_r, gd_pos hi, gd_pos n2, gd_pos n11]
    · simp only [f_X6_dear, p_isShot hb h hi, bd_some, e10, bi_F, f_X6_dear_14, p_fails0, e00, bi_T, gd_pos (vp24 (show i < 24 by omega) (j := 8) rfl), sS_2, nI_clamp (show i < 2 ^ 31 by omega), hr.2.2.2.2.1, gd_pos n11, v2]
    · have hz := hs.rows
      simp only [SOK, COK_sF, xF_sF, xR_sF] at hs ⊢
      simp at hs ⊢
      simp [hs, h2]
      exact hz
    · have hz := hr.rows
      simp only [RS, sA_2, sS_2, xF_sF, xR_sF] at hr ⊢
      simp at hr ⊢
      simp [hr]
      exact hz
  · refine ⟨.inl 3, st, 0, setS ms 0 1, ?_, ?_, I.code 1, yes_l (by decide), code_0 _ _, no_r⟩
    · simp only [f_X5_dear, p_made_no hb hx, bdx_l]
    · simp only [f_X6_dear, p_isShot_no hb h hx, bd_some, e00, bi_T, f_X6_dear_14, p_fails1, e10, bi_F]
end A2
