/-! Agreements: notes. -/
section A6
variable {st : XS} {ms : MS}
noncomputable def knd (st : XS) (i : Nat) : Int32 := if xF st 3 i 2 = 111 then (if xF st 3 i 1 = xF st 1 (xU st i) 6 then 111 else 115) else xF st 3 i 2
theorem BI.verd (h : BI st) {i : Nat} (hi : i < xN st 1) : xF st 3 i 2 = 111 ∨ xF st 3 i 2 = 100 ∨ xF st 3 i 2 = 114 := h.2.2.2.2.2.2.2.2.1 i hi
theorem BI.subj (h : BI st) {i : Nat} (hi : i < xN st 1) : xU st i < xN st 0 := h.2.2.2.2.2.2.1 i hi
theorem BI.k40 (h : BI st) : xN st 1 ≤ 40 := h.2.2.2.2.2.1
theorem knd_of (hb : BI st) {i : Nat} (hi : i < xN st 1) : knd st i = 111 ∨ knd st i = 100 ∨ knd st i = 114 ∨ knd st i = 115 := by
  unfold knd
  rcases hb.verd hi with e | e | e
  · rw [if_pos e]
    by_cases h : xF st 3 i 1 = xF st 1 (xU st i) 6
    · rw [if_pos h]; exact Or.inl rfl
    · rw [if_neg h]; exact Or.inr (Or.inr (Or.inr rfl))
  · rw [if_neg (by rw [e]; decide), e]; exact Or.inr (Or.inl rfl)
  · rw [if_neg (by rw [e]; decide), e]; exact Or.inr (Or.inr (Or.inl rfl))
theorem knd_nc (hb : BI st) {i : Nat} (hi : i < xN st 1) : narrow .char (.int (knd st i)) = .int (knd st i) := by
  rcases knd_of hb hi with e | e | e | e <;> rw [e] <;> rfl
theorem p_kind (hb : BI st) {i : Nat} (hi : i < xN st 1) : f_X1_kind st i = some (knd st i, st) := by
  have hk := knd_nc hb hi
  unfold f_X1_kind f_X1_kind_28 f_X1_kind_32
  rw [gd_pos hi]
  unfold knd at hk ⊢
  by_cases e : xF st 3 i 2 = 111
  · rw [bi_pos e, if_pos e] at *
    rw [gd_pos (hb.subj hi)]
    by_cases h : xF st 3 i 1 = xF st 1 (xU st i) 6
    · rw [bi_pos h, gd_pos hi, if_pos h, e]
      rw [gd_pos (by rfl)]
    · rw [bi_neg h, if_neg h, gd_pos (by rfl)]
  · rw [if_neg e] at hk ⊢
    rw [bi_neg e, gd_pos hi, gd_pos hk]
theorem r_note (h : RE st ms) {i : Nat} (hi : i < xN st 1) : ms.2 24 i = nI (xU st i) ∧ ms.2 25 i = xF st 3 i 1 ∧ ms.2 26 i = xF st 3 i 2 := h.2.2.2.2.2.2.2.2.1 i hi
theorem vp40 {k : Nat} (h : k < 40) {j : Nat} (hj : mln j = 40) : vp_in (nI k) (mln j) := by rw [hj]; exact vp_in_nI h (by decide)
theorem r_isNow (hb : BI st) (h : RE st ms) {i : Nat} (hi : i < xN st 1) : f_X6_isNow ms (nI i) = some (knd st i, ms) := by
  have hk := knd_nc hb hi
  have h40 := hb.k40
  have h24 := hb.n24
  have hu := hb.subj hi
  obtain ⟨r1, r2, r3⟩ := r_note h hi
  have hv : ms.2 7 (xU st i) = xF st 1 (xU st i) 6 := (r_shot h hu).2.2.2.1
  unfold f_X6_isNow f_X6_isNow_36 f_X6_isNow_42
  rw [gd_pos (vp40 (by omega) rfl), nI_clamp (by omega), r3]
  unfold knd at hk ⊢
  by_cases e : xF st 3 i 2 = 111
  · rw [bi_pos e, if_pos e] at *
    rw [gd_pos (vp40 (by omega) rfl), gd_pos (vp40 (by omega) rfl), r1, gd_pos (vp24 (by omega) rfl), nI_clamp (show xU st i < 2 ^ 31 by omega), r2, hv]
    by_cases h : xF st 3 i 1 = xF st 1 (xU st i) 6
    · rw [bi_pos h, gd_pos (vp40 (by omega) rfl), if_pos h, e, gd_pos (by rfl)]
    · rw [bi_neg h, if_neg h, gd_pos (by rfl)]
  · rw [if_neg e] at hk ⊢
    rw [bi_neg e, gd_pos (vp40 (by omega) rfl), gd_pos hk]
theorem ag_noteIs (I : INV st ms) {x1 : Int32} : ∃ r st' b ms', f_X5_noteIs st x1 = some (r, st') ∧ f_X6_noteIs ms x1 = some (b, ms') ∧ INV st' ms' ∧ (∀ k, r = .inl k → k ∈ [3]) ∧ ms'.1 0 = lwc [3] r ∧ ∀ x, r = .inr x → x = b := by
  have hb := I.1
  have h := I.2
  have h40 := hb.k40
  have n32 : narrow .char (.int 32) = .int 32 := rfl
  rcases p_rng (N := xN st 1) (by omega) x1 with ⟨i, hi, rfl⟩ | hx
  · have hk := knd_nc hb hi
    refine ⟨.inr (knd st i), st, knd st i, setS ms 0 0, ?_, ?_, I.code 0, no_l, code_0 _ _, yes_r rfl⟩
    · simp only [f_X5_noteIs, p_madeN hb hi, bdx_r, gd_pos hi, p_kind hb hi, bd_some, gd_pos hk]
    · simp only [f_X6_noteIs, p_isNote hb h hi, bd_some, e10, bi_F, f_X6_noteIs_14, p_fails0, e00, bi_T, r_isNow hb (h.code 0) hi, f_X6_noteIs_30, gd_pos hk]
  · refine ⟨.inl 3, st, 32, setS ms 0 1, ?_, ?_, I.code 1, yes_l (by decide), code_0 _ _, no_r⟩
    · simp only [f_X5_noteIs, p_madeN_no hb hx, bdx_l]
    · simp only [f_X6_noteIs, p_isNote_no hb h hx, bd_some, e00, bi_T, f_X6_noteIs_14, p_fails1, e10, bi_F, f_X6_noteIs_30, gd_pos n32]
/-- a note's verdict or version, both ways -/
theorem INV.note {i f k : Nat} {v : Int32} (I : INV st ms) (hi : i < xN st 1) (hf : (f = 1 ∧ k = 25) ∨ (f = 2 ∧ k = 26 ∧ (v = 111 ∨ v = 100 ∨ v = 114))) : INV (sF st 3 i f v) (setA ms k i v) := by
  obtain ⟨⟨b1, b2, b3, b4, b5, b6, b7, b8, b9, b10, b11⟩, ⟨h1, h2, h3, h4, h5, h6, h7, h8, h9, h10⟩⟩ := I
  have hk : k = 25 ∨ k = 26 := by omega
  have e0 : ∀ a b c, a ≠ 3 → xF (sF st 3 i f v) a b c = xF st a b c := fun a b c ha => by rw [xF_sF, if_neg (fun z => ha z.1)]
  have m0 : ∀ a b, a ≠ 25 → a ≠ 26 → (setA ms k i v).2 a b = ms.2 a b := fun a b ha hb => by rw [sA_2, if_neg (fun z => by omega)]
  refine ⟨⟨b1, b2, b3, b4, b5, b6, b7, fun j hj => ?_, fun j hj => ?_, ?_, ?_⟩, ⟨h1, h2, ?_, ?_, h5, fun t ht => ?_, fun j hj => ?_, fun j hj => ?_, fun j hj => ?_, fun j hj => ?_⟩⟩
  · have := b8 j hj
    unfold SOK COK at this ⊢
    simp only [e0 1 _ _ (by decide), e0 2 _ _ (by decide), xR_sF]
    exact this
  · have := b9 j hj
    rw [xF_sF]
    by_cases hz : 3 = 3 ∧ j = i ∧ 2 = f
    · rw [if_pos hz]
      rcases hf with h | h
      · omega
      · exact h.2.2
    · rw [if_neg hz]; exact this
  · rw [e0 0 _ _ (by decide)]; exact b10
  · unfold NOK at b11 ⊢
    simp only [e0 0 _ _ (show 0 ≠ 3 by decide), e0 1 _ _ (show 1 ≠ 3 by decide)]
    exact b11
  · rw [e0 0 _ _ (by decide)]; exact h3
  · rw [e0 0 _ _ (by decide)]; exact h4
  · rw [m0 3 _ (by decide) (by decide)]; exact h6 t ht
  · have := h7 j hj
    unfold RS at this ⊢
    simp only [e0 1 _ _ (show 1 ≠ 3 by decide), e0 2 _ _ (show 2 ≠ 3 by decide), xR_sF]
    rw [m0 4 _ (by decide) (by decide), m0 5 _ (by decide) (by decide), m0 6 _ (by decide) (by decide), m0 7 _ (by decide) (by decide), m0 8 _ (by decide) (by decide), m0 9 _ (by decide) (by decide), m0 10 _ (by decide) (by decide), m0 16 _ (by decide) (by decide), m0 17 _ (by decide) (by decide), m0 18 _ (by decide) (by decide), m0 19 _ (by decide) (by decide), m0 20 _ (by decide) (by decide), m0 21 _ (by decide) (by decide)]
    simp only [m0 11 _ (show 11 ≠ 25 by decide) (show 11 ≠ 26 by decide), m0 12 _ (show 12 ≠ 25 by decide) (show 12 ≠ 26 by decide), m0 13 _ (show 13 ≠ 25 by decide) (show 13 ≠ 26 by decide), m0 14 _ (show 14 ≠ 25 by decide) (show 14 ≠ 26 by decide)]
    exact this
  · have := h8 j hj
    unfold RZ at this ⊢
    rw [m0 7 _ (by decide) (by decide), m0 8 _ (by decide) (by decide), m0 17 _ (by decide) (by decide), m0 18 _ (by decide) (by decide), m0 19 _ (by decide) (by decide), m0 21 _ (by decide) (by decide)]
    exact this
  · obtain ⟨c1, c2, c3⟩ := h9 j hj
    refine ⟨?_, ?_, ?_⟩
    · rw [m0 24 _ (by decide) (by decide)]; exact c1
    · rw [sA_2, xF_sF]
      rcases hf with ⟨rfl, rfl⟩ | ⟨rfl, rfl, -⟩
      · by_cases hj : j = i
        · rw [if_pos ⟨rfl, hj⟩, if_pos ⟨rfl, hj, rfl⟩]
        · rw [if_neg (fun z => hj z.2), if_neg (fun z => hj z.2.1)]; exact c2
      · rw [if_neg (by rintro ⟨z, -⟩; cases z), if_neg (by rintro ⟨-, -, z⟩; cases z)]; exact c2
    · rw [sA_2, xF_sF]
      rcases hf with ⟨rfl, rfl⟩ | ⟨rfl, rfl, -⟩
      · rw [if_neg (by rintro ⟨z, -⟩; cases z), if_neg (by rintro ⟨-, -, z⟩; cases z)]; exact c3
      · by_cases hj : j = i
        · rw [if_pos ⟨rfl, hj⟩, if_pos ⟨rfl, hj, rfl⟩]
        · rw [if_neg (fun z => hj z.2), if_neg (fun z => hj z.2.1)]; exact c3
  · rw [m0 29 _ (by decide) (by decide)]; exact h10 j hj
theorem ag_close (I : INV st ms) {x1 : Int32} {x2 : Int32} (h2 : x2 = 0 ∨ x2 = 1) : ∃ r st' b ms', f_X5_close st x1 x2 = some (r, st') ∧ f_X6_close ms x1 x2 = some (b, ms') ∧ INV st' ms' ∧ (∀ k, r = .inl k → k ∈ [3, 1]) ∧ ms'.1 0 = lwc [3, 1] r ∧ ∀ x, r = .inr x → x = b := by
  have hb := I.1
  have h := I.2
  have h40 := hb.k40
  rcases p_rng (N := xN st 1) (by omega) x1 with ⟨i, hi, rfl⟩ | hx
  · by_cases hk : knd st i = 111
    · obtain ⟨v, hv, hc⟩ : ∃ v : Int32, (v = 111 ∨ v = 100 ∨ v = 114) ∧ (f_X5_close st (nI i) x2 = some (.inr 1, sF st 3 i 2 v) ∧ f_X6_close ms (nI i) x2 = some (1, setA (setS ms 0 0) 26 i v)) := by
        have n100 : narrow .char (.int 100) = .int 100 ∧ fits .char (.int 100) = true := ⟨rfl, rfl⟩
        have n114 : narrow .char (.int 114) = .int 114 ∧ fits .char (.int 114) = true := ⟨rfl, rfl⟩
        rcases h2 with rfl | rfl
        · refine ⟨114, Or.inr (Or.inr rfl), ?_, ?_⟩
          · simp only [f_X5_close, p_madeN hb hi, bdx_r, gd_pos hi, p_kind hb hi, bd_some, eq_true hk, bi_T, e00, f_X5_close_38, gd_pos n114]
          · simp only [f_X6_close, p_isNote hb h hi, bd_some, e10, bi_F, r_isNow hb h hi, eq_true hk, bi_T, f_X6_close_28, p_fails0, e00, f_X6_close_52, gd_pos (vp40 (show i < 40 by omega) (j := 26) rfl), nI_clamp (show i < 2 ^ 31 by omega)]
            rfl
        · refine ⟨100, Or.inr (Or.inl rfl), ?_, ?_⟩
          · simp only [f_X5_close, p_madeN hb hi, bdx_r, gd_pos hi, p_kind hb hi, bd_some, eq_true hk, bi_T, e10, bi_F, f_X5_close_38, gd_pos n100]
          · simp only [f_X6_close, p_isNote hb h hi, bd_some, e10, bi_F, r_isNow hb h hi, eq_true hk, bi_T, f_X6_close_28, p_fails0, e00, f_X6_close_52, gd_pos (vp40 (show i < 40 by omega) (j := 26) rfl), nI_clamp (show i < 2 ^ 31 by omega)]
            rfl
      exact ⟨.inr 1, _, 1, _, hc.1, hc.2, (I.code 0).note hi (Or.inr ⟨rfl, rfl, hv⟩), no_l, rfl, yes_r rfl⟩
    · refine ⟨.inl 1, st, 0, setS ms 0 2, ?_, ?_, I.code 2, yes_l (by decide), code_0 _ _, no_r⟩
      · simp only [f_X5_close, p_madeN hb hi, bdx_r, gd_pos hi, p_kind hb hi, bd_some, eq_false hk, bi_F]
      · simp only [f_X6_close, p_isNote hb h hi, bd_some, e10, bi_F, r_isNow hb h hi, eq_false hk, f_X6_close_28, p_fails2]
  · refine ⟨.inl 3, st, 0, setS ms 0 1, ?_, ?_, I.code 1, yes_l (by decide), code_0 _ _, no_r⟩
    · simp only [f_X5_close, p_madeN_no hb hx, bdx_l]
    · simp only [f_X6_close, p_isNote_no hb h hx, bd_some, e00, bi_T, f_X6_close_28, p_fails1, e10, bi_F]
theorem ag_renew (I : INV st ms) {x1 : Int32} : ∃ r st' b ms', f_X5_renew st x1 = some (r, st') ∧ f_X6_renew ms x1 = some (b, ms') ∧ INV st' ms' ∧ (∀ k, r = .inl k → k ∈ [3, 1]) ∧ ms'.1 0 = lwc [3, 1] r ∧ ∀ x, r = .inr x → x = b := by
  have hb := I.1
  have h := I.2
  have h40 := hb.k40
  have h24 := hb.n24
  rcases p_rng (N := xN st 1) (by omega) x1 with ⟨i, hi, rfl⟩ | hx
  · have hu := hb.subj hi
    have i40 : i < 40 := by omega
    have c31 : i < 2 ^ 31 := by omega
    by_cases hk : knd st i = 115
    · by_cases hm : xU st i ∈ xL st 1
      · have hge := (plc_ge hb.len).mpr hm
        obtain ⟨r1, r2, r3⟩ := r_note h hi
        have hv : ms.2 7 (xU st i) = xF st 1 (xU st i) 6 := (r_shot h hu).2.2.2.1
        refine ⟨.inr (xF st 1 (xU st i) 6), sF st 3 i 1 (xF st 1 (xU st i) 6), xF st 1 (xU st i) 6, setA (setS ms 0 0) 25 i (xF st 1 (xU st i) 6), ?_, ?_, (I.code 0).note hi (Or.inl ⟨rfl, rfl⟩), no_l, rfl, yes_r rfl⟩
        · simp only [f_X5_renew, p_madeN hb hi, bdx_r, gd_pos hi, p_kind hb hi, bd_some, eq_true hk, bi_T, p_chk hb hu hm, gd_pos hu]
          rw [xF_sF, if_pos ⟨rfl, rfl, rfl⟩]
        · simp only [f_X6_renew, p_isNote hb h hi, bd_some, e10, bi_F, r_isNow hb h hi, eq_true hk, bi_T, gd_pos (vp40 i40 (j := 24) rfl), nI_clamp c31, r1, r_placeOf hb h hu, eq_true hge, f_X6_renew_41, p_fails0, e00, sS_2, gd_pos (vp24 (show xU st i < 24 by omega) (j := 7) rfl), gd_pos (vp40 i40 (j := 25) rfl), nI_clamp (show xU st i < 2 ^ 31 by omega), hv]
          rw [sA_2, if_pos ⟨rfl, rfl⟩]
      · have hge : ¬ 0 ≤ plc (xL st 1) (xU st i) := fun z => hm ((plc_ge hb.len).mp z)
        obtain ⟨r1, r2, r3⟩ := r_note h hi
        refine ⟨.inl 1, st, 0, setS ms 0 2, ?_, ?_, I.code 2, yes_l (by decide), code_0 _ _, no_r⟩
        · simp only [f_X5_renew, p_madeN hb hi, bdx_r, gd_pos hi, p_kind hb hi, bd_some, eq_true hk, bi_T, p_chk_no hb hu hm, bdx_l]
        · simp only [f_X6_renew, p_isNote hb h hi, bd_some, e10, bi_F, r_isNow hb h hi, eq_true hk, bi_T, gd_pos (vp40 i40 (j := 24) rfl), nI_clamp c31, r1, r_placeOf hb h hu, eq_false hge, f_X6_renew_36, f_X6_renew_41, p_fails2]
    · refine ⟨.inl 1, st, 0, setS ms 0 2, ?_, ?_, I.code 2, yes_l (by decide), code_0 _ _, no_r⟩
      · simp only [f_X5_renew, p_madeN hb hi, bdx_r, gd_pos hi, p_kind hb hi, bd_some, eq_false hk, bi_F]
      · simp only [f_X6_renew, p_isNote hb h hi, bd_some, e10, bi_F, r_isNow hb h hi, eq_false hk, f_X6_renew_36, f_X6_renew_41, p_fails2]
  · refine ⟨.inl 3, st, 0, setS ms 0 1, ?_, ?_, I.code 1, yes_l (by decide), code_0 _ _, no_r⟩
    · simp only [f_X5_renew, p_madeN_no hb hx, bdx_l]
    · simp only [f_X6_renew, p_isNote_no hb h hx, bd_some, e00, bi_T, f_X6_renew_41, p_fails1, e10, bi_F]
theorem p_notes_go {x : Int32} (hb : BI st) : ∀ (n k : Nat), k ≤ xN st 1 → xN st 1 < k + n → f_X5_notesOf_4 n st x (nI (fb_ct (fun j => decide (knd st j = x)) k)) (nI k) = some (nI (fb_ct (fun j => decide (knd st j = x)) (xN st 1)), st) := by
  have e : xL st 2 = List.range (xN st 1) := hb.2.2.2.2.1
  have hN := hb.k40
  have el : (xL st 2).length = xN st 1 := by rw [e, List.length_range]
  intro n
  induction n with
  | zero => intro k h1 h2; omega
  | succ n ih =>
    intro k h1 h2
    rw [f_X5_notesOf_4, el]
    by_cases hk : k = xN st 1
    · rw [hk, bi_pos (nI_le (by omega) (by omega))]
    · have hk' : k < xN st 1 := by omega
      rw [bi_neg (nI_ge (by omega) (by omega)), gd_pos (vp_in_nI hk' (by omega)), nI_clamp (by omega), e, p_range hk', gd_pos hk', p_kind hb hk', bd_some]
      have := ih (k + 1) (by omega) (by omega)
      rw [fb_ct_succ] at this
      by_cases hv : knd st k = x
      · rw [bi_pos hv, f_X5_notesOf_36, nI_1, nI_1]
        rw [if_pos (by simp [hv])] at this
        exact this
      · rw [bi_neg hv, f_X5_notesOf_36, nI_1]
        rw [if_neg (by simp [hv])] at this
        exact this
theorem p_notes {x : Int32} (hb : BI st) : f_X5_notesOf st x = some (nI (fb_ct (fun j => decide (knd st j = x)) (xN st 1)), st) :=
  p_notes_go hb FU 0 (Nat.zero_le _) (by have := hb.k40; show _ < 0 + 1000000; omega)
theorem r_notes_go {x : Int32} (hb : BI st) (h : RE st ms) : ∀ (n k : Nat), k ≤ xN st 1 → xN st 1 < k + n → f_X6_notes_42 n ms x (nI (fb_ct (fun j => decide (knd st j = x)) k)) (nI k) = some (nI (fb_ct (fun j => decide (knd st j = x)) (xN st 1)), ms) := by
  have hN := hb.k40
  intro n
  induction n with
  | zero => intro k h1 h2; omega
  | succ n ih =>
    intro k h1 h2
    rw [f_X6_notes_42, h.2.2.2.2.1]
    by_cases hk : k = xN st 1
    · rw [hk, bi_pos (nI_le (by omega) (by omega))]
    · have hk' : k < xN st 1 := by omega
      rw [bi_neg (nI_ge (by omega) (by omega)), r_isNow hb h hk', bd_some]
      have := ih (k + 1) (by omega) (by omega)
      rw [fb_ct_succ] at this
      by_cases hv : knd st k = x
      · rw [bi_pos hv, f_X6_notes_66, nI_1, nI_1]
        rw [if_pos (by simp [hv])] at this
        exact this
      · rw [bi_neg hv, f_X6_notes_66, nI_1]
        rw [if_neg (by simp [hv])] at this
        exact this
theorem ag_notes (I : INV st ms) {x1 : Int32} (h1 : CH x1) : ∃ r st' b ms', f_X5_notes st x1 = some (r, st') ∧ f_X6_notes ms x1 = some (b, ms') ∧ INV st' ms' ∧ (∀ k, r = .inl k → k ∈ [0]) ∧ ms'.1 0 = lwc [0] r ∧ ∀ x, r = .inr x → x = b := by
  have hb := I.1
  have h := I.2
  by_cases hc : x1 = 111 ∨ x1 = 100 ∨ x1 = 114 ∨ x1 = 115
  · refine ⟨.inr (nI (fb_ct (fun j => decide (knd st j = x1)) (xN st 1))), st, nI (fb_ct (fun j => decide (knd st j = x1)) (xN st 1)), setS ms 0 0, ?_, ?_, I.code 0, no_l, code_0 _ _, yes_r rfl⟩
    · have e : f_X5_notes_34 st x1 = some (.inr (nI (fb_ct (fun j => decide (knd st j = x1)) (xN st 1))), st) := by
        rw [f_X5_notes_34, p_notes hb, bd_some]
      unfold f_X5_notes
      rw [e]
      rcases hc with rfl | rfl | rfl | rfl
      · rw [bi_pos rfl]
      · rw [bi_neg (by decide), bi_pos rfl]
      · rw [bi_neg (by decide), bi_neg (by decide), bi_pos rfl]
      · rw [bi_neg (by decide), bi_neg (by decide), bi_neg (by decide), bi_pos rfl]
    · have hg := r_notes_go (x := x1) hb (h.code 0) FU 0 (Nat.zero_le _) (by have := hb.k40; show _ < 0 + 1000000; omega)
      have hg : f_X6_notes_42 FU (setS ms 0 0) x1 0 0 = some (nI (fb_ct (fun j => decide (knd st j = x1)) (xN st 1)), setS ms 0 0) := hg
      have e : f_X6_notes_25 ms x1 = some (nI (fb_ct (fun j => decide (knd st j = x1)) (xN st 1)), setS ms 0 0) := by
        rw [f_X6_notes_25, f_X6_notes_30, p_fails0, bd_some, bi_pos rfl, hg]
      unfold f_X6_notes
      rw [e]
      rcases hc with rfl | rfl | rfl | rfl
      · rw [bi_pos rfl]
      · rw [bi_neg (by decide), bi_pos rfl]
      · rw [bi_neg (by decide), bi_neg (by decide), bi_pos rfl]
      · rw [bi_neg (by decide), bi_neg (by decide), bi_neg (by decide), bi_pos rfl]
  · have c1 : ¬ x1 = 111 := fun e => hc (Or.inl e)
    have c2 : ¬ x1 = 100 := fun e => hc (Or.inr (Or.inl e))
    have c3 : ¬ x1 = 114 := fun e => hc (Or.inr (Or.inr (Or.inl e)))
    have c4 : ¬ x1 = 115 := fun e => hc (Or.inr (Or.inr (Or.inr e)))
    refine ⟨.inl 0, st, 0, setS ms 0 1, ?_, ?_, I.code 1, yes_l (by decide), code_0 _ _, no_r⟩
    · simp only [f_X5_notes, eq_false c1, eq_false c2, eq_false c3, eq_false c4, bi_F]
    · simp only [f_X6_notes, eq_false c1, eq_false c2, eq_false c3, eq_false c4, bi_F, f_X6_notes_30, p_fails1, bd_some, e10]
end A6
