/-! Agreements: one shot's numbers. -/
theorem bi_T {α : Type} (a b : Option α) : bi True a b = a := bi_pos trivial a b
theorem bi_F {α : Type} (a b : Option α) : bi False a b = b := bi_neg (fun h => h) a b
theorem gd_T {α : Type} (a : Option α) : gd True a = a := gd_pos trivial a
theorem e10 : ((1 : Int32) = 0) = False := by decide
theorem e00 : ((0 : Int32) = 0) = True := by decide
theorem no_l {α : Type} {x : α} {L : List Nat} : ∀ k, (Sum.inr x : Nat ⊕ α) = .inl k → k ∈ L := fun k hk => by cases hk
theorem yes_l {α : Type} {e : Nat} {L : List Nat} (h : e ∈ L) : ∀ k, (Sum.inl e : Nat ⊕ α) = .inl k → k ∈ L := fun k hk => by cases hk; exact h
theorem no_r {α : Type} {e : Nat} {P : α → Prop} : ∀ x, (Sum.inl e : Nat ⊕ α) = .inr x → P x := fun x hx => by cases hx
theorem yes_r {α : Type} {y : α} {P : α → Prop} (h : P y) : ∀ x, (Sum.inr y : Nat ⊕ α) = .inr x → P x := fun x hx => by cases hx; exact h
theorem vp_c {i c : Nat} (hi : i < 24) (hc : c < 4) {j : Nat} (hj : mln j = 96) : vp_in (4 * nI i + nI c) (mln j) := by
  rw [show (4 : Int32) = nI 4 from rfl, show nI 4 * nI i = nI (4 * i) from (Int32.ofNat_mul 4 i).symm, nI_add, hj]
  exact vp_in_nI (by omega) (by decide)
theorem p_4c {i c : Nat} (hi : i < 24) (hc : c < 4) : (4 * nI i + nI c).toNatClampNeg = 4 * i + c := by
  rw [show (4 : Int32) = nI 4 from rfl, show nI 4 * nI i = nI (4 * i) from (Int32.ofNat_mul 4 i).symm, nI_add, nI_clamp (by omega)]
theorem ag_shots {st : XS} {ms : MS} (I : INV st ms) : ∃ r st' ms', f_X5_shots st = some (r, st') ∧ f_X6_shots ms = some (r, ms') ∧ INV st' ms' := by
  refine ⟨nI (xL st 1).length, st, setS ms 0 0, rfl, ?_, I.code 0⟩
  rw [f_X6_shots, sS_1, if_neg (by decide), I.2.2.1]
theorem ag_conflicts {st : XS} {ms : MS} (I : INV st ms) : ∃ r st' ms', f_X5_conflicts st = some (r, st') ∧ f_X6_conflicts ms = some (r, ms') ∧ INV st' ms' := by
  refine ⟨xF st 0 0 5, st, setS ms 0 0, rfl, ?_, I.code 0⟩
  rw [f_X6_conflicts, sS_1, if_neg (by decide), I.2.2.2.2.1]
theorem ag_at {st : XS} {ms : MS} (I : INV st ms) {x1 : Int32} : ∃ r st' b ms', f_X5_at st x1 = some (r, st') ∧ f_X6_at ms x1 = some (b, ms') ∧ INV st' ms' ∧ (∀ k, r = .inl k → k ∈ [4]) ∧ ms'.1 0 = lwc [4] r ∧ ∀ x, r = .inr x → x = b := by
  have hb := I.1
  have h := I.2
  have hlen := hb.len
  rcases p_rng (N := (xL st 1).length) (by omega) x1 with ⟨k, hk, rfl⟩ | hx
  · refine ⟨.inr (nI ((xL st 1).getD k 0)), st, nI ((xL st 1).getD k 0), setS ms 0 0, ?_, ?_, I.code 0, no_l, code_0 _ _, yes_r rfl⟩
    · unfold f_X5_at
      rw [bi_in (by omega) hk, gd_pos (vp_in_nI hk (by omega)), nI_clamp (by omega), gd_pos (hb.get hk)]
    · simp only [f_X6_at, p_in, bd_some, h.2.1, b2i_t (p_rin (show (xL st 1).length < 2 ^ 31 by omega) hk), e10, bi_F, f_X6_at_20, p_fails0, e00, bi_T, gd_pos (vp24 (show k < 24 by omega) (j := 3) rfl), f_X6_at_36, sS_2, nI_clamp (show k < 2 ^ 31 by omega), r_get hb h hk]
  · refine ⟨.inl 4, st, 0, setS ms 0 1, ?_, ?_, I.code 1, yes_l (by decide), code_0 _ _, no_r⟩
    · unfold f_X5_at f_X5_at_15
      rw [bi_out hx]
    · simp only [f_X6_at, p_in, bd_some, h.2.1, b2i_f (p_rout (show (xL st 1).length < 2 ^ 31 by omega) hx), e00, bi_T, f_X6_at_20, p_fails1, e10, bi_F, f_X6_at_36]
theorem ag_version {st : XS} {ms : MS} (I : INV st ms) {x1 : Int32} : ∃ r st' b ms', f_X5_version st x1 = some (r, st') ∧ f_X6_version ms x1 = some (b, ms') ∧ INV st' ms' ∧ (∀ k, r = .inl k → k ∈ [3]) ∧ ms'.1 0 = lwc [3] r ∧ ∀ x, r = .inr x → x = b := by
  have hb := I.1
  have h := I.2
  have h24 := hb.n24
  rcases p_rng (N := xN st 0) (by omega) x1 with ⟨i, hi, rfl⟩ | hx
  · refine ⟨.inr (xF st 1 i 6), st, xF st 1 i 6, setS ms 0 0, ?_, ?_, I.code 0, no_l, code_0 _ _, yes_r rfl⟩
    · simp only [f_X5_version, p_made hb hi, bdx_r, gd_pos hi]
    · simp only [f_X6_version, p_isShot hb h hi, bd_some, e10, bi_F, f_X6_version_14, p_fails0, e00, bi_T, gd_pos (vp24 (show i < 24 by omega) (j := 7) rfl), f_X6_version_30, sS_2, nI_clamp (show i < 2 ^ 31 by omega), (r_shot h hi).2.2.2.1]
  · refine ⟨.inl 3, st, 0, setS ms 0 1, ?_, ?_, I.code 1, yes_l (by decide), code_0 _ _, no_r⟩
    · simp only [f_X5_version, p_made_no hb hx, bdx_l]
    · simp only [f_X6_version, p_isShot_no hb h hx, bd_some, e00, bi_T, f_X6_version_14, p_fails1, e10, bi_F, f_X6_version_30]
theorem ag_place {st : XS} {ms : MS} (I : INV st ms) {x1 : Int32} : ∃ r st' b ms', f_X5_place st x1 = some (r, st') ∧ f_X6_place ms x1 = some (b, ms') ∧ INV st' ms' ∧ (∀ k, r = .inl k → k ∈ [3, 4]) ∧ ms'.1 0 = lwc [3, 4] r ∧ ∀ x, r = .inr x → x = b := by
  have hb := I.1
  have h := I.2
  have h24 := hb.n24
  rcases p_rng (N := xN st 0) (by omega) x1 with ⟨i, hi, rfl⟩ | hx
  · by_cases hm : i ∈ xL st 1
    · refine ⟨.inr (nI ((xL st 1).idxOf i)), st, nI ((xL st 1).idxOf i), setS ms 0 0, ?_, ?_, I.code 0, no_l, code_0 _ _, yes_r rfl⟩
      · simp only [f_X5_place, p_made hb hi, bdx_r, p_found hb hi hm]
      · simp only [f_X6_place, p_isShot hb h hi, bd_some, e10, bi_F, r_placeOf hb h hi, r_placeOf hb (h.code 0) hi, eq_true ((plc_ge hb.len).mpr hm), bi_T, f_X6_place_26, p_fails0, e00, f_X6_place_41, plc_in hm]
        rw [bi_pos (by rw [← plc_in hm]; exact (plc_ge hb.len).mpr hm)]
    · refine ⟨.inl 4, st, 0, setS ms 0 2, ?_, ?_, I.code 2, yes_l (by decide), code_0 _ _, no_r⟩
      · simp only [f_X5_place, p_made hb hi, bdx_r, p_found_no hb hi hm, bdx_l]
      · simp only [f_X6_place, p_isShot hb h hi, bd_some, e10, bi_F, r_placeOf hb h hi, eq_false (fun h2 => hm ((plc_ge hb.len).mp h2)), f_X6_place_26, p_fails2, f_X6_place_41]
  · refine ⟨.inl 3, st, 0, setS ms 0 1, ?_, ?_, I.code 1, yes_l (by decide), code_0 _ _, no_r⟩
    · simp only [f_X5_place, p_made_no hb hx, bdx_l]
    · simp only [f_X6_place, p_isShot_no hb h hx, bd_some, e00, bi_T, f_X6_place_26, p_fails1, e10, bi_F, f_X6_place_41]
