/-! Agreements: cuts. -/
section A8
variable {st : XS} {ms : MS}
def exS (st : XS) (b a : Nat) : Int32 := if decide (xF st 2 b 1 = xF st 1 b 6) && decide (xF st 2 b 2 = nI a) && decide (xF st 2 b 3 = xF st 1 a 6) then xF st 2 b 0 else 45
theorem BI.cause (h : BI st) {i : Nat} (hi : i < xN st 0) : xF st 2 i 0 = 45 ∨ xF st 2 i 0 = 120 ∨ xF st 2 i 0 = 106 ∨ xF st 2 i 0 = 103 ∨ xF st 2 i 0 = 101 ∨ xF st 2 i 0 = 109 := (h.sok hi).2.2.2.2.2.2.1
theorem cause_nc (hb : BI st) {i : Nat} (hi : i < xN st 0) : narrow .char (.int (xF st 2 i 0)) = .int (xF st 2 i 0) := by
  rcases hb.cause hi with e | e | e | e | e | e <;> rw [e] <;> rfl
theorem exS_nc (hb : BI st) {b a : Nat} (hi : b < xN st 0) : narrow .char (.int (exS st b a)) = .int (exS st b a) := by
  unfold exS
  by_cases h : (decide (xF st 2 b 1 = xF st 1 b 6) && decide (xF st 2 b 2 = nI a) && decide (xF st 2 b 3 = xF st 1 a 6)) = true
  · rw [if_pos h]; exact cause_nc hb hi
  · rw [if_neg h]; rfl
theorem p_exc (hb : BI st) {b a : Nat} (h1 : b < xN st 0) (h2 : a < xN st 0) : f_X4_excusedFor st b a = some (exS st b a, st) := by
  have hn := cause_nc hb h1
  have n0 : f_X3_holds_37 st = some (0, st) := by rw [f_X3_holds_37, f_X3_holds_38, gd_pos nb_0]
  have n1 : f_X3_holds_38 st 1 = some (1, st) := by rw [f_X3_holds_38, gd_pos nb_1]
  have n45 : f_X4_excusedFor_24 st 45 = some (45, st) := by rw [f_X4_excusedFor_24, gd_pos (by rfl)]
  have nc : f_X4_excusedFor_24 st (xF st 2 b 0) = some (xF st 2 b 0, st) := by rw [f_X4_excusedFor_24, gd_pos hn]
  have hh : f_X3_holds st b b a = some (tI (decide (xF st 2 b 1 = xF st 1 b 6) && decide (xF st 2 b 2 = nI a) && decide (xF st 2 b 3 = xF st 1 a 6)), st) := by
    unfold f_X3_holds
    rw [gd_pos h1, gd_pos h1, gd_pos h2, n0, n1]
    simp only [bi_d]
    by_cases e1 : xF st 2 b 1 = xF st 1 b 6 <;> by_cases e2 : xF st 2 b 2 = nI a <;> by_cases e3 : xF st 2 b 3 = xF st 1 a 6 <;> simp [e1, e2, e3, tI]
  unfold f_X4_excusedFor exS
  rw [gd_pos h1, hh, bd_some, gd_pos h1, n45, nc]
  cases (decide (xF st 2 b 1 = xF st 1 b 6) && decide (xF st 2 b 2 = nI a) && decide (xF st 2 b 3 = xF st 1 a 6))
  · rw [tI_f, bi_pos rfl]; rfl
  · rw [tI_t, bi_neg (by decide)]; rfl
theorem r_exc (hb : BI st) (h : RE st ms) {k : Nat} (h1 : 1 ≤ k) (hk : k < (xL st 1).length) : f_X6_excuseAt ms (nI k) = some (exS st ((xL st 1).getD k 0) ((xL st 1).getD (k - 1) 0), ms) := by
  have h24 := hb.n24
  have hlen := hb.len
  have g1 := hb.get hk
  have g2 := hb.get (show k - 1 < (xL st 1).length by omega)
  have ek : nI k - 1 = nI (k - 1) := by
    obtain ⟨j, rfl⟩ : ∃ j, k = j + 1 := ⟨k - 1, by omega⟩
    rw [nI_pred]; rfl
  have q1 := r_get hb h hk
  have q2 := r_get hb h (show k - 1 < (xL st 1).length by omega)
  have hr := r_shot h g1
  have hr2 := r_shot h g2
  have hn := cause_nc hb g1
  unfold f_X6_excuseAt
  rw [ek, gd_pos (vp24 (by omega) rfl), gd_pos (vp24 (by omega) rfl), nI_clamp (show k < 2 ^ 31 by omega), nI_clamp (show k - 1 < 2 ^ 31 by omega), q1, q2]
  generalize (xL st 1).getD k 0 = b at *
  generalize (xL st 1).getD (k - 1) 0 = a at *
  rw [nI_clamp (show b < 2 ^ 31 by omega), nI_clamp (show a < 2 ^ 31 by omega), gd_pos (vp24 (by omega) rfl), gd_pos (vp24 (by omega) rfl), gd_pos (vp24 (by omega) rfl), gd_pos (vp24 (by omega) rfl), gd_pos (vp24 (by omega) rfl)]
  have r17 : ms.2 17 b = xF st 2 b 1 := hr.2.2.2.2.2.2.2.2.1
  have r18 : ms.2 18 b = xF st 2 b 2 := hr.2.2.2.2.2.2.2.2.2.1
  have r19 : ms.2 19 b = xF st 2 b 3 := hr.2.2.2.2.2.2.2.2.2.2.1
  have r16 : ms.2 16 b = xF st 2 b 0 := hr.2.2.2.2.2.2.2.1
  rw [r17, r18, r19, hr.2.2.2.1, hr2.2.2.2.1]
  have e0 : f_X6_excuseAt_60 ms (nI b) = some (45, ms) := by
    rw [f_X6_excuseAt_60, f_X6_excuseAt_61, bi_pos rfl, f_X6_excuseAt_79, gd_pos (by rfl)]
  have e1 : f_X6_excuseAt_61 ms (nI b) 1 = some (xF st 2 b 0, ms) := by
    rw [f_X6_excuseAt_61, bi_neg (by decide), gd_pos (vp24 (by omega) rfl), nI_clamp (by omega), r16, f_X6_excuseAt_79, gd_pos hn]
  rw [e0, e1]
  unfold exS
  simp only [bi_d]
  by_cases z1 : xF st 2 b 1 = xF st 1 b 6 <;> by_cases z2 : xF st 2 b 2 = nI a <;> by_cases z3 : xF st 2 b 3 = xF st 1 a 6 <;> simp [z1, z2, z3]
theorem p_cutin {k : Nat} (hb : BI st) (h1 : 1 ≤ k) (hk : k < (xL st 1).length) : f_X5_checkCut st (nI k) = some (.inr (), st) := by
  have := hb.len
  unfold f_X5_checkCut
  rw [bi_neg (by rw [show (1 : Int32) = nI 1 from rfl, nI_ltI (by omega) (by decide)]; omega), bi_pos (nI_lt hk (by omega))]
theorem p_cut (hb : BI st) (x : Int32) : (∃ k, 1 ≤ k ∧ k < (xL st 1).length ∧ x = nI k) ∨ (f_X5_checkCut st x = some (.inl 4, st) ∧ ¬ (1 ≤ x ∧ x ≤ nI (xL st 1).length - 1)) := by
  have hl := hb.len
  by_cases h : 1 ≤ x ∧ x < nI (xL st 1).length
  · rcases p_rng (N := (xL st 1).length) (by omega) x with ⟨k, hk, rfl⟩ | hx
    · refine Or.inl ⟨k, ?_, hk, rfl⟩
      have := h.1
      rw [show (1 : Int32) = nI 1 from rfl, nI_leI (by decide) (by omega)] at this
      exact this
    · rcases hx with hx | hx
      · have h1 := h.1
        rw [Int32.le_iff_toInt_le] at h1
        rw [Int32.lt_iff_toInt_lt] at hx
        have : (1 : Int32).toInt = 1 := rfl
        have : (0 : Int32).toInt = 0 := rfl
        omega
      · have h2 := h.2
        rw [Int32.lt_iff_toInt_lt] at h2
        rw [Int32.le_iff_toInt_le] at hx
        omega
  · refine Or.inr ⟨?_, fun z => h ⟨z.1, (p_le1 (by omega) x).mp z.2⟩⟩
    unfold f_X5_checkCut f_X5_checkCut_16
    by_cases h1 : x < 1
    · rw [bi_pos h1]
    · rw [bi_neg h1, bi_neg (fun h2 => h ⟨Classical.not_not.mp (fun z => h1 ((i_lt1 x).mpr z)), h2⟩)]
theorem p_rcut {k : Nat} (hb : BI st) (h1 : 1 ≤ k) (hk : k < (xL st 1).length) : 1 ≤ nI k ∧ nI k ≤ nI (xL st 1).length - 1 := by
  have := hb.len
  exact ⟨nI_le (a := 1) h1 (by omega), (p_le1 (by omega) _).mpr (nI_lt hk (by omega))⟩
theorem p_km1 {k : Nat} (h1 : 1 ≤ k) : nI k - 1 = nI (k - 1) := by
  obtain ⟨j, rfl⟩ : ∃ j, k = j + 1 := ⟨k - 1, by omega⟩
  rw [nI_pred]; rfl
theorem ag_wrong (I : INV st ms) {x1 : Int32} : ∃ r st' b ms', f_X5_wrong st x1 = some (r, st') ∧ f_X6_wrong ms x1 = some (b, ms') ∧ INV st' ms' ∧ (∀ k, r = .inl k → k ∈ [4]) ∧ ms'.1 0 = lwc [4] r ∧ ∀ x, r = .inr x → x = b := by
  have hb := I.1
  have h := I.2
  have hlen := hb.len
  have n32 : narrow .char (.int 32) = .int 32 := rfl
  rcases p_cut hb x1 with ⟨k, h1, hk, rfl⟩ | ⟨hc, hx⟩
  · have g1 := hb.get hk
    have hk2 : k - 1 < (xL st 1).length := by omega
    have g2 := hb.get hk2
    have hn := flt_nc st ((xL st 1).getD (k - 1) 0) ((xL st 1).getD k 0)
    refine ⟨.inr (flt st ((xL st 1).getD (k - 1) 0) ((xL st 1).getD k 0)), st, flt st ((xL st 1).getD (k - 1) 0) ((xL st 1).getD k 0), setS ms 0 0, ?_, ?_, I.code 0, no_l, code_0 _ _, yes_r rfl⟩
    · simp only [f_X5_wrong, p_cutin hb h1 hk, bdx_r, p_km1 h1, gd_pos (vp_in_nI hk2 (show (xL st 1).length < 2 ^ 31 by omega)), gd_pos (vp_in_nI hk (show (xL st 1).length < 2 ^ 31 by omega)), nI_clamp (show k < 2 ^ 31 by omega), nI_clamp (show k - 1 < 2 ^ 31 by omega), gd_pos g1, gd_pos g2, p_fault g2 g1, bd_some, gd_pos hn]
    · simp only [f_X6_wrong, p_in, bd_some, h.2.1, b2i_t (p_rcut hb h1 hk), e10, bi_F, f_X6_wrong_20, p_fails0, e00, bi_T, p_km1 h1, gd_pos (vp24 (show k < 24 by omega) (j := 3) rfl), gd_pos (vp24 (show k - 1 < 24 by omega) (j := 3) rfl), nI_clamp (show k < 2 ^ 31 by omega), nI_clamp (show k - 1 < 2 ^ 31 by omega), sS_2, r_get hb h hk, r_get hb h hk2, r_wrong hb (h.code 0).rt g2 g1, f_X6_wrong_49, gd_pos hn]
  · refine ⟨.inl 4, st, 32, setS ms 0 1, ?_, ?_, I.code 1, yes_l (by decide), code_0 _ _, no_r⟩
    · simp only [f_X5_wrong, hc, bdx_l]
    · simp only [f_X6_wrong, p_in, bd_some, h.2.1, b2i_f hx, e00, bi_T, f_X6_wrong_20, p_fails1, e10, bi_F, f_X6_wrong_49, gd_pos n32]
def brk (st : XS) (a b : Nat) : Bool := decide (flt st a b ≠ 45) && decide (flt st a b ≠ exS st b a)
theorem p_brk (hb : BI st) {a b : Nat} (h1 : a < xN st 0) (h2 : b < xN st 0) : f_X5_isBrokenBetween st a b = some (tI (brk st a b), st) := by
  have n0 : f_X5_isBrokenBetween_25 st = some (0, st) := by rw [f_X5_isBrokenBetween_25, f_X5_isBrokenBetween_26, gd_pos nb_0]
  have n1 : f_X5_isBrokenBetween_26 st 1 = some (1, st) := by rw [f_X5_isBrokenBetween_26, gd_pos nb_1]
  unfold f_X5_isBrokenBetween brk
  rw [p_fault h1 h2, bd_some, gd_pos h2, p_exc hb h2 h1, bd_some, n0, n1]
  simp only [bi_d]
  by_cases e1 : flt st a b = 45 <;> by_cases e2 : flt st a b = exS st b a <;> simp [e1, e2, tI]
  all_goals simp_all
theorem r_brk (hb : BI st) (h : RE st ms) {k : Nat} (h1 : 1 ≤ k) (hk : k < (xL st 1).length) : f_X6_isBrokenAt ms (nI k) = some (tI (brk st ((xL st 1).getD (k - 1) 0) ((xL st 1).getD k 0)), ms) := by
  have hlen := hb.len
  have g1 := hb.get hk
  have hk2 : k - 1 < (xL st 1).length := by omega
  have g2 := hb.get hk2
  have n0 : f_X6_isBrokenAt_38 ms = some (0, ms) := by rw [f_X6_isBrokenAt_38, f_X6_isBrokenAt_39, gd_pos nb_0]
  have n1 : f_X6_isBrokenAt_39 ms 1 = some (1, ms) := by rw [f_X6_isBrokenAt_39, gd_pos nb_1]
  unfold f_X6_isBrokenAt brk
  rw [p_km1 h1, gd_pos (vp24 (by omega) rfl), gd_pos (vp24 (by omega) rfl), nI_clamp (by omega), nI_clamp (by omega), r_get hb h hk, r_get hb h hk2, r_wrong hb h.rt g2 g1, bd_some, r_exc hb h h1 hk, bd_some, n0, n1]
  simp only [bi_d]
  generalize (xL st 1).getD (k - 1) 0 = a
  generalize (xL st 1).getD k 0 = b
  by_cases e1 : flt st a b = 45 <;> by_cases e2 : flt st a b = exS st b a
  · simp [e1, tI]
  · simp [e1, tI]
  · simp [e1, e2, tI]
  · have e3 : ¬ exS st b a = flt st a b := fun z => e2 z.symm
    simp [e1, e2, e3, tI]
theorem ag_isBroken (I : INV st ms) {x1 : Int32} : ∃ r st' b ms', f_X5_isBroken st x1 = some (r, st') ∧ f_X6_isBroken ms x1 = some (b, ms') ∧ INV st' ms' ∧ (∀ k, r = .inl k → k ∈ [4]) ∧ ms'.1 0 = lwc [4] r ∧ ∀ x, r = .inr x → x = b := by
  have hb := I.1
  have h := I.2
  have hlen := hb.len
  rcases p_cut hb x1 with ⟨k, h1, hk, rfl⟩ | ⟨hc, hx⟩
  · have g1 := hb.get hk
    have hk2 : k - 1 < (xL st 1).length := by omega
    have g2 := hb.get hk2
    refine ⟨.inr (tI (brk st ((xL st 1).getD (k - 1) 0) ((xL st 1).getD k 0))), st, tI (brk st ((xL st 1).getD (k - 1) 0) ((xL st 1).getD k 0)), setS ms 0 0, ?_, ?_, I.code 0, no_l, code_0 _ _, yes_r rfl⟩
    · simp only [f_X5_isBroken, p_cutin hb h1 hk, bdx_r, p_km1 h1, gd_pos (vp_in_nI hk2 (show (xL st 1).length < 2 ^ 31 by omega)), gd_pos (vp_in_nI hk (show (xL st 1).length < 2 ^ 31 by omega)), nI_clamp (show k < 2 ^ 31 by omega), nI_clamp (show k - 1 < 2 ^ 31 by omega), gd_pos g1, gd_pos g2, p_brk hb g2 g1, bd_some, gd_pos (tI_nb _)]
    · simp only [f_X6_isBroken, p_in, bd_some, h.2.1, b2i_t (p_rcut hb h1 hk), e10, bi_F, f_X6_isBroken_20, p_fails0, e00, bi_T, r_brk hb (h.code 0) h1 hk, f_X6_isBroken_38, f_X6_isBroken_39]
      cases brk st ((xL st 1).getD (k - 1) 0) ((xL st 1).getD k 0)
      · rw [tI_f, bi_pos rfl, gd_pos nb_0]
      · rw [tI_t, bi_neg (by decide), gd_pos nb_1]
  · refine ⟨.inl 4, st, 0, setS ms 0 1, ?_, ?_, I.code 1, yes_l (by decide), code_0 _ _, no_r⟩
    · simp only [f_X5_isBroken, hc, bdx_l]
    · simp only [f_X6_isBroken, p_in, bd_some, h.2.1, b2i_f hx, e00, bi_T, f_X6_isBroken_20, p_fails1, e10, bi_F, f_X6_isBroken_38, f_X6_isBroken_39, gd_pos nb_0]
def bkp (st : XS) (j : Nat) : Bool := decide (1 ≤ j) && brk st ((xL st 1).getD (j - 1) 0) ((xL st 1).getD j 0)
def bkc (st : XS) : Nat := fb_ct (bkp st) (xL st 1).length
theorem p_bk_go (hb : BI st) : ∀ (n k : Nat), 1 ≤ k → k ≤ (xL st 1).length → (xL st 1).length < k + n → f_X5_brokenCuts_4 n st (nI (fb_ct (bkp st) k)) (nI k) = some (nI (bkc st), st) := by
  have hlen := hb.len
  intro n
  induction n with
  | zero => intro k h1 h2; omega
  | succ n ih =>
    intro k h0 h1 h2
    rw [f_X5_brokenCuts_4]
    by_cases hk : k = (xL st 1).length
    · rw [bi_pos (nI_le (by omega) (by omega)), hk]
      rfl
    · have hk' : k < (xL st 1).length := by omega
      have hk2 : k - 1 < (xL st 1).length := by omega
      rw [bi_neg (nI_ge (by omega) (by omega)), p_km1 h0, gd_pos (vp_in_nI hk2 (by omega)), gd_pos (vp_in_nI hk' (by omega)), nI_clamp (show k < 2 ^ 31 by omega), nI_clamp (show k - 1 < 2 ^ 31 by omega), gd_pos (hb.get hk2), gd_pos (hb.get hk'), p_brk hb (hb.get hk2) (hb.get hk'), bd_some]
      unfold f_X5_brokenCuts_48
      have := ih (k + 1) (by omega) (by omega) (by omega)
      rw [fb_ct_succ] at this
      have e : bkp st k = brk st ((xL st 1).getD (k - 1) 0) ((xL st 1).getD k 0) := by
        unfold bkp
        simp [h0]
      rw [e] at this
      revert this
      cases brk st ((xL st 1).getD (k - 1) 0) ((xL st 1).getD k 0)
      · intro this
        rw [tI_f, bi_pos rfl, nI_1]
        exact this
      · intro this
        rw [tI_t, bi_neg (by decide), nI_1, nI_1]
        exact this
theorem p_bk (hb : BI st) : f_X5_brokenCuts st = some (nI (bkc st), st) := by
  have hlen := hb.len
  unfold f_X5_brokenCuts
  by_cases h0 : (xL st 1).length = 0
  · show f_X5_brokenCuts_4 (999999 + 1) st 0 1 = _
    rw [f_X5_brokenCuts_4, h0, bi_pos (by decide)]
    unfold bkc
    rw [h0]
    rfl
  · have := p_bk_go hb FU 1 (Nat.le_refl 1) (by omega) (by show _ < 1 + 1000000; omega)
    exact this
theorem r_bk_go (hb : BI st) (h : RE st ms) : ∀ (n k : Nat), 1 ≤ k → k ≤ (xL st 1).length → (xL st 1).length < k + n → f_X6_countBroken_4 n ms (nI (fb_ct (bkp st) k)) (nI k) = some (nI (bkc st), ms) := by
  have hlen := hb.len
  intro n
  induction n with
  | zero => intro k h1 h2; omega
  | succ n ih =>
    intro k h0 h1 h2
    rw [f_X6_countBroken_4, h.2.1]
    by_cases hk : k = (xL st 1).length
    · rw [bi_pos (nI_le (by omega) (by omega)), hk]
      rfl
    · have hk' : k < (xL st 1).length := by omega
      rw [bi_neg (nI_ge (by omega) (by omega)), r_brk hb h h0 hk', bd_some]
      unfold f_X6_countBroken_27
      have := ih (k + 1) (by omega) (by omega) (by omega)
      rw [fb_ct_succ] at this
      have e : bkp st k = brk st ((xL st 1).getD (k - 1) 0) ((xL st 1).getD k 0) := by
        unfold bkp
        simp [h0]
      rw [e] at this
      revert this
      cases brk st ((xL st 1).getD (k - 1) 0) ((xL st 1).getD k 0)
      · intro this
        rw [tI_f, bi_pos rfl, nI_1]
        exact this
      · intro this
        rw [tI_t, bi_neg (by decide), nI_1, nI_1]
        exact this
theorem r_bk (hb : BI st) (h : RE st ms) : f_X6_countBroken ms = some (nI (bkc st), ms) := by
  have hlen := hb.len
  unfold f_X6_countBroken
  by_cases h0 : (xL st 1).length = 0
  · show f_X6_countBroken_4 (999999 + 1) ms 0 1 = _
    rw [f_X6_countBroken_4, h.2.1, h0, bi_pos (by decide)]
    unfold bkc
    rw [h0]
    rfl
  · have := r_bk_go hb h FU 1 (Nat.le_refl 1) (by omega) (by show _ < 1 + 1000000; omega)
    exact this
theorem ag_broken (I : INV st ms) : ∃ r st' ms', f_X5_broken st = some (r, st') ∧ f_X6_broken ms = some (r, ms') ∧ INV st' ms' := by
  refine ⟨nI (bkc st), st, setS ms 0 0, ?_, ?_, I.code 0⟩
  · rw [f_X5_broken, p_bk I.1, bd_some]
  · rw [f_X6_broken, r_bk I.1 (I.2.code 0), bd_some]
end A8
