/-! Agreements: checksum, brokenShare, meanLength. -/
section B3
variable {st : XS} {ms : MS}
theorem ck_notes (hb : BI st) (h : RE st ms) : ∀ (n k : Nat) (a : Int64), k ≤ xN st 1 → xN st 1 < k + n → ∃ v, f_X5_checksum_77 n st a (nI k) = some (v, st) ∧ f_X6_checksum_75 n ms a (nI k) = some (v, ms) := by
  have h40 := hb.k40
  have e : xL st 2 = List.range (xN st 1) := hb.2.2.2.2.1
  have el : (xL st 2).length = xN st 1 := by rw [e, List.length_range]
  intro n
  induction n with
  | zero => intro k a h1 h2; omega
  | succ n ih =>
    intro k a h1 h2
    rw [f_X5_checksum_77, f_X6_checksum_75, el, h.2.2.2.2.1]
    by_cases hk : k = xN st 1
    · refine ⟨a, ?_, ?_⟩ <;> rw [bi_pos (nI_le (by omega) (by omega))]
    · have hk' : k < xN st 1 := by omega
      rw [bi_neg (nI_ge (by omega) (by omega)), bi_neg (nI_ge (by omega) (by omega)), gd_pos (vp_in_nI hk' (by omega)), nI_clamp (by omega), e, p_range hk', gd_pos hk', p_kind hb hk', r_isNow hb h hk', bd_some, bd_some, nI_1]
      exact ih (k + 1) _ (by omega) (by omega)
theorem ck_reel (hb : BI st) (h : RE st ms) : ∀ (n k : Nat) (a : Int64), k ≤ (xL st 1).length → (xL st 1).length < k + n → ∃ v, f_X5_checksum_6 n st a (nI k) = some (v, st) ∧ f_X6_checksum_11 n ms a (nI k) = some (v, ms) := by
  have hlen := hb.len
  have h24 := hb.n24
  have h40 := hb.k40
  intro n
  induction n with
  | zero => intro k a h1 h2; omega
  | succ n ih =>
    intro k a h1 h2
    rw [f_X5_checksum_6, f_X6_checksum_11, h.2.1]
    by_cases hk : k = (xL st 1).length
    · rw [bi_pos (nI_le (by omega) (by omega)), bi_pos (nI_le (by omega) (by omega))]
      exact ck_notes hb h FU 0 a (Nat.zero_le _) (by show _ < 0 + 1000000; omega)
    · have hk' : k < (xL st 1).length := by omega
      have hg := hb.get hk'
      have hr := r_shot h hg
      rw [bi_neg (nI_ge (by omega) (by omega)), bi_neg (nI_ge (by omega) (by omega)), gd_pos (vp_in_nI hk' (by omega)), nI_clamp (by omega), gd_pos hg]
      rw [gd_pos (vp24 (by omega) rfl), gd_pos (vp24 (by omega) rfl), r_get hb h hk', gd_pos (vp24 (by omega) rfl), gd_pos (vp24 (by omega) rfl), gd_pos (vp24 (by omega) rfl), nI_clamp (by omega), hr.2.2.1, hr.2.2.2.1, nI_1]
      exact ih (k + 1) _ (by omega) (by omega)
theorem ag_checksum (I : INV st ms) : ∃ r st' ms', f_X5_checksum st = some (r, st') ∧ f_X6_checksum ms = some (r, ms') ∧ INV st' ms' := by
  have hb := I.1
  have hlen := hb.len
  obtain ⟨v, h1, h2⟩ := ck_reel hb (I.code 0).2 FU 0 7 (Nat.zero_le _) (by show _ < 0 + 1000000; omega)
  exact ⟨v, st, setS ms 0 0, h1, h2, I.code 0⟩
/-! shares -/
theorem vf64_of {x : UInt64} (h : FP.Core.dIsNaN x = false) : vf_n64 x := by
  unfold vf_n64
  have h1 := Classical.not_not.mp (fun z => by
    have := (FP.Core.isNaN_bits x).mpr (Nat.lt_of_not_le z)
    rw [h] at this
    cases this)
  rw [UInt64.le_iff_toNat_le, UInt64.toNat_and]
  show x.toNat &&& (2 ^ 63 - 1) ≤ _
  rw [Nat.and_two_pow_sub_one_eq_mod]
  exact h1
theorem of_vf64 {x : UInt64} (h : vf_n64 x) : FP.Core.dIsNaN x = false := by
  unfold vf_n64 at h
  rw [UInt64.le_iff_toNat_le, UInt64.toNat_and] at h
  have h : x.toNat &&& (2 ^ 63 - 1) ≤ 9218868437227405312 := h
  rw [Nat.and_two_pow_sub_one_eq_mod] at h
  cases e : FP.Core.dIsNaN x with
  | false => rfl
  | true =>
    have := (FP.Core.isNaN_bits x).mp e
    omega
theorem vf32_of {x : UInt32} (h : FP.Core.fIsNaN x = false) : vf_n32 x := by
  unfold vf_n32
  have h1 := Classical.not_not.mp (fun z => by
    have := (FP.Core.isNaN_bits32 x).mpr (Nat.lt_of_not_le z)
    rw [h] at this
    cases this)
  rw [UInt32.le_iff_toNat_le, UInt32.toNat_and]
  show x.toNat &&& (2 ^ 31 - 1) ≤ _
  rw [Nat.and_two_pow_sub_one_eq_mod]
  exact h1
theorem fdiv_nn {a b : Int32} (h : b ≠ 0) : FP.Core.fIsNaN (FP.fdiv (FP.i2f a) (FP.i2f b)) = false := by
  rw [FP.fdiv_core, FP.i2f_core]
  refine FP.Core.fdiv_out (FP.Core.FFin.notNaN (FP.Core.i2f_fin a)) (FP.Core.i2f_fin b) (fun z => ?_)
  exact FP.Core.i2f_ne_zero h ((FP.Core.zero_bits232 _).mp z)
theorem ddiv_nn {a b : Int32} (h : b ≠ 0) : FP.Core.dIsNaN (FP.ddiv (FP.i2d a) (FP.i2d b)) = false := by
  rw [FP.ddiv_core, FP.i2d_core]
  refine FP.Core.ddiv_out (FP.Core.DFin.notNaN (FP.Core.i2d_fin a)) (FP.Core.i2d_fin b) (fun z => ?_)
  exact FP.Core.i2d_ne_zero h ((FP.Core.zero_bits2 _).mp z)
theorem ag_brokenShare (I : INV st ms) : ∃ r st' b ms', f_X5_brokenShare st = some (r, st') ∧ f_X6_brokenShare ms = some (b, ms') ∧ INV st' ms' ∧ (∀ k, r = .inl k → k ∈ [4]) ∧ ms'.1 0 = lwc [4] r ∧ ∀ x, r = .inr x → x = b ∧ vf_n64 (FP.f2d x) := by
  have hb := I.1
  have h := I.2
  have hlen := hb.len
  have h2 : ms.1 2 = nI (xL st 1).length := h.2.1
  by_cases hc : 2 ≤ (xL st 1).length
  · have e1 : nI (xL st 1).length - 1 = nI ((xL st 1).length - 1) := p_km1 (by omega)
    have hz : nI ((xL st 1).length - 1) ≠ 0 := nI_ne0 (by omega) (by omega)
    have hn := fdiv_nn (a := nI (bkc st)) hz
    have h1 : 1 ≤ nI ((xL st 1).length - 1) := nI_le (a := 1) (by omega) (by omega)
    have h3 : 2 ≤ nI (xL st 1).length := nI_le (a := 2) hc (by omega)
    refine ⟨.inr (FP.fdiv (FP.i2f (nI (bkc st))) (FP.i2f (nI ((xL st 1).length - 1)))), st, FP.fdiv (FP.i2f (nI (bkc st))) (FP.i2f (nI ((xL st 1).length - 1))), setS ms 0 0, ?_, ?_, I.code 0, no_l, code_0 _ _, yes_r ⟨rfl, vf64_of ?_⟩⟩
    · rw [f_X5_brokenShare, e1, bi_pos h1, p_bk hb, bd_some, gd_pos (vf32_of hn)]
    · have h4 : (setS ms 0 0).1 2 = nI (xL st 1).length := by rw [sS_1, if_neg (by decide), h2]
      rw [f_X6_brokenShare, h2, bi_pos h3, f_X6_brokenShare_14, p_fails0, bd_some, bi_pos rfl, r_bk hb (h.code 0), bd_some, h4, e1, gd_pos (vf32_of hn), f_X6_brokenShare_37]
    · rw [← FP.dIsNaN_core, FP.f2d_nan, FP.fIsNaN_core]
      exact hn
  · have h1 : ¬ 1 ≤ nI (xL st 1).length - 1 := fun z => by
      have := (p_le1 (show (xL st 1).length < 2 ^ 31 by omega) 1).mp z
      rw [show (1 : Int32) = nI 1 from rfl, nI_ltI (by decide) (by omega)] at this
      omega
    have h3 : ¬ 2 ≤ nI (xL st 1).length := fun z => by
      rw [show (2 : Int32) = nI 2 from rfl, nI_leI (by decide) (by omega)] at z
      omega
    refine ⟨.inl 4, st, FP.fconst0, setS ms 0 1, ?_, ?_, I.code 1, yes_l (by decide), code_0 _ _, no_r⟩
    · rw [f_X5_brokenShare, bi_neg h1]
    · rw [f_X6_brokenShare, h2, bi_neg h3]
      simp only [f_X6_brokenShare_14, p_fails1, bd_some, e10, bi_F, f_X6_brokenShare_37]
theorem ag_meanLength (I : INV st ms) : ∃ r st' b ms', f_X5_meanLength st = some (r, st') ∧ f_X6_meanLength ms = some (b, ms') ∧ INV st' ms' ∧ (∀ k, r = .inl k → k ∈ [4]) ∧ ms'.1 0 = lwc [4] r ∧ ∀ x, r = .inr x → x = b ∧ vf_n64 x := by
  have hb := I.1
  have h := I.2
  have hlen := hb.len
  have h2 : ms.1 2 = nI (xL st 1).length := h.2.1
  by_cases hc : 1 ≤ (xL st 1).length
  · have hz : nI (xL st 1).length ≠ 0 := nI_ne0 (by omega) (by omega)
    have hn := ddiv_nn (a := nI (fsm st (xL st 1).length)) hz
    have h1 : 1 ≤ nI (xL st 1).length := nI_le (a := 1) (by omega) (by omega)
    refine ⟨.inr (FP.ddiv (FP.i2d (nI (fsm st (xL st 1).length))) (FP.i2d (nI (xL st 1).length))), st, FP.ddiv (FP.i2d (nI (fsm st (xL st 1).length))) (FP.i2d (nI (xL st 1).length)), setS ms 0 0, ?_, ?_, I.code 0, no_l, code_0 _ _, yes_r ⟨rfl, vf64_of hn⟩⟩
    · rw [f_X5_meanLength, bi_pos h1, p_beginOf hb (Nat.le_refl _), bd_some, gd_pos (vf64_of hn)]
    · have h4 : (setS ms 0 0).1 2 = nI (xL st 1).length := by rw [sS_1, if_neg (by decide), h2]
      rw [f_X6_meanLength, h2, bi_neg hz, f_X6_meanLength_13, p_fails0, bd_some, bi_pos rfl, h4, r_begins hb (h.code 0) (Nat.le_refl _), bd_some, h4, gd_pos (vf64_of hn), f_X6_meanLength_38]
  · have h0 : (xL st 1).length = 0 := by omega
    have e0 : nI (xL st 1).length = 0 := by rw [h0]; rfl
    refine ⟨.inl 4, st, FP.dconst0, setS ms 0 1, ?_, ?_, I.code 1, yes_l (by decide), code_0 _ _, no_r⟩
    · rw [f_X5_meanLength, e0, bi_neg (by decide)]
    · rw [f_X6_meanLength, h2, e0, bi_pos rfl]
      simp only [f_X6_meanLength_13, p_fails1, bd_some, e10, bi_F, f_X6_meanLength_38]
/-! isSound -/
theorem u_in (hb : BI st) {i : Nat} (hi : i < (xL st 1).length) (k2 : XS → Int32 → Option (Int32 × XS)) : ∀ (n k : Nat), k ≤ i → i < k + n → f_X5_areNamesUnlike_15 k2 n st (nI i) (nI k) = k2 st (nI (i + 1)) := by
  have hlen := hb.len
  have hg := hb.get hi
  intro n
  induction n with
  | zero => intro k h1 h2; omega
  | succ n ih =>
    intro k h1 h2
    rw [f_X5_areNamesUnlike_15]
    by_cases hk : k = i
    · rw [bi_pos (nI_le (by omega) (by omega)), nI_1]
    · have hk' : k < (xL st 1).length := by omega
      have hg2 := hb.get hk'
      rw [bi_neg (nI_ge (by omega) (by omega)), p_nmA hb hi, bd_some, p_nmA hb hk', bd_some]
      have go : f_X5_areNamesUnlike_66 k2 (f_X5_areNamesUnlike_15 k2 n) st (nI i) (nI k) = k2 st (nI (i + 1)) := by
        rw [f_X5_areNamesUnlike_66, nI_1]
        exact ih (k + 1) (by omega) (by omega)
      by_cases e1 : nmb st ((xL st 1).getD i 0) = nmb st ((xL st 1).getD k 0)
      · rw [bi_pos e1, gd_pos (vp_in_nI hi (by omega)), nI_clamp (by omega), gd_pos hg, gd_pos (vp_in_nI hk' (by omega)), nI_clamp (by omega), gd_pos hg2, bi_neg (fun e2 => hk (get_inj hb.2.2.1 hk' hi (nm_uniq hb (get_mem hk') (get_mem hi) e1.symm e2.symm)))]
        exact go
      · rw [bi_neg e1]
        exact go
theorem u_out (hb : BI st) : ∀ (n k : Nat), k ≤ (xL st 1).length → (xL st 1).length < k + n → f_X5_areNamesUnlike_2 n st (nI k) = some (1, st) := by
  have hlen := hb.len
  intro n
  induction n with
  | zero => intro k h1 h2; omega
  | succ n ih =>
    intro k h1 h2
    rw [f_X5_areNamesUnlike_2]
    by_cases hk : k = (xL st 1).length
    · rw [bi_pos (nI_le (by omega) (by omega))]
    · have hk' : k < (xL st 1).length := by omega
      rw [bi_neg (nI_ge (by omega) (by omega))]
      refine (u_in hb hk' _ FU 0 (Nat.zero_le _) (by show _ < 0 + 1000000; omega)).trans ?_
      exact ih (k + 1) (by omega) (by omega)
theorem s_out (hb : BI st) : ∀ (n k : Nat), k ≤ (xL st 1).length → (xL st 1).length < k + n → f_X5_isEachSeenAtItsBegin_2 n st (nI k) = some (1, st) := by
  have hlen := hb.len
  intro n
  induction n with
  | zero => intro k h1 h2; omega
  | succ n ih =>
    intro k h1 h2
    rw [f_X5_isEachSeenAtItsBegin_2]
    by_cases hk : k = (xL st 1).length
    · rw [bi_pos (nI_le (by omega) (by omega))]
    · have hk' : k < (xL st 1).length := by omega
      have hs : isAt st (nI (fsm st k)) k := ⟨hk', nI_le (Nat.le_refl _) (fs31 hb h1), nI_lt (fsm_lt hb (Nat.lt_succ_self k) (by omega)) (fs31 hb (by omega))⟩
      rw [bi_neg (nI_ge (by omega) (by omega)), p_beginOf hb h1, bd_some, p_seen hb, bd_some, gd_pos (vp_in_nI hk' (by omega)), nI_clamp (by omega), gd_pos (hb.get hk'), snI_y hb hs, bi_pos rfl, nI_1]
      exact ih (k + 1) (by omega) (by omega)
theorem e_one (hb : BI st) {i : Nat} (hi : i < xN st 0) : ∀ (n k : Nat), k ≤ 4 → 4 < k + n → f_X0_areEdgesOfThoseIn_2 n st i (nI k) = some (1, st) := by
  intro n
  induction n with
  | zero => intro k h1 h2; omega
  | succ n ih =>
    intro k h1 h2
    rw [f_X0_areEdgesOfThoseIn_2]
    by_cases hk : k = 4
    · subst hk
      rw [bi_pos (by decide)]
    · have hk' : k < 4 := by omega
      have hc := (hb.sok hi).rows k hk'
      have go : f_X0_areEdgesOfThoseIn_39 (f_X0_areEdgesOfThoseIn_2 n) st i (nI k) = some (1, st) := by
        rw [f_X0_areEdgesOfThoseIn_39, nI_1]
        exact ih (k + 1) (by omega) (by omega)
      rw [bi_neg (by rw [show (4 : Int32) = nI 4 from rfl, nI_leI (by decide) (by omega)]; omega), gd_pos hi, p_has hi hk', bd_some]
      by_cases hm : xR st 0 i k = 45
      · rcases hc with c | c
        · rw [bi_pos (by unfold hs; rw [decide_eq_false (fun z => z hm)]; rfl), gd_pos hi, gd_pos (vp4 hk'), nI_clamp (by omega), bi_pos c.2.2.1, gd_pos (vp4 hk'), bi_pos c.2.2.2]
          exact go
        · exact absurd hm (by rcases c.1 with z | z | z <;> rw [z] <;> decide)
      · rw [bi_neg (by unfold hs; rw [decide_eq_true hm]; decide)]
        exact go
theorem e_out (hb : BI st) : ∀ (n k : Nat), k ≤ xN st 0 → xN st 0 < k + n → f_X5_areEdgesOfMembers_2 n st (nI k) = some (1, st) := by
  have h24 := hb.n24
  have e := hb.made
  have el : (xL st 0).length = xN st 0 := by rw [e, List.length_range]
  intro n
  induction n with
  | zero => intro k h1 h2; omega
  | succ n ih =>
    intro k h1 h2
    rw [f_X5_areEdgesOfMembers_2, el]
    by_cases hk : k = xN st 0
    · rw [bi_pos (nI_le (by omega) (by omega))]
    · have hk' : k < xN st 0 := by omega
      rw [bi_neg (nI_ge (by omega) (by omega)), gd_pos (vp_in_nI hk' (by omega)), nI_clamp (by omega), e, p_range hk', gd_pos hk', f_X0_areEdgesOfThoseIn]
      rw [show f_X0_areEdgesOfThoseIn_2 FU st k 0 = some (1, st) from e_one hb hk' FU 0 (by omega) (by show _ < 0 + 1000000; omega), bd_some, bi_neg (by decide), nI_1]
      exact ih (k + 1) (by omega) (by omega)
theorem k_sum (hb : BI st) : ∀ n, n ≤ xN st 1 → fb_ct (fun j => decide (knd st j = 111)) n + fb_ct (fun j => decide (knd st j = 100)) n + fb_ct (fun j => decide (knd st j = 114)) n + fb_ct (fun j => decide (knd st j = 115)) n = n := by
  intro n
  induction n with
  | zero => intro _; rfl
  | succ n ih =>
    intro hn
    have ih := ih (by omega)
    simp only [fb_ct_succ]
    have k4 : (if decide (knd st n = 111) = true then 1 else 0) + (if decide (knd st n = 100) = true then 1 else 0) + (if decide (knd st n = 114) = true then 1 else 0) + (if decide (knd st n = 115) = true then 1 else 0) = 1 := by
      rcases knd_of hb (show n < xN st 1 by omega) with e | e | e | e <;> rw [e] <;> decide
    omega
theorem n_sum (hb : BI st) : f_X5_doNotesSumUp st = some (1, st) := by
  have h40 := hb.k40
  have el : (xL st 2).length = xN st 1 := by rw [hb.2.2.2.2.1, List.length_range]
  rw [f_X5_doNotesSumUp, p_notes hb, bd_some, p_notes hb, bd_some, p_notes hb, bd_some, p_notes hb, bd_some, nI_add, nI_add, nI_add, el, bi_pos (by rw [k_sum hb _ (Nat.le_refl _)]), f_X5_doNotesSumUp_42, gd_pos nb_1]
theorem ag_isSound (I : INV st ms) : ∃ r st' ms', f_X5_isSound st = some (r, st') ∧ f_X6_isSound ms = some (r, ms') ∧ INV st' ms' := by
  have hb := I.1
  have hlen := hb.len
  have h24 := hb.n24
  have a1 : f_X5_areNamesUnlike st = some (1, st) := u_out hb FU 0 (Nat.zero_le _) (by show _ < 0 + 1000000; omega)
  have a2 : f_X5_isEachSeenAtItsBegin st = some (1, st) := s_out hb FU 0 (Nat.zero_le _) (by show _ < 0 + 1000000; omega)
  have a4 : f_X5_areEdgesOfMembers st = some (1, st) := e_out hb FU 0 (Nat.zero_le _) (by show _ < 0 + 1000000; omega)
  refine ⟨1, st, setS ms 0 0, ?_, rfl, I.code 0⟩
  rw [f_X5_isSound, a1, bd_some, bi_neg (by decide), a2, bd_some, bi_neg (by decide), n_sum hb, bd_some, bi_neg (by decide), a4, bd_some, bi_neg (by decide), f_X5_isSound_33, gd_pos nb_1]
end B3
