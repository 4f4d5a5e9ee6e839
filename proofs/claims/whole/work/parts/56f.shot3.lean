/-! Agreement: shot, the calls. -/
section B6
variable {st : XS} {ms : MS}
theorem sS_two (ms : MS) (k : Nat) (x y : Int32) : setS (setS ms k x) k y = setS ms k y := congrArg (fun f => (f, ms.2)) (fa_upd_twice ms.1 k x y)
theorem n4 (N : Nat) : 4 * nI N + 4 = nI (4 * N + 4) := by
  rw [show (4 : Int32) = nI 4 from rfl, show nI 4 * nI N = nI (4 * N) from (Int32.ofNat_mul 4 N).symm, nI_add]
theorem vp96s {k : Nat} (h : k < 96) {j : Nat} (hj : mln j = 96) : vp_in (nI k) (mln j) := by rw [hj]; exact vp_in_nI h (by decide)
theorem r_shot_go {M T : MS} {N kk : Nat} (h1 : M.1 1 = nI N) (hN : N < 24) (hput : f_X6_putIn (clM M N 4) (nI N) (nI kk) = some ((), T)) (hT : T.1 1 = nI N) : ∀ n k, k ≤ 4 → 4 < k + n → f_X6_shot_224 n (clM M N k) (nI kk) (nI (4 * N + k)) = some (nI N, setS T 1 (nI (N + 1))) := by
  intro n
  induction n with
  | zero => intro k h1 h2; omega
  | succ n ih =>
    intro k h2 h3
    rw [f_X6_shot_224, clM_1, h1, n4]
    by_cases hk : k = 4
    · subst hk
      have e : (setS T 1 (nI (N + 1))).1 1 = nI (N + 1) := by rw [sS_1, if_pos rfl]
      rw [bi_pos (nI_le (by omega) (by omega)), hput, bd_some, hT, nI_1, e, nI_pred]
    · have i96 : 4 * N + k < 96 := by omega
      rw [bi_neg (nI_ge (by omega) (by omega)), gd_pos (vp96s i96 rfl), gd_pos (vp96s i96 rfl), gd_pos (vp96s i96 rfl), gd_pos (vp96s i96 rfl), nI_clamp (by omega), nI_1]
      exact ih (k + 1) (by omega) (by omega)
theorem r_shot_end (hb : BI st) (h : RE st ms) {a b c n l : Int32} {kk : Nat} (hl : vp_nar .char l = l) (hN : xN st 0 < 24) (hk : kk ≤ (xL st 1).length) :
    ∃ f, f_X6_shot_183 (setA (setA (setA ms 4 (xN st 0) a) 5 (xN st 0) b) 6 (xN st 0) c) (nI kk) l (nI (xN st 0)) n = some (nI (xN st 0), msB ms (xN st 0) a b c n l f ((xL st 1).insertIdx kk (xN st 0)).length) ∧ ∀ t, t < ((xL st 1).insertIdx kk (xN st 0)).length → f t = nI (((xL st 1).insertIdx kk (xN st 0)).getD t 0) := by
  have hlen := hb.lenN
  have e1 : ms.1 1 = nI (xN st 0) := h.1
  have n31 : xN st 0 < 2 ^ 31 := by omega
  have v45 : vp_nar .char 45 = 45 := rfl
  obtain ⟨f, hf, hg⟩ := r_put (l := xL st 1) (m := clM (msA ms (xN st 0) a b c n l) (xN st 0) 4) (k := kk) (i := xN st 0) (by rw [clM_1]; exact h.2.1) (fun t ht => by
    rw [clM_2, if_neg (by omega), msA_o _ _ _ _ _ _ _ _ _ (by omega)]
    exact r_get hb h ht) (by omega) hk
  refine ⟨f, ?_, hg⟩
  have g9 := vp24 hN (j := 9) rfl
  have g10 := vp24 hN (j := 10) rfl
  have g16 := vp24 hN (j := 16) rfl
  have g20 := vp24 hN (j := 20) rfl
  have e4 : 4 * nI (xN st 0) = nI (4 * xN st 0 + 0) := by
    rw [show (4 : Int32) = nI 4 from rfl, show nI 4 * nI (xN st 0) = nI (4 * xN st 0) from (Int32.ofNat_mul 4 _).symm, Nat.add_zero]
  have := r_shot_go (M := msA ms (xN st 0) a b c n l) (N := xN st 0) (kk := kk) e1 hN hf (by rw [sS_1, if_neg (by decide), sRow_1, clM_1]; exact e1) FU 0 (by decide) (by show 4 < 0 + 1000000; decide)
  simp only [f_X6_shot_183, sA_1, e1, gd_pos g9, gd_pos g10, gd_pos g16, gd_pos g20, nI_clamp n31, hl, v45, e4]
  exact this
theorem p_shot_end (hb : BI st) {a b c n l : Int32} {kk : Nat} (ha : camok a b) (hl : narrow .char (.int l) = .int l ∧ fits .char (.int l) = true) (hN : xN st 0 < 24) (hk : kk ≤ (xL st 1).length) : f_X5_shot_99 st a b c (nI kk) n l = some (.inr (nI (xN st 0)), stA st a b c n l kk) := by
  have hlen := hb.lenN
  have el : (xL st 0).length = xN st 0 := by rw [hb.made, List.length_range]
  rw [f_X5_shot_99, el, bi_pos (by rw [show (24 : Int32) = nI 24 from rfl, nI_ltI (by omega) (by decide)]; exact hN), f_X5_shot_121, gd_pos ⟨(vn_cam ha).2, hl, el, by omega, by omega, vp_in_nI (by omega) (by omega)⟩, nI_clamp (by omega)]
  rfl
/-- the number that a new shot gets, once the numbers are locked -/
def nbh (st : XS) (k : Nat) : Int32 := if k = 0 then 0 else xF st 1 ((xL st 1).getD (k - 1) 0) 7
theorem p_nbh (hb : BI st) {k : Nat} (hk : k ≤ (xL st 1).length) : f_X5_numberBehind st (nI k) = some (nbh st k, st) := by
  have hlen := hb.len
  unfold f_X5_numberBehind f_X5_numberBehind_16 f_X5_numberBehind_36 nbh
  by_cases h0 : k = 0
  · subst h0
    rw [bi_pos (by decide), if_pos rfl]
  · have e1 : nI k - 1 = nI (k - 1) := p_km1 (by omega)
    rw [bi_neg (by rw [show (1 : Int32) = nI 1 from rfl, nI_ltI (by omega) (by decide)]; omega), bi_pos (nI_le hk (by omega)), e1, gd_pos (vp_in_nI (by omega) (by omega)), nI_clamp (by omega), gd_pos (hb.get (by omega)), if_neg h0]
theorem nbh_ge (hb : BI st) (hl : xF st 0 0 4 ≠ 0) {k : Nat} (hk : k ≤ (xL st 1).length) : 0 ≤ nbh st k := by
  unfold nbh
  by_cases h0 : k = 0
  · rw [if_pos h0]; decide
  · rw [if_neg h0]
    exact hb.num hl (get_mem (by omega))
theorem ag_shot (I : INV st ms) {x1 : Int32} {x2 : Int32} {x3 : Int32} {x4 : Int32} (h1 : CH x1) : ∃ r st' b ms', f_X5_shot st x1 x2 x3 x4 = some (r, st') ∧ f_X6_shot ms x1 x2 x3 x4 = some (b, ms') ∧ INV st' ms' ∧ (∀ k, r = .inl k → k ∈ [0, 1, 2]) ∧ ms'.1 0 = lwc [0, 1, 2] r ∧ ∀ x, r = .inr x → x = b := by
  have hb := I.1
  have h := I.2
  have h24 := hb.n24
  have hlen := hb.len
  have hlenN := hb.lenN
  have el : (xL st 0).length = xN st 0 := by rw [hb.made, List.length_range]
  by_cases hc : camok x1 x2
  · by_cases hcl : 1 ≤ x3 ∧ x3 ≤ 240
    · have h2 : ms.1 2 = nI (xL st 1).length := h.2.1
      by_cases hp : 0 ≤ x4 ∧ x4 ≤ nI (xL st 1).length
      · have c0 : ¬ x4 < 0 := fun z => (i_lt0 x4).mp z hp.1
        obtain ⟨k, hk31, rfl⟩ := nI_of c0
        have hk : k ≤ (xL st 1).length := (nI_leI hk31 (by omega)).mp hp.2
        have I0 := I.code 0
        have hv := vn_cam hc
        have q1 : (setS ms 0 0).1 1 = nI (xN st 0) := I0.2.1
        have q15 : (setS ms 0 0).1 15 = xF st 0 0 4 := I0.2.2.2.1
        have n31 : xN st 0 < 2 ^ 31 := by omega
        -- the heads of both
        have hP : f_X5_shot st x1 x2 x3 (nI k) = bi (xF st 0 0 4 = 0) (f_X5_shot_53 st x1 x2 x3 (nI k) (-1)) (f_X5_shot_53 st x1 x2 x3 (nI k) (nbh st k)) := by
          simp only [f_X5_shot, p_cam hc, bdx_r, p_len hcl, eq_false c0, bi_F, eq_true hp.2, bi_T, p_nbh hb hk, bd_some]
        have hR : f_X6_shot ms x1 x2 x3 (nI k) = bi (xF st 0 0 4 = 0) (f_X6_shot_76 (setS ms 0 0) x1 x2 x3 (nI k) 0) (f_X6_shot_76 (setS ms 0 0) x1 x2 x3 (nI k) (nbh st k)) := by
          simp only [f_X6_shot, r_cam hc, bd_some, e10, bi_F, p_in, b2i_t hcl, h2, b2i_t hp, f_X6_shot_38, p_fails0, e00, bi_T, q15, f_X6_shot_75]
          unfold nbh
          by_cases hz : k = 0
          · subst hz
            rw [if_pos rfl, bi_pos (show nI 0 ≤ 0 by decide)]
          · have hg := hb.get (show k - 1 < (xL st 1).length by omega)
            have h9 : (setS ms 0 0).2 9 ((xL st 1).getD (k - 1) 0) = xF st 1 ((xL st 1).getD (k - 1) 0) 7 := (r_shot I0.2 hg).2.2.2.2.2.1
            rw [if_neg hz, bi_neg (nI_nle (by omega) (by omega)), p_km1 (by omega), gd_pos (vp24 (by omega) rfl), nI_clamp (by omega), r_get hb I0.2 (show k - 1 < _ by omega), gd_pos (vp24 (by omega) rfl), nI_clamp (by omega), h9]
        -- the end of both
        have hE : ∀ (n0 n l : Int32), xN st 0 < 24 → (l = 45 ∨ (65 ≤ l ∧ l ≤ 70)) → (n = -1 ∨ 0 ≤ n) → (xF st 0 0 4 = 0 → n = -1 ∧ l = 45) → (xF st 0 0 4 ≠ 0 → n0 = n ∧ 0 ≤ n ∧ ¬ tkn st n l) → l ≠ 32 → ∃ ms', f_X6_shot_96 (setS ms 0 0) x1 x2 x3 (nI k) n0 l = some (nI (xN st 0), ms') ∧ INV (stA st x1 x2 x3 n l k) ms' ∧ ms'.1 0 = 0 := by
          intro n0 n l hN hl hn hu hlk h32
          obtain ⟨f, hf, hg⟩ := r_shot_end (a := x1) (b := x2) (c := x3) (n := n) (l := l) hb I0.2 (nc_letter hl).2.2 hN hk
          refine ⟨_, ?_, I0.shot hN hk hc hcl hl hn hu (fun z => (hlk z).2) hg, ?_⟩
          · have c24 : ¬ nI (xN st 0) = 24 := by
              rw [show (24 : Int32) = nI 24 from rfl, nI_eq (by omega) (by decide)]; omega
            have ff : f_X6_fails (setS ms 0 0) 0 = some (0, setS ms 0 0) := by
              rw [p_fails0, sS_two]
            rw [f_X6_shot_96, bi_neg h32, q1, bi_neg c24, f_X6_shot_124, ff, bd_some, bi_pos rfl]
            simp only [sA_1, q1, q15, gd_pos (vp24 hN (j := 4) rfl), gd_pos (vp24 hN (j := 5) rfl), gd_pos (vp24 hN (j := 6) rfl), nI_clamp n31, hv.1]
            by_cases hlo : xF st 0 0 4 = 0
            · rw [bi_pos hlo, ← (hu hlo).1]
              exact hf
            · rw [bi_neg hlo, (hlk hlo).1]
              exact hf
          · rw [msB_1 _ _ _ _ _ _ _ _ _ 0 (by decide) (by decide)]
            rfl
        by_cases hlo : xF st 0 0 4 = 0
        · by_cases hN : xN st 0 = 24
          · refine ⟨.inl 2, st, 0, setS (setS ms 0 0) 0 3, ?_, ?_, I0.code 3, yes_l (by decide), code_0 _ _, no_r⟩
            · rw [hP, bi_pos hlo, f_X5_shot_53, bi_pos hlo, f_X5_shot_73, bi_pos hlo, f_X5_shot_99, el, hN, bi_neg (by decide)]
            · rw [hR, bi_pos hlo, f_X6_shot_76, q15, bi_pos hlo, f_X6_shot_96, bi_neg (by decide), q1, hN, bi_pos (show nI 24 = 24 from rfl), f_X6_shot_124, p_fails3, bd_some, bi_neg (by decide)]
          · obtain ⟨ms', g1, g2, g3⟩ := hE 0 (-1) 45 (by omega) (Or.inl rfl) (Or.inl rfl) (fun _ => ⟨rfl, rfl⟩) (fun z => absurd hlo z) (by decide)
            refine ⟨.inr (nI (xN st 0)), _, nI (xN st 0), ms', ?_, ?_, g2, no_l, g3, yes_r rfl⟩
            · rw [hP, bi_pos hlo, f_X5_shot_53, bi_pos hlo, f_X5_shot_73, bi_pos hlo]
              exact p_shot_end hb hc ⟨rfl, rfl⟩ (by omega) hk
            · rw [hR, bi_pos hlo, f_X6_shot_76, q15, bi_pos hlo]
              exact g1
        · have hP2 : f_X5_shot st x1 x2 x3 (nI k) = f_X5_shot_73 st x1 x2 x3 (nI k) (nbh st k) (toL 45 (lst (fun c => ¬ tkn st (nbh st k) (nI c)) 6)) := by
            rw [hP, bi_neg hlo, f_X5_shot_53, bi_neg hlo, p_free hb, bd_some]
          have hR2 : f_X6_shot ms x1 x2 x3 (nI k) = f_X6_shot_96 (setS ms 0 0) x1 x2 x3 (nI k) (nbh st k) (toL 32 (lst (fun c => ¬ tkn st (nbh st k) (nI c)) 6)) := by
            rw [hR, bi_neg hlo, f_X6_shot_76, q15, bi_neg hlo, r_free hb I0.2, bd_some]
          cases hL : lst (fun c => ¬ tkn st (nbh st k) (nI c)) 6 with
          | none =>
            rw [hL] at hP2 hR2
            refine ⟨.inl 1, st, 0, setS (setS ms 0 0) 0 2, ?_, ?_, I0.code 2, yes_l (by decide), code_0 _ _, no_r⟩
            · rw [hP2, f_X5_shot_73, bi_neg hlo]
              exact bi_pos rfl _ _
            · rw [hR2, f_X6_shot_96]
              refine (bi_pos rfl _ _).trans ?_
              rw [f_X6_shot_124, p_fails2, bd_some, bi_neg (by decide)]
          | some c =>
            rw [hL] at hP2 hR2
            obtain ⟨c1, c2, c3⟩ := lst_some (by decide) hL
            have hcl2 : 65 ≤ nI c ∧ nI c ≤ 70 := ⟨nI_le (a := 65) c2 (by omega), nI_le (b := 70) c3 (by decide)⟩
            have e45 : ¬ nI c = 45 := by rw [show (45 : Int32) = nI 45 from rfl, nI_eq (by omega) (by decide)]; omega
            have e32 : ¬ nI c = 32 := by rw [show (32 : Int32) = nI 32 from rfl, nI_eq (by omega) (by decide)]; omega
            have hP3 : f_X5_shot st x1 x2 x3 (nI k) = f_X5_shot_99 st x1 x2 x3 (nI k) (nbh st k) (nI c) := by
              rw [hP2, f_X5_shot_73, bi_neg hlo]
              exact bi_neg e45 _ _
            by_cases hN : xN st 0 = 24
            · refine ⟨.inl 2, st, 0, setS (setS ms 0 0) 0 3, ?_, ?_, I0.code 3, yes_l (by decide), code_0 _ _, no_r⟩
              · rw [hP3, f_X5_shot_99, el, hN, bi_neg (by decide)]
              · rw [hR2, f_X6_shot_96]
                refine (bi_neg e32 _ _).trans ?_
                rw [q1, hN, bi_pos (show nI 24 = 24 from rfl), f_X6_shot_124, p_fails3, bd_some, bi_neg (by decide)]
            · obtain ⟨ms', g1, g2, g3⟩ := hE (nbh st k) (nbh st k) (nI c) (by omega) (Or.inr hcl2) (Or.inr (nbh_ge hb hlo hk)) (fun z => absurd z hlo) (fun _ => ⟨rfl, nbh_ge hb hlo hk, c1⟩) e32
              refine ⟨.inr (nI (xN st 0)), _, nI (xN st 0), ms', ?_, ?_, g2, no_l, g3, yes_r rfl⟩
              · rw [hP3]
                have := nc_letter (Or.inr hcl2)
                exact p_shot_end hb hc ⟨this.1, this.2.1⟩ (by omega) hk
              · rw [hR2]
                exact g1
      · refine ⟨.inl 0, st, 0, setS ms 0 1, ?_, ?_, I.code 1, yes_l (by decide), code_0 _ _, no_r⟩
        · simp only [f_X5_shot, p_cam hc, bdx_r, p_len hcl, f_X5_shot_26]
          by_cases c0 : x4 < 0
          · rw [bi_pos c0]
          · rw [bi_neg c0, bi_neg (fun z => hp ⟨Classical.not_not.mp (fun y => c0 ((i_lt0 x4).mpr y)), z⟩)]
        · simp only [f_X6_shot, r_cam hc, bd_some, e10, bi_F, p_in, b2i_t hcl, h2, b2i_f hp, e00, bi_T, f_X6_shot_37, f_X6_shot_38, p_fails1]
    · refine ⟨.inl 0, st, 0, setS ms 0 1, ?_, ?_, I.code 1, yes_l (by decide), code_0 _ _, no_r⟩
      · simp only [f_X5_shot, p_cam hc, bdx_r, p_len_no hcl, bdx_l]
      · simp only [f_X6_shot, r_cam hc, bd_some, e10, bi_F, p_in, b2i_f hcl, e00, bi_T, f_X6_shot_37, f_X6_shot_38, p_fails1]
  · refine ⟨.inl 0, st, 0, setS ms 0 1, ?_, ?_, I.code 1, yes_l (by decide), code_0 _ _, no_r⟩
    · simp only [f_X5_shot, p_cam_no hc, bdx_l]
    · simp only [f_X6_shot, r_cam_no hc, bd_some, e00, bi_T, f_X6_shot_37, f_X6_shot_38, p_fails1, e10, bi_F]
end B6
