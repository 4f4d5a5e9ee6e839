/-! What is wrong with a cut: the reference's form is the same. -/
section FR
variable {st : XS} {ms : MS}
theorem p_41c (a c : Nat) : 4 * nI a + nI c = nI (4 * a + c) := by
  rw [show (4 : Int32) = nI 4 from rfl, show nI 4 * nI a = nI (4 * a) from (Int32.ofNat_mul 4 a).symm, nI_add]
theorem vp96 {k : Nat} (h : k < 96) {j : Nat} (hj : mln j = 96) : vp_in (nI k) (mln j) := by rw [hj]; exact vp_in_nI h (by decide)
/-- the shots' rows alone -/
def RT (st : XS) (ms : MS) : Prop := ∀ i, i < xN st 0 → RS st ms i
theorem RE.rt (h : RE st ms) : RT st ms := h.2.2.2.2.2.2.1
theorem r_shotT (h : RT st ms) {i : Nat} (hi : i < xN st 0) : RS st ms i := h i hi
theorem r_cell (h : RT st ms) {i c : Nat} (hi : i < xN st 0) (hc : c < 4) : ms.2 11 (4 * i + c) = xR st 0 i c ∧ ms.2 12 (4 * i + c) = xR st 1 i c ∧ ms.2 13 (4 * i + c) = xR st 2 i c ∧ ms.2 14 (4 * i + c) = xR st 3 i c := (r_shotT h hi).rows c hc
theorem r_isIn (hb : BI st) (h : RT st ms) {i c : Nat} (hi : i < xN st 0) (hc : c < 4) : f_X6_isIn ms (nI i) (nI c) = some (tI (hs st i c), ms) := by
  have h24 := hb.n24
  unfold f_X6_isIn f_X6_isIn_20 hs
  rw [p_41c, gd_pos (vp96 (by omega) rfl), nI_clamp (by omega), (r_cell h hi hc).1]
  by_cases e : xR st 0 i c = 45
  · rw [bi_pos e, gd_pos nb_0]
    simp [e, tI]
  · rw [bi_neg e, gd_pos nb_1]
    simp [e, tI]
theorem r_cnt_s (hb : BI st) (h : RT st ms) {n i c k : Nat} (hi : i < xN st 0) (hc : c < 4) : f_X6_countIn_6 (n + 1) ms (nI i) (nI k) (nI (4 * i + c)) = f_X6_countIn_6 n ms (nI i) (nI (k + (hs st i c).toNat)) (nI (4 * i + (c + 1))) := by
  have h24 := hb.n24
  have e4 : 4 * nI i + 4 = nI (4 * i + 4) := p_41c i 4
  rw [f_X6_countIn_6, e4, bi_neg (nI_ge (by omega) (by omega)), gd_pos (vp96 (by omega) rfl), nI_clamp (by omega), (r_cell h hi hc).1]
  unfold f_X6_countIn_33 hs
  by_cases e : xR st 0 i c = 45
  · rw [bi_pos e, nI_1]
    simp [e]
    rfl
  · rw [bi_neg e, nI_1, nI_1]
    simp [e]
    rfl
theorem r_cnt (hb : BI st) (h : RT st ms) {i : Nat} (hi : i < xN st 0) : f_X6_countIn ms (nI i) = some (nI (cnb (hs st i 0) (hs st i 1) (hs st i 2) (hs st i 3)), ms) := by
  have h24 := hb.n24
  have e0 : 4 * nI i = nI (4 * i + 0) := by
    have := p_41c i 0
    rw [nI_0] at this
    simpa using this
  have e4 : 4 * nI i + 4 = nI (4 * i + 4) := p_41c i 4
  unfold f_X6_countIn
  rw [e0]
  show f_X6_countIn_6 (999995 + 1 + 1 + 1 + 1 + 1) ms (nI i) (nI 0) (nI (4 * i + 0)) = _
  rw [r_cnt_s hb h hi (by decide), r_cnt_s hb h hi (by decide), r_cnt_s hb h hi (by decide), r_cnt_s hb h hi (by decide), f_X6_countIn_6, e4, bi_pos (nI_le (by omega) (by omega))]
  unfold cnb
  simp
theorem r_same_s (hb : BI st) (h : RT st ms) {n a b c : Nat} {r : Bool} (ha : a < xN st 0) (hb2 : b < xN st 0) (hc : c < 4) : f_X6_areSame_47 (n + 1) ms (nI a) (nI b) (tI r) (nI c) = f_X6_areSame_47 n ms (nI a) (nI b) (tI (r && decide (hs st a c = hs st b c))) (nI (c + 1)) := by
  rw [f_X6_areSame_47, bi_neg (nge4 hc)]
  unfold f_X6_areSame_78 f_X6_areSame_79
  cases r
  · rw [bi_pos (by rfl), nI_1]
    rfl
  · rw [bi_neg (by decide), r_isIn hb h ha hc, bd_some, r_isIn hb h hb2 hc, bd_some, nI_1]
    cases hs st a c <;> cases hs st b c
    · rw [bi_pos rfl]; rfl
    · rw [bi_neg (by decide)]; rfl
    · rw [bi_neg (by decide)]; rfl
    · rw [bi_pos rfl]; rfl
theorem r_same47 (hb : BI st) (h : RT st ms) {a b : Nat} {r : Bool} (ha : a < xN st 0) (hb2 : b < xN st 0) : f_X6_areSame_43 ms (nI a) (nI b) (tI r) = some (tI (r && decide (meS st a = meS st b)), ms) := by
  unfold f_X6_areSame_43
  show f_X6_areSame_47 (999995 + 1 + 1 + 1 + 1 + 1) ms (nI a) (nI b) (tI r) (nI 0) = _
  rw [r_same_s hb h ha hb2 (by decide), r_same_s hb h ha hb2 (by decide), r_same_s hb h ha hb2 (by decide), r_same_s hb h ha hb2 (by decide), f_X6_areSame_47, bi_pos nle4, gd_pos (tI_nb _)]
  unfold meS
  congr 3
  simp only [memb_eq]
  cases r <;> cases hs st a 0 <;> cases hs st a 1 <;> cases hs st a 2 <;> cases hs st a 3 <;> simp
  all_goals (cases hs st b 0 <;> cases hs st b 1 <;> cases hs st b 2 <;> cases hs st b 3 <;> rfl)
theorem cnb_le : ∀ a b c d : Bool, cnb a b c d ≤ 4 := by decide +kernel
theorem r_same (hb : BI st) (h : RT st ms) {a b : Nat} (ha : a < xN st 0) (hb2 : b < xN st 0) : f_X6_areSame ms (nI a) (nI b) = some (tI (jmp st a b), ms) := by
  have h24 := hb.n24
  have e0 : f_X6_areSame_43 ms (nI a) (nI b) 0 = some (0, ms) := by
    have := r_same47 (r := false) hb h ha hb2
    exact this
  have e1 : f_X6_areSame_43 ms (nI a) (nI b) 1 = some (tI (decide (meS st a = meS st b)), ms) := by
    have := r_same47 (r := true) hb h ha hb2
    rw [Bool.true_and] at this
    exact this
  have a4 := (r_shotT h ha).1
  have b4 := (r_shotT h hb2).1
  have a5 := (r_shotT h ha).2.1
  have b5 := (r_shotT h hb2).2.1
  unfold f_X6_areSame f_X6_areSame_42
  rw [gd_pos (vp24 (by omega) rfl), gd_pos (vp24 (by omega) rfl), gd_pos (vp24 (by omega) rfl), gd_pos (vp24 (by omega) rfl), nI_clamp (by omega), nI_clamp (show b < 2 ^ 31 by omega), a4, b4, a5, b5, r_cnt hb h ha, bd_some, e0, e1]
  unfold jmp
  have hm := memb_0 (hs st a 0) (hs st a 1) (hs st a 2) (hs st a 3)
  have hl := cnb_le (hs st a 0) (hs st a 1) (hs st a 2) (hs st a 3)
  have hz : (nI (cnb (hs st a 0) (hs st a 1) (hs st a 2) (hs st a 3)) ≤ 0) ↔ meS st a = 0 := by
    rw [show (0 : Int32) = nI 0 from rfl, nI_leI (by omega) (by decide)]
    unfold meS
    rw [show nI 0 = 0 from rfl, hm]
    omega
  by_cases h1 : xF st 1 a 3 = xF st 1 b 3
  · rw [bi_pos h1]
    by_cases h2 : xF st 1 a 4 = xF st 1 b 4
    · rw [bi_pos h2]
      by_cases h3 : meS st a = 0
      · rw [bi_pos (hz.mpr h3)]
        simp [h3, tI]
      · rw [bi_neg (fun z => h3 (hz.mp z))]
        simp [h1, h2, h3]
    · rw [bi_neg h2]
      simp [h2, tI]
  · rw [bi_neg h1]
    simp [h1, tI]
theorem r_al_s (hb : BI st) (h : RT st ms) {n i c : Nat} {x : Int32} (hi : i < xN st 0) (hc : c < 4) : f_X6_alone_4 (n + 1) ms (nI i) x (nI c) = f_X6_alone_4 n ms (nI i) (if hs st i c && decide (cnb (hs st i 0) (hs st i 1) (hs st i 2) (hs st i 3) = 1) then nI c else x) (nI (c + 1)) := by
  have hl := cnb_le (hs st i 0) (hs st i 1) (hs st i 2) (hs st i 3)
  rw [f_X6_alone_4, bi_neg (nge4 hc), r_isIn hb h hi hc, bd_some, r_cnt hb h hi, bd_some]
  unfold f_X6_alone_31 f_X6_alone_32
  cases hs st i c
  · rw [tI_f, bi_pos rfl, nI_1]
    rfl
  · rw [tI_t, bi_neg (by decide), nI_1]
    by_cases e : cnb (hs st i 0) (hs st i 1) (hs st i 2) (hs st i 3) = 1
    · rw [bi_pos (by rw [e]; rfl), if_pos (by simp [e])]
    · rw [bi_neg (fun z => e (by rw [show (1 : Int32) = nI 1 from rfl, nI_eq (by omega) (by decide)] at z; exact z)), if_neg (by simp [e])]
theorem r_alone (hb : BI st) (h : RT st ms) {i : Nat} (hi : i < xN st 0) : f_X6_alone ms (nI i) = some (onS st i, ms) := by
  unfold f_X6_alone
  show f_X6_alone_4 (999995 + 1 + 1 + 1 + 1 + 1) ms (nI i) (-1) (nI 0) = _
  rw [r_al_s hb h hi (by decide), r_al_s hb h hi (by decide), r_al_s hb h hi (by decide), r_al_s hb h hi (by decide), f_X6_alone_4, bi_pos nle4]
  unfold onS
  have e1 : hs st i (0 + 1) = hs st i 1 := rfl
  have e2 : hs st i (0 + 1 + 1) = hs st i 2 := rfl
  have e3 : hs st i (0 + 1 + 1 + 1) = hs st i 3 := rfl
  rw [e1, e2, e3]
  cases hs st i 0 <;> cases hs st i 1 <;> cases hs st i 2 <;> cases hs st i 3 <;> rfl
theorem hs_lcr (hb : BI st) {i c : Nat} (hi : i < xN st 0) (hc : c < 4) (h : hs st i c = true) : isLCR (xR st 1 i c) := by
  rcases (hb.sok hi).rows c hc with e | e
  · unfold hs at h
    simp [e.1] at h
  · exact e.2.1
theorem r_oth {x : Int32} : f_X6_other ms x = some (if x = 108 then 114 else 108, ms) := by
  unfold f_X6_other f_X6_other_13
  by_cases e : x = 108
  · rw [bi_pos e, if_pos e, gd_pos (by rfl)]
  · rw [bi_neg e, if_neg e, gd_pos (by rfl)]
theorem onS_lt0 (i : Nat) : onS st i < 0 ↔ onS st i = -1 := by
  rcases onS_is (st := st) i with e | ⟨c, hc, e, -⟩
  · rw [e]; exact ⟨fun _ => rfl, fun _ => by decide⟩
  · rw [e]
    exact ⟨fun z => absurd z (nI_pos (by omega)), fun z => absurd z (nI_ne_m1 (by omega))⟩
theorem r_gaz (hb : BI st) (h : RT st ms) {a b : Nat} (ha : a < xN st 0) (hb2 : b < xN st 0) : f_X6_areBadGazes ms (nI a) (nI b) = some (tI (gzS st a b), ms) := by
  have h24 := hb.n24
  have n0 : f_X6_areBadGazes_93 ms = some (0, ms) := by rw [f_X6_areBadGazes_93, f_X6_areBadGazes_94, gd_pos nb_0]
  have n1 : f_X6_areBadGazes_89 ms = some (1, ms) := by rw [f_X6_areBadGazes_89, f_X6_areBadGazes_94, gd_pos nb_1]
  unfold f_X6_areBadGazes f_X6_areBadGazes_28
  rw [r_alone hb h ha, bd_some, r_alone hb h hb2, bd_some]
  unfold gzS
  by_cases h1 : onS st a = -1
  · rw [bi_pos ((onS_lt0 a).mpr h1)]
    simp [h1, tI]
  · rw [bi_neg (fun z => h1 ((onS_lt0 a).mp z))]
    by_cases h2 : onS st b = -1
    · rw [bi_pos ((onS_lt0 b).mpr h2)]
      simp [h2, tI]
    · rw [bi_neg (fun z => h2 ((onS_lt0 b).mp z))]
      by_cases h3 : onS st a = onS st b
      · rw [bi_pos h3]
        simp [h3, tI]
      · rw [bi_neg h3]
        simp only [h1, h2, h3, ne_eq, not_false_eq_true, decide_true, Bool.true_and]
        obtain ⟨c, hc, ec, hsc⟩ := (onS_is a).resolve_left h1
        obtain ⟨d, hd, ed, hsd⟩ := (onS_is b).resolve_left h2
        have gc := hs_lcr hb ha hc hsc
        have gd' := hs_lcr hb hb2 hd hsd
        rw [ec, ed, p_41c, p_41c, gd_pos (vp96 (by omega) rfl), gd_pos (vp96 (by omega) rfl), nI_clamp (show 4 * a + c < 2 ^ 31 by omega), nI_clamp (show 4 * b + d < 2 ^ 31 by omega), (r_cell h ha hc).2.1, (r_cell h hb2 hd).2.1, nI_clamp (show c < 2 ^ 31 by omega), nI_clamp (show d < 2 ^ 31 by omega)]
        unfold f_X6_areBadGazes_72
        simp only [r_oth, bd_some, n0, n1, bi_d]
        rcases gc with e | e | e <;> rcases gd' with e' | e' | e' <;> rw [e, e'] <;> rfl
theorem r_edg_s (hb : BI st) (h : RT st ms) {n a b c : Nat} {r : Bool} (ha : a < xN st 0) (hb2 : b < xN st 0) (hc : c < 4) : f_X6_isBadEdge_5 (n + 1) ms (nI a) (nI b) (tI r) (nI c) = f_X6_isBadEdge_5 n ms (nI a) (nI b) (tI (r || edg st a b c)) (nI (c + 1)) := by
  have h24 := hb.n24
  rw [f_X6_isBadEdge_5, bi_neg (nge4 hc)]
  unfold f_X6_isBadEdge_60 f_X6_isBadEdge_56 f_X6_isBadEdge_61
  rw [p_41c, p_41c, gd_pos (vp96 (by omega) rfl), gd_pos (vp96 (by omega) rfl), gd_pos (vp96 (by omega) rfl), nI_clamp (show 4 * a + c < 2 ^ 31 by omega), nI_clamp (show 4 * b + c < 2 ^ 31 by omega), (r_cell h ha hc).2.2.2, (r_cell h hb2 hc).2.2.1, nI_1]
  unfold edg
  cases r
  · rw [bi_pos (by rfl)]
    simp only [bi_d]
    by_cases e1 : xR st 3 a c = 45 <;> by_cases e2 : xR st 3 a c = xR st 2 b c <;> simp [e1, e2, tI] <;> simp_all
  · rw [bi_neg (by decide)]
    rfl
theorem r_edg (hb : BI st) (h : RT st ms) {a b : Nat} (ha : a < xN st 0) (hb2 : b < xN st 0) : f_X6_isBadEdge ms (nI a) (nI b) = some (tI (any4 (edg st a b)), ms) := by
  unfold f_X6_isBadEdge
  show f_X6_isBadEdge_5 (999995 + 1 + 1 + 1 + 1 + 1) ms (nI a) (nI b) (tI false) (nI 0) = _
  rw [r_edg_s hb h ha hb2 (by decide), r_edg_s hb h ha hb2 (by decide), r_edg_s hb h ha hb2 (by decide), r_edg_s hb h ha hb2 (by decide), f_X6_isBadEdge_5, bi_pos nle4, gd_pos (tI_nb _)]
  rfl
theorem r_mis_s (hb : BI st) (h : RT st ms) {n a b c : Nat} {r : Bool} (ha : a < xN st 0) (hb2 : b < xN st 0) (hc : c < 4) : f_X6_isJump_5 (n + 1) ms (nI a) (nI b) (tI r) (nI c) = f_X6_isJump_5 n ms (nI a) (nI b) (tI (r || mis st a b c)) (nI (c + 1)) := by
  have h24 := hb.n24
  rw [f_X6_isJump_5, bi_neg (nge4 hc)]
  unfold f_X6_isJump_75 f_X6_isJump_51 f_X6_isJump_75 f_X6_isJump_79 f_X6_isJump_80 f_X6_isJump_119 f_X6_isJump_115 f_X6_isJump_120
  rw [p_41c, p_41c, gd_pos (vp96 (by omega) rfl), gd_pos (vp96 (by omega) rfl), gd_pos (vp96 (by omega) rfl), gd_pos (vp96 (by omega) rfl), gd_pos (vp96 (by omega) rfl), gd_pos (vp96 (by omega) rfl), nI_clamp (show 4 * a + c < 2 ^ 31 by omega), nI_clamp (show 4 * b + c < 2 ^ 31 by omega), (r_cell h ha hc).2.2.2, (r_cell h hb2 hc).2.2.1, (r_cell h ha hc).1, (r_cell h hb2 hc).1, nI_1]
  unfold mis
  simp only [bi_d]
  cases r
  · by_cases h1 : xR st 3 a c = 45 <;> by_cases h2 : xR st 2 b c = 45 <;> by_cases h3 : xR st 0 a c = 108 <;> by_cases h4 : xR st 0 b c = 114 <;> by_cases h5 : xR st 0 a c = 114 <;> by_cases h6 : xR st 0 b c = 108 <;> simp [h1, h2, h3, h4, h5, h6, tI]
  · by_cases h3 : xR st 0 a c = 108 <;> by_cases h4 : xR st 0 b c = 114 <;> by_cases h5 : xR st 0 a c = 114 <;> by_cases h6 : xR st 0 b c = 108 <;> simp [h3, h4, h5, h6, tI]
theorem r_mis (hb : BI st) (h : RT st ms) {a b : Nat} (ha : a < xN st 0) (hb2 : b < xN st 0) : f_X6_isJump ms (nI a) (nI b) = some (tI (any4 (mis st a b)), ms) := by
  unfold f_X6_isJump
  show f_X6_isJump_5 (999995 + 1 + 1 + 1 + 1 + 1) ms (nI a) (nI b) (tI false) (nI 0) = _
  rw [r_mis_s hb h ha hb2 (by decide), r_mis_s hb h ha hb2 (by decide), r_mis_s hb h ha hb2 (by decide), r_mis_s hb h ha hb2 (by decide), f_X6_isJump_5, bi_pos nle4, gd_pos (tI_nb _)]
  rfl
theorem flt_cases (st : XS) (a b : Nat) : flt st a b = 120 ∨ flt st a b = 106 ∨ flt st a b = 103 ∨ flt st a b = 101 ∨ flt st a b = 109 ∨ flt st a b = 45 := by
  unfold flt
  cases acr st a b <;> cases jmp st a b <;> cases gzS st a b <;> cases any4 (edg st a b) <;> cases any4 (mis st a b) <;> decide
theorem flt_nc (st : XS) (a b : Nat) : narrow .char (.int (flt st a b)) = .int (flt st a b) := by
  rcases flt_cases st a b with e | e | e | e | e | e <;> rw [e] <;> rfl
theorem r_wrong (hb : BI st) (h : RT st ms) {a b : Nat} (ha : a < xN st 0) (hb2 : b < xN st 0) : f_X6_wrongWith ms (nI a) (nI b) = some (flt st a b, ms) := by
  have h24 := hb.n24
  have a4 := (r_shotT h ha).1
  have b4 := (r_shotT h hb2).1
  have hn := flt_nc st a b
  have e49 : f_X6_wrongWith_49 ms (nI a) (nI b) (tI (acr st a b)) = some (flt st a b, ms) := by
    unfold f_X6_wrongWith_49
    rw [r_same hb h ha hb2, bd_some, r_gaz hb h ha hb2, bd_some, r_edg hb h ha hb2, bd_some, r_mis hb h ha hb2, bd_some]
    unfold f_X6_wrongWith_117
    unfold flt
    cases acr st a b <;> cases jmp st a b <;> cases gzS st a b <;> cases any4 (edg st a b) <;> cases any4 (mis st a b) <;> simp only [tI_t, tI_f, e00, e10, bi_T, bi_F] <;> exact gd_pos (by rfl) _
  unfold f_X6_wrongWith f_X6_wrongWith_44 f_X6_wrongWith_22 f_X6_wrongWith_44 f_X6_wrongWith_48
  rw [gd_pos (vp24 (by omega) rfl), gd_pos (vp24 (by omega) rfl), gd_pos (vp24 (by omega) rfl), gd_pos (vp24 (by omega) rfl), nI_clamp (by omega), nI_clamp (show b < 2 ^ 31 by omega), a4, b4]
  rw [← e49]
  unfold acr
  simp only [bi_d]
  have ha3 := (hb.sok ha).1
  have hb3 := (hb.sok hb2).1
  rcases ha3 with e | e | e <;> rcases hb3 with e' | e' | e' <;> rw [e, e'] <;> rfl
end FR
