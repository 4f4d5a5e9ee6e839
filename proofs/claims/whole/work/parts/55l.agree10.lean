/-! Agreements: enters, leaves, stand. -/
theorem sF_same {st : XS} {k i f : Nat} {x : Int32} (h : xF st k i f = x) : sF st k i f x = st := by
  unfold sF
  refine Prod.ext ?_ rfl
  funext k' i' f'
  show (if k' = k ∧ i' = i ∧ f' = f then x else st.1 k' i' f') = st.1 k' i' f'
  by_cases e : k' = k ∧ i' = i ∧ f' = f
  · rw [if_pos e, e.1, e.2.1, e.2.2]; exact h.symm
  · rw [if_neg e]
theorem sR_same {st : XS} {k i j : Nat} {x : Int32} (h : xR st k i j = x) : sR st k i j x = st := by
  unfold sR
  refine Prod.ext rfl (Prod.ext ?_ rfl)
  funext k' i'
  show (if k' = k ∧ i' = i then upd (st.2.1 k i) j x else st.2.1 k' i') = st.2.1 k' i'
  by_cases e : k' = k ∧ i' = i
  · rw [if_pos e, e.1, e.2]
    exact fa_upd_same h
  · rw [if_neg e]
section A10
variable {st : XS} {ms : MS}
theorem p_char {x : Int32} (h : 0 ≤ x ∧ x ≤ 3) : f_X5_checkCharacter st x = some (.inr (), st) := by
  unfold f_X5_checkCharacter
  rw [bi_neg (fun z => (i_lt0 x).mp z h.1), bi_pos ((i_lt4 x).mpr h.2)]
theorem p_char_no {x : Int32} (h : ¬ (0 ≤ x ∧ x ≤ 3)) : f_X5_checkCharacter st x = some (.inl 0, st) := by
  unfold f_X5_checkCharacter f_X5_checkCharacter_9
  by_cases h1 : x < 0
  · rw [bi_pos h1]
  · rw [bi_neg h1, bi_neg (fun z => h ⟨Classical.not_not.mp (fun y => h1 ((i_lt0 x).mpr y)), (i_lt4 x).mp z⟩)]
theorem char_nI {x : Int32} (h : 0 ≤ x ∧ x ≤ 3) : ∃ c, c < 4 ∧ x = nI c := by
  obtain ⟨j, hj, rfl⟩ := nI_of (x := x) (fun z => (i_lt0 x).mp z h.1)
  have := h.2
  rw [show (3 : Int32) = nI 3 from rfl, nI_leI hj (by decide)] at this
  exact ⟨j, by omega, rfl⟩
theorem edg_nc {x : Int32} (h : isEdg x) : narrow .char (.int x) = .int x ∧ vp_nar .char x = x := by
  rcases h with rfl | rfl | rfl <;> exact ⟨rfl, rfl⟩
theorem p_sfe40 {c i : Nat} (hb : BI st) (hi : i < xN st 0) (hc : c < 4) : f_X5_shotForEdge_40 st (nI c) i = some (if decide (i ∈ xL st 1) && hs st i c then .inr i else .inl 1, st) := by
  unfold f_X5_shotForEdge_40
  by_cases hm : i ∈ xL st 1
  · rw [p_chk hb hi hm, bdx_r, gd_pos hi, p_has hi hc, bd_some]
    cases hs st i c
    · rw [tI_f, bi_pos rfl]
      simp
    · rw [tI_t, bi_neg (by decide)]
      simp [hm]
  · rw [p_chk_no hb hi hm, bdx_l]
    simp [hm]
theorem p_sfe {c i : Nat} {e : Int32} (hb : BI st) (hi : i < xN st 0) (hc : c < 4) (he : isEdg e) : f_X5_shotForEdge st (nI i) (nI c) e = some (if decide (i ∈ xL st 1) && hs st i c then .inr i else .inl 1, st) := by
  unfold f_X5_shotForEdge
  rw [p_made hb hi, bdx_r, p_char ⟨nI_pos' (by omega), nI_le (b := 3) (by omega) (by decide)⟩, bdx_r, p_sfe40 hb hi hc]
  rcases he with rfl | rfl | rfl
  · rw [bi_pos rfl]
  · rw [bi_neg (by decide), bi_pos rfl]
  · rw [bi_neg (by decide), bi_neg (by decide), bi_pos rfl]
theorem p_sfe_no {i : Nat} {x e : Int32} (hb : BI st) (hi : i < xN st 0) (h : ¬ ((0 ≤ x ∧ x ≤ 3) ∧ isEdg e)) : f_X5_shotForEdge st (nI i) x e = some (.inl 0, st) := by
  unfold f_X5_shotForEdge
  rw [p_made hb hi, bdx_r]
  by_cases hc : 0 ≤ x ∧ x ≤ 3
  · have he : ¬ isEdg e := fun z => h ⟨hc, z⟩
    rw [p_char hc, bdx_r, bi_neg (fun z => he (Or.inl z)), bi_neg (fun z => he (Or.inr (Or.inl z))), bi_neg (fun z => he (Or.inr (Or.inr z)))]
  · rw [p_char_no hc, bdx_l]
theorem r_isEdge {e : Int32} : f_X6_isEdge ms e = some (b2i (isEdg e), ms) := by
  have n0 : f_X6_isEdge_23 ms 0 = some (0, ms) := by rw [f_X6_isEdge_23, gd_pos nb_0]
  have n1 : f_X6_isEdge_18 ms = some (1, ms) := by rw [f_X6_isEdge_18, f_X6_isEdge_23, gd_pos nb_1]
  unfold f_X6_isEdge
  rw [n0, n1]
  by_cases h : isEdg e
  · rw [b2i_t h]
    rcases h with rfl | rfl | rfl
    · rw [bi_pos rfl]
    · rw [bi_neg (by decide), bi_pos rfl]
    · rw [bi_neg (by decide), bi_neg (by decide), bi_pos rfl]
  · rw [b2i_f h, bi_neg (fun z => h (Or.inl z)), bi_neg (fun z => h (Or.inr (Or.inl z))), bi_neg (fun z => h (Or.inr (Or.inr z)))]
theorem r_noEdge {i c : Nat} {e : Int32} (hb : BI st) (h : RE st ms) (hi : i < xN st 0) (hc : c < 4) (he : isEdg e) : f_X6_noEdge ms (nI i) (nI c) e = some (if decide (i ∈ xL st 1) && hs st i c then 0 else 3, ms) := by
  have h24 := hb.n24
  unfold f_X6_noEdge f_X6_noEdge_55 f_X6_noEdge_60
  rw [p_isShot hb h hi, bd_some, bi_neg (by decide), p_in, bd_some, b2i_t ⟨nI_pos' (by omega), nI_le (b := 3) (by omega) (by decide)⟩, bi_neg (by decide), r_isEdge, bd_some, b2i_t he, bi_neg (by decide), r_placeOf hb h hi, bd_some]
  by_cases hm : i ∈ xL st 1
  · rw [bi_neg (fun z => (plc_lt hb.len).mp z hm), p_41c, gd_pos (vp96 (by omega) rfl), nI_clamp (by omega), (r_cell h.rt hi hc).1]
    unfold hs
    by_cases z : xR st 0 i c = 45
    · rw [bi_pos z]
      simp [z]
    · rw [bi_neg z]
      simp [z, hm]
  · rw [bi_pos ((plc_lt hb.len).mpr hm)]
    simp [hm]
theorem r_noEdge_2 {i : Nat} {x e : Int32} (hb : BI st) (h : RE st ms) (hi : i < xN st 0) (hn : ¬ ((0 ≤ x ∧ x ≤ 3) ∧ isEdg e)) : f_X6_noEdge ms (nI i) x e = some (2, ms) := by
  unfold f_X6_noEdge f_X6_noEdge_28 f_X6_noEdge_60
  rw [p_isShot hb h hi, bd_some, bi_neg (by decide), p_in, bd_some]
  by_cases hc : 0 ≤ x ∧ x ≤ 3
  · have he : ¬ isEdg e := fun z => hn ⟨hc, z⟩
    rw [b2i_t hc, bi_neg (by decide), r_isEdge, bd_some, b2i_f he, bi_pos rfl]
  · rw [b2i_f hc, bi_pos rfl]
theorem r_noEdge_1 {x1 x e : Int32} (hb : BI st) (h : RE st ms) (hx : x1 < 0 ∨ nI (xN st 0) ≤ x1) : f_X6_noEdge ms x1 x e = some (1, ms) := by
  unfold f_X6_noEdge f_X6_noEdge_60
  rw [p_isShot_no hb h hx, bd_some, bi_pos rfl]
def stW (st : XS) (w i c : Nat) (x d : Int32) : XS := sF (sR st w i c x) 1 i 6 (xF st 1 i 6 + d)
def msW (ms : MS) (w i c : Nat) (x v : Int32) : MS := setA (setA (setS ms 0 0) 7 i v) (11 + w) (4 * i + c) x
theorem INV.edge (I : INV st ms) {i c w : Nat} {x d : Int32} (hi : i < xN st 0) (hc : c < 4) (hw : w = 2 ∨ w = 3) (hh : hs st i c = true) (he : isEdg x) : INV (stW st w i c x d) (msW ms w i c x (xF st 1 i 6 + d)) := by
  have hb := I.1
  have h := I.2
  have hr := r_shot h hi
  have hsk := hb.sok hi
  have hS : SB st (stW st w i c x d) i := ((SB.rf st i).r w c x).f1 6 (xF st 1 i 6 + d)
  have hM : SM ms (msW ms w i c x (xF st 1 i 6 + d)) i := (((SM.rf ms i).s0 0).a 7 (by decide) (xF st 1 i 6 + d)).c (11 + w) c (by omega) hc x
  have e1 : ∀ f, f ≠ 6 → xF (stW st w i c x d) 1 i f = xF st 1 i f := fun f hf => by unfold stW; rw [sf_ne hf, xF_sR]
  have e16 : xF (stW st w i c x d) 1 i 6 = xF st 1 i 6 + d := by unfold stW; rw [xF_sF, if_pos ⟨rfl, rfl, rfl⟩]
  have e2 : ∀ f, xF (stW st w i c x d) 2 i f = xF st 2 i f := fun f => by unfold stW; rw [xF_sF, if_neg (by rintro ⟨z, -⟩; cases z), xF_sR]
  have eR : ∀ w' c', xR (stW st w i c x d) w' i c' = if w' = w ∧ c' = c then x else xR st w' i c' := fun w' c' => by
    unfold stW
    rw [xR_sF, xR_sR]
    by_cases z : w' = w ∧ c' = c
    · rw [if_pos ⟨⟨z.1, rfl⟩, z.2⟩, if_pos z]
    · rw [if_neg (fun y => z ⟨y.1.1, y.2⟩), if_neg z]
  have m7 : (msW ms w i c x (xF st 1 i 6 + d)).2 7 i = xF st 1 i 6 + d := by
    unfold msW
    rw [sA_2, if_neg (by omega), sA_2, if_pos ⟨rfl, rfl⟩]
  have mo : ∀ k t, k ≠ 7 → ¬ (11 ≤ k ∧ k ≤ 14) → (msW ms w i c x (xF st 1 i 6 + d)).2 k t = ms.2 k t := fun k t h1 h2 => by
    unfold msW
    rw [sA_2, if_neg (by omega), sA_2, if_neg (fun z => h1 z.1), sS_2]
  have mc : ∀ w' c', c' < 4 → w' < 4 → (msW ms w i c x (xF st 1 i 6 + d)).2 (11 + w') (4 * i + c') = if w' = w ∧ c' = c then x else ms.2 (11 + w') (4 * i + c') := fun w' c' h1 h2 => by
    unfold msW
    rw [sA_2]
    by_cases z : w' = w ∧ c' = c
    · rw [if_pos (by omega), if_pos z]
    · rw [if_neg (by omega), if_neg z, sA_2, if_neg (by omega), sS_2]
  refine ⟨BI_shot hb hS ?_ (e1 7 (by decide)) (e1 8 (by decide)), RE_shot h hi hS hM ?_⟩
  · unfold SOK
    rw [e1 3 (by decide), e1 4 (by decide), e1 5 (by decide), e1 8 (by decide), e1 7 (by decide), e1 11 (by decide), e2]
    refine ⟨hsk.1, hsk.2.1, hsk.2.2.1, hsk.2.2.2.1, hsk.2.2.2.2.1, hsk.2.2.2.2.2.1, hsk.2.2.2.2.2.2.1, fun c' hc' => ?_⟩
    have hk := hsk.rows c' hc'
    unfold COK at hk ⊢
    rw [eR, eR, eR, eR, if_neg (by omega), if_neg (by omega)]
    by_cases z : c' = c
    · subst z
      have h45 : ¬ xR st 0 i c' = 45 := by
        unfold hs at hh
        simpa using hh
      rcases hk with hk | hk
      · exact absurd hk.1 h45
      · refine Or.inr ⟨hk.1, hk.2.1, ?_, ?_⟩
        · by_cases y : 2 = w ∧ c' = c'
          · rw [if_pos y]; exact he
          · rw [if_neg y]; exact hk.2.2.1
        · by_cases y : 3 = w ∧ c' = c'
          · rw [if_pos y]; exact he
          · rw [if_neg y]; exact hk.2.2.2
    · rw [if_neg (fun y => z y.2), if_neg (fun y => z y.2)]
      exact hk
  · unfold RS
    rw [e1 3 (by decide), e1 4 (by decide), e1 5 (by decide), e16, e1 11 (by decide), e1 7 (by decide), e1 8 (by decide), e1 9 (by decide), e1 10 (by decide), e2, e2, e2, e2, m7, mo 4 i (by decide) (by decide), mo 5 i (by decide) (by decide), mo 6 i (by decide) (by decide), mo 8 i (by decide) (by decide), mo 9 i (by decide) (by decide), mo 10 i (by decide) (by decide), mo 16 i (by decide) (by decide), mo 17 i (by decide) (by decide), mo 18 i (by decide) (by decide), mo 19 i (by decide) (by decide), mo 20 i (by decide) (by decide), mo 21 i (by decide) (by decide)]
    unfold RS at hr
    refine ⟨hr.1, hr.2.1, hr.2.2.1, rfl, hr.2.2.2.2.1, hr.2.2.2.2.2.1, hr.2.2.2.2.2.2.1, hr.2.2.2.2.2.2.2.1, hr.2.2.2.2.2.2.2.2.1, hr.2.2.2.2.2.2.2.2.2.1, hr.2.2.2.2.2.2.2.2.2.2.1, hr.2.2.2.2.2.2.2.2.2.2.2.1, hr.2.2.2.2.2.2.2.2.2.2.2.2.1, fun c' hc' => ?_⟩
    obtain ⟨q1, q2, q3, q4⟩ := hr.2.2.2.2.2.2.2.2.2.2.2.2.2 c' hc'
    rw [show (11 : Nat) = 11 + 0 from rfl, show (12 : Nat) = 11 + 1 from rfl, show (13 : Nat) = 11 + 2 from rfl, show (14 : Nat) = 11 + 3 from rfl] at *
    rw [mc 0 c' hc' (by decide), mc 1 c' hc' (by decide), mc 2 c' hc' (by decide), mc 3 c' hc' (by decide), eR, eR, eR, eR, q1, q2, q3, q4]
    exact ⟨rfl, rfl, rfl, rfl⟩
theorem p_chE {i c w : Nat} {x : Int32} (hi : i < xN st 0) (hc : c < 4) (hw : w < 4) (he : isEdg x) (hn : narrow .char (.int (xR st w i c)) = .int (xR st w i c)) : f_X4_changeEdge st i w i (nI c) x = some (xR st w i c, stW st w i c x (if xR st w i c = x then 0 else 1)) := by
  have h25 : ∀ t : XS, f_X4_changeEdge_25 t (xR st w i c) = some (xR st w i c, t) := fun t => by rw [f_X4_changeEdge_25, gd_pos hn]
  unfold f_X4_changeEdge
  rw [gd_pos hi, gd_pos hw, gd_pos (vp4 hc), nI_clamp (by omega), gd_pos hw, gd_pos (vp4 hc), xN_sR, gd_pos hi, h25, h25, (edg_nc he).2]
  by_cases e : xR st w i c = x
  · rw [bi_pos e, if_pos e]
    unfold stW
    rw [sR_same e, sF_same (by rw [Int32.add_zero])]
  · rw [bi_neg e, if_neg e]
    rfl
theorem row_nc (hb : BI st) {i c w : Nat} (hi : i < xN st 0) (hc : c < 4) (hw : w = 2 ∨ w = 3) : narrow .char (.int (xR st w i c)) = .int (xR st w i c) := by
  rcases (hb.sok hi).rows c hc with ⟨-, -, e2, e3⟩ | ⟨-, -, e2, e3⟩
  · rcases hw with rfl | rfl
    · rw [e2]; rfl
    · rw [e3]; rfl
  · rcases hw with rfl | rfl
    · exact (edg_nc e2).1
    · exact (edg_nc e3).1
theorem ag_enters (I : INV st ms) {x1 : Int32} {x2 : Int32} {x3 : Int32} (h3 : CH x3) : ∃ r st' b ms', f_X5_enters st x1 x2 x3 = some (r, st') ∧ f_X6_enters ms x1 x2 x3 = some (b, ms') ∧ INV st' ms' ∧ (∀ k, r = .inl k → k ∈ [3, 0, 1]) ∧ ms'.1 0 = lwc [3, 0, 1] r ∧ ∀ x, r = .inr x → x = b := by
  have hb := I.1
  have h := I.2
  have h24 := hb.n24
  rcases p_rng (N := xN st 0) (by omega) x1 with ⟨i, hi, rfl⟩ | hx
  · by_cases hc : (0 ≤ x2 ∧ x2 ≤ 3) ∧ isEdg x3
    · obtain ⟨c, hc4, rfl⟩ := char_nI hc.1
      by_cases hm : (decide (i ∈ xL st 1) && hs st i c) = true
      · have hh : hs st i c = true := by
          revert hm
          cases hs st i c <;> simp
        have hn := row_nc hb hi hc4 (Or.inl rfl)
        have hi2 := I.edge (d := if xR st 2 i c = x3 then 0 else 1) hi hc4 (Or.inl rfl) hh hc.2
        refine ⟨.inr (xR st 2 i c), _, xR st 2 i c, _, ?_, ?_, hi2, no_l, rfl, yes_r rfl⟩
        · simp only [f_X5_enters, p_sfe hb hi hc4 hc.2, hm, if_true, bdx_r, gd_pos hi, p_chE hi hc4 (by decide) hc.2 hn, bd_some, gd_pos hn]
        · have q3 : (setS ms 0 0).2 13 (4 * i + c) = xR st 2 i c := (r_cell h.rt hi hc4).2.2.1
          have q7 : (setS ms 0 0).2 7 i = xF st 1 i 6 := (r_shot h hi).2.2.2.1
          have hm' : f_X6_noEdge ms (nI i) (nI c) x3 = some (0, ms) := by rw [r_noEdge hb h hi hc4 hc.2, if_pos hm]
          simp only [f_X6_enters, hm', bd_some, p_fails0, e00, bi_T, p_41c, gd_pos (vp96 (show 4 * i + c < 96 by omega) (j := 13) rfl), nI_clamp (show 4 * i + c < 2 ^ 31 by omega), q3]
          by_cases e : xR st 2 i c = x3
          · rw [bi_pos e, if_pos e]
            simp only [f_X6_enters_42, r_change0 (show i < 24 by omega) rfl, bd_some, p_41c, gd_pos (vp96 (show 4 * i + c < 96 by omega) (j := 13) rfl), nI_clamp (show 4 * i + c < 2 ^ 31 by omega), gd_pos hn, (edg_nc hc.2).2, q7]
            unfold msW
            rw [Int32.add_zero]
          · rw [bi_neg e, if_neg e]
            simp only [f_X6_enters_42, r_change1 (show i < 24 by omega), bd_some, p_41c, gd_pos (vp96 (show 4 * i + c < 96 by omega) (j := 13) rfl), nI_clamp (show 4 * i + c < 2 ^ 31 by omega), gd_pos hn, (edg_nc hc.2).2, q7]
            rfl
      · refine ⟨.inl 1, st, 32, setS ms 0 3, ?_, ?_, I.code 3, yes_l (by decide), code_0 _ _, no_r⟩
        · simp only [f_X5_enters, p_sfe hb hi hc4 hc.2, hm, if_false, bdx_l]
          rfl
        · have hm' : f_X6_noEdge ms (nI i) (nI c) x3 = some (3, ms) := by rw [r_noEdge hb h hi hc4 hc.2, if_neg hm]
          simp only [f_X6_enters, hm', bd_some, p_fails3, e10, bi_F]
    · refine ⟨.inl 0, st, 32, setS ms 0 2, ?_, ?_, I.code 2, yes_l (by decide), code_0 _ _, no_r⟩
      · simp only [f_X5_enters, p_sfe_no hb hi hc, bdx_l]
      · simp only [f_X6_enters, r_noEdge_2 hb h hi hc, bd_some, p_fails2, e10, bi_F]
  · refine ⟨.inl 3, st, 32, setS ms 0 1, ?_, ?_, I.code 1, yes_l (by decide), code_0 _ _, no_r⟩
    · simp only [f_X5_enters, f_X5_shotForEdge, p_made_no hb hx, bdx_l]
    · simp only [f_X6_enters, r_noEdge_1 hb h hx, bd_some, p_fails1, e10, bi_F]
theorem ag_leaves (I : INV st ms) {x1 : Int32} {x2 : Int32} {x3 : Int32} (h3 : CH x3) : ∃ r st' b ms', f_X5_leaves st x1 x2 x3 = some (r, st') ∧ f_X6_leaves ms x1 x2 x3 = some (b, ms') ∧ INV st' ms' ∧ (∀ k, r = .inl k → k ∈ [3, 0, 1]) ∧ ms'.1 0 = lwc [3, 0, 1] r ∧ ∀ x, r = .inr x → x = b := by
  have hb := I.1
  have h := I.2
  have h24 := hb.n24
  rcases p_rng (N := xN st 0) (by omega) x1 with ⟨i, hi, rfl⟩ | hx
  · by_cases hc : (0 ≤ x2 ∧ x2 ≤ 3) ∧ isEdg x3
    · obtain ⟨c, hc4, rfl⟩ := char_nI hc.1
      by_cases hm : (decide (i ∈ xL st 1) && hs st i c) = true
      · have hh : hs st i c = true := by
          revert hm
          cases hs st i c <;> simp
        have hn := row_nc hb hi hc4 (Or.inr rfl)
        have hi2 := I.edge (d := if xR st 3 i c = x3 then 0 else 1) hi hc4 (Or.inr rfl) hh hc.2
        refine ⟨.inr (xR st 3 i c), _, xR st 3 i c, _, ?_, ?_, hi2, no_l, rfl, yes_r rfl⟩
        · simp only [f_X5_leaves, p_sfe hb hi hc4 hc.2, hm, if_true, bdx_r, gd_pos hi, p_chE hi hc4 (by decide) hc.2 hn, bd_some, gd_pos hn]
        · have q3 : (setS ms 0 0).2 14 (4 * i + c) = xR st 3 i c := (r_cell h.rt hi hc4).2.2.2
          have q7 : (setS ms 0 0).2 7 i = xF st 1 i 6 := (r_shot h hi).2.2.2.1
          have hm' : f_X6_noEdge ms (nI i) (nI c) x3 = some (0, ms) := by rw [r_noEdge hb h hi hc4 hc.2, if_pos hm]
          simp only [f_X6_leaves, hm', bd_some, p_fails0, e00, bi_T, p_41c, gd_pos (vp96 (show 4 * i + c < 96 by omega) (j := 14) rfl), nI_clamp (show 4 * i + c < 2 ^ 31 by omega), q3]
          by_cases e : xR st 3 i c = x3
          · rw [bi_pos e, if_pos e]
            simp only [f_X6_leaves_42, r_change0 (show i < 24 by omega) rfl, bd_some, p_41c, gd_pos (vp96 (show 4 * i + c < 96 by omega) (j := 14) rfl), nI_clamp (show 4 * i + c < 2 ^ 31 by omega), gd_pos hn, (edg_nc hc.2).2, q7]
            unfold msW
            rw [Int32.add_zero]
          · rw [bi_neg e, if_neg e]
            simp only [f_X6_leaves_42, r_change1 (show i < 24 by omega), bd_some, p_41c, gd_pos (vp96 (show 4 * i + c < 96 by omega) (j := 14) rfl), nI_clamp (show 4 * i + c < 2 ^ 31 by omega), gd_pos hn, (edg_nc hc.2).2, q7]
            rfl
      · refine ⟨.inl 1, st, 32, setS ms 0 3, ?_, ?_, I.code 3, yes_l (by decide), code_0 _ _, no_r⟩
        · simp only [f_X5_leaves, p_sfe hb hi hc4 hc.2, hm, if_false, bdx_l]
          rfl
        · have hm' : f_X6_noEdge ms (nI i) (nI c) x3 = some (3, ms) := by rw [r_noEdge hb h hi hc4 hc.2, if_neg hm]
          simp only [f_X6_leaves, hm', bd_some, p_fails3, e10, bi_F]
    · refine ⟨.inl 0, st, 32, setS ms 0 2, ?_, ?_, I.code 2, yes_l (by decide), code_0 _ _, no_r⟩
      · simp only [f_X5_leaves, p_sfe_no hb hi hc, bdx_l]
      · simp only [f_X6_leaves, r_noEdge_2 hb h hi hc, bd_some, p_fails2, e10, bi_F]
  · refine ⟨.inl 3, st, 32, setS ms 0 1, ?_, ?_, I.code 1, yes_l (by decide), code_0 _ _, no_r⟩
    · simp only [f_X5_leaves, f_X5_shotForEdge, p_made_no hb hx, bdx_l]
    · simp only [f_X6_leaves, r_noEdge_1 hb h hx, bd_some, p_fails1, e10, bi_F]
end A10
