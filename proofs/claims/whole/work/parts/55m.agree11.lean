/-! Agreement: stand. -/
section A11
variable {st : XS} {ms : MS}
theorem sA_same {ms : MS} {k i : Nat} {x : Int32} (h : ms.2 k i = x) : setA ms k i x = ms := by
  unfold setA
  refine Prod.ext rfl ?_
  funext j
  show (if j = k then upd (ms.2 k) i x else ms.2 j) = ms.2 j
  by_cases e : j = k
  · rw [if_pos e, e]
    exact fa_upd_same h
  · rw [if_neg e]
def stC (st : XS) (i c : Nat) (p g e x d : Int32) : XS := sF (sR (sR (sR (sR st 0 i c p) 1 i c g) 2 i c e) 3 i c x) 1 i 6 (xF st 1 i 6 + d)
def msC (ms : MS) (i c : Nat) (p g e x v : Int32) : MS := setA (setA (setA (setA (setA (setS ms 0 0) 7 i v) 11 (4 * i + c) p) 12 (4 * i + c) g) 13 (4 * i + c) e) 14 (4 * i + c) x
theorem INV.cells (I : INV st ms) {i c : Nat} {p g e x d : Int32} (hi : i < xN st 0) (hc : c < 4) (hk : (p = 45 ∧ g = 45 ∧ e = 45 ∧ x = 45) ∨ (isLCR p ∧ isLCR g ∧ isEdg e ∧ isEdg x)) : INV (stC st i c p g e x d) (msC ms i c p g e x (xF st 1 i 6 + d)) := by
  have hb := I.1
  have h := I.2
  have hr := r_shot h hi
  have hsk := hb.sok hi
  have hS : SB st (stC st i c p g e x d) i := (((((SB.rf st i).r 0 c p).r 1 c g).r 2 c e).r 3 c x).f1 6 (xF st 1 i 6 + d)
  have hM : SM ms (msC ms i c p g e x (xF st 1 i 6 + d)) i := ((((((SM.rf ms i).s0 0).a 7 (by decide) (xF st 1 i 6 + d)).c 11 c (by decide) hc p).c 12 c (by decide) hc g).c 13 c (by decide) hc e).c 14 c (by decide) hc x
  have e1 : ∀ f, f ≠ 6 → xF (stC st i c p g e x d) 1 i f = xF st 1 i f := fun f hf => by unfold stC; rw [sf_ne hf]; rfl
  have e16 : xF (stC st i c p g e x d) 1 i 6 = xF st 1 i 6 + d := by unfold stC; rw [xF_sF, if_pos ⟨rfl, rfl, rfl⟩]
  have e2 : ∀ f, xF (stC st i c p g e x d) 2 i f = xF st 2 i f := fun f => by unfold stC; rw [xF_sF, if_neg (by rintro ⟨z, -⟩; cases z)]; rfl
  have eR : ∀ c', c' ≠ c → ∀ w, xR (stC st i c p g e x d) w i c' = xR st w i c' := fun c' hc' w => by
    unfold stC
    rw [xR_sF, xR_sR, if_neg (fun z => hc' z.2), xR_sR, if_neg (fun z => hc' z.2), xR_sR, if_neg (fun z => hc' z.2), xR_sR, if_neg (fun z => hc' z.2)]
  have r0 : xR (stC st i c p g e x d) 0 i c = p := by unfold stC; simp [xR_sF, xR_sR]
  have r1 : xR (stC st i c p g e x d) 1 i c = g := by unfold stC; simp [xR_sF, xR_sR]
  have r2 : xR (stC st i c p g e x d) 2 i c = e := by unfold stC; simp [xR_sF, xR_sR]
  have r3 : xR (stC st i c p g e x d) 3 i c = x := by unfold stC; simp [xR_sF, xR_sR]
  have m7 : (msC ms i c p g e x (xF st 1 i 6 + d)).2 7 i = xF st 1 i 6 + d := by unfold msC; simp [sA_2]
  have mo : ∀ k t, k ≠ 7 → ¬ (11 ≤ k ∧ k ≤ 14) → (msC ms i c p g e x (xF st 1 i 6 + d)).2 k t = ms.2 k t := fun k t h1 h2 => by
    unfold msC
    rw [sA_2, if_neg (by omega), sA_2, if_neg (by omega), sA_2, if_neg (by omega), sA_2, if_neg (by omega), sA_2, if_neg (fun z => h1 z.1), sS_2]
  have mc : ∀ c', c' ≠ c → ∀ k, 11 ≤ k ∧ k ≤ 14 → (msC ms i c p g e x (xF st 1 i 6 + d)).2 k (4 * i + c') = ms.2 k (4 * i + c') := fun c' hc' k hk => by
    unfold msC
    rw [sA_2, if_neg (by omega), sA_2, if_neg (by omega), sA_2, if_neg (by omega), sA_2, if_neg (by omega), sA_2, if_neg (by omega), sS_2]
  have m11 : (msC ms i c p g e x (xF st 1 i 6 + d)).2 11 (4 * i + c) = p := by unfold msC; simp [sA_2]
  have m12 : (msC ms i c p g e x (xF st 1 i 6 + d)).2 12 (4 * i + c) = g := by unfold msC; simp [sA_2]
  have m13 : (msC ms i c p g e x (xF st 1 i 6 + d)).2 13 (4 * i + c) = e := by unfold msC; simp [sA_2]
  have m14 : (msC ms i c p g e x (xF st 1 i 6 + d)).2 14 (4 * i + c) = x := by unfold msC; simp [sA_2]
  refine ⟨BI_shot hb hS ?_ (e1 7 (by decide)) (e1 8 (by decide)), RE_shot h hi hS hM ?_⟩
  · unfold SOK
    rw [e1 3 (by decide), e1 4 (by decide), e1 5 (by decide), e1 8 (by decide), e1 7 (by decide), e1 11 (by decide), e2]
    refine ⟨hsk.1, hsk.2.1, hsk.2.2.1, hsk.2.2.2.1, hsk.2.2.2.2.1, hsk.2.2.2.2.2.1, hsk.2.2.2.2.2.2.1, fun c' hc' => ?_⟩
    unfold COK
    by_cases z : c' = c
    · subst z
      rw [r0, r1, r2, r3]
      exact hk
    · rw [eR c' z, eR c' z, eR c' z, eR c' z]
      exact hsk.rows c' hc'
  · unfold RS
    rw [e1 3 (by decide), e1 4 (by decide), e1 5 (by decide), e16, e1 11 (by decide), e1 7 (by decide), e1 8 (by decide), e1 9 (by decide), e1 10 (by decide), e2, e2, e2, e2, m7, mo 4 i (by decide) (by decide), mo 5 i (by decide) (by decide), mo 6 i (by decide) (by decide), mo 8 i (by decide) (by decide), mo 9 i (by decide) (by decide), mo 10 i (by decide) (by decide), mo 16 i (by decide) (by decide), mo 17 i (by decide) (by decide), mo 18 i (by decide) (by decide), mo 19 i (by decide) (by decide), mo 20 i (by decide) (by decide), mo 21 i (by decide) (by decide)]
    unfold RS at hr
    refine ⟨hr.1, hr.2.1, hr.2.2.1, rfl, hr.2.2.2.2.1, hr.2.2.2.2.2.1, hr.2.2.2.2.2.2.1, hr.2.2.2.2.2.2.2.1, hr.2.2.2.2.2.2.2.2.1, hr.2.2.2.2.2.2.2.2.2.1, hr.2.2.2.2.2.2.2.2.2.2.1, hr.2.2.2.2.2.2.2.2.2.2.2.1, hr.2.2.2.2.2.2.2.2.2.2.2.2.1, fun c' hc' => ?_⟩
    by_cases z : c' = c
    · subst z
      rw [r0, r1, r2, r3]
      exact ⟨m11, m12, m13, m14⟩
    · rw [eR c' z, eR c' z, eR c' z, eR c' z, mc c' z 11 (by decide), mc c' z 12 (by decide), mc c' z 13 (by decide), mc c' z 14 (by decide)]
      exact hr.2.2.2.2.2.2.2.2.2.2.2.2.2 c' hc'
def stZ : XS := (fun _ _ _ => 0, fun _ _ => fun _ => 0, fun _ => [], fun _ => 0, fun _ => 0)
theorem bc_memb : ∀ a b c d : Bool, (f_J6_bitCount_0f7a4 stZ (memb a b c d)).map Prod.fst = some (nI (cnb a b c d)) := by decide +kernel
theorem bc_st (x : Int32) : f_J6_bitCount_0f7a4 st x = ((f_J6_bitCount_0f7a4 stZ x).map Prod.fst).map (fun v => (v, st)) := rfl
theorem p_stand72 {i : Nat} (hi : i < xN st 0) : f_X5_stand_72 st i = some (.inr (nI (cnb (hs st i 0) (hs st i 1) (hs st i 2) (hs st i 3))), st) := by
  unfold f_X5_stand_72
  rw [gd_pos hi, p_members hi, bd_some, bc_st]
  unfold meS
  rw [bc_memb]
  rfl
theorem r_stand176 (I : INV st ms) {i : Nat} (hi : i < xN st 0) : f_X6_stand_176 ms (nI i) = some (nI (cnb (hs st i 0) (hs st i 1) (hs st i 2) (hs st i 3)), ms) := by
  unfold f_X6_stand_176
  rw [r_cnt I.1 I.2.rt hi, bd_some]
theorem p_isPos {x : Int32} : f_X5_isPosition st x = some (b2i (isLCR x), st) := by
  have n0 : f_X5_isPosition_23 st 0 = some (0, st) := by rw [f_X5_isPosition_23, gd_pos nb_0]
  have n1 : f_X5_isPosition_18 st = some (1, st) := by rw [f_X5_isPosition_18, f_X5_isPosition_23, gd_pos nb_1]
  unfold f_X5_isPosition
  rw [n0, n1]
  by_cases h : isLCR x
  · rw [b2i_t h]
    rcases h with rfl | rfl | rfl
    · rw [bi_pos rfl]
    · rw [bi_neg (by decide), bi_pos rfl]
    · rw [bi_neg (by decide), bi_neg (by decide), bi_pos rfl]
  · rw [b2i_f h, bi_neg (fun z => h (Or.inl z)), bi_neg (fun z => h (Or.inr (Or.inl z))), bi_neg (fun z => h (Or.inr (Or.inr z)))]
theorem r_isThird {x : Int32} : f_X6_isThird ms x = some (b2i (isLCR x), ms) := by
  have n0 : f_X6_isThird_23 ms 0 = some (0, ms) := by rw [f_X6_isThird_23, gd_pos nb_0]
  have n1 : f_X6_isThird_18 ms = some (1, ms) := by rw [f_X6_isThird_18, f_X6_isThird_23, gd_pos nb_1]
  unfold f_X6_isThird
  rw [n0, n1]
  by_cases h : isLCR x
  · rw [b2i_t h]
    rcases h with rfl | rfl | rfl
    · rw [bi_pos rfl]
    · rw [bi_neg (by decide), bi_pos rfl]
    · rw [bi_neg (by decide), bi_neg (by decide), bi_pos rfl]
  · rw [b2i_f h, bi_neg (fun z => h (Or.inl z)), bi_neg (fun z => h (Or.inr (Or.inl z))), bi_neg (fun z => h (Or.inr (Or.inr z)))]
theorem lcr_nc {x : Int32} (h : isLCR x) : vp_nar .char x = x ∧ x ≠ 45 := by
  rcases h with rfl | rfl | rfl <;> exact ⟨rfl, by decide⟩
def fitS (c p g : Int32) : Prop := (0 ≤ c ∧ c ≤ 3) ∧ (p = 45 ∨ (isLCR p ∧ isLCR g))
/-- the class's last part: the cells -/
theorem p_stand42 (hb : BI st) {i c : Nat} {p g : Int32} (hi : i < xN st 0) (hc : c < 4) (hm : i ∈ xL st 1) (hf : p = 45 ∨ (isLCR p ∧ isLCR g)) : ∃ q g' e x d, ((q = 45 ∧ g' = 45 ∧ e = 45 ∧ x = 45) ∨ (isLCR q ∧ isLCR g' ∧ isEdg e ∧ isEdg x)) ∧ q = p ∧ g' = (if p = 45 then 45 else g) ∧ e = (if p = 45 then 45 else xR st 2 i c) ∧ x = (if p = 45 then 45 else xR st 3 i c) ∧ d = (if xR st 0 i c = p ∧ xR st 1 i c = g' then 0 else 1) ∧ f_X5_stand_42 st (nI c) p g i = f_X5_stand_72 (stC st i c q g' e x d) i := by
  have hk := (hb.sok hi).rows c hc
  unfold f_X5_stand_42
  rw [p_chk hb hi hm, bdx_r, gd_pos hi]
  by_cases hp : p = 45
  · subst hp
    refine ⟨45, 45, 45, 45, if xR st 0 i c = 45 ∧ xR st 1 i c = 45 then 0 else 1, Or.inl ⟨rfl, rfl, rfl, rfl⟩, rfl, by rw [if_pos rfl], by rw [if_pos rfl], by rw [if_pos rfl], rfl, ?_⟩
    rw [bi_pos rfl]
    unfold f_X4_takeOut f_X4_takeOut_65
    rw [gd_pos hi, p_has hi hc, bd_some, gd_pos hi, gd_pos (vp4 hc), gd_pos (vp4 hc), gd_pos (vp4 hc), gd_pos (vp4 hc), nI_clamp (by omega)]
    have v45 : vp_nar .char 45 = 45 := rfl
    unfold stC hs
    rcases hk with ⟨k0, k1, k2, k3⟩ | ⟨k0, k1, k2, k3⟩
    · have e0 : tI (decide (xR st 0 i c ≠ 45)) = 0 := by simp [k0, tI]
      rw [e0, bi_pos rfl, bd_some, if_pos ⟨k0, k1⟩, Int32.add_zero]
      congr 1
      rw [sR_same k0, sR_same k1, sR_same k2, sR_same k3, sF_same rfl]
    · have h45 := (lcr_nc k0).2
      have e0 : tI (decide (xR st 0 i c ≠ 45)) = 1 := by simp [h45, tI]
      rw [e0, bi_neg (by decide), bd_some, if_neg (fun z => h45 z.1), v45]
      rfl
  · obtain ⟨hp1, hg1⟩ := hf.resolve_left hp
    refine ⟨p, g, xR st 2 i c, xR st 3 i c, if xR st 0 i c = p ∧ xR st 1 i c = g then 0 else 1, Or.inr ⟨hp1, hg1, ?_, ?_⟩, rfl, by rw [if_neg hp], by rw [if_neg hp], by rw [if_neg hp], rfl, ?_⟩
    · rcases hk with ⟨-, -, k2, -⟩ | ⟨-, -, k2, -⟩
      · rw [k2]; exact Or.inr (Or.inr rfl)
      · exact k2
    · rcases hk with ⟨-, -, -, k3⟩ | ⟨-, -, -, k3⟩
      · rw [k3]; exact Or.inr (Or.inr rfl)
      · exact k3
    · rw [bi_neg hp]
      have s2 : ∀ a b : Int32, sR (sR (sR (sR st 0 i c a) 1 i c b) 2 i c (xR st 2 i c)) 3 i c (xR st 3 i c) = sR (sR st 0 i c a) 1 i c b := fun a b => by
        rw [sR_same (st := sR (sR st 0 i c a) 1 i c b) (k := 2) (by simp [xR_sR]), sR_same (by simp [xR_sR])]
      have h26 : f_X4_putIn_26 st i (nI c) p g = some ((), stC st i c p g (xR st 2 i c) (xR st 3 i c) 1) := by
        unfold f_X4_putIn_26 f_X4_putIn_56 stC
        rw [gd_pos hi, gd_pos (vp4 hc), gd_pos (vp4 hc), nI_clamp (by omega), (lcr_nc hp1).1, (lcr_nc hg1).1, s2]
        rfl
      unfold f_X4_putIn f_X4_putIn_56
      rw [gd_pos hi, gd_pos hi, gd_pos (vp4 hc), gd_pos (vp4 hc), nI_clamp (by omega), h26]
      by_cases e0 : xR st 0 i c = p
      · rw [bi_pos e0]
        by_cases e1 : xR st 1 i c = g
        · rw [bi_pos e1, bd_some, if_pos ⟨e0, e1⟩]
          congr 1
          unfold stC
          rw [s2, sR_same e0, sR_same e1, sF_same (by rw [Int32.add_zero])]
        · rw [bi_neg e1, bd_some, if_neg (fun z => e1 z.2)]
      · rw [bi_neg e0, bd_some, if_neg (fun z => e0 z.1)]
theorem ag_stand (I : INV st ms) {x1 : Int32} {x2 : Int32} {x3 : Int32} {x4 : Int32} (h3 : CH x3) (h4 : CH x4) : ∃ r st' b ms', f_X5_stand st x1 x2 x3 x4 = some (r, st') ∧ f_X6_stand ms x1 x2 x3 x4 = some (b, ms') ∧ INV st' ms' ∧ (∀ k, r = .inl k → k ∈ [3, 0, 1]) ∧ ms'.1 0 = lwc [3, 0, 1] r ∧ ∀ x, r = .inr x → x = b := by
  have hb := I.1
  have h := I.2
  have h24 := hb.n24
  by_cases hf : fitS x2 x3 x4
  · have hfr : f_X6_stand ms x1 x2 x3 x4 = f_X6_stand_35 ms x1 x2 x3 x4 1 := by
      unfold f_X6_stand f_X6_stand_34 f_X6_stand_30
      rw [p_in, bd_some, b2i_t hf.1, bi_neg (by decide)]
      by_cases hp : x3 = 45
      · rw [bi_pos hp]
      · obtain ⟨a, b⟩ := hf.2.resolve_left hp
        rw [bi_neg hp, r_isThird, bd_some, b2i_t a, bi_neg (by decide), r_isThird, bd_some, b2i_t b, bi_neg (by decide)]
    obtain ⟨c, hc, rfl⟩ := char_nI hf.1
    rcases p_rng (N := xN st 0) (by omega) x1 with ⟨i, hi, rfl⟩ | hx
    · have hp42 : f_X5_stand st (nI i) (nI c) x3 x4 = f_X5_stand_42 st (nI c) x3 x4 i := by
        unfold f_X5_stand
        rw [p_made hb hi, bdx_r, p_char hf.1, bdx_r]
        by_cases hp : x3 = 45
        · rw [bi_pos hp]
        · obtain ⟨a, b⟩ := hf.2.resolve_left hp
          rw [bi_neg hp, p_isPos, bd_some, b2i_t a, bi_neg (by decide), p_isPos, bd_some, b2i_t b, bi_neg (by decide)]
      by_cases hm : i ∈ xL st 1
      · obtain ⟨q, g', e, x, d, hk, hq, hg, he, hxx, hd, hw⟩ := p_stand42 (st := st) (g := x4) hb hi hc hm hf.2
        have I2 := I.cells (d := d) hi hc hk
        have hi2 : i < xN (stC st i c q g' e x d) 0 := hi
        refine ⟨_, _, _, _, (hp42.trans hw).trans (p_stand72 hi2), ?_, I2, no_l, rfl, yes_r rfl⟩
        rw [hfr]
        have hge := (plc_ge hb.len).mpr hm
        have q0 : (setS ms 0 0).2 11 (4 * i + c) = xR st 0 i c := (r_cell h.rt hi hc).1
        have q1 : (setS ms 0 0).2 12 (4 * i + c) = xR st 1 i c := (r_cell h.rt hi hc).2.1
        have q2 : (setS ms 0 0).2 13 (4 * i + c) = xR st 2 i c := (r_cell h.rt hi hc).2.2.1
        have q3 : (setS ms 0 0).2 14 (4 * i + c) = xR st 3 i c := (r_cell h.rt hi hc).2.2.2
        have q7 : (setS ms 0 0).2 7 i = xF st 1 i 6 := (r_shot h hi).2.2.2.1
        have v3 : vp_nar .char x3 = x3 := by
          rcases hf.2 with rfl | ⟨a, -⟩
          · rfl
          · exact (lcr_nc a).1
        have vg : vp_nar .char g' = g' := by
          rw [hg]
          by_cases hp : x3 = 45
          · rw [if_pos hp]; rfl
          · rw [if_neg hp]
            exact (lcr_nc (hf.2.resolve_left hp).2).1
        have c96 : 4 * i + c < 96 := by omega
        -- the last stretch, for a change of d
        have h132 : ∀ (dd : Int32) (t : MS), t = setA (setS ms 0 0) 7 i (xF st 1 i 6 + dd) → dd = d → (gd (vp_in (nI (4 * i + c)) (mln 11)) (gd (vp_in (nI (4 * i + c)) (mln 12)) (bi (x3 = 45) (gd (vp_in (nI (4 * i + c)) (mln 13)) (gd (vp_in (nI (4 * i + c)) (mln 14)) (f_X6_stand_176 (setA (setA (setA (setA t 11 (nI (4 * i + c)).toNatClampNeg (vp_nar .char x3)) 12 (nI (4 * i + c)).toNatClampNeg (vp_nar .char g')) 13 (nI (4 * i + c)).toNatClampNeg (vp_nar .char 45)) 14 (nI (4 * i + c)).toNatClampNeg (vp_nar .char 45)) (nI i)))) (f_X6_stand_176 (setA (setA t 11 (nI (4 * i + c)).toNatClampNeg (vp_nar .char x3)) 12 (nI (4 * i + c)).toNatClampNeg (vp_nar .char g')) (nI i))))) = some (nI (cnb (hs (stC st i c q g' e x d) i 0) (hs (stC st i c q g' e x d) i 1) (hs (stC st i c q g' e x d) i 2) (hs (stC st i c q g' e x d) i 3)), msC ms i c q g' e x (xF st 1 i 6 + d)) := by
          intro dd t ht hdd
          subst hdd
          subst ht
          rw [gd_pos (vp96 c96 rfl), gd_pos (vp96 c96 rfl), gd_pos (vp96 c96 rfl), gd_pos (vp96 c96 rfl), nI_clamp (by omega), v3, vg]
          have e176 := r_stand176 I2 hi2
          by_cases hp : x3 = 45
          · rw [bi_pos hp]
            rw [if_pos hp] at he hxx
            have : setA (setA (setA (setA (setA (setS ms 0 0) 7 i (xF st 1 i 6 + dd)) 11 (4 * i + c) x3) 12 (4 * i + c) g') 13 (4 * i + c) (vp_nar .char 45)) 14 (4 * i + c) (vp_nar .char 45) = msC ms i c q g' e x (xF st 1 i 6 + dd) := by
              rw [hq, he, hxx]; rfl
            rw [this, e176]
          · rw [bi_neg hp]
            rw [if_neg hp] at he hxx
            have : setA (setA (setA (setS ms 0 0) 7 i (xF st 1 i 6 + dd)) 11 (4 * i + c) x3) 12 (4 * i + c) g' = msC ms i c q g' e x (xF st 1 i 6 + dd) := by
              rw [hq, he, hxx]
              unfold msC
              rw [sA_same (ms := setA (setA (setA (setS ms 0 0) 7 i (xF st 1 i 6 + dd)) 11 (4 * i + c) x3) 12 (4 * i + c) g') (k := 13), sA_same (k := 14)]
              · rw [← q3]; simp [sA_2]
              · rw [← q2]; simp [sA_2]
            rw [this, e176]
        have h100 : f_X6_stand_100 (setS ms 0 0) (nI i) x3 (nI (4 * i + c)) g' = some (nI (cnb (hs (stC st i c q g' e x d) i 0) (hs (stC st i c q g' e x d) i 1) (hs (stC st i c q g' e x d) i 2) (hs (stC st i c q g' e x d) i 3)), msC ms i c q g' e x (xF st 1 i 6 + d)) := by
          have a0 : d = 0 → f_X6_stand_132 (setS ms 0 0) (nI i) x3 (nI (4 * i + c)) g' (nI i) 0 = some (nI (cnb (hs (stC st i c q g' e x d) i 0) (hs (stC st i c q g' e x d) i 1) (hs (stC st i c q g' e x d) i 2) (hs (stC st i c q g' e x d) i 3)), msC ms i c q g' e x (xF st 1 i 6 + d)) := fun hd0 => by
            unfold f_X6_stand_132
            rw [r_change0 (show i < 24 by omega) rfl, bd_some, q7]
            exact h132 0 _ (by rw [Int32.add_zero]) hd0.symm
          have a1 : d = 1 → f_X6_stand_127 (setS ms 0 0) (nI i) x3 (nI (4 * i + c)) g' (nI i) = some (nI (cnb (hs (stC st i c q g' e x d) i 0) (hs (stC st i c q g' e x d) i 1) (hs (stC st i c q g' e x d) i 2) (hs (stC st i c q g' e x d) i 3)), msC ms i c q g' e x (xF st 1 i 6 + d)) := fun hd1 => by
            unfold f_X6_stand_127 f_X6_stand_132
            rw [r_change1 (show i < 24 by omega), bd_some, q7]
            exact h132 1 _ rfl hd1.symm
          unfold f_X6_stand_100
          rw [gd_pos (vp96 c96 rfl), gd_pos (vp96 c96 rfl), nI_clamp (by omega), q0, q1]
          by_cases z0 : xR st 0 i c = x3
          · rw [bi_pos z0]
            by_cases z1 : xR st 1 i c = g'
            · rw [bi_pos z1]
              exact a0 (by rw [hd, if_pos ⟨z0, z1⟩])
            · rw [bi_neg z1]
              exact a1 (by rw [hd, if_neg (fun y => z1 y.2)])
          · rw [bi_neg z0]
            exact a1 (by rw [hd, if_neg (fun y => z0 y.1)])
        simp only [f_X6_stand_35, p_isShot hb h hi, bd_some, e10, bi_F, r_placeOf hb h hi, eq_true hge, bi_T, f_X6_stand_72, p_fails0, e00, p_41c]
        rw [hg] at h100 ⊢
        by_cases hp : x3 = 45
        · rw [if_pos hp] at h100 ⊢
          rw [bi_pos hp]
          exact h100
        · rw [if_neg hp] at h100 ⊢
          rw [bi_neg hp]
          exact h100
      · have hge : ¬ 0 ≤ plc (xL st 1) i := fun h2 => hm ((plc_ge hb.len).mp h2)
        refine ⟨.inl 1, st, 0, setS ms 0 3, ?_, ?_, I.code 3, yes_l (by decide), code_0 _ _, no_r⟩
        · rw [hp42]
          simp only [f_X5_stand_42, p_chk_no hb hi hm, bdx_l]
        · rw [hfr]
          simp only [f_X6_stand_35, p_isShot hb h hi, bd_some, e10, bi_F, r_placeOf hb h hi, eq_false hge, f_X6_stand_72, p_fails3]
    · refine ⟨.inl 3, st, 0, setS ms 0 1, ?_, ?_, I.code 1, yes_l (by decide), code_0 _ _, no_r⟩
      · simp only [f_X5_stand, p_made_no hb hx, bdx_l]
      · rw [hfr]
        simp only [f_X6_stand_35, p_isShot_no hb h hx, bd_some, e00, bi_T, f_X6_stand_72, p_fails1, e10, bi_F]
  · have hfr : f_X6_stand ms x1 x2 x3 x4 = f_X6_stand_35 ms x1 x2 x3 x4 0 := by
      unfold f_X6_stand f_X6_stand_34 f_X6_stand_30
      rw [p_in, bd_some]
      by_cases hc : 0 ≤ x2 ∧ x2 ≤ 3
      · have hp : ¬ x3 = 45 := fun z => hf ⟨hc, Or.inl z⟩
        rw [b2i_t hc, bi_neg (by decide), bi_neg hp, r_isThird, bd_some]
        by_cases a : isLCR x3
        · have b : ¬ isLCR x4 := fun z => hf ⟨hc, Or.inr ⟨a, z⟩⟩
          rw [b2i_t a, bi_neg (by decide), r_isThird, bd_some, b2i_f b, bi_pos rfl]
        · rw [b2i_f a, bi_pos rfl]
      · rw [b2i_f hc, bi_pos rfl]
    rcases p_rng (N := xN st 0) (by omega) x1 with ⟨i, hi, rfl⟩ | hx
    · refine ⟨.inl 0, st, 0, setS ms 0 2, ?_, ?_, I.code 2, yes_l (by decide), code_0 _ _, no_r⟩
      · unfold f_X5_stand f_X5_stand_32
        rw [p_made hb hi, bdx_r]
        by_cases hc : 0 ≤ x2 ∧ x2 ≤ 3
        · have hp : ¬ x3 = 45 := fun z => hf ⟨hc, Or.inl z⟩
          rw [p_char hc, bdx_r, bi_neg hp, p_isPos, bd_some]
          by_cases a : isLCR x3
          · have b : ¬ isLCR x4 := fun z => hf ⟨hc, Or.inr ⟨a, z⟩⟩
            rw [b2i_t a, bi_neg (by decide), p_isPos, bd_some, b2i_f b, bi_pos rfl]
          · rw [b2i_f a, bi_pos rfl]
        · rw [p_char_no hc, bdx_l]
      · rw [hfr]
        simp only [f_X6_stand_35, p_isShot hb h hi, bd_some, e10, bi_F, e00, bi_T, f_X6_stand_72, p_fails2]
    · refine ⟨.inl 3, st, 0, setS ms 0 1, ?_, ?_, I.code 1, yes_l (by decide), code_0 _ _, no_r⟩
      · simp only [f_X5_stand, p_made_no hb hx, bdx_l]
      · rw [hfr]
        simp only [f_X6_stand_35, p_isShot_no hb h hx, bd_some, e00, bi_T, f_X6_stand_72, p_fails1, e10, bi_F]
end A11
