/-! What is wrong with a cut: the class's form. -/
def hs (st : XS) (i c : Nat) : Bool := decide (xR st 0 i c ≠ 45)
def tI (b : Bool) : Int32 := if b then 1 else 0
theorem tI_t : tI true = 1 := rfl
theorem tI_f : tI false = 0 := rfl
theorem tI_nb (b : Bool) : narrow .boolean (.int (tI b)) = .int (tI b) := by cases b <;> rfl
def mst (acc : Int32) (c : Nat) (b : Bool) : Int32 := if b then acc ||| (1 <<< (nI c &&& 31)) else acc
def memb (b0 b1 b2 b3 : Bool) : Int32 := mst (mst (mst (mst 0 0 b0) 1 b1) 2 b2) 3 b3
def cnb (b0 b1 b2 b3 : Bool) : Nat := b0.toNat + b1.toNat + b2.toNat + b3.toNat
def onl (b0 b1 b2 b3 : Bool) : Int32 := match b0, b1, b2, b3 with
  | true, false, false, false => 0 | false, true, false, false => 1 | false, false, true, false => 2 | false, false, false, true => 3 | _, _, _, _ => -1
theorem memb_eq : ∀ a b c d e f g h : Bool, memb a b c d = memb e f g h ↔ (a = e ∧ b = f ∧ c = g ∧ d = h) := by decide +kernel
theorem memb_0 : ∀ a b c d : Bool, memb a b c d = 0 ↔ cnb a b c d = 0 := by decide +kernel
def any4 (f : Nat → Bool) : Bool := f 0 || f 1 || f 2 || f 3
def gzb (g h : Int32) : Bool := !((decide (g = 108) && decide (h = 114)) || (decide (g = 114) && decide (h = 108)) || (decide (g = 99) && decide (h = 99)))
def edg (st : XS) (a b c : Nat) : Bool := decide (xR st 3 a c ≠ 45) && decide (xR st 3 a c = xR st 2 b c)
def mis (st : XS) (a b c : Nat) : Bool := decide (xR st 3 a c = 45) && decide (xR st 2 b c = 45) && ((decide (xR st 0 a c = 108) && decide (xR st 0 b c = 114)) || (decide (xR st 0 a c = 114) && decide (xR st 0 b c = 108)))
def onS (st : XS) (i : Nat) : Int32 := onl (hs st i 0) (hs st i 1) (hs st i 2) (hs st i 3)
def meS (st : XS) (i : Nat) : Int32 := memb (hs st i 0) (hs st i 1) (hs st i 2) (hs st i 3)
def acr (st : XS) (a b : Nat) : Bool := decide (xF st 1 a 3 ≠ 48) && decide (xF st 1 b 3 ≠ 48) && decide (xF st 1 a 3 ≠ xF st 1 b 3)
def jmp (st : XS) (a b : Nat) : Bool := decide (xF st 1 a 3 = xF st 1 b 3) && decide (xF st 1 a 4 = xF st 1 b 4) && decide (meS st a ≠ 0) && decide (meS st a = meS st b)
def gzS (st : XS) (a b : Nat) : Bool := decide (onS st a ≠ -1) && decide (onS st b ≠ -1) && decide (onS st a ≠ onS st b) && gzb (xR st 1 a (onS st a).toNatClampNeg) (xR st 1 b (onS st b).toNatClampNeg)
def flt (st : XS) (a b : Nat) : Int32 := if acr st a b then 120 else if jmp st a b then 106 else if gzS st a b then 103 else if any4 (edg st a b) then 101 else if any4 (mis st a b) then 109 else 45
theorem bi_d {α : Type} {p : Prop} [Decidable p] (a b : Option α) : bi p a b = if decide p then a else b := by
  by_cases h : p
  · rw [bi_pos h, if_pos (decide_eq_true h)]
  · rw [bi_neg h, if_neg (by simp [h])]
theorem nge4 {c : Nat} (hc : c < 4) : ¬ (4 : Int32) ≤ nI c := nI_ge (b := 4) hc (by decide)
theorem nle4 : (4 : Int32) ≤ nI (0 + 1 + 1 + 1 + 1) := by decide
section FC
variable {st : XS}
theorem vp4 {c : Nat} (hc : c < 4) : vp_in (nI c) 4 := vp_in_nI hc (by decide)
theorem p_has {i c : Nat} (hi : i < xN st 0) (hc : c < 4) : f_X0_has st i (nI c) = some (tI (hs st i c), st) := by
  unfold f_X0_has f_X0_has_16 hs
  rw [gd_pos hi, gd_pos (vp4 hc), nI_clamp (by omega)]
  by_cases h : xR st 0 i c = 45
  · rw [bi_pos h, gd_pos nb_0]
    simp [h, tI]
  · rw [bi_neg h, gd_pos nb_1]
    simp [h, tI]
theorem p_mem_s {n i c : Nat} {acc : Int32} (hi : i < xN st 0) (hc : c < 4) : f_X0_members_4 (n + 1) st i acc (nI c) = f_X0_members_4 n st i (mst acc c (hs st i c)) (nI (c + 1)) := by
  rw [f_X0_members_4, bi_neg (nge4 hc), gd_pos hi, p_has hi hc, bd_some]
  unfold mst f_X0_members_23
  cases h : hs st i c
  · rw [tI_f, bi_pos rfl, if_neg (by decide), nI_1]
  · rw [tI_t, bi_neg (by decide), if_pos rfl, nI_1]
theorem p_members {i : Nat} (hi : i < xN st 0) : f_X0_members st i = some (meS st i, st) := by
  show f_X0_members_4 (999995 + 1 + 1 + 1 + 1 + 1) st i 0 (nI 0) = _
  rw [p_mem_s hi (by decide), p_mem_s hi (by decide), p_mem_s hi (by decide), p_mem_s hi (by decide), f_X0_members_4, bi_pos nle4]
  rfl
theorem p_onl_s {n i c : Nat} {x : Int32} (hi : i < xN st 0) (hc : c < 4) : f_X0_onlyMember_4 (n + 1) st i x (nI c) = if hs st i c then (if decide (x = -1) then f_X0_onlyMember_4 n st i (nI c) (nI (c + 1)) else some (-1, st)) else f_X0_onlyMember_4 n st i x (nI (c + 1)) := by
  rw [f_X0_onlyMember_4, bi_neg (nge4 hc), gd_pos hi, p_has hi hc, bd_some]
  unfold f_X0_onlyMember_26
  cases h : hs st i c
  · rw [tI_f, bi_pos rfl, if_neg (by decide), nI_1]
  · rw [tI_t, bi_neg (by decide), if_pos rfl, bi_d, nI_1]
theorem p_onl_e {n i : Nat} {x : Int32} : f_X0_onlyMember_4 (n + 1) st i x (nI (0 + 1 + 1 + 1 + 1)) = some (x, st) := by
  rw [f_X0_onlyMember_4, bi_pos nle4]
theorem p_only {i : Nat} (hi : i < xN st 0) : f_X0_onlyMember st i = some (onS st i, st) := by
  show f_X0_onlyMember_4 (999995 + 1 + 1 + 1 + 1 + 1) st i (-1) (nI 0) = _
  simp only [p_onl_s hi (show 0 < 4 by decide), p_onl_s hi (show 0 + 1 < 4 by decide), p_onl_s hi (show 0 + 1 + 1 < 4 by decide), p_onl_s hi (show 0 + 1 + 1 + 1 < 4 by decide), p_onl_e]
  unfold onS
  generalize hs st i 0 = b0
  have e1 : hs st i (0 + 1) = hs st i 1 := rfl
  have e2 : hs st i (0 + 1 + 1) = hs st i 2 := rfl
  have e3 : hs st i (0 + 1 + 1 + 1) = hs st i 3 := rfl
  rw [e1, e2, e3]
  generalize hs st i 1 = b1
  generalize hs st i 2 = b2
  generalize hs st i 3 = b3
  cases b0 <;> cases b1 <;> cases b2 <;> cases b3 <;> rfl
theorem p_edge {a b c : Nat} (ha : a < xN st 0) (hb : b < xN st 0) (hc : c < 4) : f_X5_isBackByTheSameEdge st a b (nI c) = some (tI (edg st a b c), st) := by
  unfold f_X5_isBackByTheSameEdge f_X5_isBackByTheSameEdge_27 f_X5_isBackByTheSameEdge_28 edg
  rw [gd_pos ha, gd_pos (vp4 hc), nI_clamp (by omega), gd_pos hb, gd_pos (vp4 hc), gd_pos nb_0, gd_pos nb_1, bi_d, bi_d]
  by_cases h : xR st 3 a c = 45 <;> by_cases h2 : xR st 3 a c = xR st 2 b c <;> simp [h, h2, tI] <;> simp_all
theorem p_mis {a b c : Nat} (ha : a < xN st 0) (hb : b < xN st 0) (hc : c < 4) : f_X5_isMisplaced st a b (nI c) = some (tI (mis st a b c), st) := by
  have n0 : f_X5_isMisplaced_69 st = some (0, st) := by rw [f_X5_isMisplaced_69, f_X5_isMisplaced_70, gd_pos nb_0]
  have n1 : f_X5_isMisplaced_65 st = some (1, st) := by rw [f_X5_isMisplaced_65, f_X5_isMisplaced_70, gd_pos nb_1]
  unfold f_X5_isMisplaced f_X5_isMisplaced_22 f_X5_isMisplaced_52 mis
  rw [gd_pos ha, gd_pos (vp4 hc), nI_clamp (by omega), gd_pos hb, gd_pos (vp4 hc), gd_pos (vp4 hc), gd_pos (vp4 hc), n0, n1]
  simp only [bi_d]
  by_cases h1 : xR st 3 a c = 45 <;> by_cases h2 : xR st 2 b c = 45 <;> by_cases h3 : xR st 0 a c = 108 <;> by_cases h4 : xR st 0 b c = 114 <;> by_cases h5 : xR st 0 a c = 114 <;> by_cases h6 : xR st 0 b c = 108 <;> simp [h1, h2, h3, h4, h5, h6, tI]
theorem p_72s {n a b c : Nat} (ha : a < xN st 0) (hb : b < xN st 0) (hc : c < 4) : f_X5_faultBetween_72 (n + 1) st a b (nI c) = if mis st a b c then some (109, st) else f_X5_faultBetween_72 n st a b (nI (c + 1)) := by
  rw [f_X5_faultBetween_72, bi_neg (nge4 hc), gd_pos ha, gd_pos hb, p_mis ha hb hc, bd_some]
  cases h : mis st a b c
  · rw [tI_f, bi_pos rfl, if_neg (by decide), nI_1]
  · rw [tI_t, bi_neg (by decide), if_pos rfl]
theorem p_72 {a b : Nat} (ha : a < xN st 0) (hb : b < xN st 0) : f_X5_faultBetween_72 FU st a b 0 = some (if any4 (mis st a b) then 109 else 45, st) := by
  show f_X5_faultBetween_72 (999995 + 1 + 1 + 1 + 1 + 1) st a b (nI 0) = _
  rw [p_72s ha hb (by decide), p_72s ha hb (by decide), p_72s ha hb (by decide), p_72s ha hb (by decide), f_X5_faultBetween_72, bi_pos nle4]
  unfold any4
  cases mis st a b 0 <;> cases mis st a b 1 <;> cases mis st a b 2 <;> cases mis st a b 3 <;> rfl
theorem p_41s {n a b c : Nat} (ha : a < xN st 0) (hb : b < xN st 0) (hc : c < 4) : f_X5_faultBetween_41 (n + 1) st a b (nI c) = if edg st a b c then some (101, st) else f_X5_faultBetween_41 n st a b (nI (c + 1)) := by
  rw [f_X5_faultBetween_41, bi_neg (nge4 hc), gd_pos ha, gd_pos hb, p_edge ha hb hc, bd_some]
  cases h : edg st a b c
  · rw [tI_f, bi_pos rfl, if_neg (by decide), nI_1]
  · rw [tI_t, bi_neg (by decide), if_pos rfl]
theorem p_41 {a b : Nat} (ha : a < xN st 0) (hb : b < xN st 0) : f_X5_faultBetween_41 FU st a b 0 = some (if any4 (edg st a b) then 101 else if any4 (mis st a b) then 109 else 45, st) := by
  show f_X5_faultBetween_41 (999995 + 1 + 1 + 1 + 1 + 1) st a b (nI 0) = _
  rw [p_41s ha hb (by decide), p_41s ha hb (by decide), p_41s ha hb (by decide), p_41s ha hb (by decide), f_X5_faultBetween_41, bi_pos nle4, p_72 ha hb]
  unfold any4
  cases edg st a b 0 <;> cases edg st a b 1 <;> cases edg st a b 2 <;> cases edg st a b 3 <;> rfl
theorem onl_is : ∀ a b c d : Bool, onl a b c d = -1 ∨ (onl a b c d = nI 0 ∧ a = true) ∨ (onl a b c d = nI 1 ∧ b = true) ∨ (onl a b c d = nI 2 ∧ c = true) ∨ (onl a b c d = nI 3 ∧ d = true) := by decide +kernel
theorem onS_is (i : Nat) : onS st i = -1 ∨ ∃ c, c < 4 ∧ onS st i = nI c ∧ hs st i c = true := by
  rcases onl_is (hs st i 0) (hs st i 1) (hs st i 2) (hs st i 3) with h | h | h | h | h
  · exact Or.inl h
  · exact Or.inr ⟨0, by decide, h⟩
  · exact Or.inr ⟨1, by decide, h⟩
  · exact Or.inr ⟨2, by decide, h⟩
  · exact Or.inr ⟨3, by decide, h⟩
theorem p_gaz {a b : Nat} (ha : a < xN st 0) (hb : b < xN st 0) : f_X5_areGazesUnmatched st a b = some (tI (gzS st a b), st) := by
  have n0 : f_X5_areGazesUnmatched_101 st = some (0, st) := by rw [f_X5_areGazesUnmatched_101, f_X5_areGazesUnmatched_102, gd_pos nb_0]
  have n1 : f_X5_areGazesUnmatched_97 st = some (1, st) := by rw [f_X5_areGazesUnmatched_97, f_X5_areGazesUnmatched_102, gd_pos nb_1]
  unfold f_X5_areGazesUnmatched f_X5_areGazesUnmatched_25
  rw [gd_pos ha, p_only ha, bd_some, gd_pos hb, p_only hb, bd_some]
  unfold gzS
  by_cases h1 : onS st a = -1
  · rw [bi_pos h1]
    simp [h1, tI]
  · rw [bi_neg h1]
    by_cases h2 : onS st b = -1
    · rw [bi_pos h2]
      simp [h2, tI]
    · rw [bi_neg h2]
      by_cases h3 : onS st a = onS st b
      · rw [bi_pos h3]
        simp [h3, tI]
      · rw [bi_neg h3]
        obtain ⟨c, hc, ec, -⟩ := (onS_is a).resolve_left h1
        obtain ⟨d, hd, ed, -⟩ := (onS_is b).resolve_left h2
        rw [gd_pos ha, gd_pos (by rw [ec]; exact vp4 hc), gd_pos hb, gd_pos (by rw [ed]; exact vp4 hd)]
        simp only [h1, h2, h3, ne_eq, not_false_eq_true, decide_true, Bool.true_and]
        generalize xR st 1 a (onS st a).toNatClampNeg = x
        generalize xR st 1 b (onS st b).toNatClampNeg = y
        unfold f_X5_areGazesUnmatched_71 f_X5_areGazesUnmatched_57 f_X5_areGazesUnmatched_71 f_X5_areGazesUnmatched_75 f_X5_areGazesUnmatched_76 gzb
        rw [n0, n1]
        simp only [bi_d]
        by_cases g1 : x = 108 <;> by_cases g2 : y = 114 <;> by_cases g3 : x = 114 <;> by_cases g4 : y = 108 <;> by_cases g5 : x = 99 <;> by_cases g6 : y = 99 <;> simp [g1, g2, g3, g4, g5, g6, tI] <;> simp_all
theorem p_acr {a b : Nat} (ha : a < xN st 0) (hb : b < xN st 0) : f_X5_isAcrossLine st a b = some (tI (acr st a b), st) := by
  have n0 : f_X5_isAcrossLine_33 st = some (0, st) := by rw [f_X5_isAcrossLine_33, f_X5_isAcrossLine_34, gd_pos nb_0]
  have n1 : f_X5_isAcrossLine_34 st 1 = some (1, st) := by rw [f_X5_isAcrossLine_34, gd_pos nb_1]
  unfold f_X5_isAcrossLine acr
  rw [n0, n1, gd_pos ha, gd_pos hb]
  simp only [bi_d]
  by_cases h1 : xF st 1 a 3 = 48 <;> by_cases h2 : xF st 1 b 3 = 48 <;> by_cases h3 : xF st 1 a 3 = xF st 1 b 3 <;> simp [h1, h2, h3, tI] <;> simp_all
theorem p_jmp {a b : Nat} (ha : a < xN st 0) (hb : b < xN st 0) : f_X5_isJump st a b = some (tI (jmp st a b), st) := by
  have n0 : f_X5_isJump_49 st = some (0, st) := by rw [f_X5_isJump_49, f_X5_isJump_50, gd_pos nb_0]
  have n1 : f_X5_isJump_50 st 1 = some (1, st) := by rw [f_X5_isJump_50, gd_pos nb_1]
  unfold f_X5_isJump jmp
  rw [gd_pos ha, p_members ha, bd_some, gd_pos ha, gd_pos hb, n0, p_members hb, bd_some, n1]
  simp only [bi_d]
  by_cases h1 : xF st 1 a 3 = xF st 1 b 3 <;> by_cases h2 : xF st 1 a 4 = xF st 1 b 4 <;> by_cases h3 : meS st a = 0 <;> by_cases h4 : meS st a = meS st b <;> simp [h1, h2, h3, h4, tI] <;> simp_all
theorem p_fault {a b : Nat} (ha : a < xN st 0) (hb : b < xN st 0) : f_X5_faultBetween st a b = some (flt st a b, st) := by
  unfold f_X5_faultBetween flt
  rw [p_acr ha hb, bd_some, p_jmp ha hb, bd_some, gd_pos ha, gd_pos hb, p_gaz ha hb, bd_some, p_41 ha hb]
  cases acr st a b
  · rw [tI_f, bi_pos rfl]
    cases jmp st a b
    · rw [tI_f, bi_pos rfl]
      cases gzS st a b
      · rw [tI_f, bi_pos rfl]
        rfl
      · rw [tI_t, bi_neg (by decide)]
        rfl
    · rw [tI_t, bi_neg (by decide)]
      rfl
  · rw [tI_t, bi_neg (by decide)]
    rfl
end FC
