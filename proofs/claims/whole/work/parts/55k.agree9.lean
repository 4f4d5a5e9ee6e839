/-! Agreements: excuse, enters, leaves, stand. -/
section A9
variable {st : XS} {ms : MS}
def isFlt (x : Int32) : Prop := x = 120 ∨ x = 106 ∨ x = 103 ∨ x = 101 ∨ x = 109
theorem r_isFlt {x : Int32} : f_X6_isFault ms x = some (b2i (isFlt x), ms) := by
  have n0 : f_X6_isFault_35 ms 0 = some (0, ms) := by rw [f_X6_isFault_35, gd_pos nb_0]
  have n1 : f_X6_isFault_30 ms = some (1, ms) := by rw [f_X6_isFault_30, f_X6_isFault_35, gd_pos nb_1]
  unfold f_X6_isFault
  rw [n0, n1]
  by_cases h : isFlt x
  · rw [b2i_t h]
    rcases h with rfl | rfl | rfl | rfl | rfl
    · rw [bi_pos rfl]
    · rw [bi_neg (by decide), bi_pos rfl]
    · rw [bi_neg (by decide), bi_neg (by decide), bi_pos rfl]
    · rw [bi_neg (by decide), bi_neg (by decide), bi_neg (by decide), bi_pos rfl]
    · rw [bi_neg (by decide), bi_neg (by decide), bi_neg (by decide), bi_neg (by decide), bi_pos rfl]
  · rw [b2i_f h, bi_neg (fun e => h (Or.inl e)), bi_neg (fun e => h (Or.inr (Or.inl e))), bi_neg (fun e => h (Or.inr (Or.inr (Or.inl e)))), bi_neg (fun e => h (Or.inr (Or.inr (Or.inr (Or.inl e))))), bi_neg (fun e => h (Or.inr (Or.inr (Or.inr (Or.inr e)))))]
theorem p_excuse {x1 x2 : Int32} (h : isFlt x2) : f_X5_excuse st x1 x2 = f_X5_excuse_40 st x1 x2 := by
  unfold f_X5_excuse
  rcases h with rfl | rfl | rfl | rfl | rfl
  · rw [bi_pos rfl]
  · rw [bi_neg (by decide), bi_pos rfl]
  · rw [bi_neg (by decide), bi_neg (by decide), bi_pos rfl]
  · rw [bi_neg (by decide), bi_neg (by decide), bi_neg (by decide), bi_pos rfl]
  · rw [bi_neg (by decide), bi_neg (by decide), bi_neg (by decide), bi_neg (by decide), bi_pos rfl]
theorem p_excuse_no {x1 x2 : Int32} (h : ¬ isFlt x2) : f_X5_excuse st x1 x2 = some (.inl 0, st) := by
  unfold f_X5_excuse
  rw [bi_neg (fun e => h (Or.inl e)), bi_neg (fun e => h (Or.inr (Or.inl e))), bi_neg (fun e => h (Or.inr (Or.inr (Or.inl e)))), bi_neg (fun e => h (Or.inr (Or.inr (Or.inr (Or.inl e))))), bi_neg (fun e => h (Or.inr (Or.inr (Or.inr (Or.inr e)))))]
theorem flt_ok {x : Int32} (h : isFlt x) : narrow .char (.int x) = .int x ∧ fits .char (.int x) = true ∧ vp_nar .char x = x := by
  rcases h with rfl | rfl | rfl | rfl | rfl <;> exact ⟨rfl, rfl, rfl⟩
def stE (st : XS) (b a : Nat) (x : Int32) : XS := sF (sF (sF (sF st 2 b 0 x) 2 b 1 (xF st 1 b 6)) 2 b 2 (nI a)) 2 b 3 (xF st 1 a 6)
theorem p_grant {b a : Nat} {x : Int32} (h1 : b < xN st 0) (h2 : a < xN st 0) (hx : isFlt x) : f_X3_grant st b x b a = some ((), stE st b a x) := by
  obtain ⟨n1, n2, -⟩ := flt_ok hx
  have e1 : ∀ k f y i' f', xF (sF st 2 k f y) 1 i' f' = xF st 1 i' f' := fun k f y i' f' => by rw [xF_sF, if_neg (by rintro ⟨z, -⟩; cases z)]
  unfold f_X3_grant stE
  simp only [xN_sF]
  rw [gd_pos h1, gd_pos ⟨n1, n2⟩, gd_pos h1, gd_pos h2]
  congr 2
theorem SM.a4 {ms' : MS} {i : Nat} (h : SM ms ms' i) (x y z w : Int32) : SM ms (setA (setA (setA (setA ms' 16 i x) 17 i y) 18 i z) 19 i w) i := (((h.a 16 (by decide) x).a 17 (by decide) y).a 18 (by decide) z).a 19 (by decide) w
theorem INV.exc (I : INV st ms) {b a : Nat} {x : Int32} (h1 : b < xN st 0) (hx : isFlt x) (c : Int32) : INV (stE st b a x) (setA (setA (setA (setA (setS ms 0 c) 16 b x) 17 b (xF st 1 b 6)) 18 b (nI a)) 19 b (xF st 1 a 6)) := by
  have hb := I.1
  have h := I.2
  have hS : SB st (stE st b a x) b := ((((SB.rf st b).f2 0 x).f2 1 (xF st 1 b 6)).f2 2 (nI a)).f2 3 (xF st 1 a 6)
  have hM := ((SM.rf ms b).s0 c).a4 x (xF st 1 b 6) (nI a) (xF st 1 a 6)
  have hr := r_shot h h1
  have hs := hb.sok h1
  have hz := hr.rows
  have hzs := hs.rows
  have e1 : ∀ i' f', xF (stE st b a x) 1 i' f' = xF st 1 i' f' := fun i' f' => by
    unfold stE
    simp [xF_sF]
  refine ⟨BI_shot hb hS ?_ (e1 b 7) (e1 b 8), RE_shot h h1 hS hM ?_⟩
  · unfold SOK at hs ⊢
    simp only [e1]
    refine ⟨hs.1, hs.2.1, hs.2.2.1, hs.2.2.2.1, hs.2.2.2.2.1, hs.2.2.2.2.2.1, ?_, hzs⟩
    have e0 : xF (stE st b a x) 2 b 0 = x := by unfold stE; simp [xF_sF]
    rw [e0]
    exact Or.inr hx
  · unfold RS at hr ⊢
    simp only [e1]
    unfold stE
    simp only [sA_2, sS_2, xF_sF, xR_sF] at hr ⊢
    simp at hr ⊢
    simp [hr]
    exact hz
theorem ag_excuse (I : INV st ms) {x1 : Int32} {x2 : Int32} (h2 : CH x2) : ∃ r st' b ms', f_X5_excuse st x1 x2 = some (r, st') ∧ f_X6_excuse ms x1 x2 = some (b, ms') ∧ INV st' ms' ∧ (∀ k, r = .inl k → k ∈ [0, 4]) ∧ ms'.1 0 = lwc [0, 4] r ∧ ∀ x, r = .inr x → x = b := by
  have hb := I.1
  have h := I.2
  have hlen := hb.len
  have h24 := hb.n24
  by_cases hf : isFlt x2
  · obtain ⟨n1, n2, n3⟩ := flt_ok hf
    rcases p_cut hb x1 with ⟨k, h1, hk, rfl⟩ | ⟨hc, hx⟩
    · have g1 := hb.get hk
      have hk2 : k - 1 < (xL st 1).length := by omega
      have g2 := hb.get hk2
      have q1 : (setS ms 0 0).2 3 k = nI ((xL st 1).getD k 0) := r_get hb h hk
      have q2 : (setS ms 0 0).2 3 (k - 1) = nI ((xL st 1).getD (k - 1) 0) := r_get hb h hk2
      have hxr := r_exc hb (h.code 0) h1 hk
      have hpx := p_exc hb g1 g2
      have hnx := exS_nc (a := (xL st 1).getD (k - 1) 0) hb g1
      have hI := I.exc (a := (xL st 1).getD (k - 1) 0) g1 hf 0
      have hv := (r_shot h g1).2.2.2.1
      have hv2 := (r_shot h g2).2.2.2.1
      have hp : f_X5_excuse st (nI k) x2 = some (.inr (exS st ((xL st 1).getD k 0) ((xL st 1).getD (k - 1) 0)), stE st ((xL st 1).getD k 0) ((xL st 1).getD (k - 1) 0) x2) := by
        rw [p_excuse hf]
        simp only [f_X5_excuse_40, p_cutin hb h1 hk, bdx_r, p_km1 h1, gd_pos (vp_in_nI hk2 (show (xL st 1).length < 2 ^ 31 by omega)), gd_pos (vp_in_nI hk (show (xL st 1).length < 2 ^ 31 by omega)), nI_clamp (show k < 2 ^ 31 by omega), nI_clamp (show k - 1 < 2 ^ 31 by omega), gd_pos g1, gd_pos g2, hpx, bd_some, p_grant g1 g2 hf, gd_pos hnx]
      refine ⟨_, _, exS st ((xL st 1).getD k 0) ((xL st 1).getD (k - 1) 0), _, hp, ?_, hI, no_l, rfl, yes_r rfl⟩
      generalize (xL st 1).getD k 0 = b at *
      generalize (xL st 1).getD (k - 1) 0 = a at *
      simp only [f_X6_excuse, r_isFlt, bd_some, b2i_t hf, e10, bi_F, p_in, h.2.1, b2i_t (p_rcut hb h1 hk), f_X6_excuse_31, p_fails0, e00, bi_T, hxr, p_km1 h1, gd_pos (vp24 (show k < 24 by omega) (j := 3) rfl), gd_pos (vp24 (show k - 1 < 24 by omega) (j := 3) rfl), nI_clamp (show k < 2 ^ 31 by omega), nI_clamp (show k - 1 < 2 ^ 31 by omega), q1]
      have w3 : ∀ (q : MS) (y z : Int32), (setA q 16 b y).2 3 (k - 1) = q.2 3 (k - 1) := fun q y z => by rw [sA_2, if_neg (by rintro ⟨z, -⟩; cases z)]
      simp only [nI_clamp (show b < 2 ^ 31 by omega), sA_2, n3]
      simp only [q2, nI_clamp (show a < 2 ^ 31 by omega), sS_2, hv, hv2]
      simp
      rw [gd_pos (vp24 (show b < 24 by omega) (j := 16) rfl), gd_pos (vp24 (show b < 24 by omega) (j := 7) rfl), gd_pos (vp24 (show b < 24 by omega) (j := 17) rfl), gd_pos (vp24 (show b < 24 by omega) (j := 18) rfl), gd_pos (vp24 (show a < 24 by omega) (j := 7) rfl), gd_pos (vp24 (show b < 24 by omega) (j := 19) rfl), nI_clamp (show a < 2 ^ 31 by omega), hv2, gd_pos hnx]
    · refine ⟨.inl 4, st, 32, setS ms 0 2, ?_, ?_, I.code 2, yes_l (by decide), code_0 _ _, no_r⟩
      · rw [p_excuse hf]
        simp only [f_X5_excuse_40, hc, bdx_l]
      · have n32 : narrow .char (.int 32) = .int 32 := rfl
        simp only [f_X6_excuse, r_isFlt, bd_some, b2i_t hf, e10, bi_F, p_in, h.2.1, b2i_f hx, e00, bi_T, f_X6_excuse_31, p_fails2]
  · refine ⟨.inl 0, st, 32, setS ms 0 1, ?_, ?_, I.code 1, yes_l (by decide), code_0 _ _, no_r⟩
    · exact p_excuse_no hf
    · simp only [f_X6_excuse, r_isFlt, bd_some, b2i_f hf, e00, bi_T, f_X6_excuse_31, p_fails1, e10, bi_F]
end A9
