/-! Agreements: move, shot. -/
theorem sRow_twice (M : MS) (f g : Nat → Int32) (a b : Int32) : setS (sRow (setS (sRow M f) 2 a) g) 2 b = setS (sRow M g) 2 b := by
  unfold setS sRow
  refine Prod.ext ?_ ?_
  · show upd (upd M.1 2 a) 2 b = upd M.1 2 b
    exact fa_upd_twice _ _ _ _
  · funext j
    show (if j = 3 then g else (if j = 3 then f else M.2 j)) = if j = 3 then g else M.2 j
    by_cases h : j = 3
    · rw [if_pos h, if_pos h]
    · rw [if_neg h, if_neg h, if_neg h]
section A12
variable {st : XS} {ms : MS}
theorem r_put {l : List Nat} {m : MS} {k i : Nat} (hm : m.1 2 = nI l.length) (hg : ∀ t, t < l.length → m.2 3 t = nI (l.getD t 0)) (hl : l.length < 24) (hk : k ≤ l.length) : ∃ f, f_X6_putIn m (nI i) (nI k) = some ((), setS (sRow m f) 2 (nI (l.insertIdx k i).length)) ∧ ∀ t, t < (l.insertIdx k i).length → f t = nI ((l.insertIdx k i).getD t 0) := by
  have el : (l.insertIdx k i).length = l.length + 1 := List.length_insertIdx_of_le_length hk _
  refine ⟨fun t => if t = k then nI i else if k < t ∧ t ≤ l.length then m.2 3 (t - 1) else m.2 3 t, ?_, fun t ht => ?_⟩
  · unfold f_X6_putIn
    have := r_put_go (m := m) (s := nI i) (k := k) (by omega) FU l.length (m.2 3) hk hl (by show _ < k + 1000000; omega)
    rw [sRow_self] at this
    rw [hm, this, el, hm, nI_1]
  · rw [el] at ht
    rw [ins_get hk]
    dsimp only
    by_cases h1 : t < k
    · rw [if_neg (by omega), if_neg (by omega), if_pos h1, hg t (by omega)]
    · rw [if_neg h1]
      by_cases h2 : t = k
      · rw [if_pos h2, if_pos h2]
      · rw [if_neg h2, if_neg h2, if_pos (by omega), hg (t - 1) (by omega)]
theorem ag_move (I : INV st ms) {x1 : Int32} {x2 : Int32} : ∃ r st' b ms', f_X5_move st x1 x2 = some (r, st') ∧ f_X6_move ms x1 x2 = some (b, ms') ∧ INV st' ms' ∧ (∀ k, r = .inl k → k ∈ [3, 0, 1]) ∧ ms'.1 0 = lwc [3, 0, 1] r ∧ ∀ x, r = .inr x → x = b := by
  have hb := I.1
  have h := I.2
  have h24 := hb.n24
  have hlen := hb.len
  rcases p_rng (N := xN st 0) (by omega) x1 with ⟨i, hi, rfl⟩ | hx
  · rcases p_rng (N := (xL st 1).length) (by omega) x2 with ⟨k, hk, rfl⟩ | hx2
    · by_cases hm : i ∈ xL st 1
      · have hge := (plc_ge hb.len).mpr hm
        have hlt := List.idxOf_lt_length_of_mem hm
        have el1 : ((xL st 1).eraseIdx ((xL st 1).idxOf i)).length = (xL st 1).length - 1 := List.length_eraseIdx_of_lt hlt
        obtain ⟨f, hf, hg⟩ := r_take hb (h.code 0) hlt
        have hni : i ∉ (xL st 1).eraseIdx ((xL st 1).idxOf i) := by
          have := del_not hb.2.2.1 hlt
          rw [get_idx hm] at this
          exact this
        obtain ⟨f2, hf2, hg2⟩ := r_put (l := (xL st 1).eraseIdx ((xL st 1).idxOf i)) (m := setS (sRow (setS ms 0 0) f) 2 (nI ((xL st 1).eraseIdx ((xL st 1).idxOf i)).length)) (k := k) (i := i) (by rw [sS_1, if_pos rfl]) hg (by omega) (by omega)
        have I2 := I.reel (l := ((xL st 1).eraseIdx ((xL st 1).idxOf i)).insertIdx k i) (ins_nodup _ _ (del_nodup ((xL st 1).idxOf i) hb.2.2.1) hni) (fun x hx => by
          rcases ins_mem _ _ hx with e | e
          · rw [e]; exact hm
          · exact del_mem e) hg2 0
        rw [sRow_twice] at hf2
        have eL : xL (sL st 1 ((xL st 1).eraseIdx ((xL st 1).idxOf i))) 1 = (xL st 1).eraseIdx ((xL st 1).idxOf i) := rfl
        have eS : sL (sL st 1 ((xL st 1).eraseIdx ((xL st 1).idxOf i))) 1 (((xL st 1).eraseIdx ((xL st 1).idxOf i)).insertIdx k i) = sL st 1 (((xL st 1).eraseIdx ((xL st 1).idxOf i)).insertIdx k i) := by
          unfold sL
          refine Prod.ext rfl (Prod.ext rfl (Prod.ext ?_ rfl))
          funext j
          show (if j = 1 then _ else if j = 1 then _ else _) = if j = 1 then _ else _
          by_cases z : j = 1
          · rw [if_pos z, if_pos z]
          · rw [if_neg z, if_neg z, if_neg z]
        refine ⟨.inr (nI ((xL st 1).idxOf i)), _, nI ((xL st 1).idxOf i), _, ?_, ?_, I2, no_l, rfl, yes_r rfl⟩
        · unfold f_X5_move
          rw [p_made hb hi, bdx_r, bi_in (by omega) hk, p_inReel hb hi hm, bdx_r, gd_pos (vp_in_nI hlt (show (xL st 1).length < 2 ^ 31 by omega)), nI_clamp (show (xL st 1).idxOf i < 2 ^ 31 by omega), xN_sL, gd_pos hi, eL, gd_pos (by omega), gd_pos (vp_in_nI (by omega) (by omega)), nI_clamp (show k < 2 ^ 31 by omega), eS]
        · simp only [f_X6_move, p_isShot hb h hi, bd_some, e10, bi_F, p_in, h.2.1, b2i_t (p_rin (show (xL st 1).length < 2 ^ 31 by omega) hk), r_placeOf hb h hi, eq_true hge, bi_T, f_X6_move_44, p_fails0, e00, r_placeOf hb (h.code 0) hi, plc_in hm, hf, hf2]
          rw [bi_pos (by rw [← plc_in hm]; exact hge)]
          rfl
      · have hge : ¬ 0 ≤ plc (xL st 1) i := fun h2 => hm ((plc_ge hb.len).mp h2)
        refine ⟨.inl 1, st, 0, setS ms 0 3, ?_, ?_, I.code 3, yes_l (by decide), code_0 _ _, no_r⟩
        · unfold f_X5_move
          rw [p_made hb hi, bdx_r, bi_in (by omega) hk, p_notIn hb hi hm, bdx_l]
        · simp only [f_X6_move, p_isShot hb h hi, bd_some, e10, bi_F, p_in, h.2.1, b2i_t (p_rin (show (xL st 1).length < 2 ^ 31 by omega) hk), r_placeOf hb h hi, eq_false hge, f_X6_move_44, p_fails3]
    · refine ⟨.inl 0, st, 0, setS ms 0 2, ?_, ?_, I.code 2, yes_l (by decide), code_0 _ _, no_r⟩
      · unfold f_X5_move f_X5_move_21
        rw [p_made hb hi, bdx_r, bi_out hx2]
      · simp only [f_X6_move, p_isShot hb h hi, bd_some, e10, bi_F, p_in, h.2.1, b2i_f (p_rout (show (xL st 1).length < 2 ^ 31 by omega) hx2), e00, bi_T, f_X6_move_44, p_fails2]
  · refine ⟨.inl 3, st, 0, setS ms 0 1, ?_, ?_, I.code 1, yes_l (by decide), code_0 _ _, no_r⟩
    · simp only [f_X5_move, p_made_no hb hx, bdx_l]
    · simp only [f_X6_move, p_isShot_no hb h hx, bd_some, e00, bi_T, f_X6_move_44, p_fails1, e10, bi_F]
end A12
