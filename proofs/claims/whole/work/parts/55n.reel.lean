/-! The reel changes: the reference's row, the class's list. -/
theorem ins_mem {x y : Nat} : ∀ (l : List Nat) (k : Nat), y ∈ l.insertIdx k x → y = x ∨ y ∈ l := by
  intro l
  induction l with
  | nil =>
    intro k h
    cases k with
    | zero => simp at h; exact Or.inl h
    | succ k => simp at h
  | cons a l ih =>
    intro k h
    cases k with
    | zero =>
      simp at h
      rcases h with h | h | h
      · exact Or.inl h
      · exact Or.inr (by rw [h]; exact List.mem_cons_self)
      · exact Or.inr (List.mem_cons_of_mem _ h)
    | succ k =>
      rw [List.insertIdx_succ_cons] at h
      rcases List.mem_cons.mp h with h | h
      · exact Or.inr (by rw [h]; exact List.mem_cons_self)
      · rcases ih k h with h | h
        · exact Or.inl h
        · exact Or.inr (List.mem_cons_of_mem _ h)
theorem ins_nodup {x : Nat} : ∀ (l : List Nat) (k : Nat), l.Nodup → x ∉ l → (l.insertIdx k x).Nodup := by
  intro l
  induction l with
  | nil =>
    intro k _ _
    cases k with
    | zero => simp
    | succ k => simp
  | cons a l ih =>
    intro k hn hx
    cases k with
    | zero =>
      rw [List.insertIdx_zero]
      exact List.nodup_cons.mpr ⟨hx, hn⟩
    | succ k =>
      rw [List.insertIdx_succ_cons]
      rw [List.nodup_cons] at hn ⊢
      refine ⟨fun h => ?_, ih k hn.2 (fun h => hx (List.mem_cons_of_mem _ h))⟩
      rcases ins_mem l k h with h | h
      · exact hx (by rw [h]; exact List.mem_cons_self)
      · exact hn.1 h
theorem del_nodup {l : List Nat} (k : Nat) (h : l.Nodup) : (l.eraseIdx k).Nodup := h.sublist (List.eraseIdx_sublist l k)
theorem del_mem {l : List Nat} {k x : Nat} (h : x ∈ l.eraseIdx k) : x ∈ l := List.mem_of_mem_eraseIdx h
theorem del_not {l : List Nat} {k : Nat} (hn : l.Nodup) (hk : k < l.length) : l.getD k 0 ∉ l.eraseIdx k := by
  intro h
  obtain ⟨j, hj, e⟩ := List.mem_iff_getElem.mp h
  rw [List.length_eraseIdx_of_lt hk] at hj
  have e2 : (l.eraseIdx k)[j]? = some (l.getD k 0) := by
    rw [List.getElem?_eq_getElem (by rw [List.length_eraseIdx_of_lt hk]; exact hj)]
    rw [e]
  rw [List.getElem?_eraseIdx] at e2
  have g : ∀ t, t < l.length → l[t]? = some (l.getD k 0) → t = k := fun t ht ht2 => by
    have h1 := plc_get hn ht
    have h2 := plc_get hn hk
    rw [List.getD_eq_getElem?_getD, ht2] at h1
    simp at h1 h2
    omega
  by_cases hjk : j < k
  · rw [if_pos hjk] at e2
    have := g j (by omega) e2
    omega
  · rw [if_neg hjk] at e2
    have := g (j + 1) (by omega) e2
    omega
theorem del_get {l : List Nat} {k t : Nat} : (l.eraseIdx k).getD t 0 = if t < k then l.getD t 0 else l.getD (t + 1) 0 := by
  rw [List.getD_eq_getElem?_getD, List.getElem?_eraseIdx]
  by_cases h : t < k
  · rw [if_pos h, if_pos h, List.getD_eq_getElem?_getD]
  · rw [if_neg h, if_neg h, List.getD_eq_getElem?_getD]
theorem ins_get {l : List Nat} {k t x : Nat} (hk : k ≤ l.length) : (l.insertIdx k x).getD t 0 = if t < k then l.getD t 0 else if t = k then x else l.getD (t - 1) 0 := by
  rw [List.getD_eq_getElem?_getD, List.getElem?_insertIdx]
  by_cases h : t < k
  · rw [if_pos h, if_pos h, List.getD_eq_getElem?_getD]
  · rw [if_neg h, if_neg h]
    by_cases h2 : t = k
    · rw [if_pos h2, if_pos h2, if_pos (by omega)]
      rfl
    · rw [if_neg h2, if_neg h2, List.getD_eq_getElem?_getD]
def sRow (ms : MS) (f : Nat → Int32) : MS := (ms.1, fun j => if j = 3 then f else ms.2 j)
theorem sRow_1 (ms : MS) (f : Nat → Int32) (j : Nat) : (sRow ms f).1 j = ms.1 j := rfl
theorem sRow_3 (ms : MS) (f : Nat → Int32) : (sRow ms f).2 3 = f := rfl
theorem sRow_o (ms : MS) (f : Nat → Int32) (j : Nat) (h : j ≠ 3) : (sRow ms f).2 j = ms.2 j := if_neg h
theorem sRow_set (ms : MS) (f : Nat → Int32) (i : Nat) (x : Int32) : setA (sRow ms f) 3 i x = sRow ms (upd f i x) := by
  unfold setA sRow
  refine Prod.ext rfl ?_
  funext j
  show (if j = 3 then upd f i x else (if j = 3 then f else ms.2 j)) = if j = 3 then upd f i x else ms.2 j
  by_cases h : j = 3
  · rw [if_pos h, if_pos h]
  · rw [if_neg h, if_neg h, if_neg h]
theorem sRow_self (ms : MS) : sRow ms (ms.2 3) = ms := by
  unfold sRow
  refine Prod.ext rfl ?_
  funext j
  show (if j = 3 then ms.2 3 else ms.2 j) = ms.2 j
  by_cases h : j = 3
  · rw [if_pos h, h]
  · rw [if_neg h]
theorem r_take_go {m : MS} {L : Nat} (hm : m.1 2 = nI L) (hL : L < 24) : ∀ (n j : Nat) (f : Nat → Int32), j ≤ L → L < j + n → f_X6_takeOut_12 n (sRow m f) (nI j) = some ((), sRow m (fun t => if j ≤ t ∧ t < L then f (t + 1) else f t)) := by
  intro n
  induction n with
  | zero => intro j f h1 h2; omega
  | succ n ih =>
    intro j f h1 h2
    rw [f_X6_takeOut_12, sRow_1, hm]
    by_cases hj : j = L
    · rw [bi_pos (nI_le (by omega) (by omega))]
      congr 3
      funext t
      rw [if_neg (by omega)]
    · rw [bi_neg (nI_ge (by omega) (by omega)), nI_1, gd_pos (vp24 (by omega) rfl), gd_pos (vp24 (by omega) rfl), nI_clamp (by omega), nI_clamp (by omega), sRow_3, sRow_set, ih (j + 1) _ (by omega) (by omega)]
      congr 3
      funext t
      unfold upd
      by_cases h : j + 1 ≤ t ∧ t < L
      · rw [if_pos h, if_neg (by omega), if_pos (by omega)]
      · rw [if_neg h]
        by_cases h2 : t = j
        · rw [if_pos h2, if_pos (by omega), h2]
        · rw [if_neg h2, if_neg (by omega)]
theorem r_put_go {m : MS} {s : Int32} {k : Nat} (hk : k < 24) : ∀ (n j : Nat) (f : Nat → Int32), k ≤ j → j < 24 → j < k + n → f_X6_putIn_5 n (sRow m f) s (nI k) (nI j) = some ((), setS (sRow m (fun t => if t = k then s else if k < t ∧ t ≤ j then f (t - 1) else f t)) 2 (m.1 2 + 1)) := by
  intro n
  induction n with
  | zero => intro j f h1 h2; omega
  | succ n ih =>
    intro j f h1 h2 h3
    rw [f_X6_putIn_5]
    by_cases hj : j = k
    · rw [bi_pos (nI_le (by omega) (by omega)), gd_pos (vp24 hk rfl), nI_clamp (by omega), sRow_set]
      congr 4
      funext t
      unfold upd
      by_cases h : t = k
      · rw [if_pos h, if_pos h]
      · rw [if_neg h, if_neg h, if_neg (by omega)]
    · have e1 : nI j - 1 = nI (j - 1) := p_km1 (by omega)
      have e2 : nI j + -1 = nI (j - 1) := by
        rw [← e1, Int32.sub_eq_add_neg]
      rw [bi_neg (nI_ge (by omega) (by omega)), e1, e2, gd_pos (vp24 (by omega) rfl), gd_pos (vp24 (by omega) rfl), nI_clamp (by omega), nI_clamp (by omega), sRow_3, sRow_set, ih (j - 1) _ (by omega) (by omega) (by omega)]
      congr 4
      funext t
      unfold upd
      by_cases h : t = k
      · rw [if_pos h, if_pos h]
      · rw [if_neg h, if_neg h]
        by_cases h2 : k < t ∧ t ≤ j - 1
        · rw [if_pos h2, if_neg (by omega), if_pos (by omega)]
        · rw [if_neg h2]
          by_cases h4 : t = j
          · rw [if_pos h4, if_pos (by omega), h4]
          · rw [if_neg h4, if_neg (by omega)]
section RL
variable {st : XS} {ms : MS}
/-- another reel of shots that are named as they were -/
theorem INV.reel (I : INV st ms) {l : List Nat} {f : Nat → Int32} (hn : l.Nodup) (hs : ∀ x ∈ l, x ∈ xL st 1) (hf : ∀ t, t < l.length → f t = nI (l.getD t 0)) (c : Int32) : INV (sL st 1 l) (setS (setS (sRow ms f) 0 c) 2 (nI l.length)) := by
  obtain ⟨⟨b1, b2, b3, b4, b5, b6, b7, b8, b9, b10, b11⟩, ⟨h1, h2, h3, h4, h5, h6, h7, h8, h9, h10⟩⟩ := I
  have m1 : ∀ k, k ≠ 0 → k ≠ 2 → (setS (setS (sRow ms f) 0 c) 2 (nI l.length)).1 k = ms.1 k := fun k h0 h2 => by
    rw [sS_1, if_neg h2, sS_1, if_neg h0]; rfl
  have m2 : ∀ k, k ≠ 3 → (setS (setS (sRow ms f) 0 c) 2 (nI l.length)).2 k = ms.2 k := fun k hk => sRow_o ms f k hk
  refine ⟨⟨b1, b2, ?_, ?_, b5, b6, b7, b8, b9, b10, ?_⟩, ⟨?_, ?_, ?_, ?_, ?_, fun t ht => ?_, fun j hj => ?_, fun j hj => ?_, fun j hj => ?_, fun j hj => ?_⟩⟩
  · rw [xL_sL, if_pos rfl]; exact hn
  · rw [xL_sL, if_pos rfl]; exact fun x hx => b4 x (hs x hx)
  · unfold NOK at b11 ⊢
    rw [xL_sL, if_pos rfl]
    refine ⟨b11.1, fun h => ⟨fun x hx => (b11.2 h).1 x (hs x hx), fun x hx => (b11.2 h).2 x (hs x hx)⟩⟩
  · rw [m1 1 (by decide) (by decide)]; exact h1
  · rw [sS_1, if_pos rfl, xL_sL, if_pos rfl]
  · rw [m1 15 (by decide) (by decide)]; exact h3
  · rw [m1 22 (by decide) (by decide)]; exact h4
  · rw [m1 23 (by decide) (by decide)]; exact h5
  · rw [xL_sL, if_pos rfl] at ht ⊢
    exact hf t ht
  · have := h7 j hj
    unfold RS at this ⊢
    rw [m2 4 (by decide), m2 5 (by decide), m2 6 (by decide), m2 7 (by decide), m2 8 (by decide), m2 9 (by decide), m2 10 (by decide), m2 11 (by decide), m2 12 (by decide), m2 13 (by decide), m2 14 (by decide), m2 16 (by decide), m2 17 (by decide), m2 18 (by decide), m2 19 (by decide), m2 20 (by decide), m2 21 (by decide)]
    exact this
  · have := h8 j hj
    unfold RZ at this ⊢
    rw [m2 7 (by decide), m2 8 (by decide), m2 17 (by decide), m2 18 (by decide), m2 19 (by decide), m2 21 (by decide)]
    exact this
  · rw [m2 24 (by decide), m2 25 (by decide), m2 26 (by decide)]; exact h9 j hj
  · rw [m2 29 (by decide)]; exact h10 j hj
theorem r_take (hb : BI st) (h : RE st ms) {k : Nat} (hk : k < (xL st 1).length) : ∃ f, f_X6_takeOut ms (nI k) = some ((), setS (sRow ms f) 2 (nI ((xL st 1).eraseIdx k).length)) ∧ ∀ t, t < ((xL st 1).eraseIdx k).length → f t = nI (((xL st 1).eraseIdx k).getD t 0) := by
  have hlen := hb.len
  have el : ((xL st 1).eraseIdx k).length = (xL st 1).length - 1 := List.length_eraseIdx_of_lt hk
  have em : ms.1 2 - 1 = nI ((xL st 1).length - 1) := by rw [h.2.1]; exact p_km1 (by omega)
  refine ⟨fun t => if k ≤ t ∧ t < (xL st 1).length - 1 then ms.2 3 (t + 1) else ms.2 3 t, ?_, fun t ht => ?_⟩
  · unfold f_X6_takeOut
    rw [em, el]
    have := r_take_go (m := setS ms 2 (nI ((xL st 1).length - 1))) (L := (xL st 1).length - 1) (by rw [sS_1, if_pos rfl]) (by omega) FU k (ms.2 3) (by omega) (by show _ < k + 1000000; omega)
    rw [show sRow (setS ms 2 (nI ((xL st 1).length - 1))) (ms.2 3) = setS ms 2 (nI ((xL st 1).length - 1)) from sRow_self _] at this
    rw [this]
    rfl
  · rw [el] at ht
    rw [del_get]
    dsimp only
    by_cases h1 : t < k
    · rw [if_neg (by omega), if_pos h1, r_get hb h (by omega)]
    · rw [if_pos (by omega), if_neg h1, r_get hb h (by omega)]
theorem ag_drop (I : INV st ms) {x1 : Int32} : ∃ r st' b ms', f_X5_drop st x1 = some (r, st') ∧ f_X6_drop ms x1 = some (b, ms') ∧ INV st' ms' ∧ (∀ k, r = .inl k → k ∈ [3, 1]) ∧ ms'.1 0 = lwc [3, 1] r ∧ ∀ x, r = .inr x → x = b := by
  have hb := I.1
  have h := I.2
  have h24 := hb.n24
  have hlen := hb.len
  rcases p_rng (N := xN st 0) (by omega) x1 with ⟨i, hi, rfl⟩ | hx
  · by_cases hm : i ∈ xL st 1
    · have hge := (plc_ge hb.len).mpr hm
      have hlt := List.idxOf_lt_length_of_mem hm
      obtain ⟨f, hf, hg⟩ := r_take hb (h.code 0) hlt
      have I2 := I.reel (del_nodup ((xL st 1).idxOf i) hb.2.2.1) (fun x hx => del_mem hx) hg 0
      have e0 : setS (setS (sRow ms f) 0 0) 2 (nI ((xL st 1).eraseIdx ((xL st 1).idxOf i)).length) = setS (sRow (setS ms 0 0) f) 2 (nI ((xL st 1).eraseIdx ((xL st 1).idxOf i)).length) := rfl
      rw [e0] at I2
      generalize hq : setS (sRow (setS ms 0 0) f) 2 (nI ((xL st 1).eraseIdx ((xL st 1).idxOf i)).length) = m2 at I2 hf
      have hz0 : m2.1 0 = 0 := by rw [← hq]; rfl
      have hi2 : i < xN (sL st 1 ((xL st 1).eraseIdx ((xL st 1).idxOf i))) 0 := hi
      have hr := r_shot I2.2 hi2
      have hs := I2.1.sok hi2
      have hzr := hr.rows
      have hzs := hs.rows
      have e7 : m2.2 7 i = xF st 1 i 6 := hr.2.2.2.1
      have hS := ((SB.rf (sL st 1 ((xL st 1).eraseIdx ((xL st 1).idxOf i))) i).f1 6 (xF st 1 i 6 + 1)).f1 9 (-1)
      have hM := ((SM.rf m2 i).a 7 (by decide) (xF st 1 i 6 + 1)).a 20 (by decide) (-1)
      refine ⟨.inr (nI ((xL st 1).idxOf i)), sF (sF (sL st 1 ((xL st 1).eraseIdx ((xL st 1).idxOf i))) 1 i 6 (xF st 1 i 6 + 1)) 1 i 9 (-1), nI ((xL st 1).idxOf i), setA (setA m2 7 i (xF st 1 i 6 + 1)) 20 i (-1), ?_, ?_, ⟨BI_shot I2.1 hS ?_ (by rw [sf_ne (by decide), sf_ne (by decide)]) (by rw [sf_ne (by decide), sf_ne (by decide)]), RE_shot I2.2 hi2 hS hM ?_⟩, no_l, hz0, yes_r rfl⟩
      · simp only [f_X5_drop, p_made hb hi, bdx_r, p_inReel hb hi hm, gd_pos (vp_in_nI hlt (show (xL st 1).length < 2 ^ 31 by omega)), nI_clamp (show (xL st 1).idxOf i < 2 ^ 31 by omega), xN_sL, gd_pos hi, xF_sL]
      · simp only [f_X6_drop, p_isShot hb h hi, bd_some, e10, bi_F, r_placeOf hb h hi, eq_true hge, bi_T, f_X6_drop_26, p_fails0, e00, r_placeOf hb (h.code 0) hi, plc_in hm, hf, gd_pos (vp24 (show i < 24 by omega) (j := 7) rfl), gd_pos (vp24 (show i < 24 by omega) (j := 20) rfl), nI_clamp (show i < 2 ^ 31 by omega), e7]
        rw [bi_pos (by rw [← plc_in hm]; exact hge)]
      · simp only [SOK, COK_sF, xF_sF, xR_sF] at hs ⊢
        simp at hs ⊢
        simp [hs]
        exact hzs
      · simp only [RS, sA_2, sS_2, xF_sF, xR_sF] at hr ⊢
        simp at hr ⊢
        simp [hr]
        exact hzr
    · have hge : ¬ 0 ≤ plc (xL st 1) i := fun h2 => hm ((plc_ge hb.len).mp h2)
      refine ⟨.inl 1, st, 0, setS ms 0 2, ?_, ?_, I.code 2, yes_l (by decide), code_0 _ _, no_r⟩
      · simp only [f_X5_drop, p_made hb hi, bdx_r, p_notIn hb hi hm, bdx_l]
      · simp only [f_X6_drop, p_isShot hb h hi, bd_some, e10, bi_F, r_placeOf hb h hi, eq_false hge, f_X6_drop_26, p_fails2]
  · refine ⟨.inl 3, st, 0, setS ms 0 1, ?_, ?_, I.code 1, yes_l (by decide), code_0 _ _, no_r⟩
    · simp only [f_X5_drop, p_made_no hb hx, bdx_l]
    · simp only [f_X6_drop, p_isShot_no hb h hx, bd_some, e00, bi_T, f_X6_drop_26, p_fails1, e10, bi_F]
end RL
