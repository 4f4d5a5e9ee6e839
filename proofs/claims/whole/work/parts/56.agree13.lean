/-! Agreements: ended, seen. -/
section B1
variable {st : XS} {ms : MS}
noncomputable def enc (st : XS) (t k : Nat) : Nat := fb_ct (fun j => decide (fsm st (j + 1) ≤ t)) k
theorem p_ended_go {t : Nat} (hb : BI st) (ht : t ≤ 9999) : ∀ (n k : Nat), k ≤ (xL st 1).length → (xL st 1).length < k + n → f_X5_ended_28 n st (nI t) (nI (enc st t k)) (nI (fsm st k)) (nI k) = some (.inr (nI (enc st t (xL st 1).length)), st) := by
  have hlen := hb.len
  intro n
  induction n with
  | zero => intro k h1 h2; omega
  | succ n ih =>
    intro k h1 h2
    rw [f_X5_ended_28]
    by_cases hk : k = (xL st 1).length
    · rw [bi_pos (nI_le (by omega) (by omega)), hk]
    · have hk' : k < (xL st 1).length := by omega
      have hle := fsm_le hb (show k + 1 ≤ (xL st 1).length by omega)
      have hs := ih (k + 1) (by omega) (by omega)
      rw [enc, fb_ct_succ] at hs
      rw [bi_neg (nI_ge (by omega) (by omega)), gd_pos (vp_in_nI hk' (by omega)), nI_clamp (by omega), gd_pos (hb.get hk'), (frm_ok hb (hb.get hk')).2.2, nI_add, ← fsm_succ]
      by_cases he : fsm st (k + 1) ≤ t
      · rw [if_pos (by simp [he])] at hs
        rw [bi_neg (fun z => by rw [nI_ltI (by omega) (by omega)] at z; omega), f_X5_ended_66, nI_1, nI_1]
        exact hs
      · rw [if_neg (by simp [he])] at hs
        rw [bi_pos ((nI_ltI (by omega) (by omega)).mpr (by omega)), f_X5_ended_66, nI_1]
        exact hs
theorem r_ended_go {t : Nat} (hb : BI st) (h : RE st ms) (ht : t ≤ 9999) : ∀ (n k : Nat), k ≤ (xL st 1).length → (xL st 1).length < k + n → f_X6_ended_29 n ms (nI t) (nI (enc st t k)) (nI k) = some (nI (enc st t (xL st 1).length), ms) := by
  have hlen := hb.len
  intro n
  induction n with
  | zero => intro k h1 h2; omega
  | succ n ih =>
    intro k h1 h2
    rw [f_X6_ended_29, h.2.1]
    by_cases hk : k = (xL st 1).length
    · rw [bi_pos (nI_le (by omega) (by omega)), hk]
    · have hk' : k < (xL st 1).length := by omega
      have hle := fsm_le hb (show k + 1 ≤ (xL st 1).length by omega)
      have hs := ih (k + 1) (by omega) (by omega)
      rw [enc, fb_ct_succ] at hs
      rw [bi_neg (nI_ge (by omega) (by omega)), nI_1, r_begins hb h (show k + 1 ≤ _ by omega), bd_some]
      by_cases he : fsm st (k + 1) ≤ t
      · rw [if_pos (by simp [he])] at hs
        rw [bi_neg (fun z => by rw [nI_ltI (by omega) (by omega)] at z; omega), f_X6_ended_55, nI_1, nI_1]
        exact hs
      · rw [if_neg (by simp [he])] at hs
        rw [bi_pos ((nI_ltI (by omega) (by omega)).mpr (by omega)), f_X6_ended_55, nI_1]
        exact hs
theorem ag_ended (I : INV st ms) {x1 : Int32} : ∃ r st' b ms', f_X5_ended st x1 = some (r, st') ∧ f_X6_ended ms x1 = some (b, ms') ∧ INV st' ms' ∧ (∀ k, r = .inl k → k ∈ [0]) ∧ ms'.1 0 = lwc [0] r ∧ ∀ x, r = .inr x → x = b := by
  have hb := I.1
  have h := I.2
  have hlen := hb.len
  by_cases hc : 0 ≤ x1 ∧ x1 ≤ 9999
  · have c0 : ¬ x1 < 0 := fun z => (i_lt0 x1).mp z hc.1
    obtain ⟨t, ht, rfl⟩ := nI_of2 (M := 9999) (n := 9999) rfl c0 hc.2
    refine ⟨.inr (nI (enc st t (xL st 1).length)), st, nI (enc st t (xL st 1).length), setS ms 0 0, ?_, ?_, I.code 0, no_l, code_0 _ _, yes_r rfl⟩
    · have := p_ended_go hb ht FU 0 (Nat.zero_le _) (by show _ < 0 + 1000000; omega)
      rw [f_X5_ended, bi_neg c0, bi_pos hc.2]
      exact this
    · have := r_ended_go hb (h.code 0) ht FU 0 (Nat.zero_le _) (by show _ < 0 + 1000000; omega)
      rw [f_X6_ended, p_in, bd_some, b2i_t hc, bi_neg (by decide), f_X6_ended_17, p_fails0, bd_some, bi_pos rfl]
      exact this
  · refine ⟨.inl 0, st, 0, setS ms 0 1, ?_, ?_, I.code 1, yes_l (by decide), code_0 _ _, no_r⟩
    · rw [f_X5_ended, f_X5_ended_11]
      by_cases c0 : x1 < 0
      · rw [bi_pos c0]
      · rw [bi_neg c0, bi_neg (fun z => hc ⟨Classical.not_not.mp (fun y => c0 ((i_lt0 x1).mpr y)), z⟩)]
    · simp only [f_X6_ended, p_in, bd_some, b2i_f hc, e00, bi_T, f_X6_ended_17, p_fails1, e10, bi_F]
/-! seen -/
/-- the place that is seen: the one j with fsm j ≤ t < fsm (j+1) -/
def isAt (st : XS) (x : Int32) (k : Nat) : Prop := k < (xL st 1).length ∧ nI (fsm st k) ≤ x ∧ x < nI (fsm st (k + 1))
theorem fs31 (hb : BI st) {k : Nat} (h : k ≤ (xL st 1).length) : fsm st k < 2 ^ 31 := by
  have := fsm_le hb h
  have := hb.len
  omega
theorem isAt_uniq (hb : BI st) {x : Int32} {j k : Nat} (hj : isAt st x j) (hk : isAt st x k) : j = k := by
  obtain ⟨a1, a2, a3⟩ := hj
  obtain ⟨b1, b2, b3⟩ := hk
  have f1 := fs31 hb (show j ≤ _ by omega)
  have f2 := fs31 hb (show j + 1 ≤ _ by omega)
  have f3 := fs31 hb (show k ≤ _ by omega)
  have f4 := fs31 hb (show k + 1 ≤ _ by omega)
  rw [Int32.le_iff_toInt_le, nI_toInt f1] at a2
  rw [Int32.le_iff_toInt_le, nI_toInt f3] at b2
  rw [Int32.lt_iff_toInt_lt, nI_toInt f2] at a3
  rw [Int32.lt_iff_toInt_lt, nI_toInt f4] at b3
  rcases Nat.lt_trichotomy j k with hl | hl | hl
  · by_cases e : j + 1 = k
    · subst e; omega
    · have := fsm_lt hb (show j + 1 < k by omega) (by omega)
      omega
  · exact hl
  · by_cases e : k + 1 = j
    · subst e; omega
    · have := fsm_lt hb (show k + 1 < j by omega) (by omega)
      omega
noncomputable def snI (st : XS) (x : Int32) : Int32 := @dite _ (∃ k, isAt st x k) (Classical.propDecidable _) (fun h => nI ((xL st 1).getD h.choose 0)) (fun _ => -1)
theorem snI_y (hb : BI st) {x : Int32} {k : Nat} (h : isAt st x k) : snI st x = nI ((xL st 1).getD k 0) := by
  have he : ∃ k, isAt st x k := ⟨k, h⟩
  unfold snI
  rw [dif_pos he, isAt_uniq hb he.choose_spec h]
theorem snI_n {x : Int32} (h : ∀ k, ¬ isAt st x k) : snI st x = -1 := by
  unfold snI
  exact dif_neg (fun ⟨k, hk⟩ => h k hk)
theorem p_seen_go {x : Int32} (hb : BI st) : ∀ (n k : Nat), k ≤ (xL st 1).length → (xL st 1).length < k + n → (0 ≤ x → nI (fsm st k) ≤ x) → f_X5_indexSeen_4 n st x (nI (fsm st k)) (nI k) = some (snI st x, st) := by
  have hlen := hb.len
  intro n
  induction n with
  | zero => intro k h1 h2; omega
  | succ n ih =>
    intro k h1 h2 h3
    rw [f_X5_indexSeen_4, f_X5_indexSeen_62]
    have hno : (∀ j, j < (xL st 1).length → x < nI (fsm st (j + 1)) → ¬ nI (fsm st j) ≤ x) → snI st x = -1 := fun z => snI_n (fun j hj => z j hj.1 hj.2.2 hj.2.1)
    by_cases hk : k = (xL st 1).length
    · rw [bi_pos (nI_le (by omega) (by omega)), hno]
      intro j hj h5 h6
      have f1 := fs31 hb (show j ≤ _ by omega)
      have f2 := fs31 hb (show j + 1 ≤ _ by omega)
      have f3 := fs31 hb (show k ≤ _ by omega)
      rw [Int32.le_iff_toInt_le, nI_toInt f1] at h6
      have h7 := h3 (by rw [Int32.le_iff_toInt_le]; show 0 ≤ _; omega)
      rw [Int32.le_iff_toInt_le, nI_toInt f3] at h7
      rw [Int32.lt_iff_toInt_lt, nI_toInt f2] at h5
      by_cases e : j + 1 = k
      · subst e; omega
      · have := fsm_lt hb (show j + 1 < k by omega) (by omega)
        omega
    · have hk' : k < (xL st 1).length := by omega
      rw [bi_neg (nI_ge (by omega) (by omega))]
      have f3 := fs31 hb (show k + 1 ≤ _ by omega)
      by_cases h0 : x < 0
      · rw [bi_pos h0, hno]
        intro j hj h5 h6
        have f1 := fs31 hb (show j ≤ _ by omega)
        rw [Int32.le_iff_toInt_le, nI_toInt f1] at h6
        rw [Int32.lt_iff_toInt_lt] at h0
        have : (0 : Int32).toInt = 0 := rfl
        omega
      · have h0' : 0 ≤ x := Classical.not_not.mp (fun y => h0 ((i_lt0 x).mpr y))
        rw [bi_neg h0, gd_pos (vp_in_nI hk' (by omega)), nI_clamp (by omega), gd_pos (hb.get hk'), (frm_ok hb (hb.get hk')).2.2, nI_add, ← fsm_succ]
        by_cases he : nI (fsm st (k + 1)) ≤ x
        · rw [bi_pos he, nI_1]
          exact ih (k + 1) (by omega) (by omega) (fun _ => he)
        · rw [bi_neg he, gd_pos (vp_in_nI hk' (by omega)), snI_y hb ⟨hk', h3 h0', by
            rw [Int32.le_iff_toInt_le] at he
            rw [Int32.lt_iff_toInt_lt]
            omega⟩]
theorem p_seen {x : Int32} (hb : BI st) : f_X5_indexSeen st x = some (snI st x, st) := by
  have := hb.len
  exact p_seen_go hb FU 0 (Nat.zero_le _) (by show _ < 0 + 1000000; omega) (fun z => z)
theorem r_seen_go {x : Int32} (hb : BI st) (h : RE st ms) : ∀ (n k : Nat) (acc : Int32), k ≤ (xL st 1).length → (xL st 1).length < k + n → ((∃ j, j < k ∧ isAt st x j ∧ acc = nI ((xL st 1).getD j 0)) ∨ ((∀ j, j < k → ¬ isAt st x j) ∧ acc = -1)) → f_X6_seen_4 n ms x acc (nI k) = bi (snI st x = -1) (f_X6_seen_60 ms (snI st x) 1) (f_X6_seen_60 ms (snI st x) 0) := by
  have hlen := hb.len
  have h24 := hb.n24
  intro n
  induction n with
  | zero => intro k acc h1 h2; omega
  | succ n ih =>
    intro k acc h1 h2 h3
    rw [f_X6_seen_4, h.2.1]
    by_cases hk : k = (xL st 1).length
    · have e : acc = snI st x := by
        rcases h3 with ⟨j, hj, h4, h5⟩ | ⟨h4, h5⟩
        · rw [h5, snI_y hb h4]
        · rw [h5, snI_n (fun j hj => h4 j (hk ▸ hj.1) hj)]
      rw [bi_pos (nI_le (by omega) (by omega)), e]
    · have hk' : k < (xL st 1).length := by omega
      have f1 := fs31 hb (show k ≤ _ by omega)
      have f2 := fs31 hb (show k + 1 ≤ _ by omega)
      have go : ¬ isAt st x k → f_X6_seen_41 (f_X6_seen_4 n) ms x acc (nI k) = bi (snI st x = -1) (f_X6_seen_60 ms (snI st x) 1) (f_X6_seen_60 ms (snI st x) 0) := by
        intro hn
        rw [f_X6_seen_41, f_X6_seen_42, nI_1]
        refine ih (k + 1) acc (by omega) (by omega) ?_
        rcases h3 with ⟨j, hj, h4, h5⟩ | ⟨h4, h5⟩
        · exact Or.inl ⟨j, by omega, h4, h5⟩
        · refine Or.inr ⟨fun j hj => ?_, h5⟩
          by_cases e : j = k
          · subst e; exact hn
          · exact h4 j (by omega)
      rw [bi_neg (nI_ge (by omega) (by omega)), r_begins hb h (show k ≤ _ by omega), bd_some]
      by_cases ha : x < nI (fsm st k)
      · rw [bi_pos ha]
        exact go (fun z => by
          have := z.2.1
          rw [Int32.le_iff_toInt_le] at this
          rw [Int32.lt_iff_toInt_lt] at ha
          omega)
      · rw [bi_neg ha, nI_1, r_begins hb h (show k + 1 ≤ _ by omega), bd_some]
        by_cases hc : nI (fsm st (k + 1)) ≤ x
        · rw [bi_pos hc]
          exact go (fun z => by
            have := z.2.2
            rw [Int32.lt_iff_toInt_lt] at this
            rw [Int32.le_iff_toInt_le] at hc
            omega)
        · rw [bi_neg hc, gd_pos (vp24 (by omega) rfl), nI_clamp (by omega), r_get hb h hk', f_X6_seen_42, nI_1]
          refine ih (k + 1) _ (by omega) (by omega) (Or.inl ⟨k, by omega, ⟨hk', ?_, ?_⟩, rfl⟩)
          · rw [Int32.lt_iff_toInt_lt] at ha
            rw [Int32.le_iff_toInt_le]
            omega
          · rw [Int32.le_iff_toInt_le] at hc
            rw [Int32.lt_iff_toInt_lt]
            omega
theorem ag_seen (I : INV st ms) {x1 : Int32} : ∃ r st' b ms', f_X5_seen st x1 = some (r, st') ∧ f_X6_seen ms x1 = some (b, ms') ∧ INV st' ms' ∧ (∀ k, r = .inl k → k ∈ [4]) ∧ ms'.1 0 = lwc [4] r ∧ ∀ x, r = .inr x → x = b := by
  have hb := I.1
  have h := I.2
  have hlen := hb.len
  have hr := r_seen_go (x := x1) hb h FU 0 (-1) (Nat.zero_le _) (by show _ < 0 + 1000000; omega) (Or.inr ⟨fun j hj => absurd hj (Nat.not_lt_zero _), rfl⟩)
  have hr : f_X6_seen ms x1 = _ := hr
  by_cases hc : snI st x1 = -1
  · refine ⟨.inl 4, st, 0, setS ms 0 1, ?_, ?_, I.code 1, yes_l (by decide), code_0 _ _, no_r⟩
    · simp only [f_X5_seen, p_seen hb, bd_some, eq_true hc, bi_T]
    · rw [hr, bi_pos hc]
      simp only [f_X6_seen_60, p_fails1, bd_some, e10, bi_F, f_X6_seen_71]
  · refine ⟨.inr (snI st x1), st, snI st x1, setS ms 0 0, ?_, ?_, I.code 0, no_l, code_0 _ _, yes_r rfl⟩
    · simp only [f_X5_seen, p_seen hb, bd_some, eq_false hc, bi_F]
    · rw [hr, bi_neg hc]
      simp only [f_X6_seen_60, p_fails0, bd_some, e00, bi_T, f_X6_seen_71]
end B1
