/-! Places in the reel, sums of frames. -/
section PL
variable {st : XS} {ms : MS}
noncomputable def plc (l : List Nat) (i : Nat) : Int32 := if i ∈ l then nI (l.idxOf i) else -1
theorem plc_in {l : List Nat} {i : Nat} (h : i ∈ l) : plc l i = nI (l.idxOf i) := if_pos h
theorem plc_no {l : List Nat} {i : Nat} (h : i ∉ l) : plc l i = -1 := if_neg h
theorem plc_get {l : List Nat} (hn : l.Nodup) {k : Nat} (hk : k < l.length) : l.idxOf (l.getD k 0) = k := by
  rw [List.getD_eq_getElem?_getD, List.getElem?_eq_getElem hk]
  exact hn.idxOf_getElem k hk
theorem get_idx {l : List Nat} {i : Nat} (h : i ∈ l) : l.getD (l.idxOf i) 0 = i := by
  have := List.idxOf_lt_length_of_mem h
  rw [List.getD_eq_getElem?_getD, List.getElem?_eq_getElem this]
  exact List.getElem_idxOf this
theorem get_mem {l : List Nat} {k : Nat} (h : k < l.length) : l.getD k 0 ∈ l := by
  rw [List.getD_eq_getElem?_getD, List.getElem?_eq_getElem h]
  exact List.getElem_mem h
/-- the class's search: the first place from k on -/
theorem p_placeOf_go {i : Nat} (hb : BI st) (hi : i < xN st 0) : ∀ (n k : Nat), k ≤ (xL st 1).length → (xL st 1).length < k + n → (∀ j, j < k → (xL st 1).getD j 0 ≠ i) → f_X5_placeOf_2 n st i (nI k) = some (plc (xL st 1) i, st) := by
  have hlen := hb.len
  have h24 := hb.n24
  intro n
  induction n with
  | zero => intro k h1 h2; omega
  | succ n ih =>
    intro k h1 h2 h3
    rw [f_X5_placeOf_2]
    by_cases hk : k = (xL st 1).length
    · rw [bi_pos (nI_le (by omega) (by omega))]
      rw [plc_no]
      intro hm
      have hlt := List.idxOf_lt_length_of_mem hm
      exact h3 _ (by omega) (get_idx hm)
    · have hk' : k < (xL st 1).length := by omega
      rw [bi_neg (nI_ge (by omega) (by omega)), gd_pos (vp_in_nI hk' (by omega)), nI_clamp (by omega), gd_pos (hb.get hk'), gd_pos hi]
      by_cases he : (xL st 1).getD k 0 = i
      · rw [bi_pos (by rw [he])]
        rw [← he, plc_in (get_mem hk'), plc_get hb.2.2.1 hk']
      · have hg := hb.get hk'
        rw [bi_neg (fun h => he ((nI_eq (by omega) (by omega)).mp h)), nI_1]
        refine ih (k + 1) (by omega) (by omega) fun j hj => ?_
        by_cases hjk : j = k
        · subst hjk
          exact he
        · exact h3 j (by omega)
theorem p_placeOf {i : Nat} (hb : BI st) (hi : i < xN st 0) : f_X5_placeOf st i = some (plc (xL st 1) i, st) := by
  have := hb.len
  exact p_placeOf_go hb hi FU 0 (Nat.zero_le _) (by show _ < 0 + 1000000; omega) (fun j hj => absurd hj (Nat.not_lt_zero _))
/-- the reference's search: the last place; a shot has one at most -/
theorem r_placeOf_go {i : Nat} (hb : BI st) (h : RE st ms) (hi : i < xN st 0) : ∀ (n k : Nat) (acc : Int32), k ≤ (xL st 1).length → (xL st 1).length < k + n → acc = (if i ∈ (xL st 1).take k then nI ((xL st 1).idxOf i) else -1) → f_X6_placeOf_4 n ms (nI i) acc (nI k) = some (plc (xL st 1) i, ms) := by
  have hlen := hb.len
  have h24 := hb.n24
  intro n
  induction n with
  | zero => intro k acc h1 h2; omega
  | succ n ih =>
    intro k acc h1 h2 h3
    rw [f_X6_placeOf_4, h.2.1]
    by_cases hk : k = (xL st 1).length
    · rw [bi_pos (nI_le (by omega) (by omega)), h3, hk, List.take_length]
      rfl
    · have hk' : k < (xL st 1).length := by omega
      have hg := hb.get hk'
      rw [bi_neg (nI_ge (by omega) (by omega)), gd_pos (vp_in_nI (show k < mln 3 from by show k < 24; omega) (by decide)), nI_clamp (by omega), h.2.2.2.2.2.1 k hk']
      have ht : (xL st 1).take (k + 1) = (xL st 1).take k ++ [(xL st 1).getD k 0] := by
        rw [List.take_succ, List.getD_eq_getElem?_getD, List.getElem?_eq_getElem hk']
        rfl
      by_cases he : (xL st 1).getD k 0 = i
      · rw [bi_pos (by rw [he]), f_X6_placeOf_27, nI_1]
        refine ih (k + 1) (nI k) (by omega) (by omega) ?_
        rw [if_pos (by rw [ht, he]; simp), ← he, plc_get hb.2.2.1 hk']
      · rw [bi_neg (fun h => he ((nI_eq (by omega) (by omega)).mp h)), f_X6_placeOf_27, nI_1]
        refine ih (k + 1) acc (by omega) (by omega) ?_
        rw [h3, ht]
        have : (i ∈ (xL st 1).take k ++ [(xL st 1).getD k 0]) ↔ i ∈ (xL st 1).take k := by
          simp only [List.mem_append, List.mem_singleton]
          exact ⟨fun h => h.elim id (fun h => absurd h.symm he), Or.inl⟩
        simp only [this]
theorem r_placeOf {i : Nat} (hb : BI st) (h : RE st ms) (hi : i < xN st 0) : f_X6_placeOf ms (nI i) = some (plc (xL st 1) i, ms) := by
  have := hb.len
  exact r_placeOf_go hb h hi FU 0 (-1) (Nat.zero_le _) (by show _ < 0 + 1000000; omega) (by simp)
theorem plc_ge {l : List Nat} {i : Nat} (hl : l.length ≤ 24) : (0 ≤ plc l i) ↔ i ∈ l := by
  by_cases h : i ∈ l
  · have := List.idxOf_lt_length_of_mem h
    rw [plc_in h]
    exact ⟨fun _ => h, fun _ => nI_pos' (by omega)⟩
  · rw [plc_no h]
    exact ⟨fun h => absurd h (by decide), fun h2 => absurd h2 h⟩
theorem plc_m1 {l : List Nat} {i : Nat} (hl : l.length ≤ 24) : (plc l i = -1) ↔ i ∉ l := by
  by_cases h : i ∈ l
  · have := List.idxOf_lt_length_of_mem h
    rw [plc_in h]
    refine ⟨fun he => ?_, fun h2 => absurd h h2⟩
    have h1 := nI_pos' (n := l.idxOf i) (by omega)
    rw [he] at h1
    exact absurd h1 (by decide)
  · rw [plc_no h]
    exact ⟨fun _ => h, fun _ => rfl⟩
theorem plc_lt {l : List Nat} {i : Nat} (hl : l.length ≤ 24) : (plc l i < 0) ↔ i ∉ l := by
  rw [Int32.lt_iff_toInt_lt]
  have := plc_ge (i := i) hl
  rw [Int32.le_iff_toInt_le] at this
  constructor
  · intro h h2
    have := this.mpr h2
    omega
  · intro h
    exact Int.not_le.mp (fun h2 => h (this.mp h2))
theorem p_inReel {i : Nat} (hb : BI st) (hi : i < xN st 0) (h : i ∈ xL st 1) : f_X5_placeInReel st i = some (.inr (nI ((xL st 1).idxOf i)), st) := by
  rw [f_X5_placeInReel, p_placeOf hb hi, bd_some, bi_neg (fun h2 => ((plc_m1 hb.len).mp h2) h), plc_in h]
theorem p_notIn {i : Nat} (hb : BI st) (hi : i < xN st 0) (h : i ∉ xL st 1) : f_X5_placeInReel st i = some (.inl 1, st) := by
  rw [f_X5_placeInReel, p_placeOf hb hi, bd_some, bi_pos ((plc_m1 hb.len).mpr h)]
theorem p_chk {i : Nat} (hb : BI st) (hi : i < xN st 0) (h : i ∈ xL st 1) : f_X5_checkInReel st i = some (.inr (), st) := by
  rw [f_X5_checkInReel, p_inReel hb hi h, bdx_r]
theorem p_chk_no {i : Nat} (hb : BI st) (hi : i < xN st 0) (h : i ∉ xL st 1) : f_X5_checkInReel st i = some (.inl 1, st) := by
  rw [f_X5_checkInReel, p_notIn hb hi h, bdx_l]
theorem p_found {i : Nat} (hb : BI st) (hi : i < xN st 0) (h : i ∈ xL st 1) : f_X5_foundPlace st i = some (.inr (nI ((xL st 1).idxOf i)), st) := by
  rw [f_X5_foundPlace, p_placeOf hb hi, bd_some, bi_neg (fun h2 => ((plc_m1 hb.len).mp h2) h), plc_in h]
theorem p_found_no {i : Nat} (hb : BI st) (hi : i < xN st 0) (h : i ∉ xL st 1) : f_X5_foundPlace st i = some (.inl 4, st) := by
  rw [f_X5_foundPlace, p_placeOf hb hi, bd_some, bi_pos ((plc_m1 hb.len).mpr h)]
/-! frames -/
def frm (st : XS) (i : Nat) : Nat := (xF st 1 i 5).toNatClampNeg
theorem frm_ok (hb : BI st) {i : Nat} (hi : i < xN st 0) : 1 ≤ frm st i ∧ frm st i ≤ 240 ∧ xF st 1 i 5 = nI (frm st i) := by
  obtain ⟨h1, h2⟩ := (hb.2.2.2.2.2.2.2.1 i hi).2.2.1
  have h0 : ¬ xF st 1 i 5 < 0 := by
    rw [Int32.le_iff_toInt_le] at h1
    rw [Int32.lt_iff_toInt_lt]
    have : (1 : Int32).toInt = 1 := rfl
    have : (0 : Int32).toInt = 0 := rfl
    omega
  obtain ⟨j, hj, e⟩ := nI_of h0
  have e2 : frm st i = j := by unfold frm; rw [e, nI_clamp hj]
  rw [e] at h1 h2
  rw [show (1 : Int32) = nI 1 from rfl, nI_leI (by decide) hj] at h1
  rw [show (240 : Int32) = nI 240 from rfl, nI_leI hj (by decide)] at h2
  rw [e2]
  exact ⟨h1, h2, e⟩
def fsm (st : XS) (k : Nat) : Nat := fb_sm (fun j => frm st ((xL st 1).getD j 0)) k
theorem fsm_succ (k : Nat) : fsm st (k + 1) = fsm st k + frm st ((xL st 1).getD k 0) := rfl
theorem fsm_le (hb : BI st) : ∀ {k : Nat}, k ≤ (xL st 1).length → fsm st k ≤ 240 * k := by
  intro k
  induction k with
  | zero => intro _; exact Nat.le_refl 0
  | succ k ih =>
    intro h
    have := ih (by omega)
    have h2 := (frm_ok hb (hb.get (show k < (xL st 1).length by omega))).2.1
    rw [fsm_succ]
    omega
theorem fsm_lt (hb : BI st) {j k : Nat} (h : j < k) : k ≤ (xL st 1).length → fsm st j < fsm st k := by
  induction k with
  | zero => omega
  | succ k ih =>
    intro hk
    have h2 := (frm_ok hb (hb.get (show k < (xL st 1).length by omega))).1
    rw [fsm_succ]
    by_cases e : j = k
    · subst e; omega
    · have := ih (by omega) (by omega)
      omega
theorem p_beginOf_go {b : Nat} (hb : BI st) (hbl : b ≤ (xL st 1).length) : ∀ (n k : Nat), k ≤ b → b < k + n → f_X5_beginOf_4 n st (nI b) (nI (fsm st k)) (nI k) = some (nI (fsm st b), st) := by
  have hlen := hb.len
  intro n
  induction n with
  | zero => intro k h1 h2; omega
  | succ n ih =>
    intro k h1 h2
    rw [f_X5_beginOf_4]
    by_cases hk : k = b
    · subst hk
      rw [bi_pos (nI_le (by omega) (by omega)), f_X5_beginOf_43]
    · have hk' : k < (xL st 1).length := by omega
      rw [bi_neg (nI_ge (by omega) (by omega)), bi_neg (nI_ge (by omega) (by omega)), gd_pos (vp_in_nI hk' (by omega)), nI_clamp (by omega), gd_pos (hb.get hk'), (frm_ok hb (hb.get hk')).2.2, nI_add, nI_1, ← fsm_succ]
      exact ih (k + 1) (by omega) (by omega)
theorem p_beginOf {b : Nat} (hb : BI st) (hbl : b ≤ (xL st 1).length) : f_X5_beginOf st (nI b) = some (nI (fsm st b), st) := by
  have := hb.len
  exact p_beginOf_go hb hbl FU 0 (Nat.zero_le _) (by show b < 0 + 1000000; omega)
theorem r_get (hb : BI st) (h : RE st ms) {k : Nat} (hk : k < (xL st 1).length) : ms.2 3 k = nI ((xL st 1).getD k 0) := h.2.2.2.2.2.1 k hk
theorem r_shot (h : RE st ms) {i : Nat} (hi : i < xN st 0) : RS st ms i := h.2.2.2.2.2.2.1 i hi
theorem vp24 {k : Nat} (h : k < 24) {j : Nat} (hj : mln j = 24) : vp_in (nI k) (mln j) := by rw [hj]; exact vp_in_nI h (by decide)
theorem r_begins_go {b : Nat} (hb : BI st) (h : RE st ms) (hbl : b ≤ (xL st 1).length) : ∀ (n k : Nat), k ≤ b → b < k + n → f_X6_begins_4 n ms (nI b) (nI (fsm st k)) (nI k) = some (nI (fsm st b), ms) := by
  have hlen := hb.len
  have h24 := hb.n24
  intro n
  induction n with
  | zero => intro k h1 h2; omega
  | succ n ih =>
    intro k h1 h2
    rw [f_X6_begins_4]
    by_cases hk : k = b
    · subst hk
      rw [bi_pos (nI_le (by omega) (by omega))]
    · have hk' : k < (xL st 1).length := by omega
      have hg := hb.get hk'
      rw [bi_neg (nI_ge (by omega) (by omega)), gd_pos (vp24 (by omega) rfl), nI_clamp (by omega), r_get hb h hk', gd_pos (vp24 (by omega) rfl), nI_clamp (by omega), (r_shot h hg).2.2.1, (frm_ok hb hg).2.2, nI_add, nI_1, ← fsm_succ]
      exact ih (k + 1) (by omega) (by omega)
theorem r_begins {b : Nat} (hb : BI st) (h : RE st ms) (hbl : b ≤ (xL st 1).length) : f_X6_begins ms (nI b) = some (nI (fsm st b), ms) := by
  have := hb.len
  exact r_begins_go hb h hbl FU 0 (Nat.zero_le _) (by show b < 0 + 1000000; omega)
end PL
