/-! Pure reckoning: control words, ranges. -/
theorem bi_i {α : Type} (c : Prop) (a b : Option α) : bi c a b = @ite _ c (Classical.propDecidable c) a b := rfl
theorem gd_i {α : Type} (c : Prop) (a : Option α) : gd c a = @ite _ c (Classical.propDecidable c) a none := rfl
theorem bdx_r {α β γ : Type} (r : α) (t : β) (k : α → β → Option ((Nat ⊕ γ) × β)) : bdx (some (.inr r, t)) k = k r t := rfl
theorem bdx_l {α β γ : Type} (e : Nat) (t : β) (k : α → β → Option ((Nat ⊕ γ) × β)) : bdx (some (.inl e, t)) k = some (.inl e, t) := rfl
theorem p_le1 {n : Nat} (h : n < 2 ^ 31) (x : Int32) : x ≤ nI n - 1 ↔ x < nI n := by
  have h1 : (nI n).toInt = n := nI_toInt h
  have h2 : (nI n - 1).toInt = (n : Int) - 1 := by
    rw [fb_subI] <;> rw [h1] <;> (try show _ ≤ (n : Int) - 1) <;> (try show (n : Int) - 1 < _) <;> first | rfl | omega
  rw [Int32.le_iff_toInt_le, Int32.lt_iff_toInt_lt, h1, h2]
  omega
theorem p_rng {N : Nat} (h : N < 2 ^ 31) (x : Int32) : (∃ k, k < N ∧ x = nI k) ∨ (x < 0 ∨ nI N ≤ x) := by
  by_cases h0 : x < 0
  · exact Or.inr (Or.inl h0)
  · obtain ⟨j, hj, rfl⟩ := nI_of h0
    by_cases h1 : j < N
    · exact Or.inl ⟨j, h1, rfl⟩
    · exact Or.inr (Or.inr (nI_le (by omega) hj))
theorem p_nlt0 {N : Nat} {x : Int32} (h : ¬ x < 0) (h2 : x < 0 ∨ nI N ≤ x) : ¬ x < nI N := by
  rcases h2 with h2 | h2
  · exact absurd h2 h
  · intro h3
    rw [Int32.lt_iff_toInt_lt] at h3
    rw [Int32.le_iff_toInt_le] at h2
    omega
theorem bi_in {α : Type} {N k : Nat} (hN : N < 2 ^ 31) (hk : k < N) (a b : Option α) : bi (nI k < 0) a (bi (nI k < nI N) b a) = b := by
  rw [bi_neg (nI_pos (by omega)), bi_pos (nI_lt hk hN)]
theorem bi_out {α : Type} {N : Nat} {x : Int32} (h : x < 0 ∨ nI N ≤ x) (a b : Option α) : bi (x < 0) a (bi (x < nI N) b a) = a := by
  by_cases h0 : x < 0
  · rw [bi_pos h0]
  · rw [bi_neg h0, bi_neg (p_nlt0 h0 h)]
theorem bi_inl {α : Type} {N k : Nat} (hN : N < 2 ^ 31) (hk : k ≤ N) (a b : Option α) : bi (nI k < 0) a (bi (nI k ≤ nI N) b a) = b := by
  rw [bi_neg (nI_pos (by omega)), bi_pos (nI_le hk hN)]
noncomputable def b2i (c : Prop) : Int32 := @ite _ c (Classical.propDecidable c) 1 0
theorem b2i_t {c : Prop} (h : c) : b2i c = 1 := if_pos h
theorem b2i_f {c : Prop} (h : ¬ c) : b2i c = 0 := if_neg h
theorem nb_0 : narrow .boolean (.int 0) = .int 0 := by rfl
theorem nb_1 : narrow .boolean (.int 1) = .int 1 := by rfl
theorem b2i_nb (c : Prop) : narrow .boolean (.int (b2i c)) = .int (b2i c) := by
  by_cases h : c
  · rw [b2i_t h]; rfl
  · rw [b2i_f h]; rfl
theorem p_in (ms : MS) (x lo hi : Int32) : f_X6_in ms x lo hi = some (b2i (lo ≤ x ∧ x ≤ hi), ms) := by
  have e15 : ∀ y, y = 0 ∨ y = 1 → f_X6_in_15 ms y = some (y, ms) := fun y hy => by
    rw [f_X6_in_15, gd_pos (by rcases hy with rfl | rfl <;> rfl)]
  unfold f_X6_in f_X6_in_14
  by_cases h1 : x < lo
  · rw [bi_pos h1, e15 _ (Or.inl rfl), b2i_f]
    rintro ⟨h2, -⟩
    rw [Int32.lt_iff_toInt_lt] at h1
    rw [Int32.le_iff_toInt_le] at h2
    omega
  · rw [bi_neg h1]
    by_cases h2 : hi < x
    · rw [bi_pos h2, e15 _ (Or.inl rfl), b2i_f]
      rintro ⟨-, h3⟩
      rw [Int32.lt_iff_toInt_lt] at h2
      rw [Int32.le_iff_toInt_le] at h3
      omega
    · rw [bi_neg h2, e15 _ (Or.inr rfl), b2i_t]
      rw [Int32.lt_iff_toInt_lt] at h1 h2
      rw [Int32.le_iff_toInt_le, Int32.le_iff_toInt_le]
      omega
theorem p_fails0 (ms : MS) : f_X6_fails ms 0 = some (0, setS ms 0 0) := by
  unfold f_X6_fails f_X6_fails_14
  rw [bi_pos (by decide), gd_pos nb_0]
theorem p_fails {ms : MS} {x : Int32} (h : ¬ x ≤ 0) : f_X6_fails ms x = some (1, setS ms 0 x) := by
  unfold f_X6_fails f_X6_fails_14
  rw [bi_neg h, gd_pos nb_1]
theorem p_fails1 (ms : MS) : f_X6_fails ms 1 = some (1, setS ms 0 1) := p_fails (by decide)
theorem p_fails2 (ms : MS) : f_X6_fails ms 2 = some (1, setS ms 0 2) := p_fails (by decide)
theorem p_fails3 (ms : MS) : f_X6_fails ms 3 = some (1, setS ms 0 3) := p_fails (by decide)
/-- the code is seen by no rule -/
theorem RE.code {st : XS} {ms : MS} (h : RE st ms) (x : Int32) : RE st (setS ms 0 x) := by
  obtain ⟨h1, h2, h3, h4, h5, h6⟩ := h
  have e : ∀ k, k ≠ 0 → (setS ms 0 x).1 k = ms.1 k := fun k hk => by
    show upd ms.1 0 x k = ms.1 k
    unfold upd
    rw [if_neg hk]
  refine ⟨?_, ?_, ?_, ?_, ?_, h6⟩
  · rw [e 1 (by decide)]; exact h1
  · rw [e 2 (by decide)]; exact h2
  · rw [e 15 (by decide)]; exact h3
  · rw [e 22 (by decide)]; exact h4
  · rw [e 23 (by decide)]; exact h5
theorem INV.code {st : XS} {ms : MS} (h : INV st ms) (x : Int32) : INV st (setS ms 0 x) := ⟨h.1, h.2.code x⟩
theorem code_0 (ms : MS) (x : Int32) : (setS ms 0 x).1 0 = x := by
  show upd ms.1 0 x 0 = x
  unfold upd
  rw [if_pos rfl]
theorem p_range {n i : Nat} (h : i < n) : (List.range n).getD i 0 = i := by
  rw [List.getD_eq_getElem?_getD, List.getElem?_range h]
  rfl
section PB
variable {st : XS} {ms : MS}
theorem BI.n24 (h : BI st) : xN st 0 ≤ 24 := h.2.1
theorem BI.reel_lt (h : BI st) {x : Nat} (hx : x ∈ xL st 1) : x < xN st 0 := h.2.2.2.1 x hx
theorem BI.len (h : BI st) : (xL st 1).length ≤ 24 := by
  have h1 := h.2.2.1
  have h2 : (xL st 1).length ≤ (List.range (xN st 0)).length := List.Nodup.length_le_of_subset h1 (fun x hx => List.mem_range.mpr (h.reel_lt hx))
  rw [List.length_range] at h2
  have := h.2.1
  omega
theorem BI.get (h : BI st) {k : Nat} (hk : k < (xL st 1).length) : (xL st 1).getD k 0 < xN st 0 := by
  refine h.reel_lt ?_
  rw [List.getD_eq_getElem?_getD, List.getElem?_eq_getElem hk]
  exact List.getElem_mem hk
theorem p_made {i : Nat} (h : BI st) (hi : i < xN st 0) : f_X5_madeShot st (nI i) = some (.inr i, st) := by
  have e : xL st 0 = List.range (xN st 0) := h.1
  have hn := h.2.1
  have el : (xL st 0).length = xN st 0 := by rw [e, List.length_range]
  unfold f_X5_madeShot
  rw [el, bi_in (by omega) hi, nI_clamp (by omega), e, p_range hi, gd_pos (vp_in_nI hi (by omega)), gd_pos hi]
theorem p_made_no {x : Int32} (h : BI st) (hx : x < 0 ∨ nI (xN st 0) ≤ x) : f_X5_madeShot st x = some (.inl 3, st) := by
  have el : (xL st 0).length = xN st 0 := by rw [h.1, List.length_range]
  unfold f_X5_madeShot f_X5_madeShot_15
  rw [el, bi_out hx]
theorem p_madeN {i : Nat} (h : BI st) (hi : i < xN st 1) : f_X5_madeNote st (nI i) = some (.inr i, st) := by
  have e : xL st 2 = List.range (xN st 1) := h.2.2.2.2.1
  have hn : xN st 1 ≤ 40 := h.2.2.2.2.2.1
  have el : (xL st 2).length = xN st 1 := by rw [e, List.length_range]
  unfold f_X5_madeNote
  rw [el, bi_in (by omega) hi, nI_clamp (by omega), e, p_range hi, gd_pos (vp_in_nI hi (by omega)), gd_pos hi]
theorem p_madeN_no {x : Int32} (h : BI st) (hx : x < 0 ∨ nI (xN st 1) ≤ x) : f_X5_madeNote st x = some (.inl 3, st) := by
  have el : (xL st 2).length = xN st 1 := by rw [h.2.2.2.2.1, List.length_range]
  unfold f_X5_madeNote f_X5_madeNote_15
  rw [el, bi_out hx]
theorem p_rin {N k : Nat} (hN : N < 2 ^ 31) (hk : k < N) : (0 ≤ nI k ∧ nI k ≤ nI N - 1) := ⟨nI_pos' (by omega), (p_le1 hN _).mpr (nI_lt hk hN)⟩
theorem p_rout {N : Nat} {x : Int32} (hN : N < 2 ^ 31) (h : x < 0 ∨ nI N ≤ x) : ¬ (0 ≤ x ∧ x ≤ nI N - 1) := by
  rw [p_le1 hN]
  rintro ⟨h1, h2⟩
  rw [Int32.le_iff_toInt_le] at h1
  rw [Int32.lt_iff_toInt_lt] at h2
  rcases h with h | h
  · rw [Int32.lt_iff_toInt_lt] at h
    have : (0 : Int32).toInt = 0 := rfl
    omega
  · rw [Int32.le_iff_toInt_le] at h
    omega
theorem p_isShot {i : Nat} (hb : BI st) (h : RE st ms) (hi : i < xN st 0) : f_X6_isShot ms (nI i) = some (1, ms) := by
  have := hb.2.1
  unfold f_X6_isShot
  rw [p_in, bd_some, h.1, b2i_t (p_rin (by omega) hi), gd_pos nb_1]
theorem p_isShot_no {x : Int32} (hb : BI st) (h : RE st ms) (hx : x < 0 ∨ nI (xN st 0) ≤ x) : f_X6_isShot ms x = some (0, ms) := by
  have := hb.2.1
  unfold f_X6_isShot
  rw [p_in, bd_some, h.1, b2i_f (p_rout (by omega) hx), gd_pos nb_0]
theorem p_isNote {i : Nat} (hb : BI st) (h : RE st ms) (hi : i < xN st 1) : f_X6_isNote ms (nI i) = some (1, ms) := by
  have := hb.2.2.2.2.2.1
  unfold f_X6_isNote
  rw [p_in, bd_some, h.2.2.2.2.1, b2i_t (p_rin (by omega) hi), gd_pos nb_1]
theorem p_isNote_no {x : Int32} (hb : BI st) (h : RE st ms) (hx : x < 0 ∨ nI (xN st 1) ≤ x) : f_X6_isNote ms x = some (0, ms) := by
  have := hb.2.2.2.2.2.1
  unfold f_X6_isNote
  rw [p_in, bd_some, h.2.2.2.2.1, b2i_f (p_rout (by omega) hx), gd_pos nb_0]
end PB
