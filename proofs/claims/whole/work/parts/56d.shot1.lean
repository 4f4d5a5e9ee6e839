/-! Agreement: shot. -/
section B4
variable {st : XS} {ms : MS}
theorem BI.lenN (h : BI st) : (xL st 1).length ≤ xN st 0 := by
  have h2 : (xL st 1).length ≤ (List.range (xN st 0)).length := List.Nodup.length_le_of_subset h.2.2.1 (fun x hx => List.mem_range.mpr (h.reel_lt hx))
  rw [List.length_range] at h2
  exact h2
/-- the name is held by a shot that was made -/
def tkn (st : XS) (n c : Int32) : Prop := ∃ j, j < xN st 0 ∧ xF st 1 j 7 = n ∧ xF st 1 j 8 = c
theorem p_tkn_go {x c : Int32} (hb : BI st) : ∀ (n k : Nat), k ≤ xN st 0 → xN st 0 < k + n → (∀ j, j < k → ¬ (xF st 1 j 7 = x ∧ xF st 1 j 8 = c)) → f_X5_isNameTaken_2 n st x c (nI k) = some (b2i (tkn st x c), st) := by
  have h24 := hb.n24
  have e := hb.made
  have el : (xL st 0).length = xN st 0 := by rw [e, List.length_range]
  intro n
  induction n with
  | zero => intro k h1 h2; omega
  | succ n ih =>
    intro k h1 h2 h3
    rw [f_X5_isNameTaken_2, el]
    by_cases hk : k = xN st 0
    · rw [bi_pos (nI_le (by omega) (by omega)), b2i_f]
      rintro ⟨j, hj, h4⟩
      exact h3 j (by omega) h4
    · have hk' : k < xN st 0 := by omega
      have go : ¬ (xF st 1 k 7 = x ∧ xF st 1 k 8 = c) → f_X5_isNameTaken_46 (f_X5_isNameTaken_2 n) st x c (nI k) = some (b2i (tkn st x c), st) := by
        intro hn
        rw [f_X5_isNameTaken_46, nI_1]
        refine ih (k + 1) (by omega) (by omega) fun j hj => ?_
        by_cases e : j = k
        · subst e; exact hn
        · exact h3 j (by omega)
      rw [bi_neg (nI_ge (by omega) (by omega)), gd_pos (vp_in_nI hk' (by omega)), nI_clamp (by omega), e, p_range hk', gd_pos hk']
      by_cases e1 : xF st 1 k 7 = x
      · rw [bi_pos e1]
        by_cases e2 : xF st 1 k 8 = c
        · rw [bi_pos e2, b2i_t ⟨k, hk', e1, e2⟩]
        · rw [bi_neg e2]
          exact go (fun z => e2 z.2)
      · rw [bi_neg e1]
        exact go (fun z => e1 z.1)
theorem p_tkn {x c : Int32} (hb : BI st) : f_X5_isNameTaken st x c = some (b2i (tkn st x c), st) := by
  have := hb.n24
  exact p_tkn_go hb FU 0 (Nat.zero_le _) (by show _ < 0 + 1000000; omega) (fun j hj => absurd hj (Nat.not_lt_zero _))
/-- the least free letter of the last k -/
noncomputable def lst (Q : Nat → Prop) : Nat → Option Nat
  | 0 => none
  | k + 1 => @ite _ (Q (70 - k)) (Classical.propDecidable _) (some (70 - k)) (lst Q k)
theorem lst_succ (Q : Nat → Prop) (k : Nat) : lst Q (k + 1) = @ite _ (Q (70 - k)) (Classical.propDecidable _) (some (70 - k)) (lst Q k) := rfl
def toL (d : Int32) : Option Nat → Int32
  | some c => nI c
  | none => d
theorem lst_some {Q : Nat → Prop} {c : Nat} : ∀ {k : Nat}, k ≤ 6 → lst Q k = some c → Q c ∧ 65 ≤ c ∧ c ≤ 70 := by
  intro k
  induction k with
  | zero => intro _ h; cases h
  | succ k ih =>
    intro hk h
    unfold lst at h
    by_cases hq : Q (70 - k)
    · rw [if_pos hq] at h
      cases h
      exact ⟨hq, by omega, by omega⟩
    · rw [if_neg hq] at h
      exact ih (by omega) h
theorem up_c : ∀ k, k < 6 → (Int32.toUInt32 (nI (71 - (k + 1)) + 1) % 65536).toInt32 = nI (71 - k) := by decide +kernel
theorem dn_c : ∀ k, k < 6 → (Int32.toUInt32 (nI (70 - k) - 1) % 65536).toInt32 = nI (70 - (k + 1)) := by decide +kernel
theorem p_free_go {x : Int32} (hb : BI st) : ∀ (n k : Nat), k ≤ 6 → k < n → f_X5_freeLetter_3 n st x (nI (71 - k)) = some (toL 45 (lst (fun c => ¬ tkn st x (nI c)) k), st) := by
  intro n
  induction n with
  | zero => intro k h1 h2; omega
  | succ n ih =>
    intro k h1 h2
    rw [f_X5_freeLetter_3]
    cases k with
    | zero =>
      rw [bi_pos (by decide)]
      rfl
    | succ k =>
      have h70 : ¬ 70 < nI (71 - (k + 1)) := by
        rw [show (70 : Int32) = nI 70 from rfl, nI_ltI (by decide) (by omega)]
        omega
      rw [bi_neg h70, p_tkn hb, bd_some, up_c k (by omega), ih k (by omega) (by omega)]
      rw [lst_succ, show 71 - (k + 1) = 70 - k by omega]
      by_cases hq : tkn st x (nI (70 - k))
      · rw [b2i_t hq, bi_neg (by decide), if_neg (fun z => z hq)]
      · rw [b2i_f hq, bi_pos rfl, if_pos hq, gd_pos (nc_small (by omega)).1]
        rfl
theorem p_free {x : Int32} (hb : BI st) : f_X5_freeLetter st x = some (toL 45 (lst (fun c => ¬ tkn st x (nI c)) 6), st) :=
  p_free_go hb FU 6 (by decide) (by show 6 < 1000000; decide)
theorem r_tkn_go {x c a : Int32} (k6 : MS → Int32 → Int32 → Int32 → Option (Int32 × MS)) (hb : BI st) (h : RE st ms) : ∀ (n k : Nat) (f : Int32), k ≤ xN st 0 → xN st 0 < k + n → ((f = 1 ∧ ∀ j, j < k → ¬ (xF st 1 j 7 = x ∧ xF st 1 j 8 = c)) ∨ (f = 0 ∧ ∃ j, j < k ∧ xF st 1 j 7 = x ∧ xF st 1 j 8 = c)) → f_X6_freeLetter_18 k6 n ms x a c f (nI k) = f_X6_freeLetter_77 k6 ms x c (@ite _ (tkn st x c) (Classical.propDecidable _) a c) := by
  have h24 := hb.n24
  intro n
  induction n with
  | zero => intro k f h1 h2; omega
  | succ n ih =>
    intro k f h1 h2 h3
    rw [f_X6_freeLetter_18, h.1]
    by_cases hk : k = xN st 0
    · rw [bi_pos (nI_le (by omega) (by omega))]
      rcases h3 with ⟨hf, h4⟩ | ⟨hf, j, hj, h4⟩
      · rw [hf, bi_neg (by decide), if_neg]
        rintro ⟨j, hj, h5⟩
        exact h4 j (by omega) h5
      · rw [hf, bi_pos rfl, if_pos ⟨j, by omega, h4⟩]
    · have hk' : k < xN st 0 := by omega
      have hr := r_shot h hk'
      have h9 : ms.2 9 k = xF st 1 k 7 := hr.2.2.2.2.2.1
      have h10 : ms.2 10 k = xF st 1 k 8 := hr.2.2.2.2.2.2.1
      rw [bi_neg (nI_ge (by omega) (by omega))]
      rcases h3 with ⟨hf, h4⟩ | ⟨hf, j, hj, h4⟩
      · have go : ¬ (xF st 1 k 7 = x ∧ xF st 1 k 8 = c) → f_X6_freeLetter_54 k6 (f_X6_freeLetter_18 k6 n) ms x a c (nI k) = f_X6_freeLetter_77 k6 ms x c (@ite _ (tkn st x c) (Classical.propDecidable _) a c) := by
          intro hn
          rw [f_X6_freeLetter_54, f_X6_freeLetter_59, nI_1]
          refine ih (k + 1) 1 (by omega) (by omega) (Or.inl ⟨rfl, fun j hj => ?_⟩)
          by_cases e : j = k
          · subst e; exact hn
          · exact h4 j (by omega)
        rw [hf, bi_neg (by decide), gd_pos (vp24 (by omega) rfl), nI_clamp (by omega), h9]
        by_cases e1 : xF st 1 k 7 = x
        · rw [bi_pos e1, gd_pos (vp24 (by omega) rfl), h10]
          by_cases e2 : xF st 1 k 8 = c
          · rw [bi_pos e2, f_X6_freeLetter_58, f_X6_freeLetter_59, nI_1]
            exact ih (k + 1) 0 (by omega) (by omega) (Or.inr ⟨rfl, k, by omega, e1, e2⟩)
          · rw [bi_neg e2]
            exact go (fun z => e2 z.2)
        · rw [bi_neg e1]
          exact go (fun z => e1 z.1)
      · rw [hf, bi_pos rfl, f_X6_freeLetter_58, f_X6_freeLetter_59, nI_1]
        exact ih (k + 1) 0 (by omega) (by omega) (Or.inr ⟨rfl, j, by omega, h4⟩)
theorem toL_nc {Q : Nat → Prop} {d : Int32} (hd : narrow .char (.int d) = .int d ∧ fits .char (.int d) = true ∧ vp_nar .char d = d) {k : Nat} (hk : k ≤ 6) : narrow .char (.int (toL d (lst Q k))) = .int (toL d (lst Q k)) ∧ fits .char (.int (toL d (lst Q k))) = true ∧ vp_nar .char (toL d (lst Q k)) = toL d (lst Q k) := by
  cases e : lst Q k with
  | none => exact hd
  | some c => exact nc_small (by have := lst_some hk e; omega)
theorem r_free_go {x : Int32} (hb : BI st) (h : RE st ms) : ∀ (n k : Nat), k ≤ 6 → 6 < k + n → f_X6_freeLetter_6 n ms x (toL 32 (lst (fun c => ¬ tkn st x (nI c)) k)) (nI (70 - k)) = some (toL 32 (lst (fun c => ¬ tkn st x (nI c)) 6), ms) := by
  have h24 := hb.n24
  intro n
  induction n with
  | zero => intro k h1 h2; omega
  | succ n ih =>
    intro k h1 h2
    rw [f_X6_freeLetter_6]
    by_cases hk : k = 6
    · subst hk
      rw [bi_pos (by decide), gd_pos (toL_nc ⟨rfl, rfl, rfl⟩ (by decide)).1]
    · have h65 : ¬ nI (70 - k) < 65 := by
        rw [show (65 : Int32) = nI 65 from rfl, nI_ltI (by omega) (by decide)]
        omega
      rw [bi_neg h65, show (0 : Int32) = nI 0 from rfl, r_tkn_go (f_X6_freeLetter_6 n) hb h FU 0 1 (Nat.zero_le _) (by show _ < 0 + 1000000; omega) (Or.inl ⟨rfl, fun j hj => absurd hj (Nat.not_lt_zero _)⟩), f_X6_freeLetter_77, dn_c k (by omega)]
      have e : (@ite _ (tkn st x (nI (70 - k))) (Classical.propDecidable _) (toL 32 (lst (fun c => ¬ tkn st x (nI c)) k)) (nI (70 - k))) = toL 32 (lst (fun c => ¬ tkn st x (nI c)) (k + 1)) := by
        rw [lst_succ]
        by_cases hq : tkn st x (nI (70 - k))
        · rw [if_pos hq, if_neg (fun z => z hq)]
        · rw [if_neg hq, if_pos hq]
          rfl
      rw [e]
      exact ih (k + 1) (by omega) (by omega)
theorem r_free {x : Int32} (hb : BI st) (h : RE st ms) : f_X6_freeLetter ms x = some (toL 32 (lst (fun c => ¬ tkn st x (nI c)) 6), ms) :=
  r_free_go hb h FU 0 (by decide) (by show 6 < 0 + 1000000; decide)
end B4
