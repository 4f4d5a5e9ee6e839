/-! Reading behind writing; what a change at one shot leaves. -/
theorem xF_sF (st : XS) (k i f : Nat) (x : Int32) (k' i' f' : Nat) : xF (sF st k i f x) k' i' f' = if k' = k ∧ i' = i ∧ f' = f then x else xF st k' i' f' := rfl
theorem xF_sR (st : XS) (k i j : Nat) (x : Int32) (k' i' f' : Nat) : xF (sR st k i j x) k' i' f' = xF st k' i' f' := rfl
theorem xF_sL (st : XS) (j : Nat) (l : List Nat) (k' i' f' : Nat) : xF (sL st j l) k' i' f' = xF st k' i' f' := rfl
theorem xR_sF (st : XS) (k i f : Nat) (x : Int32) (k' i' : Nat) : xR (sF st k i f x) k' i' = xR st k' i' := rfl
theorem xR_sL (st : XS) (j : Nat) (l : List Nat) (k' i' : Nat) : xR (sL st j l) k' i' = xR st k' i' := rfl
theorem xR_sR (st : XS) (k i j : Nat) (x : Int32) (k' i' c : Nat) : xR (sR st k i j x) k' i' c = if (k' = k ∧ i' = i) ∧ c = j then x else xR st k' i' c := by
  show (if k' = k ∧ i' = i then upd (st.2.1 k i) j x else st.2.1 k' i') c = _
  by_cases h : k' = k ∧ i' = i
  · rw [if_pos h]
    obtain ⟨rfl, rfl⟩ := h
    unfold upd
    by_cases h2 : c = j
    · rw [if_pos h2, if_pos ⟨⟨rfl, rfl⟩, h2⟩]
    · rw [if_neg h2, if_neg (fun h => h2 h.2)]
      rfl
  · rw [if_neg h, if_neg (fun h2 => h h2.1)]
    rfl
theorem xL_sF (st : XS) (k i f : Nat) (x : Int32) (j : Nat) : xL (sF st k i f x) j = xL st j := rfl
theorem xL_sR (st : XS) (k i f : Nat) (x : Int32) (j : Nat) : xL (sR st k i f x) j = xL st j := rfl
theorem xL_sL (st : XS) (j : Nat) (l : List Nat) (j' : Nat) : xL (sL st j l) j' = if j' = j then l else xL st j' := rfl
theorem xN_sF (st : XS) (k i f : Nat) (x : Int32) (j : Nat) : xN (sF st k i f x) j = xN st j := rfl
theorem xN_sR (st : XS) (k i f : Nat) (x : Int32) (j : Nat) : xN (sR st k i f x) j = xN st j := rfl
theorem xN_sL (st : XS) (k : Nat) (l : List Nat) (j : Nat) : xN (sL st k l) j = xN st j := rfl
theorem xU_sF (st : XS) (k i f : Nat) (x : Int32) (j : Nat) : xU (sF st k i f x) j = xU st j := rfl
theorem xU_sR (st : XS) (k i f : Nat) (x : Int32) (j : Nat) : xU (sR st k i f x) j = xU st j := rfl
theorem xU_sL (st : XS) (k : Nat) (l : List Nat) (j : Nat) : xU (sL st k l) j = xU st j := rfl
theorem sA_1 (ms : MS) (k i : Nat) (x : Int32) (j : Nat) : (setA ms k i x).1 j = ms.1 j := rfl
theorem sA_2 (ms : MS) (k i : Nat) (x : Int32) (j t : Nat) : (setA ms k i x).2 j t = if j = k ∧ t = i then x else ms.2 j t := by
  show (if j = k then upd (ms.2 k) i x else ms.2 j) t = _
  by_cases h : j = k
  · subst h
    rw [if_pos rfl]
    unfold upd
    by_cases h2 : t = i
    · rw [if_pos h2, if_pos ⟨rfl, h2⟩]
    · rw [if_neg h2, if_neg (fun h => h2 h.2)]
  · rw [if_neg h, if_neg (fun h2 => h h2.1)]
theorem sS_1 (ms : MS) (k : Nat) (x : Int32) (j : Nat) : (setS ms k x).1 j = if j = k then x else ms.1 j := rfl
theorem sS_2 (ms : MS) (k : Nat) (x : Int32) (j t : Nat) : (setS ms k x).2 j t = ms.2 j t := rfl
def SB (st st' : XS) (i : Nat) : Prop := (∀ j, xL st' j = xL st j) ∧ (∀ j, xN st' j = xN st j) ∧ (∀ j, xU st' j = xU st j) ∧ (∀ a b, xF st' 0 a b = xF st 0 a b) ∧ (∀ a b, xF st' 3 a b = xF st 3 a b) ∧ (∀ j f, j ≠ i → xF st' 1 j f = xF st 1 j f ∧ xF st' 2 j f = xF st 2 j f) ∧ ∀ w j c, w < 4 → j ≠ i → xR st' w j c = xR st w j c
def SM (ms ms' : MS) (i : Nat) : Prop := (∀ k, k ≠ 0 → ms'.1 k = ms.1 k) ∧ (∀ k t, k = 3 ∨ 24 ≤ k → ms'.2 k t = ms.2 k t) ∧ (∀ k t, ¬ (11 ≤ k ∧ k ≤ 14) → t ≠ i → ms'.2 k t = ms.2 k t) ∧ ∀ k t, 11 ≤ k ∧ k ≤ 14 → (t < 4 * i ∨ 4 * i + 4 ≤ t) → ms'.2 k t = ms.2 k t
theorem SB.rf (st : XS) (i : Nat) : SB st st i := ⟨fun _ => rfl, fun _ => rfl, fun _ => rfl, fun _ _ => rfl, fun _ _ => rfl, fun _ _ _ => ⟨rfl, rfl⟩, fun _ _ _ _ _ => rfl⟩
theorem SM.rf (ms : MS) (i : Nat) : SM ms ms i := ⟨fun _ _ => rfl, fun _ _ _ => rfl, fun _ _ _ _ => rfl, fun _ _ _ _ => rfl⟩
theorem SB.f1 {st st' : XS} {i : Nat} (h : SB st st' i) (f : Nat) (x : Int32) : SB st (sF st' 1 i f x) i := by
  obtain ⟨h1, h2, h3, h4, h5, h6, h7⟩ := h
  refine ⟨h1, h2, h3, fun a b => ?_, fun a b => ?_, fun j g hj => ⟨?_, ?_⟩, h7⟩
  · rw [xF_sF, if_neg (by rintro ⟨h, -⟩; cases h)]; exact h4 a b
  · rw [xF_sF, if_neg (by rintro ⟨h, -⟩; cases h)]; exact h5 a b
  · rw [xF_sF, if_neg (fun h => hj h.2.1)]; exact (h6 j g hj).1
  · rw [xF_sF, if_neg (by rintro ⟨h, -⟩; cases h)]; exact (h6 j g hj).2
theorem SB.f2 {st st' : XS} {i : Nat} (h : SB st st' i) (f : Nat) (x : Int32) : SB st (sF st' 2 i f x) i := by
  obtain ⟨h1, h2, h3, h4, h5, h6, h7⟩ := h
  refine ⟨h1, h2, h3, fun a b => ?_, fun a b => ?_, fun j g hj => ⟨?_, ?_⟩, h7⟩
  · rw [xF_sF, if_neg (by rintro ⟨h, -⟩; cases h)]; exact h4 a b
  · rw [xF_sF, if_neg (by rintro ⟨h, -⟩; cases h)]; exact h5 a b
  · rw [xF_sF, if_neg (by rintro ⟨h, -⟩; cases h)]; exact (h6 j g hj).1
  · rw [xF_sF, if_neg (fun h => hj h.2.1)]; exact (h6 j g hj).2
theorem SB.r {st st' : XS} {i : Nat} (h : SB st st' i) (w c : Nat) (x : Int32) : SB st (sR st' w i c x) i := by
  obtain ⟨h1, h2, h3, h4, h5, h6, h7⟩ := h
  refine ⟨h1, h2, h3, h4, h5, h6, fun w' j c' hw hj => ?_⟩
  rw [xR_sR, if_neg (fun h => hj h.1.2)]
  exact h7 w' j c' hw hj
theorem SM.s0 {ms ms' : MS} {i : Nat} (h : SM ms ms' i) (x : Int32) : SM ms (setS ms' 0 x) i := by
  obtain ⟨h1, h2⟩ := h
  exact ⟨fun k hk => by rw [sS_1, if_neg hk]; exact h1 k hk, h2⟩
theorem SM.a {ms ms' : MS} {i : Nat} (h : SM ms ms' i) (k : Nat) (hk : k ≠ 3 ∧ k < 24 ∧ ¬ (11 ≤ k ∧ k ≤ 14)) (x : Int32) : SM ms (setA ms' k i x) i := by
  obtain ⟨h1, h2, h3, h4⟩ := h
  refine ⟨h1, fun k' t hk' => ?_, fun k' t hk' ht => ?_, fun k' t hk' ht => ?_⟩
  · rw [sA_2, if_neg (by omega)]; exact h2 k' t hk'
  · rw [sA_2, if_neg (fun h => ht h.2)]; exact h3 k' t hk' ht
  · rw [sA_2, if_neg (by omega)]; exact h4 k' t hk' ht
theorem SM.c {ms ms' : MS} {i : Nat} (h : SM ms ms' i) (k c : Nat) (hk : 11 ≤ k ∧ k ≤ 14) (hc : c < 4) (x : Int32) : SM ms (setA ms' k (4 * i + c) x) i := by
  obtain ⟨h1, h2, h3, h4⟩ := h
  refine ⟨h1, fun k' t hk' => ?_, fun k' t hk' ht => ?_, fun k' t hk' ht => ?_⟩
  · rw [sA_2, if_neg (by omega)]; exact h2 k' t hk'
  · rw [sA_2, if_neg (by omega)]; exact h3 k' t hk' ht
  · rw [sA_2, if_neg (by omega)]; exact h4 k' t hk' ht
theorem RE_shot {st st' : XS} {ms ms' : MS} {i : Nat} (h : RE st ms) (hi : i < xN st 0) (a : SB st st' i) (b : SM ms ms' i) (hr : RS st' ms' i) : RE st' ms' := by
  obtain ⟨h1, h2, h3, h4, h5, h6, h7, h8, h9, h10⟩ := h
  obtain ⟨a1, a2, a3, a4, a5, a6, a7⟩ := a
  obtain ⟨b1, b2, b3, b4⟩ := b
  refine ⟨?_, ?_, ?_, ?_, ?_, fun t ht => ?_, fun j hj => ?_, fun j hj => ?_, fun j hj => ?_, fun j hj => ?_⟩
  · rw [b1 1 (by decide), a2]; exact h1
  · rw [b1 2 (by decide), a1]; exact h2
  · rw [b1 15 (by decide), a4]; exact h3
  · rw [b1 22 (by decide), a4]; exact h4
  · rw [b1 23 (by decide), a2]; exact h5
  · rw [a1] at ht ⊢
    rw [b2 3 t (Or.inl rfl)]; exact h6 t ht
  · by_cases hji : j = i
    · subst hji; exact hr
    · rw [a2] at hj
      have h := h7 j hj
      unfold RS at h ⊢
      rw [b3 4 j (by omega) hji, b3 5 j (by omega) hji, b3 6 j (by omega) hji, b3 7 j (by omega) hji, b3 8 j (by omega) hji, b3 9 j (by omega) hji, b3 10 j (by omega) hji, b3 16 j (by omega) hji, b3 17 j (by omega) hji, b3 18 j (by omega) hji, b3 19 j (by omega) hji, b3 20 j (by omega) hji, b3 21 j (by omega) hji]
      rw [(a6 j 3 hji).1, (a6 j 4 hji).1, (a6 j 5 hji).1, (a6 j 6 hji).1, (a6 j 11 hji).1, (a6 j 7 hji).1, (a6 j 8 hji).1, (a6 j 0 hji).2, (a6 j 1 hji).2, (a6 j 2 hji).2, (a6 j 3 hji).2, (a6 j 9 hji).1, (a6 j 10 hji).1]
      refine ⟨h.1, h.2.1, h.2.2.1, h.2.2.2.1, h.2.2.2.2.1, h.2.2.2.2.2.1, h.2.2.2.2.2.2.1, h.2.2.2.2.2.2.2.1, h.2.2.2.2.2.2.2.2.1, h.2.2.2.2.2.2.2.2.2.1, h.2.2.2.2.2.2.2.2.2.2.1, h.2.2.2.2.2.2.2.2.2.2.2.1, h.2.2.2.2.2.2.2.2.2.2.2.2.1, fun c hc => ?_⟩
      obtain ⟨c1, c2, c3, c4⟩ := h.2.2.2.2.2.2.2.2.2.2.2.2.2 c hc
      rw [b4 11 _ (by omega) (by omega), b4 12 _ (by omega) (by omega), b4 13 _ (by omega) (by omega), b4 14 _ (by omega) (by omega), a7 0 j c (by omega) hji, a7 1 j c (by omega) hji, a7 2 j c (by omega) hji, a7 3 j c (by omega) hji]
      exact ⟨c1, c2, c3, c4⟩
  · rw [a2] at hj
    have hji : j ≠ i := by omega
    obtain ⟨c1, c2, c3, c4, c5, c6⟩ := h8 j hj
    unfold RZ
    rw [b3 7 j (by omega) hji, b3 8 j (by omega) hji, b3 17 j (by omega) hji, b3 18 j (by omega) hji, b3 19 j (by omega) hji, b3 21 j (by omega) hji]
    exact ⟨c1, c2, c3, c4, c5, c6⟩
  · rw [a2] at hj
    rw [b2 24 j (by omega), b2 25 j (by omega), b2 26 j (by omega), a3, a5, a5]
    exact h9 j hj
  · rw [b2 29 j (by omega)]
    exact h10 j hj
theorem SOK_of {st st' : XS} {i j : Nat} (a : SB st st' i) (hji : j ≠ i) (h : SOK st j) : SOK st' j := by
  obtain ⟨a1, a2, a3, a4, a5, a6, a7⟩ := a
  unfold SOK COK at *
  rw [(a6 j 3 hji).1, (a6 j 4 hji).1, (a6 j 5 hji).1, (a6 j 8 hji).1, (a6 j 7 hji).1, (a6 j 11 hji).1, (a6 j 0 hji).2]
  refine ⟨h.1, h.2.1, h.2.2.1, h.2.2.2.1, h.2.2.2.2.1, h.2.2.2.2.2.1, h.2.2.2.2.2.2.1, fun c hc => ?_⟩
  rw [a7 0 j c (by omega) hji, a7 1 j c (by omega) hji, a7 2 j c (by omega) hji, a7 3 j c (by omega) hji]
  exact h.2.2.2.2.2.2.2 c hc
theorem BI_shot {st st' : XS} {i : Nat} (h : BI st) (a : SB st st' i) (hs : SOK st' i) (h7 : xF st' 1 i 7 = xF st 1 i 7) (h8 : xF st' 1 i 8 = xF st 1 i 8) : BI st' := by
  have g7 : ∀ j, xF st' 1 j 7 = xF st 1 j 7 := fun j => by
    by_cases hj : j = i
    · subst hj; exact h7
    · exact (a.2.2.2.2.2.1 j 7 hj).1
  have g8 : ∀ j, xF st' 1 j 8 = xF st 1 j 8 := fun j => by
    by_cases hj : j = i
    · subst hj; exact h8
    · exact (a.2.2.2.2.2.1 j 8 hj).1
  have a' := a
  obtain ⟨a1, a2, a3, a4, a5, a6, a7⟩ := a
  obtain ⟨b1, b2, b3, b4, b5, b6, b7, b8, b9, b10, b11, b12⟩ := h
  unfold BI NOK
  simp only [a1, a2, a3, a4, a5, g7, g8]
  refine ⟨b1, b2, b3, b4, b5, b6, b7, fun j hj => ?_, b9, b10, b11, b12⟩
  by_cases hji : j = i
  · subst hji; exact hs
  · exact SOK_of a' hji (b8 j hj)
