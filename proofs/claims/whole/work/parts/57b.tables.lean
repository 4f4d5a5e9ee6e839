/-! Orders of a short reel: the class's tables. -/
section O2
variable {st : XS} {ms : MS} {nn : Int32} {a b c : Nat → Int32} {N : Nat}
/-- the class's state with the tables of the orders -/
def xW (st : XS) (n : Int32) (a b c : Nat → Int32) : XS := (fun k i f => if k = 4 ∧ i = 0 ∧ f = 3 then n else st.1 k i f, fun k i => if k = 4 ∧ i = 0 then a else if k = 5 ∧ i = 0 then b else if k = 6 ∧ i = 0 then c else st.2.1 k i, st.2.2)
theorem xW_n : xF (xW st nn a b c) 4 0 3 = nn := rfl
theorem xW_F0 (i f : Nat) : xF (xW st nn a b c) 0 i f = xF st 0 i f := rfl
theorem xW_F1 (i f : Nat) : xF (xW st nn a b c) 1 i f = xF st 1 i f := rfl
theorem xW_F2 (i f : Nat) : xF (xW st nn a b c) 2 i f = xF st 2 i f := rfl
theorem xW_F3 (i f : Nat) : xF (xW st nn a b c) 3 i f = xF st 3 i f := rfl
theorem xW_R0 (i : Nat) : xR (xW st nn a b c) 0 i = xR st 0 i := rfl
theorem xW_R1 (i : Nat) : xR (xW st nn a b c) 1 i = xR st 1 i := rfl
theorem xW_R2 (i : Nat) : xR (xW st nn a b c) 2 i = xR st 2 i := rfl
theorem xW_R3 (i : Nat) : xR (xW st nn a b c) 3 i = xR st 3 i := rfl
theorem xW_4 : xR (xW st nn a b c) 4 0 = a := rfl
theorem xW_5 : xR (xW st nn a b c) 5 0 = b := rfl
theorem xW_6 : xR (xW st nn a b c) 6 0 = c := rfl
theorem xW_L (j : Nat) : xL (xW st nn a b c) j = xL st j := rfl
theorem xW_N (j : Nat) : xN (xW st nn a b c) j = xN st j := rfl
theorem xW_U (j : Nat) : xU (xW st nn a b c) j = xU st j := rfl
theorem xW_s4 (j : Nat) (x : Int32) : sR (xW st nn a b c) 4 0 j x = xW st nn (upd a j x) b c := by
  refine Prod.ext rfl (Prod.ext ?_ rfl)
  funext k i
  show (if k = 4 ∧ i = 0 then upd a j x else if k = 4 ∧ i = 0 then a else if k = 5 ∧ i = 0 then b else if k = 6 ∧ i = 0 then c else st.2.1 k i) = if k = 4 ∧ i = 0 then upd a j x else if k = 5 ∧ i = 0 then b else if k = 6 ∧ i = 0 then c else st.2.1 k i
  by_cases h : k = 4 ∧ i = 0
  · rw [if_pos h, if_pos h]
  · rw [if_neg h, if_neg h, if_neg h]
theorem xW_s5 (j : Nat) (x : Int32) : sR (xW st nn a b c) 5 0 j x = xW st nn a (upd b j x) c := by
  refine Prod.ext rfl (Prod.ext ?_ rfl)
  funext k i
  show (if k = 5 ∧ i = 0 then upd b j x else if k = 4 ∧ i = 0 then a else if k = 5 ∧ i = 0 then b else if k = 6 ∧ i = 0 then c else st.2.1 k i) = if k = 4 ∧ i = 0 then a else if k = 5 ∧ i = 0 then upd b j x else if k = 6 ∧ i = 0 then c else st.2.1 k i
  by_cases h : k = 5 ∧ i = 0
  · rw [if_pos h, if_neg (fun z => by omega), if_pos h]
  · rw [if_neg h, if_neg h, if_neg h]
theorem xW_s6 (j : Nat) (x : Int32) : sR (xW st nn a b c) 6 0 j x = xW st nn a b (upd c j x) := by
  refine Prod.ext rfl (Prod.ext ?_ rfl)
  funext k i
  show (if k = 6 ∧ i = 0 then upd c j x else if k = 4 ∧ i = 0 then a else if k = 5 ∧ i = 0 then b else if k = 6 ∧ i = 0 then c else st.2.1 k i) = if k = 4 ∧ i = 0 then a else if k = 5 ∧ i = 0 then b else if k = 6 ∧ i = 0 then upd c j x else st.2.1 k i
  by_cases h : k = 6 ∧ i = 0
  · rw [if_pos h, if_neg (fun z => by omega), if_neg (fun z => by omega), if_pos h]
  · rw [if_neg h, if_neg h, if_neg h]
theorem xW_0 (st : XS) (n : Int32) : sF st 4 0 3 n = xW st n (xR st 4 0) (xR st 5 0) (xR st 6 0) := by
  refine Prod.ext rfl (Prod.ext ?_ rfl)
  funext k i
  show st.2.1 k i = if k = 4 ∧ i = 0 then st.2.1 4 0 else if k = 5 ∧ i = 0 then st.2.1 5 0 else if k = 6 ∧ i = 0 then st.2.1 6 0 else st.2.1 k i
  by_cases h : k = 4 ∧ i = 0
  · rw [if_pos h, h.1, h.2]
  · rw [if_neg h]
    by_cases h : k = 5 ∧ i = 0
    · rw [if_pos h, h.1, h.2]
    · rw [if_neg h]
      by_cases h : k = 6 ∧ i = 0
      · rw [if_pos h, h.1, h.2]
      · rw [if_neg h]
theorem INV.xW (I : INV st ms) : INV (xW st nn a b c) ms := by
  unfold INV BI RE SOK NOK RS COK at I ⊢
  simp only [xW_F0, xW_F1, xW_F2, xW_F3, xW_R0, xW_R1, xW_R2, xW_R3, xW_L, xW_N, xW_U]
  exact I
theorem flt_xW (x y : Nat) : flt (xW st nn a b c) x y = flt st x y := rfl
/-- the cut between these places of the reel is wrong -/
def wc (st : XS) (i k : Nat) : Bool := decide (flt st ((xL st 1).getD i 0) ((xL st 1).getD k 0) ≠ 45)
theorem upd_at (f : Nat → Int32) (i : Nat) (x : Int32) : upd f i x i = x := if_pos rfl
theorem upd_ne (f : Nat → Int32) {i j : Nat} (x : Int32) (h : j ≠ i) : upd f i x j = f j := if_neg h
theorem p_cell (x y : Nat) : f_X2_cell st (nI x) (nI y) = some (nI (6 * x + y), st) := by
  unfold f_X2_cell
  rw [show (6 : Int32) = nI 6 from rfl, show nI x * nI 6 = nI (x * 6) from (Int32.ofNat_mul x 6).symm, nI_add, Nat.mul_comm]
theorem lay_in (hb : BI st) (hN : N = (xL st 1).length) (h6 : N ≤ 6) {i : Nat} (hi : i < N) (k15 : XS → Int32 → Option (Unit × XS)) : ∀ (n k : Nat) (a : Nat → Int32), k ≤ N → N < k + n → ∃ a', f_X2_layOut_25 k15 n (xW st (nI N) a b c) (nI i) (nI k) = k15 (xW st (nI N) a' b c) (nI (i + 1)) ∧ (∀ t, t < 6 * i + k → a' t = a t) ∧ ∀ j, k ≤ j → j < N → a' (6 * i + j) = tI (wc st i j) := by
  have h24 := hb.n24
  intro n
  induction n with
  | zero => intro k a h1 h2; omega
  | succ n ih =>
    intro k a h1 h2
    rw [f_X2_layOut_25, xW_n]
    by_cases hk : k = N
    · refine ⟨a, ?_, fun t _ => rfl, fun j h3 h4 => by omega⟩
      rw [bi_pos (nI_le (by omega) (by omega)), nI_1]
    · have hg := hb.get (show i < (xL st 1).length by omega)
      have hg2 := hb.get (show k < (xL st 1).length by omega)
      have i36 : 6 * i + k < 36 := by omega
      obtain ⟨a', e1, e2, e3⟩ := ih (k + 1) (upd a (6 * i + k) (tI (wc st i k))) (by omega) (by omega)
      refine ⟨a', ?_, fun t ht => ?_, fun j h3 h4 => ?_⟩
      · rw [bi_neg (nI_ge (by omega) (by omega)), p_cell, bd_some, xW_L, xW_N, gd_pos (vp_in_nI (by omega) (by omega)), nI_clamp (by omega), gd_pos hg, gd_pos (vp_in_nI (by omega) (by omega)), nI_clamp (by omega), gd_pos hg2, p_fault (st := xW st (nI N) a b c) hg hg2, bd_some, flt_xW]
        unfold wc at e1
        by_cases hf : flt st ((xL st 1).getD i 0) ((xL st 1).getD k 0) = 45
        · rw [decide_eq_false (fun z => z hf)] at e1
          rw [bi_pos hf, f_X2_layOut_71, gd_pos (vp_in_nI i36 (by decide)), nI_clamp (by omega), xW_s4, nI_1]
          exact e1
        · rw [decide_eq_true hf] at e1
          rw [bi_neg hf, f_X2_layOut_71, gd_pos (vp_in_nI i36 (by decide)), nI_clamp (by omega), xW_s4, nI_1]
          exact e1
      · rw [e2 t (by omega), upd_ne _ _ (by omega)]
      · by_cases ej : j = k
        · rw [ej, e2 _ (by omega), upd_at]
        · exact e3 j (by omega) h4
theorem lay_out (hb : BI st) (hN : N = (xL st 1).length) (h6 : N ≤ 6) : ∀ (n i : Nat) (a : Nat → Int32), i ≤ N → N < i + n → (∀ x, x < i → ∀ j, j < N → a (6 * x + j) = tI (wc st x j)) → ∃ a', f_X2_layOut_15 n (xW st (nI N) a b c) (nI i) = f_X2_layOut_86 FU (xW st (nI N) a' b c) 1 ∧ ∀ x, x < N → ∀ j, j < N → a' (6 * x + j) = tI (wc st x j) := by
  intro n
  induction n with
  | zero => intro i a h1 h2; omega
  | succ n ih =>
    intro i a h1 h2 h3
    rw [f_X2_layOut_15, xW_n]
    by_cases hi : i = N
    · refine ⟨a, ?_, fun x hx j hj => h3 x (by omega) j hj⟩
      rw [bi_pos (nI_le (by omega) (by omega))]
    · obtain ⟨a1, e1, e2, e3⟩ := lay_in (b := b) (c := c) hb hN h6 (show i < N by omega) (f_X2_layOut_15 n) FU 0 a (Nat.zero_le _) (by show N < 0 + 1000000; omega)
      obtain ⟨a', e4, e5⟩ := ih (i + 1) a1 (by omega) (by omega) (fun x hx j hj => by
        by_cases ex : x = i
        · rw [ex]; exact e3 j (Nat.zero_le _) hj
        · rw [e2 _ (by omega)]; exact h3 x (by omega) j hj)
      refine ⟨a', ?_, e5⟩
      rw [bi_neg (nI_ge (by omega) (by omega))]
      exact e1.trans e4
theorem mask_c : ∀ U, U < 64 → ∀ l, l < 6 → nI U &&& ((1 <<< (nI l &&& 31)) ^^^ (-1)) = nI (oDel U l) := by decide +kernel
theorem pow_c : ∀ N, N < 7 → (1 : Int32) <<< (nI N &&& 31) = nI (2 ^ N) := by decide +kernel
theorem del_eq : ∀ U, U < 64 → ∀ l, l < 6 → (oDel U l = U ↔ ¬ U.testBit l = true) := by decide +kernel
theorem tI_0 {b : Bool} : tI b = 0 ↔ b = false := by cases b <;> decide
/-- the tables are right for all sets below U -/
def tOK (st : XS) (N U : Nat) (b c : Nat → Int32) : Prop := ∀ V j, 1 ≤ V → V < U → j < N → b (6 * V + j) = nI (oTG (wc st) N V j) ∧ c (6 * V + j) = nI (oTB (wc st) N V j)
def wOK (st : XS) (N : Nat) (a : Nat → Int32) : Prop := ∀ x, x < N → ∀ j, j < N → a (6 * x + j) = tI (wc st x j)
theorem good_go (h6 : N ≤ 6) (ha : wOK st N a) {V l : Nat} (hl : l < N) (hV : V < 64) (hT : ∀ j, j < N → b (6 * V + j) = nI (oTG (wc st) N V j)) : ∀ (n k : Nat), k ≤ N → N < k + n → f_X2_goodEndingWith_27 n (xW st (nI N) a b c) (nI l) (nI V) (nI (oF (fun a b => a + b) 0 (fun i => if wc st i l then 0 else oTG (wc st) N V i) k)) (nI k) = some (nI (oF (fun a b => a + b) 0 (fun i => if wc st i l then 0 else oTG (wc st) N V i) N), xW st (nI N) a b c) := by
  intro n
  induction n with
  | zero => intro k h1 h2; omega
  | succ n ih =>
    intro k h1 h2
    rw [f_X2_goodEndingWith_27, xW_n]
    by_cases hk : k = N
    · rw [bi_pos (nI_le (by omega) (by omega)), hk]
    · have ih2 := ih (k + 1) (by omega) (by omega)
      have e : oF (fun a b => a + b) 0 (fun i => if wc st i l then 0 else oTG (wc st) N V i) (k + 1) = oF (fun a b => a + b) 0 (fun i => if wc st i l then 0 else oTG (wc st) N V i) k + (if wc st k l then 0 else oTG (wc st) N V k) := rfl
      rw [e] at ih2
      rw [bi_neg (nI_ge (by omega) (by omega)), p_cell, bd_some, gd_pos (vp_in_nI (show 6 * k + l < 36 by omega) (by decide)), nI_clamp (by omega), xW_4, ha k (by omega) l hl]
      cases hw : wc st k l with
      | false =>
        rw [hw, if_neg (by decide)] at ih2
        rw [bi_pos (show tI false = 0 from rfl), p_cell, bd_some, gd_pos (vp_in_nI (show 6 * V + k < 384 by omega) (by decide)), nI_clamp (by omega), xW_5, hT k (by omega), f_X2_goodEndingWith_66, nI_add, nI_1]
        exact ih2
      | true =>
        rw [hw, if_pos rfl, Nat.add_zero] at ih2
        rw [bi_neg (by decide), f_X2_goodEndingWith_66, nI_1]
        exact ih2
theorem p_good (h6 : N ≤ 6) (ha : wOK st N a) {U l : Nat} (hl : l < N) (h1 : 1 ≤ U) (hU : U < 64) (hT : ∀ V, 1 ≤ V → V < U → ∀ j, j < N → b (6 * V + j) = nI (oTG (wc st) N V j)) : f_X2_goodEndingWith (xW st (nI N) a b c) (nI l) (nI U) = some (nI (oTG (wc st) N U l), xW st (nI N) a b c) := by
  have hd := oDel_64 (l := l) hU
  rw [f_X2_goodEndingWith, mask_c U hU l (by omega)]
  by_cases hb : U.testBit l = true
  · have hne := fun z => (del_eq U hU l (by omega)).mp z hb
    rw [bi_neg (fun z => hne ((nI_eq (by omega) (by omega)).mp z))]
    by_cases h0 : oDel U l = 0
    · rw [h0, bi_pos (show nI 0 = 0 from rfl), oTG_1 hU (by omega) hb h0]
      rfl
    · rw [bi_neg (show ¬ nI (oDel U l) = 0 from fun z => h0 ((nI_eq (a := oDel U l) (b := 0) (by omega) (by decide)).mp z)), oTG_s h6 hU (by omega) hb h0]
      exact good_go h6 ha hl hd (hT _ (by omega) (oDel_lt U hU l (by omega) hb).1) FU 0 (Nat.zero_le _) (by show N < 0 + 1000000; omega)
  · rw [(del_eq U hU l (by omega)).mpr hb, bi_pos rfl, oTG_no hb]
    rfl
theorem nI_min {x y : Nat} (hx : x < 2 ^ 31) (hy : y < 2 ^ 31) : (if nI x < nI y then nI x else nI y) = nI (min y x) := by
  by_cases h : x < y
  · rw [if_pos (nI_lt h hy), Nat.min_eq_right (by omega)]
  · rw [if_neg (nI_nlt (by omega) hx), Nat.min_eq_left (by omega)]
theorem least_go (h6 : N ≤ 6) (ha : wOK st N a) {V l : Nat} (hl : l < N) (hV : V < 64) (hT : ∀ j, j < N → c (6 * V + j) = nI (oTB (wc st) N V j)) : ∀ (n k : Nat), k ≤ N → N < k + n → f_X2_leastEndingWith_31 n (xW st (nI N) a b c) (nI l) (nI V) (nI (oF (fun a b => min a b) 1000 (fun i => oTB (wc st) N V i + (if wc st i l then 1 else 0)) k)) (nI k) = some (nI (oF (fun a b => min a b) 1000 (fun i => oTB (wc st) N V i + (if wc st i l then 1 else 0)) N), xW st (nI N) a b c) := by
  intro n
  induction n with
  | zero => intro k h1 h2; omega
  | succ n ih =>
    intro k h1 h2
    rw [f_X2_leastEndingWith_31, xW_n]
    by_cases hk : k = N
    · rw [bi_pos (nI_le (by omega) (by omega)), hk]
    · have ih2 := ih (k + 1) (by omega) (by omega)
      have e : oF (fun a b => min a b) 1000 (fun i => oTB (wc st) N V i + (if wc st i l then 1 else 0)) (k + 1) = min (oF (fun a b => min a b) 1000 (fun i => oTB (wc st) N V i + (if wc st i l then 1 else 0)) k) (oTB (wc st) N V k + (if wc st k l then 1 else 0)) := rfl
      have hx := oF_1000 (fun i => oTB (wc st) N V i + (if wc st i l then 1 else 0)) k
      have hy := oTB_le (w := wc st) (N := N) (U := V) (l := k)
      rw [e] at ih2
      rw [bi_neg (nI_ge (by omega) (by omega)), p_cell, bd_some, gd_pos (vp_in_nI (show 6 * k + l < 36 by omega) (by decide)), nI_clamp (by omega), xW_4, ha k (by omega) l hl, f_X2_leastEndingWith_59, f_X2_leastEndingWith_59, p_cell, bd_some, bd_some, gd_pos (vp_in_nI (show 6 * V + k < 384 by omega) (by decide)), gd_pos (vp_in_nI (show 6 * V + k < 384 by omega) (by decide)), nI_clamp (show 6 * V + k < 2 ^ 31 by omega), xW_6, hT k (by omega), nI_1]
      cases hw : wc st k l with
      | false =>
        rw [hw, if_neg (by decide)] at ih2
        rw [bi_pos (show tI false = 0 from rfl), show (0 : Int32) = nI 0 from rfl, nI_add, nI_min (by omega) (by omega)]
        exact ih2
      | true =>
        rw [hw, if_pos rfl] at ih2
        rw [bi_neg (by decide), nI_1, nI_min (by omega) (by omega)]
        exact ih2
theorem p_least (h6 : N ≤ 6) (ha : wOK st N a) {U l : Nat} (hl : l < N) (h1 : 1 ≤ U) (hU : U < 64) (hT : ∀ V, 1 ≤ V → V < U → ∀ j, j < N → c (6 * V + j) = nI (oTB (wc st) N V j)) : f_X2_leastEndingWith (xW st (nI N) a b c) (nI l) (nI U) = some (nI (oTB (wc st) N U l), xW st (nI N) a b c) := by
  have hd := oDel_64 (l := l) hU
  rw [f_X2_leastEndingWith, mask_c U hU l (by omega)]
  by_cases hb : U.testBit l = true
  · have hne := fun z => (del_eq U hU l (by omega)).mp z hb
    rw [bi_neg (fun z => hne ((nI_eq (by omega) (by omega)).mp z))]
    by_cases h0 : oDel U l = 0
    · rw [h0, bi_pos (show nI 0 = 0 from rfl), oTB_1 hU (by omega) hb h0]
      rfl
    · rw [bi_neg (show ¬ nI (oDel U l) = 0 from fun z => h0 ((nI_eq (a := oDel U l) (b := 0) (by omega) (by decide)).mp z)), oTB_s h6 hU (by omega) hb h0]
      exact least_go h6 ha hl hd (hT _ (by omega) (oDel_lt U hU l (by omega) hb).1) FU 0 (Nat.zero_le _) (by show N < 0 + 1000000; omega)
  · rw [(del_eq U hU l (by omega)).mpr hb, bi_pos rfl, oTB_no hb]
    rfl
theorem dp_in (h6 : N ≤ 6) (ha : wOK st N a) {U : Nat} (h1 : 1 ≤ U) (hU : U < 64) (k86 : XS → Int32 → Option (Unit × XS)) : ∀ (n l : Nat) (b c : Nat → Int32), l ≤ N → N < l + n → tOK st N U b c → (∀ j, j < l → b (6 * U + j) = nI (oTG (wc st) N U j) ∧ c (6 * U + j) = nI (oTB (wc st) N U j)) → ∃ b' c', f_X2_layOut_98 k86 n (xW st (nI N) a b c) (nI U) (nI l) = k86 (xW st (nI N) a b' c') (nI (U + 1)) ∧ tOK st N (U + 1) b' c' := by
  intro n
  induction n with
  | zero => intro l b c h1 h2; omega
  | succ n ih =>
    intro l b c h2 h3 hT hD
    rw [f_X2_layOut_98, xW_n]
    by_cases hl : l = N
    · refine ⟨b, c, ?_, fun V j v1 v2 v3 => ?_⟩
      · rw [bi_pos (nI_le (by omega) (by omega)), nI_1]
      · by_cases ev : V = U
        · rw [ev]; exact hD j (by omega)
        · exact hT V j v1 (by omega) v3
    · have hl' : l < N := by omega
      have i384 : 6 * U + l < 384 := by omega
      obtain ⟨b', c', e1, e2⟩ := ih (l + 1) (upd b (6 * U + l) (nI (oTG (wc st) N U l))) (upd c (6 * U + l) (nI (oTB (wc st) N U l))) (by omega) (by omega) (fun V j v1 v2 v3 => by
        rw [upd_ne _ _ (by omega), upd_ne _ _ (by omega)]
        exact hT V j v1 v2 v3) (fun j hj => by
        by_cases ej : j = l
        · rw [ej, upd_at, upd_at]; exact ⟨rfl, rfl⟩
        · rw [upd_ne _ _ (by omega), upd_ne _ _ (by omega)]
          exact hD j (by omega))
      refine ⟨b', c', ?_, e2⟩
      rw [bi_neg (nI_ge (by omega) (by omega)), p_cell, bd_some, p_good h6 ha hl' h1 hU (fun V v1 v2 j v3 => (hT V j v1 v2 v3).1), bd_some, gd_pos (vp_in_nI i384 (by decide)), nI_clamp (by omega), xW_s5, p_cell, bd_some, p_least h6 ha hl' h1 hU (fun V v1 v2 j v3 => (hT V j v1 v2 v3).2), bd_some, gd_pos (vp_in_nI i384 (by decide)), nI_clamp (by omega), xW_s6, nI_1]
      exact e1
theorem dp_out (h6 : N ≤ 6) (ha : wOK st N a) : ∀ (n U : Nat) (b c : Nat → Int32), 1 ≤ U → U ≤ 2 ^ N → 2 ^ N < U + n → tOK st N U b c → ∃ b' c', f_X2_layOut_86 n (xW st (nI N) a b c) (nI U) = some ((), xW st (nI N) a b' c') ∧ tOK st N (2 ^ N) b' c' := by
  have h64 := (oPc_6 N (by omega)).2
  intro n
  induction n with
  | zero => intro U b c h1 h2 h3; omega
  | succ n ih =>
    intro U b c h1 h2 h3 hT
    rw [f_X2_layOut_86, xW_n, pow_c N (by omega)]
    by_cases hU : U = 2 ^ N
    · refine ⟨b, c, ?_, hU ▸ hT⟩
      rw [bi_pos (nI_le (by omega) (by omega))]
    · obtain ⟨b1, c1, e1, e2⟩ := dp_in (a := a) h6 ha h1 (by omega) (f_X2_layOut_86 n) FU 0 b c (Nat.zero_le _) (by show N < 0 + 1000000; omega) hT (fun j hj => absurd hj (Nat.not_lt_zero _))
      obtain ⟨b', c', e3, e4⟩ := ih (U + 1) b1 c1 (by omega) (by omega) (by omega) e2
      refine ⟨b', c', ?_, e4⟩
      rw [bi_neg (nI_ge (by omega) (by omega))]
      exact e1.trans e3
theorem p_lay (hb : BI st) (hN : N = (xL st 1).length) (h6 : N ≤ 6) : ∃ a b c, f_X2_layOut st = some ((), xW st (nI N) a b c) ∧ tOK st N (2 ^ N) b c := by
  have h64 := (oPc_6 N (by omega)).2
  have e6 : (if 6 < nI (xL st 1).length then 6 else nI (xL st 1).length) = nI N := by
    rw [← hN, if_neg (by rw [show (6 : Int32) = nI 6 from rfl, nI_ltI (by decide) (by omega)]; omega)]
  obtain ⟨a, e1, e2⟩ := lay_out (b := xR st 5 0) (c := xR st 6 0) hb hN h6 FU 0 (xR st 4 0) (Nat.zero_le _) (by show N < 0 + 1000000; omega) (fun x hx => absurd hx (Nat.not_lt_zero _))
  obtain ⟨b, c, e3, e4⟩ := dp_out (a := a) h6 e2 FU 1 (xR st 5 0) (xR st 6 0) (Nat.le_refl _) (Nat.two_pow_pos N) (by show 2 ^ N < 1 + 1000000; omega) (fun V j v1 v2 => by omega)
  refine ⟨a, b, c, ?_, e4⟩
  rw [f_X2_layOut, e6, xW_0]
  exact e1.trans e3
theorem all_go (h6 : N ≤ 6) {U : Nat} (hU : U < 64) (hT : ∀ j, j < N → b (6 * U + j) = nI (oTG (wc st) N U j)) : ∀ (n k : Nat), k ≤ N → N < k + n → f_X2_allGood_13 n (xW st (nI N) a b c) (nI U) (nI (oF (fun a b => a + b) 0 (fun l => oTG (wc st) N U l) k)) (nI k) = some (nI (oF (fun a b => a + b) 0 (fun l => oTG (wc st) N U l) N), xW st (nI N) a b c) := by
  intro n
  induction n with
  | zero => intro k h1 h2; omega
  | succ n ih =>
    intro k h1 h2
    rw [f_X2_allGood_13, xW_n]
    by_cases hk : k = N
    · rw [bi_pos (nI_le (by omega) (by omega)), hk]
    · rw [bi_neg (nI_ge (by omega) (by omega)), p_cell, bd_some, gd_pos (vp_in_nI (show 6 * U + k < 384 by omega) (by decide)), nI_clamp (by omega), xW_5, hT k (by omega), nI_add, nI_1]
      exact ih (k + 1) (by omega) (by omega)
theorem lw_go (h6 : N ≤ 6) {U : Nat} (hU : U < 64) (hT : ∀ j, j < N → c (6 * U + j) = nI (oTB (wc st) N U j)) : ∀ (n k : Nat), k ≤ N → N < k + n → f_X2_leastWrong_15 n (xW st (nI N) a b c) (nI U) (nI (oF (fun a b => min a b) 1000 (fun l => oTB (wc st) N U l) k)) (nI k) = some (nI (oF (fun a b => min a b) 1000 (fun l => oTB (wc st) N U l) N), xW st (nI N) a b c) := by
  intro n
  induction n with
  | zero => intro k h1 h2; omega
  | succ n ih =>
    intro k h1 h2
    rw [f_X2_leastWrong_15, xW_n]
    by_cases hk : k = N
    · rw [bi_pos (nI_le (by omega) (by omega)), hk]
    · have hx := oF_1000 (fun l => oTB (wc st) N U l) k
      have hy := oTB_le (w := wc st) (N := N) (U := U) (l := k)
      rw [bi_neg (nI_ge (by omega) (by omega)), p_cell, bd_some, gd_pos (vp_in_nI (show 6 * U + k < 384 by omega) (by decide)), nI_clamp (by omega), xW_6, hT k (by omega), nI_min (by omega) (by omega), nI_1]
      exact ih (k + 1) (by omega) (by omega)
theorem all_m (h6 : N ≤ 6) : (1 : Int32) <<< (nI N &&& 31) - 1 = nI (2 ^ N - 1) := by
  rw [pow_c N (by omega), p_km1 (Nat.two_pow_pos N)]
theorem p_short (hb : BI st) (h1 : 1 ≤ (xL st 1).length) (h6 : (xL st 1).length ≤ 6) : f_X5_checkShortReel st = some (.inr (), st) := by
  unfold f_X5_checkShortReel lemp
  rw [if_neg (by omega), bi_pos rfl, bi_pos (show nI (xL st 1).length ≤ 6 from nI_le (b := 6) h6 (by decide))]
theorem p_short_no (hb : BI st) (h : ¬ (1 ≤ (xL st 1).length ∧ (xL st 1).length ≤ 6)) : f_X5_checkShortReel st = some (.inl 1, st) := by
  have hlen := hb.len
  unfold f_X5_checkShortReel f_X5_checkShortReel_22 lemp
  by_cases h0 : (xL st 1).length = 0
  · rw [if_pos h0, bi_neg (by decide)]
  · rw [if_neg h0, bi_pos rfl, bi_neg (by rw [show (6 : Int32) = nI 6 from rfl, nI_leI (by omega) (by decide)]; omega)]
theorem p_orders (hb : BI st) (hN : N = (xL st 1).length) (h1 : 1 ≤ N) (h6 : N ≤ 6) : ∃ a b c, f_X5_orders st = some (.inr (nI (oT (fun a b => a + b) 0 N N (oVG (wc st)))), xW st (nI N) a b c) := by
  have h64 := (oPc_6 N (by omega)).2
  have hp := Nat.two_pow_pos N
  have hp2 : 2 ≤ 2 ^ N := Nat.le_trans (by decide) (Nat.pow_le_pow_right (by decide) h1 : 2 ^ 1 ≤ 2 ^ N)
  obtain ⟨a, b, c, e1, e2⟩ := p_lay hb hN h6
  refine ⟨a, b, c, ?_⟩
  have e3 := all_go (a := a) (b := b) (c := c) h6 (show 2 ^ N - 1 < 64 by omega) (fun j hj => (e2 (2 ^ N - 1) j (by omega) (by omega) hj).1) FU 0 (Nat.zero_le _) (by show N < 0 + 1000000; omega)
  rw [f_X5_orders, p_short hb (by omega) (by omega), bdx_r, e1, bd_some, f_X2_allGood, xW_n, all_m h6]
  rw [oTop_G h1 h6] at e3
  rw [show f_X2_allGood_13 FU (xW st (nI N) a b c) (nI (2 ^ N - 1)) 0 0 = _ from e3, bd_some]
theorem p_best (hb : BI st) (hN : N = (xL st 1).length) (h1 : 1 ≤ N) (h6 : N ≤ 6) : ∃ a b c, f_X5_best st = some (.inr (nI (oT (fun a b => min a b) 1000 N N (oVB (wc st)))), xW st (nI N) a b c) := by
  have h64 := (oPc_6 N (by omega)).2
  have hp := Nat.two_pow_pos N
  have hp2 : 2 ≤ 2 ^ N := Nat.le_trans (by decide) (Nat.pow_le_pow_right (by decide) h1 : 2 ^ 1 ≤ 2 ^ N)
  obtain ⟨a, b, c, e1, e2⟩ := p_lay hb hN h6
  refine ⟨a, b, c, ?_⟩
  have e3 := lw_go (a := a) (b := b) (c := c) h6 (show 2 ^ N - 1 < 64 by omega) (fun j hj => (e2 (2 ^ N - 1) j (by omega) (by omega) hj).2) FU 0 (Nat.zero_le _) (by show N < 0 + 1000000; omega)
  rw [f_X5_best, p_short hb (by omega) (by omega), bdx_r, e1, bd_some, f_X2_leastWrong, xW_n, all_m h6]
  rw [oTop_B h1 h6] at e3
  rw [show f_X2_leastWrong_15 FU (xW st (nI N) a b c) (nI (2 ^ N - 1)) 1000 0 = _ from e3, bd_some]
end O2
