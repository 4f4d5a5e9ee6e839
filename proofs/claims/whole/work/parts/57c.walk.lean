/-! Orders of a short reel: the reference's walk through all orders. -/
section O3
variable {st : XS} {ms : MS} {N : Nat}
/-- the reference's rows with the three rows of the walk -/
def rw3 (ms : MS) (o s u : Nat → Int32) : MS := (ms.1, fun j => if j = 27 then o else if j = 28 then s else if j = 29 then u else ms.2 j)
theorem rw3_1 (o s u : Nat → Int32) (j : Nat) : (rw3 ms o s u).1 j = ms.1 j := rfl
theorem rw3_27 (o s u : Nat → Int32) : (rw3 ms o s u).2 27 = o := rfl
theorem rw3_28 (o s u : Nat → Int32) : (rw3 ms o s u).2 28 = s := rfl
theorem rw3_29 (o s u : Nat → Int32) : (rw3 ms o s u).2 29 = u := rfl
theorem rw3_o (o s u : Nat → Int32) (j t : Nat) (h1 : j ≠ 27) (h2 : j ≠ 28) (h3 : j ≠ 29) : (rw3 ms o s u).2 j t = ms.2 j t := by
  show (if j = 27 then o else if j = 28 then s else if j = 29 then u else ms.2 j) t = _
  rw [if_neg h1, if_neg h2, if_neg h3]
theorem rw3_a (o s u : Nat → Int32) (i : Nat) (x : Int32) : setA (rw3 ms o s u) 27 i x = rw3 ms (upd o i x) s u := by
  refine Prod.ext rfl ?_
  funext j
  show (if j = 27 then upd o i x else if j = 27 then o else if j = 28 then s else if j = 29 then u else ms.2 j) = if j = 27 then upd o i x else if j = 28 then s else if j = 29 then u else ms.2 j
  by_cases h : j = 27
  · rw [if_pos h, if_pos h]
  · rw [if_neg h, if_neg h, if_neg h]
theorem rw3_b (o s u : Nat → Int32) (i : Nat) (x : Int32) : setA (rw3 ms o s u) 28 i x = rw3 ms o (upd s i x) u := by
  refine Prod.ext rfl ?_
  funext j
  show (if j = 28 then upd s i x else if j = 27 then o else if j = 28 then s else if j = 29 then u else ms.2 j) = if j = 27 then o else if j = 28 then upd s i x else if j = 29 then u else ms.2 j
  by_cases h : j = 28
  · rw [if_pos h, if_neg (by omega), if_pos h]
  · rw [if_neg h, if_neg h, if_neg h]
theorem rw3_c (o s u : Nat → Int32) (i : Nat) (x : Int32) : setA (rw3 ms o s u) 29 i x = rw3 ms o s (upd u i x) := by
  refine Prod.ext rfl ?_
  funext j
  show (if j = 29 then upd u i x else if j = 27 then o else if j = 28 then s else if j = 29 then u else ms.2 j) = if j = 27 then o else if j = 28 then s else if j = 29 then upd u i x else ms.2 j
  by_cases h : j = 29
  · rw [if_pos h, if_neg (by omega), if_neg (by omega), if_pos h]
  · rw [if_neg h, if_neg h, if_neg h]
theorem rw3_i (ms : MS) (x : Int32) : setA ms 28 0 x = rw3 ms (ms.2 27) (upd (ms.2 28) 0 x) (ms.2 29) := by
  refine Prod.ext rfl ?_
  funext j
  show (if j = 28 then upd (ms.2 28) 0 x else ms.2 j) = if j = 27 then ms.2 27 else if j = 28 then upd (ms.2 28) 0 x else if j = 29 then ms.2 29 else ms.2 j
  by_cases h : j = 27
  · rw [if_neg (by omega), if_pos h, h]
  · rw [if_neg h]
    by_cases h : j = 28
    · rw [if_pos h, if_pos h]
    · rw [if_neg h, if_neg h]
      by_cases h : j = 29
      · rw [if_pos h, h]
      · rw [if_neg h]
theorem RT.rw3 (h : RT st ms) (o s u : Nat → Int32) : RT st (rw3 ms o s u) := by
  intro i hi
  have := h i hi
  unfold RS at this ⊢
  simp only [rw3_o _ _ _ 4 _ (show 4 ≠ 27 by decide) (show 4 ≠ 28 by decide) (show 4 ≠ 29 by decide), rw3_o _ _ _ 5 _ (show 5 ≠ 27 by decide) (show 5 ≠ 28 by decide) (show 5 ≠ 29 by decide), rw3_o _ _ _ 6 _ (show 6 ≠ 27 by decide) (show 6 ≠ 28 by decide) (show 6 ≠ 29 by decide), rw3_o _ _ _ 7 _ (show 7 ≠ 27 by decide) (show 7 ≠ 28 by decide) (show 7 ≠ 29 by decide), rw3_o _ _ _ 8 _ (show 8 ≠ 27 by decide) (show 8 ≠ 28 by decide) (show 8 ≠ 29 by decide), rw3_o _ _ _ 9 _ (show 9 ≠ 27 by decide) (show 9 ≠ 28 by decide) (show 9 ≠ 29 by decide), rw3_o _ _ _ 10 _ (show 10 ≠ 27 by decide) (show 10 ≠ 28 by decide) (show 10 ≠ 29 by decide), rw3_o _ _ _ 11 _ (show 11 ≠ 27 by decide) (show 11 ≠ 28 by decide) (show 11 ≠ 29 by decide), rw3_o _ _ _ 12 _ (show 12 ≠ 27 by decide) (show 12 ≠ 28 by decide) (show 12 ≠ 29 by decide), rw3_o _ _ _ 13 _ (show 13 ≠ 27 by decide) (show 13 ≠ 28 by decide) (show 13 ≠ 29 by decide), rw3_o _ _ _ 14 _ (show 14 ≠ 27 by decide) (show 14 ≠ 28 by decide) (show 14 ≠ 29 by decide), rw3_o _ _ _ 16 _ (show 16 ≠ 27 by decide) (show 16 ≠ 28 by decide) (show 16 ≠ 29 by decide), rw3_o _ _ _ 17 _ (show 17 ≠ 27 by decide) (show 17 ≠ 28 by decide) (show 17 ≠ 29 by decide), rw3_o _ _ _ 18 _ (show 18 ≠ 27 by decide) (show 18 ≠ 28 by decide) (show 18 ≠ 29 by decide), rw3_o _ _ _ 19 _ (show 19 ≠ 27 by decide) (show 19 ≠ 28 by decide) (show 19 ≠ 29 by decide), rw3_o _ _ _ 20 _ (show 20 ≠ 27 by decide) (show 20 ≠ 28 by decide) (show 20 ≠ 29 by decide), rw3_o _ _ _ 21 _ (show 21 ≠ 27 by decide) (show 21 ≠ 28 by decide) (show 21 ≠ 29 by decide)]
  exact this
theorem INV.rw3 (I : INV st ms) (o s : Nat → Int32) {u : Nat → Int32} (hu : ∀ i, i < 6 → u i = 0) : INV st (rw3 ms o s u) := by
  refine ⟨I.1, ?_⟩
  have hr := I.2.rt.rw3 o s u
  obtain ⟨h1, h2, h3, h4, h5, h6, h7, h8, h9, h10⟩ := I.2
  refine ⟨h1, h2, h3, h4, h5, fun t ht => ?_, hr, fun i hi => ?_, fun i hi => ?_, fun i hi => hu i hi⟩
  · rw [rw3_o _ _ _ 3 _ (by decide) (by decide) (by decide)]; exact h6 t ht
  · have := h8 i hi
    unfold RZ at this ⊢
    rw [rw3_o _ _ _ 7 _ (by decide) (by decide) (by decide), rw3_o _ _ _ 8 _ (by decide) (by decide) (by decide), rw3_o _ _ _ 17 _ (by decide) (by decide) (by decide), rw3_o _ _ _ 18 _ (by decide) (by decide) (by decide), rw3_o _ _ _ 19 _ (by decide) (by decide) (by decide), rw3_o _ _ _ 21 _ (by decide) (by decide) (by decide)]
    exact this
  · rw [rw3_o _ _ _ 24 _ (by decide) (by decide) (by decide), rw3_o _ _ _ 25 _ (by decide) (by decide) (by decide), rw3_o _ _ _ 26 _ (by decide) (by decide) (by decide)]
    exact h9 i hi
theorem vp6 {k : Nat} (h : k < 6) {j : Nat} (hj : mln j = 6) : vp_in (nI k) (mln j) := by rw [hj]; exact vp_in_nI h (by decide)
/-! the count of wrong cuts of one order -/
theorem oCw_take (w : Nat → Nat → Bool) {l : List Nat} {k : Nat} (h1 : 1 ≤ k) (hk : k < l.length) : oCw w (l.take (k + 1)) = oCw w (l.take k) + (if w (l.getD (k - 1) 0) (l.getD k 0) then 1 else 0) := by
  have e1 : l.take (k + 1) = l.take k ++ [l.getD k 0] := take_succ' hk
  have e2 : l.take k = l.take (k - 1) ++ [l.getD (k - 1) 0] := by
    have := take_succ' (l := l) (k := k - 1) (by omega)
    rw [show k - 1 + 1 = k by omega] at this
    exact this
  rw [e1, e2, List.append_assoc]
  exact oCw_snoc w _ _ _
theorem r_cw_go (hb : BI st) (hr : RT st ms) (hg3 : ∀ t, t < (xL st 1).length → ms.2 3 t = nI ((xL st 1).getD t 0)) (hm : ms.1 2 = nI N) (hN : N = (xL st 1).length) (h6 : N ≤ 6) {l : List Nat} (hl : l.length = N) (hx : ∀ x ∈ l, x < N) {o s u : Nat → Int32} (ho : ∀ i, i < N → o i = nI (l.getD i 0)) : ∀ (n k : Nat), 1 ≤ k → k ≤ N → N < k + n → f_X6_countWrong_4 n (rw3 ms o s u) (nI (oCw (wc st) (l.take k))) (nI k) = some (nI (oCw (wc st) l), rw3 ms o s u) := by
  have h24 := hb.n24
  intro n
  induction n with
  | zero => intro k h1 h2 h3; omega
  | succ n ih =>
    intro k h1 h2 h3
    rw [f_X6_countWrong_4, rw3_1, hm]
    by_cases hk : k = N
    · rw [bi_pos (nI_le (by omega) (by omega)), show l.take k = l from List.take_of_length_le (by omega)]
    · have hk' : k < l.length := by omega
      have a1 : l.getD (k - 1) 0 < N := hx _ (get_mem (by omega))
      have a2 : l.getD k 0 < N := hx _ (get_mem hk')
      have g1 := hb.get (show l.getD (k - 1) 0 < (xL st 1).length by omega)
      have g2 := hb.get (show l.getD k 0 < (xL st 1).length by omega)
      have q3 : ∀ t, t < (xL st 1).length → (rw3 ms o s u).2 3 t = nI ((xL st 1).getD t 0) := fun t ht => by
        rw [rw3_o _ _ _ 3 _ (by decide) (by decide) (by decide)]; exact hg3 t ht
      have ih2 := ih (k + 1) (by omega) (by omega) (by omega)
      rw [oCw_take (wc st) h1 hk'] at ih2
      rw [bi_neg (nI_ge (by omega) (by omega)), p_km1 h1, gd_pos (vp6 (by omega) rfl), rw3_27, nI_clamp (show k - 1 < 2 ^ 31 by omega), ho (k - 1) (by omega), gd_pos (vp24 (by omega) rfl), gd_pos (vp6 (by omega) rfl), nI_clamp (show k < 2 ^ 31 by omega), ho k (by omega), gd_pos (vp24 (by omega) rfl), nI_clamp (show l.getD (k - 1) 0 < 2 ^ 31 by omega), nI_clamp (show l.getD k 0 < 2 ^ 31 by omega), q3 _ (by omega), q3 _ (by omega), r_wrong hb (hr.rw3 o s u) g1 g2, bd_some]
      by_cases hf : flt st ((xL st 1).getD (l.getD (k - 1) 0) 0) ((xL st 1).getD (l.getD k 0) 0) = 45
      · have hw : wc st (l.getD (k - 1) 0) (l.getD k 0) = false := decide_eq_false (fun z => z hf)
        rw [hw, if_neg (by decide), Nat.add_zero] at ih2
        rw [bi_pos hf, f_X6_countWrong_52, nI_1]
        exact ih2
      · have hw : wc st (l.getD (k - 1) 0) (l.getD k 0) = true := decide_eq_true hf
        rw [hw, if_pos rfl] at ih2
        rw [bi_neg hf, f_X6_countWrong_52, nI_1, nI_1]
        exact ih2
theorem r_cw (hb : BI st) (hr : RT st ms) (hg3 : ∀ t, t < (xL st 1).length → ms.2 3 t = nI ((xL st 1).getD t 0)) (hm : ms.1 2 = nI N) (hN : N = (xL st 1).length) (h1 : 1 ≤ N) (h6 : N ≤ 6) {l : List Nat} (hl : l.length = N) (hx : ∀ x ∈ l, x < N) {o s u : Nat → Int32} (ho : ∀ i, i < N → o i = nI (l.getD i 0)) : f_X6_countWrong (rw3 ms o s u) = some (nI (oCw (wc st) l), rw3 ms o s u) := by
  have e : oCw (wc st) (l.take 1) = 0 := by
    cases l with
    | nil => rfl
    | cons a t => rfl
  have := r_cw_go (s := s) (u := u) hb hr hg3 hm hN h6 hl hx ho FU 1 (Nat.le_refl _) h1 (by show N < 1 + 1000000; omega)
  rw [e] at this
  exact this
/-! the walk -/
/-- gathered from j on, m times -/
def ac (op : Nat → Nat → Nat) (C : Nat → Nat) : Nat → Nat → Nat → Nat
  | _, 0, a => a
  | j, m + 1, a => ac op C (j + 1) m (op a (C j))
theorem ac_F {op : Nat → Nat → Nat} {e : Nat} (h : oOK op e) (C : Nat → Nat) : ∀ m j a, ac op C j m (op a (oF op e C j)) = op a (oF op e C (j + m))
  | 0, j, a => rfl
  | m + 1, j, a => by
    show ac op C (j + 1) m (op (op a (oF op e C j)) (C j)) = _
    rw [h.2.1, show op (oF op e C j) (C j) = oF op e C (j + 1) from rfl, ac_F h C m (j + 1) a, show j + 1 + m = j + (m + 1) by omega]
def oK : Nat → Nat
  | 0 => 1
  | d + 1 => 2 + 6 * oK d
theorem bi_le_min {α : Type} {x y : Nat} (hx : x < 2 ^ 31) (hy : y < 2 ^ 31) (F : Int32 → Option α) : bi (nI x ≤ nI y) (F (nI x)) (F (nI y)) = F (nI (min x y)) := by
  by_cases h : x ≤ y
  · rw [bi_pos (nI_le h hy), Nat.min_eq_left h]
  · rw [bi_neg (nI_ge (by omega) hx), Nat.min_eq_right (by omega)]
theorem ac_le {C : Nat → Nat} : ∀ m j a, a ≤ 1000 → ac (fun a b => min a b) C j m a ≤ 1000
  | 0, j, a, h => h
  | m + 1, j, a, h => ac_le m (j + 1) _ (Nat.le_trans (Nat.min_le_left _ _) h)
/-- what the orders with this beginning give -/
def cG (st : XS) (N d : Nat) (p : List Nat) (x : Nat) : Nat := oT (fun a b => a + b) 0 N d (fun s => oVG (wc st) (p ++ x :: s))
def cB (st : XS) (N d : Nat) (p : List Nat) (x : Nat) : Nat := oT (fun a b => min a b) 1000 N d (fun s => oVB (wc st) (p ++ x :: s))
theorem not_nd {p s : List Nat} {x : Nat} (h : x ∈ p) : ¬ (p ++ x :: s).Nodup := by
  intro hn
  rw [List.nodup_append] at hn
  exact hn.2.2 x h x (List.mem_cons_self ..) rfl
theorem cG_in {d : Nat} {p : List Nat} {x : Nat} (h : x ∈ p) : cG st N d p x = 0 := oT_ce oOk_add fun s _ _ => if_neg (fun z => not_nd h z.1)
theorem cB_in {d : Nat} {p : List Nat} {x : Nat} (h : x ∈ p) : cB st N d p x = 1000 := oT_ce oOk_min fun s _ _ => if_neg (fun z => not_nd h z)
theorem cG_s {d : Nat} {p : List Nat} {x : Nat} : cG st N (d + 1) p x = oF (fun a b => a + b) 0 (cG st N d (p ++ [x])) N := by
  refine oF_cong fun y _ => oT_cong fun s _ _ => ?_
  rw [List.append_assoc]
  rfl
theorem cB_s {d : Nat} {p : List Nat} {x : Nat} : cB st N (d + 1) p x = oF (fun a b => min a b) 1000 (cB st N d (p ++ [x])) N := by
  refine oF_cong fun y _ => oT_cong fun s _ _ => ?_
  rw [List.append_assoc]
  rfl
theorem nd_snoc {p : List Nat} {x : Nat} (h : p.Nodup) (hx : x ∉ p) : (p ++ [x]).Nodup := by
  rw [List.nodup_append]
  refine ⟨h, List.nodup_cons.mpr ⟨(fun z => by cases z), List.nodup_nil⟩, fun a ha b hb e => ?_⟩
  rw [List.mem_singleton] at hb
  exact hx (by rw [← hb, ← e]; exact ha)
theorem snoc_get {p : List Nat} {x i : Nat} : (p ++ [x]).getD i 0 = if i < p.length then p.getD i 0 else if i = p.length then x else 0 := by
  rw [List.getD_eq_getElem?_getD, List.getElem?_append]
  by_cases h : i < p.length
  · rw [if_pos h, if_pos h, List.getD_eq_getElem?_getD]
  · rw [if_neg h, if_neg h]
    by_cases e : i = p.length
    · rw [if_pos e, e, Nat.sub_self]
      rfl
    · rw [if_neg e, List.getElem?_eq_none (by rw [List.length_singleton]; omega)]
      rfl
theorem dfs (hb : BI st) (hr : RT st ms) (hg3 : ∀ t, t < (xL st 1).length → ms.2 3 t = nI ((xL st 1).getD t 0)) (hm : ms.1 2 = nI N) (hN : N = (xL st 1).length) (h1 : 1 ≤ N) (h6 : N ≤ 6) (fl : Int32) : ∀ (d : Nat) (p : List Nat), p.length + d + 1 = N → p.Nodup → (∀ x ∈ p, x < N) → ∀ (m j : Nat), j + m = N → ∀ (o s u : Nat → Int32), (∀ i, i < p.length → o i = nI (p.getD i 0)) → (∀ x, x < N → u x = if x ∈ p then 1 else 0) → s p.length = nI j → ∀ (g b : Nat), b ≤ 1000 →
    ∃ c o' s', c ≤ oK d * m ∧ (∀ i, i < p.length → o' i = o i) ∧ (∀ i, i < p.length → s' i = s i) ∧ s' p.length = nI N ∧ ∀ n, f_X6_goThrough_17 (n + c) (rw3 ms o s u) fl (nI g) (nI b) (nI p.length) = f_X6_goThrough_17 n (rw3 ms o' s' u) fl (nI (ac (fun a b => a + b) (cG st N d p) j m g)) (nI (ac (fun a b => min a b) (cB st N d p) j m b)) (nI p.length) := by
  intro d
  induction d with
  | zero =>
    intro p hd hp hlt m
    induction m with
    | zero =>
      intro j hj o s u ho hu hs g b hb1
      exact ⟨0, o, s, Nat.zero_le _, fun _ _ => rfl, fun _ _ => rfl, by rw [hs, show j = N by omega], fun n => rfl⟩
    | succ m ihm =>
      intro j hj o s u ho hu hs g b hb1
      have hk6 : p.length < 6 := by omega
      have hj6 : j < 6 := by omega
      have hjN : ¬ nI j = nI N := fun z => by rw [nI_eq (by omega) (by omega)] at z; omega
      -- one step
      have step : ∀ n, f_X6_goThrough_17 (n + 1) (rw3 ms o s u) fl (nI g) (nI b) (nI p.length) = bi (u j = 0) (bd (f_X6_countWrong (rw3 ms (upd o p.length (nI j)) (upd s p.length (nI (j + 1))) u)) (fun r13 t14 => bi (r13 = 0) (f_X6_goThrough_128 (f_X6_goThrough_17 n) t14 fl (nI b) (nI p.length) r13 (nI g + 1)) (f_X6_goThrough_128 (f_X6_goThrough_17 n) t14 fl (nI b) (nI p.length) r13 (nI g)))) (f_X6_goThrough_17 n (rw3 ms o (upd s p.length (nI (j + 1))) u) fl (nI g) (nI b) (nI p.length)) := by
        intro n
        have eN : nI p.length + 1 = nI N := by rw [nI_1, show p.length + 1 = N by omega]
        rw [f_X6_goThrough_17, bi_neg (nI_pos (by omega)), gd_pos (vp6 hk6 rfl), rw3_28, nI_clamp (show p.length < 2 ^ 31 by omega), hs, rw3_1, hm, bi_neg hjN, gd_pos (vp6 hk6 rfl), gd_pos (vp6 hk6 rfl), gd_pos (vp6 hj6 rfl), nI_clamp (show j < 2 ^ 31 by omega), rw3_b, rw3_29, nI_1 j, gd_pos (vp6 hk6 rfl), rw3_a, rw3_1, hm, bi_pos eN]
        rfl
      by_cases hin : j ∈ p
      · obtain ⟨c, o', s', c1, c2, c3, c4, c5⟩ := ihm (j + 1) (by omega) o (upd s p.length (nI (j + 1))) u ho hu (upd_at _ _ _) g b hb1
        refine ⟨c + 1, o', s', ?_, c2, fun i hi => ?_, c4, fun n => ?_⟩
        · rw [Nat.mul_succ]
          show c + 1 ≤ oK 0 * m + 1
          omega
        · rw [c3 i hi, upd_ne _ _ (by omega)]
        · rw [← Nat.add_assoc, step, hu j (by omega), if_pos hin, bi_neg (by decide), c5 n]
          show _ = f_X6_goThrough_17 n (rw3 ms o' s' u) fl (nI (ac (fun a b => a + b) (cG st N 0 p) (j + 1) m (g + cG st N 0 p j))) (nI (ac (fun a b => min a b) (cB st N 0 p) (j + 1) m (min b (cB st N 0 p j)))) (nI p.length)
          rw [cG_in hin, cB_in hin, Nat.add_zero g, Nat.min_eq_left hb1]
      · have hnd := nd_snoc hp hin
        have hxl : ∀ x ∈ p ++ [j], x < N := fun x hx => by
          rcases List.mem_append.mp hx with h | h
          · exact hlt x h
          · rw [List.mem_singleton] at h; omega
        have hcw := r_cw (o := upd o p.length (nI j)) (s := upd s p.length (nI (j + 1))) (u := u) hb hr hg3 hm hN h1 h6 (l := p ++ [j]) (by rw [List.length_append, List.length_singleton]; omega) hxl (fun i hi => by
          rw [snoc_get]
          by_cases e : i < p.length
          · rw [if_pos e, upd_ne _ _ (by omega), ho i e]
          · rw [if_neg e, if_pos (by omega), show i = p.length by omega, upd_at])
        have hcl := oCw_le (wc st) (p ++ [j])
        rw [List.length_append, List.length_singleton] at hcl
        have eG : cG st N 0 p j = if oCw (wc st) (p ++ [j]) = 0 then 1 else 0 := by
          show oVG (wc st) (p ++ [j]) = _
          unfold oVG
          by_cases hz : oCw (wc st) (p ++ [j]) = 0
          · rw [if_pos hz, if_pos ⟨hnd, hz⟩]
          · rw [if_neg hz, if_neg (fun y => hz y.2)]
        have eB : cB st N 0 p j = oCw (wc st) (p ++ [j]) := if_pos hnd
        obtain ⟨c, o', s', c1, c2, c3, c4, c5⟩ := ihm (j + 1) (by omega) (upd o p.length (nI j)) (upd s p.length (nI (j + 1))) u (fun i hi => by rw [upd_ne _ _ (by omega), ho i hi]) hu (upd_at _ _ _) (g + cG st N 0 p j) (min b (cB st N 0 p j)) (Nat.le_trans (Nat.min_le_left _ _) hb1)
        refine ⟨c + 1, o', s', ?_, fun i hi => ?_, fun i hi => ?_, c4, fun n => ?_⟩
        · rw [Nat.mul_succ]
          show c + 1 ≤ oK 0 * m + 1
          omega
        · rw [c2 i hi, upd_ne _ _ (by omega)]
        · rw [c3 i hi, upd_ne _ _ (by omega)]
        · rw [← Nat.add_assoc, step, hu j (by omega), if_neg hin, bi_pos rfl, hcw, bd_some]
          have e128 : ∀ G : Int32, f_X6_goThrough_128 (f_X6_goThrough_17 (n + c)) (rw3 ms (upd o p.length (nI j)) (upd s p.length (nI (j + 1))) u) fl (nI b) (nI p.length) (nI (oCw (wc st) (p ++ [j]))) G = f_X6_goThrough_17 (n + c) (rw3 ms (upd o p.length (nI j)) (upd s p.length (nI (j + 1))) u) fl G (nI (min b (cB st N 0 p j))) (nI p.length) := fun G => by
            rw [eB]
            exact bi_le_min (by omega) (by omega) (fun B => f_X6_goThrough_17 (n + c) (rw3 ms (upd o p.length (nI j)) (upd s p.length (nI (j + 1))) u) fl G B (nI p.length))
          rw [e128, e128]
          refine Eq.trans ?_ (c5 n)
          by_cases hz : oCw (wc st) (p ++ [j]) = 0
          · rw [eG, if_pos hz, hz, bi_pos (show nI 0 = 0 from rfl), nI_1]
          · rw [eG, if_neg hz, bi_neg (nI_ne0 (by omega) (by omega)), Nat.add_zero g]
  | succ d ihd =>
    intro p hd hp hlt m
    induction m with
    | zero =>
      intro j hj o s u ho hu hs g b hb1
      exact ⟨0, o, s, Nat.zero_le _, fun _ _ => rfl, fun _ _ => rfl, by rw [hs, show j = N by omega], fun n => rfl⟩
    | succ m ihm =>
      intro j hj o s u ho hu hs g b hb1
      have hk6 : p.length < 6 := by omega
      have hk5 : p.length + 1 < 6 := by omega
      have hj6 : j < 6 := by omega
      have hjN : ¬ nI j = nI N := fun z => by rw [nI_eq (by omega) (by omega)] at z; omega
      have step : ∀ n, f_X6_goThrough_17 (n + 1) (rw3 ms o s u) fl (nI g) (nI b) (nI p.length) = bi (u j = 0) (f_X6_goThrough_17 n (rw3 ms (upd o p.length (nI j)) (upd (upd s p.length (nI (j + 1))) (p.length + 1) 0) (upd u j 1)) fl (nI g) (nI b) (nI (p.length + 1))) (f_X6_goThrough_17 n (rw3 ms o (upd s p.length (nI (j + 1))) u) fl (nI g) (nI b) (nI p.length)) := by
        intro n
        have eN : ¬ nI p.length + 1 = nI N := fun z => by rw [nI_1, nI_eq (by omega) (by omega)] at z; omega
        rw [f_X6_goThrough_17, bi_neg (nI_pos (by omega)), gd_pos (vp6 hk6 rfl), rw3_28, nI_clamp (show p.length < 2 ^ 31 by omega), hs, rw3_1, hm, bi_neg hjN, gd_pos (vp6 hk6 rfl), gd_pos (vp6 hk6 rfl), gd_pos (vp6 hj6 rfl), nI_clamp (show j < 2 ^ 31 by omega), rw3_b, rw3_29, nI_1 j, gd_pos (vp6 hk6 rfl), rw3_a, rw3_1, hm, bi_neg eN, gd_pos (vp6 hj6 rfl), nI_1 p.length, gd_pos (vp6 hk5 rfl), nI_clamp (show p.length + 1 < 2 ^ 31 by omega), rw3_c, rw3_b]
        rfl
      by_cases hin : j ∈ p
      · obtain ⟨c, o', s', c1, c2, c3, c4, c5⟩ := ihm (j + 1) (by omega) o (upd s p.length (nI (j + 1))) u ho hu (upd_at _ _ _) g b hb1
        refine ⟨c + 1, o', s', ?_, c2, fun i hi => ?_, c4, fun n => ?_⟩
        · rw [Nat.mul_succ]
          have : 1 ≤ oK (d + 1) := by show 1 ≤ 2 + 6 * oK d; omega
          omega
        · rw [c3 i hi, upd_ne _ _ (by omega)]
        · rw [← Nat.add_assoc, step, hu j (by omega), if_pos hin, bi_neg (by decide), c5 n]
          show _ = f_X6_goThrough_17 n (rw3 ms o' s' u) fl (nI (ac (fun a b => a + b) (cG st N (d + 1) p) (j + 1) m (g + cG st N (d + 1) p j))) (nI (ac (fun a b => min a b) (cB st N (d + 1) p) (j + 1) m (min b (cB st N (d + 1) p j)))) (nI p.length)
          rw [cG_in hin, cB_in hin, Nat.add_zero g, Nat.min_eq_left hb1]
      · have hnd := nd_snoc hp hin
        have hpl : (p ++ [j]).length = p.length + 1 := by rw [List.length_append, List.length_singleton]
        have hxl : ∀ x ∈ p ++ [j], x < N := fun x hx => by
          rcases List.mem_append.mp hx with h | h
          · exact hlt x h
          · rw [List.mem_singleton] at h; omega
        obtain ⟨c, o2, s2, c1, c2, c3, c4, c5⟩ := ihd (p ++ [j]) (by rw [hpl]; omega) hnd hxl N 0 (by omega) (upd o p.length (nI j)) (upd (upd s p.length (nI (j + 1))) (p.length + 1) 0) (upd u j 1) (fun i hi => by
          rw [hpl] at hi
          rw [snoc_get]
          by_cases e : i < p.length
          · rw [if_pos e, upd_ne _ _ (by omega), ho i e]
          · rw [if_neg e, if_pos (by omega), show i = p.length by omega, upd_at]) (fun x hx => by
          by_cases e : x = j
          · rw [e, upd_at, if_pos (List.mem_append.mpr (Or.inr (List.mem_singleton.mpr rfl)))]
          · rw [upd_ne _ _ e, hu x hx]
            by_cases hx2 : x ∈ p
            · rw [if_pos hx2, if_pos (List.mem_append.mpr (Or.inl hx2))]
            · rw [if_neg hx2, if_neg (fun z => (List.mem_append.mp z).elim hx2 (fun z => e (List.mem_singleton.mp z)))]) (by rw [hpl, upd_at]; rfl) g b hb1
        rw [hpl] at c2 c3 c4 c5
        have eG : ac (fun a b => a + b) (cG st N d (p ++ [j])) 0 N g = g + cG st N (d + 1) p j := by
          have := ac_F oOk_add (cG st N d (p ++ [j])) N 0 g
          rw [Nat.zero_add] at this
          rw [cG_s]
          exact this
        have eB : ac (fun a b => min a b) (cB st N d (p ++ [j])) 0 N b = min b (cB st N (d + 1) p j) := by
          have := ac_F oOk_min (cB st N d (p ++ [j])) N 0 b
          rw [Nat.zero_add] at this
          rw [cB_s]
          refine Eq.trans ?_ this
          show _ = ac (fun a b => min a b) (cB st N d (p ++ [j])) 0 N (min b 1000)
          rw [Nat.min_eq_left hb1]
        obtain ⟨c', o', s', d1, d2, d3, d4, d5⟩ := ihm (j + 1) (by omega) o2 s2 u (fun i hi => by rw [c2 i (by omega), upd_ne _ _ (by omega), ho i hi]) hu (by rw [c3 _ (by omega), upd_ne _ _ (by omega), upd_at]) (g + cG st N (d + 1) p j) (min b (cB st N (d + 1) p j)) (Nat.le_trans (Nat.min_le_left _ _) hb1)
        refine ⟨c' + (1 + c + 1), o', s', ?_, fun i hi => ?_, fun i hi => ?_, d4, fun n => ?_⟩
        · rw [Nat.mul_succ]
          have : oK d * N ≤ 6 * oK d := by rw [Nat.mul_comm]; exact Nat.mul_le_mul_right _ h6
          show c' + (1 + c + 1) ≤ oK (d + 1) * m + (2 + 6 * oK d)
          omega
        · rw [d2 i hi, c2 i (by omega), upd_ne _ _ (by omega)]
        · rw [d3 i hi, c3 i (by omega), upd_ne _ _ (by omega), upd_ne _ _ (by omega)]
        · rw [show n + (c' + (1 + c + 1)) = (n + c' + 1 + c) + 1 by omega, step, hu j (by omega), if_neg hin, bi_pos rfl, c5, eG, eB]
          have ek : nI (p.length + 1) + -1 = nI p.length := (Int32.sub_eq_add_neg (nI (p.length + 1)) 1).symm.trans (nI_pred p.length)
          have eo : o2 p.length = nI j := by rw [c2 _ (by omega), upd_at]
          have eu : upd (upd u j 1) j 0 = u := by rw [fa_upd_twice]; exact fa_upd_same (by rw [hu j (by omega), if_neg hin])
          rw [f_X6_goThrough_17, bi_neg (nI_pos (by omega)), gd_pos (vp6 hk5 rfl), rw3_28, nI_clamp (show p.length + 1 < 2 ^ 31 by omega), c4, rw3_1, hm, bi_pos rfl, ek, bi_neg (nI_pos (by omega)), gd_pos (vp6 hk6 rfl), rw3_27, nI_clamp (show p.length < 2 ^ 31 by omega), eo, gd_pos (vp6 hj6 rfl), nI_clamp (show j < 2 ^ 31 by omega), rw3_c, show vp_nar .boolean 0 = 0 from rfl, eu]
          exact d5 n
theorem oK_le : ∀ d, d < 6 → oK d * 6 < 999990 := by decide +kernel
theorem r_go (hb : BI st) (h : RE st ms) (hN : N = (xL st 1).length) (h1 : 1 ≤ N) (h6 : N ≤ 6) (f : Bool) : ∃ o s, f_X6_goThrough ms (tI f) = some (nI (if f then oT (fun a b => min a b) 1000 N N (oVB (wc st)) else oT (fun a b => a + b) 0 N N (oVG (wc st))), rw3 ms o s (ms.2 29)) := by
  have hm : ms.1 2 = nI N := by rw [hN]; exact h.2.1
  obtain ⟨c, o', s', c1, -, -, c4, c5⟩ := dfs hb h.rt (fun t ht => r_get hb h ht) hm hN h1 h6 (tI f) (N - 1) [] (by rw [List.length_nil]; omega) List.nodup_nil (fun x hx => by cases hx) N 0 (by omega) (ms.2 27) (upd (ms.2 28) 0 0) (ms.2 29) (fun i hi => absurd hi (Nat.not_lt_zero _)) (fun x hx => by rw [if_neg (fun z => by cases z)]; exact h.2.2.2.2.2.2.2.2.2 x (by omega)) (upd_at _ _ _) 0 N (by omega)
  refine ⟨o', s', ?_⟩
  have hc : c < 999990 := by
    have h2 := oK_le (N - 1) (by omega)
    have h3 : oK (N - 1) * N ≤ oK (N - 1) * 6 := Nat.mul_le_mul_left _ h6
    omega
  have eG : ac (fun a b => a + b) (cG st N (N - 1) []) 0 N 0 = oT (fun a b => a + b) 0 N N (oVG (wc st)) := by
    have e1 : ac (fun a b => a + b) (cG st N (N - 1) []) 0 N 0 = 0 + oF (fun a b => a + b) 0 (cG st N (N - 1) []) (0 + N) := ac_F oOk_add (cG st N (N - 1) []) N 0 0
    rw [e1, Nat.zero_add N, Nat.zero_add (oF (fun a b => a + b) 0 (cG st N (N - 1) []) N)]
    obtain ⟨m, rfl⟩ : ∃ m, N = m + 1 := ⟨N - 1, by omega⟩
    rfl
  have eB : ac (fun a b => min a b) (cB st N (N - 1) []) 0 N N = oT (fun a b => min a b) 1000 N N (oVB (wc st)) := by
    have := ac_F oOk_min (cB st N (N - 1) []) N 0 N
    rw [Nat.zero_add] at this
    have e1 : ac (fun a b => min a b) (cB st N (N - 1) []) 0 N (min N 1000) = min N (oF (fun a b => min a b) 1000 (cB st N (N - 1) []) N) := this
    rw [Nat.min_eq_left (show N ≤ 1000 by omega)] at e1
    have e2 : oF (fun a b => min a b) 1000 (cB st N (N - 1) []) N = oT (fun a b => min a b) 1000 N N (oVB (wc st)) := by
      obtain ⟨m, rfl⟩ : ∃ m, N = m + 1 := ⟨N - 1, by omega⟩
      rfl
    rw [e1, e2, Nat.min_eq_right oTop_B_le]
  rw [eG, eB] at c5
  have c6 := c5 (1000000 - c)
  rw [show 1000000 - c + c = 1000000 by omega, List.length_nil] at c6
  rw [f_X6_goThrough, gd_pos (show vp_in 0 (mln 28) from vp6 (k := 0) (by decide) rfl), hm]
  show f_X6_goThrough_17 1000000 (setA ms 28 0 0) (tI f) 0 (nI N) 0 = _
  rw [rw3_i]
  refine Eq.trans c6 ?_
  rw [show 1000000 - c = (999998 - c) + 1 + 1 by omega]
  have c4 : s' 0 = nI N := c4
  rw [f_X6_goThrough_17, bi_neg (nI_pos (n := 0) (by decide)), gd_pos (vp6 (k := 0) (by decide) rfl), rw3_28]
  show bi (s' 0 = _) _ _ = _
  rw [c4, rw3_1, hm, bi_pos rfl, bi_pos (show (nI 0 + -1 : Int32) < 0 by decide), f_X6_goThrough_17, bi_pos (show (nI 0 + -1 : Int32) < 0 by decide)]
  cases f with
  | false => rw [bi_pos (show tI false = 0 from rfl)]; rfl
  | true => rw [bi_neg (by decide)]; rfl
theorem ag_orders (I : INV st ms) : ∃ r st' b ms', f_X5_orders st = some (r, st') ∧ f_X6_orders ms = some (b, ms') ∧ INV st' ms' ∧ (∀ k, r = .inl k → k ∈ [1]) ∧ ms'.1 0 = lwc [1] r ∧ ∀ x, r = .inr x → x = b := by
  have hb := I.1
  have hlen := hb.len
  have I0 := I.code 0
  have h2 : ms.1 2 = nI (xL st 1).length := I.2.2.1
  by_cases hc : 1 ≤ (xL st 1).length ∧ (xL st 1).length ≤ 6
  · obtain ⟨a, b, c, e1⟩ := p_orders hb rfl hc.1 hc.2
    obtain ⟨o, s, e2⟩ := r_go (f := false) hb I0.2 rfl hc.1 hc.2
    refine ⟨_, _, _, _, e1, ?_, (I0.rw3 o s (fun i hi => I0.2.2.2.2.2.2.2.2.2.2 i hi)).xW, no_l, rfl, yes_r rfl⟩
    rw [f_X6_orders, h2, bi_neg (nI_ne0 (by omega) (by omega)), bi_pos (show nI (xL st 1).length ≤ 6 from nI_le (b := 6) hc.2 (by decide)), f_X6_orders_22, p_fails0, bd_some, bi_pos rfl]
    rw [show f_X6_goThrough (setS ms 0 0) 0 = _ from e2, bd_some, f_X6_orders_37]
    rfl
  · refine ⟨.inl 1, st, 0, setS ms 0 1, ?_, ?_, I.code 1, yes_l (by decide), code_0 _ _, no_r⟩
    · rw [f_X5_orders, p_short_no hb hc, bdx_l]
    · have e17 : f_X6_orders_17 ms = some (0, setS ms 0 1) := by
        simp only [f_X6_orders_17, f_X6_orders_22, p_fails1, bd_some, e10, bi_F, f_X6_orders_37]
      rw [f_X6_orders, h2]
      by_cases h0 : (xL st 1).length = 0
      · rw [h0, bi_pos (show nI 0 = 0 from rfl), e17]
      · rw [bi_neg (nI_ne0 (by omega) (by omega)), bi_neg (fun z => by rw [show (6 : Int32) = nI 6 from rfl, nI_leI (by omega) (by decide)] at z; omega), e17]
theorem ag_best (I : INV st ms) : ∃ r st' b ms', f_X5_best st = some (r, st') ∧ f_X6_best ms = some (b, ms') ∧ INV st' ms' ∧ (∀ k, r = .inl k → k ∈ [1]) ∧ ms'.1 0 = lwc [1] r ∧ ∀ x, r = .inr x → x = b := by
  have hb := I.1
  have hlen := hb.len
  have I0 := I.code 0
  have h2 : ms.1 2 = nI (xL st 1).length := I.2.2.1
  by_cases hc : 1 ≤ (xL st 1).length ∧ (xL st 1).length ≤ 6
  · obtain ⟨a, b, c, e1⟩ := p_best hb rfl hc.1 hc.2
    obtain ⟨o, s, e2⟩ := r_go (f := true) hb I0.2 rfl hc.1 hc.2
    refine ⟨_, _, _, _, e1, ?_, (I0.rw3 o s (fun i hi => I0.2.2.2.2.2.2.2.2.2.2 i hi)).xW, no_l, rfl, yes_r rfl⟩
    rw [f_X6_best, h2, bi_neg (nI_ne0 (by omega) (by omega)), bi_pos (show nI (xL st 1).length ≤ 6 from nI_le (b := 6) hc.2 (by decide)), f_X6_best_22, p_fails0, bd_some, bi_pos rfl]
    rw [show f_X6_goThrough (setS ms 0 0) 1 = _ from e2, bd_some, f_X6_best_37]
    rfl
  · refine ⟨.inl 1, st, 0, setS ms 0 1, ?_, ?_, I.code 1, yes_l (by decide), code_0 _ _, no_r⟩
    · rw [f_X5_best, p_short_no hb hc, bdx_l]
    · have e17 : f_X6_best_17 ms = some (0, setS ms 0 1) := by
        simp only [f_X6_best_17, f_X6_best_22, p_fails1, bd_some, e10, bi_F, f_X6_best_37]
      rw [f_X6_best, h2]
      by_cases h0 : (xL st 1).length = 0
      · rw [h0, bi_pos (show nI 0 = 0 from rfl), e17]
      · rw [bi_neg (nI_ne0 (by omega) (by omega)), bi_neg (fun z => by rw [show (6 : Int32) = nI 6 from rfl, nI_leI (by omega) (by decide)] at z; omega), e17]
end O3
