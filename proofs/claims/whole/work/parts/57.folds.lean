/-! Orders of a short reel: folds over all rows of numbers. -/
section OM
variable {op : Nat → Nat → Nat} {e N : Nat}
/-- folded over the numbers below n -/
def oF (op : Nat → Nat → Nat) (e : Nat) (F : Nat → Nat) : Nat → Nat
  | 0 => e
  | n + 1 => op (oF op e F n) (F n)
/-- folded over all rows of n numbers below N -/
def oT (op : Nat → Nat → Nat) (e N : Nat) : Nat → (List Nat → Nat) → Nat
  | 0, f => f []
  | n + 1, f => oF op e (fun a => oT op e N n (fun s => f (a :: s))) N
/-- what op has to be -/
def oOK (op : Nat → Nat → Nat) (e : Nat) : Prop := (∀ a b, op a b = op b a) ∧ (∀ a b c, op (op a b) c = op a (op b c)) ∧ op e e = e
theorem oOk_add : oOK (fun a b => a + b) 0 := ⟨fun a b => Nat.add_comm a b, fun a b c => Nat.add_assoc a b c, rfl⟩
theorem oOk_min : oOK (fun a b => min a b) 1000 := ⟨fun a b => Nat.min_comm a b, fun a b c => Nat.min_assoc a b c, rfl⟩
theorem oF_cong {F G : Nat → Nat} : ∀ {n : Nat}, (∀ k, k < n → F k = G k) → oF op e F n = oF op e G n
  | 0, _ => rfl
  | n + 1, h => by
    show op (oF op e F n) (F n) = op (oF op e G n) (G n)
    rw [oF_cong (fun k hk => h k (by omega)), h n (by omega)]
theorem oF_e (h : oOK op e) : ∀ n, oF op e (fun _ => e) n = e
  | 0 => rfl
  | n + 1 => by
    show op (oF op e (fun _ => e) n) e = e
    rw [oF_e h n, h.2.2]
theorem oOp4 (h : oOK op e) (a b c d : Nat) : op (op a b) (op c d) = op (op a c) (op b d) := by
  rw [h.2.1, h.2.1, ← h.2.1 b, ← h.2.1 c, h.1 b c]
theorem oF_op (h : oOK op e) (F G : Nat → Nat) : ∀ n, oF op e (fun k => op (F k) (G k)) n = op (oF op e F n) (oF op e G n)
  | 0 => h.2.2.symm
  | n + 1 => by
    show op (oF op e (fun k => op (F k) (G k)) n) (op (F n) (G n)) = op (op (oF op e F n) (F n)) (op (oF op e G n) (G n))
    rw [oF_op h F G n, oOp4 h]
theorem oF_comm (h : oOK op e) (F : Nat → Nat → Nat) (m : Nat) : ∀ n, oF op e (fun a => oF op e (F a) m) n = oF op e (fun b => oF op e (fun a => F a b) n) m
  | 0 => (oF_e h m).symm
  | n + 1 => by
    show op (oF op e (fun a => oF op e (F a) m) n) (oF op e (F n) m) = oF op e (fun b => op (oF op e (fun a => F a b) n) (F n b)) m
    rw [oF_comm h F m n, oF_op h]
theorem oT_cong {n : Nat} : ∀ {f g : List Nat → Nat}, (∀ s, s.length = n → (∀ x ∈ s, x < N) → f s = g s) → oT op e N n f = oT op e N n g := by
  induction n with
  | zero => intro f g h; exact h [] rfl (fun x hx => by cases hx)
  | succ n ih =>
    intro f g h
    refine oF_cong fun a ha => ih fun s hs hx => h (a :: s) (by rw [List.length_cons, hs]) fun x hy => ?_
    rcases List.mem_cons.mp hy with rfl | hy
    · exact ha
    · exact hx x hy
theorem oT_e (h : oOK op e) : ∀ n, oT op e N n (fun _ => e) = e
  | 0 => rfl
  | n + 1 => by
    show oF op e (fun a => oT op e N n (fun _ => e)) N = e
    rw [oT_e h n, oF_e h]
theorem oT_ce (h : oOK op e) {n : Nat} {f : List Nat → Nat} (hf : ∀ s, s.length = n → (∀ x ∈ s, x < N) → f s = e) : oT op e N n f = e :=
  (oT_cong hf).trans (oT_e h n)
theorem oT_snoc (h : oOK op e) : ∀ (n : Nat) (f : List Nat → Nat), oT op e N (n + 1) f = oF op e (fun a => oT op e N n (fun s => f (s ++ [a]))) N
  | 0, f => rfl
  | n + 1, f => by
    show oF op e (fun a => oT op e N (n + 1) (fun s => f (a :: s))) N = oF op e (fun b => oF op e (fun a => oT op e N n (fun s => f ((a :: s) ++ [b]))) N) N
    rw [← oF_comm h]
    exact oF_cong fun a _ => oT_snoc h n (fun s => f (a :: s))
theorem oT_rev (h : oOK op e) : ∀ (n : Nat) (f : List Nat → Nat), oT op e N n (fun s => f s.reverse) = oT op e N n f
  | 0, f => rfl
  | n + 1, f => by
    rw [oT_snoc h n f]
    refine oF_cong fun a _ => ?_
    rw [← oT_rev h n (fun s => f (s ++ [a]))]
    refine oT_cong fun s _ _ => ?_
    show f (a :: s).reverse = _
    rw [List.reverse_cons]
theorem oF_le {F : Nat → Nat} {k : Nat} : ∀ {n : Nat}, k < n → oF (fun a b => min a b) 1000 F n ≤ F k
  | n + 1, h => by
    show min (oF (fun a b => min a b) 1000 F n) (F n) ≤ F k
    by_cases e : k = n
    · subst e; exact Nat.min_le_right _ _
    · exact Nat.le_trans (Nat.min_le_left _ _) (oF_le (show k < n by omega))
theorem oT_le {n : Nat} : ∀ {f : List Nat → Nat} {s : List Nat}, s.length = n → (∀ x ∈ s, x < N) → oT (fun a b => min a b) 1000 N n f ≤ f s := by
  induction n with
  | zero =>
    intro f s hs hx
    rw [List.length_eq_zero_iff.mp hs]
    exact Nat.le_refl _
  | succ n ih =>
    intro f s hs hx
    cases s with
    | nil => cases hs
    | cons a s =>
      refine Nat.le_trans (oF_le (hx a (List.mem_cons_self ..))) ?_
      exact ih (f := fun s => f (a :: s)) (by rw [List.length_cons] at hs; omega) (fun x hy => hx x (List.mem_cons_of_mem _ hy))
theorem oF_1000 (F : Nat → Nat) : ∀ n, oF (fun a b => min a b) 1000 F n ≤ 1000
  | 0 => Nat.le_refl _
  | n + 1 => Nat.le_trans (Nat.min_le_left _ _) (oF_1000 F n)
theorem oF_cap (F : Nat → Nat) : ∀ n, oF (fun a b => min a b) 1000 (fun k => min 1000 (F k)) n = oF (fun a b => min a b) 1000 F n
  | 0 => rfl
  | n + 1 => by
    show min (oF (fun a b => min a b) 1000 (fun k => min 1000 (F k)) n) (min 1000 (F n)) = min (oF (fun a b => min a b) 1000 F n) (F n)
    rw [oF_cap F n]
    have := oF_1000 F n
    omega
theorem oF_plus (F : Nat → Nat) (c : Nat) : ∀ n, min 1000 (oF (fun a b => min a b) 1000 F n + c) = oF (fun a b => min a b) 1000 (fun k => min 1000 (F k + c)) n
  | 0 => by show min 1000 (1000 + c) = 1000; omega
  | n + 1 => by
    show min 1000 (min (oF (fun a b => min a b) 1000 F n) (F n) + c) = min (oF (fun a b => min a b) 1000 (fun k => min 1000 (F k + c)) n) (min 1000 (F n + c))
    rw [← oF_plus F c n]
    omega
theorem oT_plus (c : Nat) : ∀ (n : Nat) (f : List Nat → Nat), min 1000 (oT (fun a b => min a b) 1000 N n f + c) = oT (fun a b => min a b) 1000 N n (fun s => min 1000 (f s + c))
  | 0, f => rfl
  | n + 1, f => by
    show min 1000 (oF (fun a b => min a b) 1000 (fun a => oT (fun a b => min a b) 1000 N n (fun s => f (a :: s))) N + c) = oF (fun a b => min a b) 1000 (fun a => oT (fun a b => min a b) 1000 N n (fun s => min 1000 (f (a :: s) + c))) N
    rw [oF_plus]
    exact oF_cong fun a _ => oT_plus c n (fun s => f (a :: s))
/-! wrong cuts of a row -/
def oCw (w : Nat → Nat → Bool) : List Nat → Nat
  | [] => 0
  | a :: s => (match s with | [] => 0 | b :: _ => if w a b then 1 else 0) + oCw w s
theorem oCw_cc (w : Nat → Nat → Bool) (a b : Nat) (s : List Nat) : oCw w (a :: b :: s) = (if w a b then 1 else 0) + oCw w (b :: s) := rfl
theorem oCw_1 (w : Nat → Nat → Bool) (a : Nat) : oCw w [a] = 0 := rfl
theorem oCw_snoc (w : Nat → Nat → Bool) (a b : Nat) : ∀ s, oCw w (s ++ [a, b]) = oCw w (s ++ [a]) + (if w a b then 1 else 0)
  | [] => by
    show (if w a b then 1 else 0) + (0 + 0) = (0 + 0) + (if w a b then 1 else 0)
    omega
  | [c] => by
    show (if w c a then 1 else 0) + ((if w a b then 1 else 0) + (0 + 0)) = (if w c a then 1 else 0) + (0 + 0) + (if w a b then 1 else 0)
    omega
  | c :: d :: s => by
    have := oCw_snoc w a b (d :: s)
    show (if w c d then 1 else 0) + oCw w (d :: s ++ [a, b]) = (if w c d then 1 else 0) + oCw w (d :: s ++ [a]) + (if w a b then 1 else 0)
    omega
theorem oCw_rev (w : Nat → Nat → Bool) : ∀ s : List Nat, oCw w s.reverse = oCw (fun a b => w b a) s
  | [] => rfl
  | [a] => rfl
  | a :: b :: s => by
    have := oCw_rev w (b :: s)
    rw [List.reverse_cons] at this
    rw [oCw_cc, ← this, List.reverse_cons, List.reverse_cons, List.append_assoc]
    show oCw w (s.reverse ++ [b, a]) = _
    rw [oCw_snoc]
    omega
theorem oCw_lt (w : Nat → Nat → Bool) : ∀ (a : Nat) (s : List Nat), oCw w (a :: s) ≤ s.length
  | a, [] => Nat.le_refl 0
  | a, b :: s => by
    have := oCw_lt w b s
    rw [oCw_cc, List.length_cons]
    split <;> omega
theorem oCw_le (w : Nat → Nat → Bool) : ∀ s : List Nat, oCw w s ≤ s.length
  | [] => Nat.le_refl 0
  | a :: s => Nat.le_trans (oCw_lt w a s) (by rw [List.length_cons]; omega)
def oVG (w : Nat → Nat → Bool) (s : List Nat) : Nat := if s.Nodup ∧ oCw w s = 0 then 1 else 0
def oVB (w : Nat → Nat → Bool) (s : List Nat) : Nat := if s.Nodup then oCw w s else 1000
/-! the sets of places, as masks of six -/
def oDel (U l : Nat) : Nat := if U.testBit l then U - 2 ^ l else U
def oPc (U : Nat) : Nat := fb_ct (fun v => U.testBit v) 6
theorem oDel_bit : ∀ U, U < 64 → ∀ l, l < 6 → ∀ x, x < 6 → (oDel U l).testBit x = (U.testBit x && decide (x ≠ l)) := by decide +kernel
theorem oDel_lt : ∀ U, U < 64 → ∀ l, l < 6 → U.testBit l = true → oDel U l < U ∧ oPc (oDel U l) + 1 = oPc U := by decide +kernel
theorem oPc_0 : ∀ U, U < 64 → (oPc U = 0 ↔ U = 0) := by decide +kernel
theorem oPc_6 : ∀ N, N < 7 → oPc (2 ^ N - 1) = N ∧ 2 ^ N ≤ 64 := by decide +kernel
theorem oAll_bit : ∀ N, N < 7 → ∀ x, x < N → (2 ^ N - 1).testBit x = true := by decide +kernel
/-- the rows of the set U -/
def oIn (U : Nat) (s : List Nat) : Bool := decide s.Nodup && s.all (fun x => U.testBit x)
theorem oIn_no {U l : Nat} {s : List Nat} (h : ¬ U.testBit l = true) : oIn U (l :: s) = false := by
  unfold oIn
  rw [List.all_cons, Bool.eq_false_iff.mpr h, Bool.false_and, Bool.and_false]
theorem oIn_cons {U l : Nat} {s : List Nat} (hU : U < 64) (hl : l < 6) (hs : ∀ x ∈ s, x < 6) (h : U.testBit l = true) : oIn U (l :: s) = oIn (oDel U l) s := by
  unfold oIn
  rw [Bool.eq_iff_iff]
  simp only [Bool.and_eq_true, decide_eq_true_eq, List.all_eq_true, List.nodup_cons, List.mem_cons, forall_eq_or_imp]
  constructor
  · rintro ⟨⟨h1, h2⟩, h3, h4⟩
    refine ⟨h2, fun x hx => ?_⟩
    rw [oDel_bit U hU l hl x (hs x hx), h4 x hx, Bool.true_and, decide_eq_true_eq]
    rintro rfl
    exact h1 hx
  · rintro ⟨h1, h2⟩
    have h3 : ∀ x ∈ s, U.testBit x = true ∧ x ≠ l := fun x hx => by
      have := h2 x hx
      rw [oDel_bit U hU l hl x (hs x hx), Bool.and_eq_true, decide_eq_true_eq] at this
      exact this
    exact ⟨⟨fun hx => (h3 l hx).2 rfl, h1⟩, h, fun x hx => (h3 x hx).1⟩
def oUG (w : Nat → Nat → Bool) (U : Nat) (s : List Nat) : Nat := if oIn U s then (if oCw (fun a b => w b a) s = 0 then 1 else 0) else 0
def oUB (w : Nat → Nat → Bool) (U : Nat) (s : List Nat) : Nat := if oIn U s then oCw (fun a b => w b a) s else 1000
def oTG (w : Nat → Nat → Bool) (N U l : Nat) : Nat := oT (fun a b => a + b) 0 N (oPc U - 1) (fun s => oUG w U (l :: s))
def oTB (w : Nat → Nat → Bool) (N U l : Nat) : Nat := oT (fun a b => min a b) 1000 N (oPc U - 1) (fun s => oUB w U (l :: s))
theorem oTG_no {w : Nat → Nat → Bool} {U l : Nat} (h : ¬ U.testBit l = true) : oTG w N U l = 0 := by
  unfold oTG
  refine oT_ce oOk_add fun s _ _ => ?_
  unfold oUG
  rw [oIn_no h]
  rfl
theorem oTB_no {w : Nat → Nat → Bool} {U l : Nat} (h : ¬ U.testBit l = true) : oTB w N U l = 1000 := by
  unfold oTB
  refine oT_ce oOk_min fun s _ _ => ?_
  unfold oUB
  rw [oIn_no h]
  rfl
theorem oPc_del {U l : Nat} (hU : U < 64) (hl : l < 6) (h : U.testBit l = true) : oPc U - 1 = oPc (oDel U l) := by
  have := (oDel_lt U hU l hl h).2
  omega
theorem oDel_64 {U l : Nat} (hU : U < 64) : oDel U l < 64 := by
  unfold oDel
  split
  · exact Nat.lt_of_le_of_lt (Nat.sub_le _ _) hU
  · exact hU
theorem oTG_1 {w : Nat → Nat → Bool} {U l : Nat} (hU : U < 64) (hl : l < 6) (h : U.testBit l = true) (h0 : oDel U l = 0) : oTG w N U l = 1 := by
  unfold oTG
  rw [oPc_del hU hl h, h0, show oPc 0 = 0 from rfl]
  show oUG w U [l] = 1
  unfold oUG
  rw [oIn_cons hU hl (fun x hx => by cases hx) h]
  rfl
theorem oTB_1 {w : Nat → Nat → Bool} {U l : Nat} (hU : U < 64) (hl : l < 6) (h : U.testBit l = true) (h0 : oDel U l = 0) : oTB w N U l = 0 := by
  unfold oTB
  rw [oPc_del hU hl h, h0, show oPc 0 = 0 from rfl]
  show oUB w U [l] = 0
  unfold oUB
  rw [oIn_cons hU hl (fun x hx => by cases hx) h]
  rfl
theorem oTG_s {w : Nat → Nat → Bool} {U l : Nat} (hN : N ≤ 6) (hU : U < 64) (hl : l < 6) (h : U.testBit l = true) (h0 : oDel U l ≠ 0) : oTG w N U l = oF (fun a b => a + b) 0 (fun i => if w i l then 0 else oTG w N (oDel U l) i) N := by
  have h1 : oPc (oDel U l) ≠ 0 := fun z => h0 ((oPc_0 _ (oDel_64 hU)).mp z)
  unfold oTG
  rw [oPc_del hU hl h, show oPc (oDel U l) = (oPc (oDel U l) - 1) + 1 by omega]
  refine oF_cong fun i hi => ?_
  cases hw : w i l with
  | true =>
    rw [if_pos rfl]
    refine oT_ce oOk_add fun s hs hx => ?_
    unfold oUG
    dsimp only
    rw [oCw_cc, hw, if_pos rfl, if_neg (show ¬ (1 + oCw (fun a b => w b a) (i :: s) = 0) by omega), ite_self]
  | false =>
    rw [if_neg (by decide)]
    refine oT_cong fun s hs hx => ?_
    unfold oUG
    dsimp only
    rw [oIn_cons hU hl (fun x hy => by
      rcases List.mem_cons.mp hy with rfl | hy
      · omega
      · have := hx x hy
        omega) h, oCw_cc, hw, if_neg (show ¬ (false = true) by decide), Nat.zero_add]
theorem oTB_s {w : Nat → Nat → Bool} {U l : Nat} (hN : N ≤ 6) (hU : U < 64) (hl : l < 6) (h : U.testBit l = true) (h0 : oDel U l ≠ 0) : oTB w N U l = oF (fun a b => min a b) 1000 (fun i => oTB w N (oDel U l) i + (if w i l then 1 else 0)) N := by
  have h1 : oPc (oDel U l) ≠ 0 := fun z => h0 ((oPc_0 _ (oDel_64 hU)).mp z)
  have hp : oPc (oDel U l) ≤ 6 := fb_ct_le _ _
  unfold oTB
  rw [← oF_cap, oPc_del hU hl h, show oPc (oDel U l) = (oPc (oDel U l) - 1) + 1 by omega]
  refine oF_cong fun i hi => ?_
  rw [oT_plus]
  refine oT_cong fun s hs hx => ?_
  unfold oUB
  dsimp only
  rw [oIn_cons hU hl (fun x hy => by
    rcases List.mem_cons.mp hy with rfl | hy
    · omega
    · have := hx x hy
      omega) h, oCw_cc]
  have hc := oCw_lt (fun a b => w b a) i s
  cases oIn (oDel U l) (i :: s) with
  | true =>
    rw [if_pos rfl, if_pos rfl]
    split <;> omega
  | false =>
    rw [if_neg (by decide), if_neg (by decide)]
    split <;> omega
theorem oIn_all {s : List Nat} (hN : N ≤ 6) (hx : ∀ x ∈ s, x < N) : oIn (2 ^ N - 1) s = decide s.Nodup := by
  unfold oIn
  have : s.all (fun x => (2 ^ N - 1).testBit x) = true := by
    rw [List.all_eq_true]
    exact fun x h => oAll_bit N (by omega) x (hx x h)
  rw [this, Bool.and_true]
theorem oNodup_rev {s : List Nat} : s.reverse.Nodup ↔ s.Nodup := by
  unfold List.Nodup
  rw [List.pairwise_reverse]
  constructor <;> exact fun h => h.imp fun h => h.symm
theorem oTop_G {w : Nat → Nat → Bool} (h1 : 1 ≤ N) (hN : N ≤ 6) : oF (fun a b => a + b) 0 (fun l => oTG w N (2 ^ N - 1) l) N = oT (fun a b => a + b) 0 N N (oVG w) := by
  have hp := (oPc_6 N (by omega)).1
  rw [← oT_rev oOk_add]
  obtain ⟨m, rfl⟩ : ∃ m, N = m + 1 := ⟨N - 1, by omega⟩
  refine oF_cong fun l hl => ?_
  unfold oTG
  rw [hp]
  refine oT_cong fun s hs hx => ?_
  have hx2 : ∀ x ∈ l :: s, x < m + 1 := fun x hy => by
    rcases List.mem_cons.mp hy with rfl | hy
    · exact hl
    · exact hx x hy
  unfold oUG
  show _ = oVG w (l :: s).reverse
  unfold oVG
  rw [oIn_all hN hx2, oCw_rev]
  by_cases hn : (l :: s).Nodup
  · rw [decide_eq_true hn, if_pos rfl]
    by_cases hc : oCw (fun a b => w b a) (l :: s) = 0
    · rw [if_pos hc, if_pos ⟨oNodup_rev.mpr hn, hc⟩]
    · rw [if_neg hc, if_neg (fun z => hc z.2)]
  · rw [decide_eq_false hn, if_neg (by decide), if_neg (fun z => hn (oNodup_rev.mp z.1))]
theorem oTop_B {w : Nat → Nat → Bool} (h1 : 1 ≤ N) (hN : N ≤ 6) : oF (fun a b => min a b) 1000 (fun l => oTB w N (2 ^ N - 1) l) N = oT (fun a b => min a b) 1000 N N (oVB w) := by
  have hp := (oPc_6 N (by omega)).1
  rw [← oT_rev oOk_min]
  obtain ⟨m, rfl⟩ : ∃ m, N = m + 1 := ⟨N - 1, by omega⟩
  refine oF_cong fun l hl => ?_
  unfold oTB
  rw [hp]
  refine oT_cong fun s hs hx => ?_
  have hx2 : ∀ x ∈ l :: s, x < m + 1 := fun x hy => by
    rcases List.mem_cons.mp hy with rfl | hy
    · exact hl
    · exact hx x hy
  unfold oUB
  show _ = oVB w (l :: s).reverse
  unfold oVB
  rw [oIn_all hN hx2, oCw_rev]
  by_cases hn : (l :: s).Nodup
  · rw [decide_eq_true hn, if_pos rfl, if_pos (oNodup_rev.mpr hn)]
  · rw [decide_eq_false hn, if_neg (by decide), if_neg (fun z => hn (oNodup_rev.mp z))]
theorem oTop_B_le {w : Nat → Nat → Bool} : oT (fun a b => min a b) 1000 N N (oVB w) ≤ N := by
  have h := oT_le (N := N) (f := oVB w) (s := List.range N) List.length_range (fun x hx => List.mem_range.mp hx)
  refine Nat.le_trans h ?_
  unfold oVB
  rw [if_pos List.nodup_range]
  have := oCw_le w (List.range N)
  rw [List.length_range] at this
  exact this
theorem oTB_le {w : Nat → Nat → Bool} {U l : Nat} : oTB w N U l ≤ 1000 := by
  unfold oTB
  cases oPc U - 1 with
  | succ n => exact oF_1000 _ _
  | zero =>
    show oUB w U [l] ≤ 1000
    unfold oUB
    split
    · exact Nat.le_trans (oCw_le _ _) (show [l].length ≤ 1000 by rw [List.length_singleton]; decide)
    · exact Nat.le_refl _
end OM
