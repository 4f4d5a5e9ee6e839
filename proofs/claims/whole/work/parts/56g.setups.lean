/-! Agreements: setups, first, days. -/
section B7
variable {st : XS} {ms : MS}
def row3 (x : Int32) : Nat := if x = 115 then 0 else if x = 110 then 1 else 2
/-- the setup of the shot at this place of the reel -/
def vid (st : XS) (k : Nat) : Nat := row3 (xF st 1 ((xL st 1).getD k 0) 3) * 5 + (xF st 1 ((xL st 1).getD k 0) 4).toNatClampNeg
theorem lens_of {x : Int32} (h : 0 ≤ x ∧ x < 5) : ∃ l, l < 5 ∧ x = nI l := by
  have h0 : ¬ x < 0 := fun z => (i_lt0 x).mp z h.1
  obtain ⟨j, hj, rfl⟩ := nI_of h0
  have := h.2
  rw [show (5 : Int32) = nI 5 from rfl, nI_ltI hj (by decide)] at this
  exact ⟨j, this, rfl⟩
theorem row3_lt (x : Int32) : row3 x < 3 := by
  unfold row3
  by_cases h : x = 115
  · rw [if_pos h]; decide
  · rw [if_neg h]
    by_cases h : x = 110
    · rw [if_pos h]; decide
    · rw [if_neg h]; decide
theorem vid_lt (hb : BI st) {k : Nat} (hk : k < (xL st 1).length) : vid st k < 15 := by
  obtain ⟨l, hl, e⟩ := lens_of (hb.sok (hb.get hk)).2.1
  have := row3_lt (xF st 1 ((xL st 1).getD k 0) 3)
  unfold vid
  rw [e, nI_clamp (by omega)]
  omega
theorem vid_eq (hb : BI st) {j k : Nat} (hj : j < (xL st 1).length) (hk : k < (xL st 1).length) : vid st j = vid st k ↔ xF st 1 ((xL st 1).getD j 0) 3 = xF st 1 ((xL st 1).getD k 0) 3 ∧ xF st 1 ((xL st 1).getD j 0) 4 = xF st 1 ((xL st 1).getD k 0) 4 := by
  obtain ⟨l, hl, e⟩ := lens_of (hb.sok (hb.get hk)).2.1
  obtain ⟨l2, hl2, e2⟩ := lens_of (hb.sok (hb.get hj)).2.1
  have s1 := (hb.sok (hb.get hk)).1
  have s2 := (hb.sok (hb.get hj)).1
  unfold vid
  rw [e, e2, nI_clamp (by omega), nI_clamp (by omega), nI_eq (by omega) (by omega)]
  rcases s1 with s1 | s1 | s1 <;> rcases s2 with s2 | s2 | s2 <;> rw [s1, s2] <;> simp [row3] <;> omega
theorem bit_c : ∀ r, r < 3 → ∀ l, l < 5 → (1 : Int32) <<< (((nI r * 5) + nI l) &&& 31) = nI (2 ^ (r * 5 + l)) := by decide +kernel
theorem p_bit (hb : BI st) {k : Nat} (hk : k < (xL st 1).length) : f_X4_setupBit st ((xL st 1).getD k 0) = some (nI (2 ^ vid st k), st) := by
  have hg := hb.get hk
  obtain ⟨l, hl, e⟩ := lens_of (hb.sok hg).2.1
  have s1 := (hb.sok hg).1
  unfold f_X4_setupBit f_X4_setupBit_27 vid
  simp only [gd_pos hg, e, nI_clamp (show l < 2 ^ 31 by omega)]
  rcases s1 with s1 | s1 | s1
  · rw [s1, bi_pos rfl]
    have := bit_c 0 (by decide) l hl
    rw [show row3 115 = 0 from rfl, ← this]
    rfl
  · rw [s1, bi_neg (by decide), bi_pos rfl]
    have := bit_c 1 (by decide) l hl
    rw [show row3 110 = 1 from rfl, ← this]
    rfl
  · rw [s1, bi_neg (by decide), bi_neg (by decide)]
    have := bit_c 2 (by decide) l hl
    rw [show row3 48 = 2 from rfl, ← this]
    rfl
def dr (st : XS) (k : Nat) : Bool := decide (xF st 1 ((xL st 1).getD k 0) 11 ≠ 0)
/-- the mask of the setups of the first k places that are counted -/
def msk (st : XS) (f : Bool) : Nat → Nat
  | 0 => 0
  | k + 1 => if dr st k || !f then msk st f k ||| 2 ^ vid st k else msk st f k
def sS (st : XS) (f : Bool) : Nat → Nat → Bool
  | 0, _ => false
  | k + 1, v => sS st f k v || ((dr st k || !f) && decide (v = vid st k))
theorem msk_bit (f : Bool) (v : Nat) : ∀ k, (msk st f k).testBit v = sS st f k v
  | 0 => Nat.zero_testBit v
  | k + 1 => by
    unfold msk sS
    rw [← msk_bit f v k]
    cases dr st k || !f with
    | true => rw [if_pos rfl, fb_bit_set, Bool.true_and]
    | false => rw [if_neg (by decide), Bool.false_and, Bool.or_false]
theorem msk_lt (hb : BI st) (f : Bool) : ∀ k, k ≤ (xL st 1).length → msk st f k < 2 ^ 15
  | 0, _ => by
    show 0 < 2 ^ 15
    decide
  | k + 1, h => by
    have h1 := msk_lt hb f k (by omega)
    unfold msk
    cases dr st k || !f with
    | true =>
      rw [if_pos rfl]
      exact Nat.or_lt_two_pow h1 (Nat.pow_lt_pow_right (by decide) (vid_lt hb (by omega)))
    | false => rw [if_neg (by decide)]; exact h1
def pcN (m : Nat) : Nat := Nat.add (Nat.mod m 2) (Nat.add (Nat.mod (Nat.div m 2) 2) (Nat.add (Nat.mod (Nat.div m 4) 2) (Nat.add (Nat.mod (Nat.div m 8) 2) (Nat.add (Nat.mod (Nat.div m 16) 2) (Nat.add (Nat.mod (Nat.div m 32) 2) (Nat.add (Nat.mod (Nat.div m 64) 2) (Nat.add (Nat.mod (Nat.div m 128) 2) (Nat.add (Nat.mod (Nat.div m 256) 2) (Nat.add (Nat.mod (Nat.div m 512) 2) (Nat.add (Nat.mod (Nat.div m 1024) 2) (Nat.add (Nat.mod (Nat.div m 2048) 2) (Nat.add (Nat.mod (Nat.div m 4096) 2) (Nat.add (Nat.mod (Nat.div m 8192) 2) (Nat.mod (Nat.div m 16384) 2))))))))))))))
def nA (x : Nat) : Nat := Nat.sub x (Nat.land (Nat.shiftRight x 1) 1431655765)
def nB (y : Nat) : Nat := Nat.add (Nat.land y 858993459) (Nat.land (Nat.shiftRight y 2) 858993459)
def nC (z : Nat) : Nat := Nat.land (Nat.add z (Nat.shiftRight z 4)) 252645135
def nD (u : Nat) : Nat := Nat.add u (Nat.shiftRight u 8)
def nE (u : Nat) : Nat := Nat.add u (Nat.shiftRight u 16)
def nT (x : Nat) : Nat := Nat.land (nE (nD (nC (nB (nA x))))) 63
def lpB (p : Nat → Bool) (n : Nat) : Bool := Nat.rec true (fun k r => and r (p k)) n
/-- the count of bits, and that no step is large -/
def chkB (m : Nat) : Bool := and (Nat.beq (nT m) (pcN m)) (and (Nat.ble (nA m) 65535) (and (Nat.ble (nB (nA m)) 65535) (and (Nat.ble (nC (nB (nA m))) 65535) (Nat.ble (nD (nC (nB (nA m)))) 65535))))
theorem chk_2 : lpB (fun a => lpB (fun b => lpB (fun c => chkB (Nat.add a (Nat.mul 32 (Nat.add b (Nat.mul 32 c))))) 32) 32) 32 = true := by decide +kernel
theorem lpB_e {p : Nat → Bool} : ∀ {n : Nat}, lpB p n = true → ∀ k, k < n → p k = true
  | 0, _, k, hk => absurd hk (Nat.not_lt_zero k)
  | n + 1, h, k, hk => by
    have h2 : (lpB p n && p n) = true := h
    rw [Bool.and_eq_true] at h2
    by_cases e : k = n
    · rw [e]; exact h2.2
    · exact lpB_e h2.1 k (by omega)
theorem chk_a {m : Nat} (h : m < 2 ^ 15) : nT m = pcN m ∧ nA m < 65536 ∧ nB (nA m) < 65536 ∧ nC (nB (nA m)) < 65536 ∧ nD (nC (nB (nA m))) < 65536 := by
  have h1 := lpB_e (lpB_e (lpB_e chk_2 (m % 32) (by omega)) (m / 32 % 32) (by omega)) (m / 1024) (by omega)
  have e : Nat.add (m % 32) (Nat.mul 32 (Nat.add (m / 32 % 32) (Nat.mul 32 (m / 1024)))) = m := by
    show m % 32 + 32 * (m / 32 % 32 + 32 * (m / 1024)) = m
    omega
  rw [e] at h1
  have h2 : (Nat.beq (nT m) (pcN m) && (Nat.ble (nA m) 65535 && (Nat.ble (nB (nA m)) 65535 && (Nat.ble (nC (nB (nA m))) 65535 && Nat.ble (nD (nC (nB (nA m)))) 65535)))) = true := h1
  rw [Bool.and_eq_true, Bool.and_eq_true, Bool.and_eq_true, Bool.and_eq_true] at h2
  obtain ⟨q1, q2, q3, q4, q5⟩ := h2
  exact ⟨Nat.eq_of_beq_eq_true q1, Nat.lt_succ_of_le (Nat.le_of_ble_eq_true q2), Nat.lt_succ_of_le (Nat.le_of_ble_eq_true q3), Nat.lt_succ_of_le (Nat.le_of_ble_eq_true q4), Nat.lt_succ_of_le (Nat.le_of_ble_eq_true q5)⟩
theorem tb_dm (m v : Nat) : (if m.testBit v then 1 else 0) = m / 2 ^ v % 2 := by
  rw [← Nat.toNat_testBit]
  cases m.testBit v <;> rfl
theorem pcN_ct (m : Nat) : fb_ct (fun v => m.testBit v) 15 = pcN m := by
  show 0 + (if m.testBit 0 then 1 else 0) + (if m.testBit 1 then 1 else 0) + (if m.testBit 2 then 1 else 0) + (if m.testBit 3 then 1 else 0) + (if m.testBit 4 then 1 else 0) + (if m.testBit 5 then 1 else 0) + (if m.testBit 6 then 1 else 0) + (if m.testBit 7 then 1 else 0) + (if m.testBit 8 then 1 else 0) + (if m.testBit 9 then 1 else 0) + (if m.testBit 10 then 1 else 0) + (if m.testBit 11 then 1 else 0) + (if m.testBit 12 then 1 else 0) + (if m.testBit 13 then 1 else 0) + (if m.testBit 14 then 1 else 0) = m % 2 + (m / 2 % 2 + (m / 4 % 2 + (m / 8 % 2 + (m / 16 % 2 + (m / 32 % 2 + (m / 64 % 2 + (m / 128 % 2 + (m / 256 % 2 + (m / 512 % 2 + (m / 1024 % 2 + (m / 2048 % 2 + (m / 4096 % 2 + (m / 8192 % 2 + m / 16384 % 2)))))))))))))
  rw [tb_dm, tb_dm, tb_dm, tb_dm, tb_dm, tb_dm, tb_dm, tb_dm, tb_dm, tb_dm, tb_dm, tb_dm, tb_dm, tb_dm, tb_dm]
  rw [show (2 : Nat) ^ 0 = 1 from rfl, show (2 : Nat) ^ 1 = 2 from rfl, show (2 : Nat) ^ 2 = 4 from rfl, show (2 : Nat) ^ 3 = 8 from rfl, show (2 : Nat) ^ 4 = 16 from rfl, show (2 : Nat) ^ 5 = 32 from rfl, show (2 : Nat) ^ 6 = 64 from rfl, show (2 : Nat) ^ 7 = 128 from rfl, show (2 : Nat) ^ 8 = 256 from rfl, show (2 : Nat) ^ 9 = 512 from rfl, show (2 : Nat) ^ 10 = 1024 from rfl, show (2 : Nat) ^ 11 = 2048 from rfl, show (2 : Nat) ^ 12 = 4096 from rfl, show (2 : Nat) ^ 13 = 8192 from rfl, show (2 : Nat) ^ 14 = 16384 from rfl, Nat.div_one]
  generalize m % 2 = z0
  generalize m / 2 % 2 = z1
  generalize m / 4 % 2 = z2
  generalize m / 8 % 2 = z3
  generalize m / 16 % 2 = z4
  generalize m / 32 % 2 = z5
  generalize m / 64 % 2 = z6
  generalize m / 128 % 2 = z7
  generalize m / 256 % 2 = z8
  generalize m / 512 % 2 = z9
  generalize m / 1024 % 2 = z10
  generalize m / 2048 % 2 = z11
  generalize m / 4096 % 2 = z12
  generalize m / 8192 % 2 = z13
  generalize m / 16384 % 2 = z14
  omega
def ush (x s : Int32) : Int32 := (Int32.toUInt32 x >>> (Int32.toUInt32 s &&& Int32.toUInt32 31)).toInt32
def iA (x : Int32) : Int32 := x - (ush x 1 &&& 1431655765)
def iB (y : Int32) : Int32 := (y &&& 858993459) + (ush y 2 &&& 858993459)
def iC (z : Int32) : Int32 := (z + ush z 4) &&& 252645135
def iD (u : Int32) : Int32 := u + ush u 8
def iE (u : Int32) : Int32 := u + ush u 16
theorem bc_i (x : Int32) : f_J6_bitCount_0f7a4 st x = some (iE (iD (iC (iB (iA x)))) &&& 63, st) := rfl
theorem nI_sub {a b : Nat} (h : b ≤ a) : nI a - nI b = nI (a - b) := by
  have e : nI (a - b) + nI b = nI a := by rw [nI_add, Nat.sub_add_cancel h]
  rw [← e, Int32.add_sub_cancel]
theorem ush_n {m s : Nat} (h : m < 65536) (hs : s < 32) : ush (nI m) (nI s) = nI (m >>> s) := nx_ush h hs
theorem iA_n {m : Nat} (h : m < 65536) : iA (nI m) = nI (nA m) := by
  unfold iA
  rw [show (1 : Int32) = nI 1 from rfl, ush_n h (by decide), show (1431655765 : Int32) = nI 1431655765 from rfl, fa_and, nI_sub (Nat.le_trans Nat.and_le_left (Nat.shiftRight_le m 1))]
  rfl
theorem iB_n {m : Nat} (h : m < 65536) : iB (nI m) = nI (nB m) := by
  unfold iB
  rw [show (2 : Int32) = nI 2 from rfl, ush_n h (by decide), show (858993459 : Int32) = nI 858993459 from rfl, fa_and, fa_and, nI_add]
  rfl
theorem iC_n {m : Nat} (h : m < 65536) : iC (nI m) = nI (nC m) := by
  unfold iC
  rw [show (4 : Int32) = nI 4 from rfl, ush_n h (by decide), show (252645135 : Int32) = nI 252645135 from rfl, nI_add, fa_and]
  rfl
theorem iD_n {m : Nat} (h : m < 65536) : iD (nI m) = nI (nD m) := by
  unfold iD
  rw [show (8 : Int32) = nI 8 from rfl, ush_n h (by decide), nI_add]
  rfl
theorem iE_n {m : Nat} (h : m < 65536) : iE (nI m) = nI (nE m) := by
  unfold iE
  rw [show (16 : Int32) = nI 16 from rfl, ush_n h (by decide), nI_add]
  rfl
theorem bc_nat {m : Nat} (h : m < 2 ^ 15) : f_J6_bitCount_0f7a4 st (nI m) = some (nI (fb_ct (fun v => m.testBit v) 15), st) := by
  obtain ⟨q1, q2, q3, q4, q5⟩ := chk_a h
  rw [bc_i, iA_n (by omega), iB_n q2, iC_n q3, iD_n q4, iE_n q5, show (63 : Int32) = nI 63 from rfl, fa_and, pcN_ct, ← q1]
  rfl
theorem p_set_go {f : Bool} (hb : BI st) : ∀ (n k : Nat), k ≤ (xL st 1).length → (xL st 1).length < k + n → f_X5_setupCount_4 n st (tI f) (nI (msk st f k)) (nI k) = some (nI (fb_ct (sS st f (xL st 1).length) 15), st) := by
  have hlen := hb.len
  intro n
  induction n with
  | zero => intro k h1 h2; omega
  | succ n ih =>
    intro k h1 h2
    rw [f_X5_setupCount_4]
    by_cases hk : k = (xL st 1).length
    · rw [bi_pos (nI_le (by omega) (by omega)), bc_nat (msk_lt hb f k h1), bd_some]
      have : (fun v => (msk st f k).testBit v) = sS st f (xL st 1).length := by
        funext v
        rw [msk_bit, hk]
      rw [this]
    · have hk' : k < (xL st 1).length := by omega
      have hg := hb.get hk'
      have ih2 := ih (k + 1) (by omega) (by omega)
      unfold msk at ih2
      have a1 : (dr st k || !f) = true → f_X5_setupCount_40 (f_X5_setupCount_4 n) st (tI f) (nI (msk st f k)) (nI k) ((xL st 1).getD k 0) = some (nI (fb_ct (sS st f (xL st 1).length) 15), st) := by
        intro hd
        rw [hd, if_pos rfl] at ih2
        rw [f_X5_setupCount_40, gd_pos hg, p_bit hb hk', bd_some, f_X5_setupCount_48, nI_1, fa_or]
        exact ih2
      rw [bi_neg (nI_ge (by omega) (by omega)), gd_pos (vp_in_nI hk' (by omega)), nI_clamp (by omega), gd_pos hg]
      by_cases hd : xF st 1 ((xL st 1).getD k 0) 11 = 0
      · have hdr : dr st k = false := by unfold dr; rw [hd]; rfl
        rw [bi_pos hd]
        cases f with
        | false =>
          rw [bi_pos (show tI false = 0 from rfl)]
          exact a1 (by rw [hdr]; rfl)
        | true =>
          rw [hdr, if_neg (by decide)] at ih2
          rw [bi_neg (show ¬ tI true = 0 by decide), f_X5_setupCount_48, nI_1]
          exact ih2
      · have hdr : dr st k = true := by unfold dr; exact decide_eq_true hd
        rw [bi_neg hd]
        exact a1 (by rw [hdr]; rfl)
theorem p_set {f : Bool} (hb : BI st) : f_X5_setupCount st (tI f) = some (nI (fb_ct (sS st f (xL st 1).length) 15), st) := by
  have := hb.len
  exact p_set_go hb FU 0 (Nat.zero_le _) (by show _ < 0 + 1000000; omega)
/-! the reference's count -/
def nwB (st : XS) (k : Nat) : Nat → Bool
  | 0 => true
  | j + 1 => nwB st k j && !(decide (vid st j = vid st k) && decide (j < k))
def hsB (st : XS) (k : Nat) : Nat → Bool
  | 0 => false
  | j + 1 => hsB st k j || (decide (vid st j = vid st k) && dr st j)
theorem tI_z (b : Bool) : (tI b = 0) = (b = false) := by cases b <;> simp [tI]
theorem r_87 {k4 : MS → Int32 → Int32 → Int32 → Option (Int32 × MS)} {k21 : MS → Int32 → Int32 → Int32 → Int32 → Int32 → Int32 → Option (Int32 × MS)} (hb : BI st) (h : RE st ms) {x1 x2 : Int32} {k j : Nat} {a g s : Bool} (hk : k < (xL st 1).length) (hj : j < (xL st 1).length) :
    f_X6_countSetups_87 k4 k21 ms x1 x2 (nI k) (tI a) (tI g) (nI j) (tI s) = k21 ms x1 x2 (nI k) (tI (a && !(s && decide (j < k)))) (tI (g || (s && dr st j))) (nI (j + 1)) := by
  have hlen := hb.len
  have h24 := hb.n24
  have hg := hb.get hj
  have h8 : ms.2 8 ((xL st 1).getD j 0) = xF st 1 ((xL st 1).getD j 0) 11 := (r_shot h hg).2.2.2.2.1
  have e110 : ∀ y : Bool, f_X6_countSetups_110 k4 k21 ms x1 x2 (nI k) (tI g) (nI j) (tI s) (tI y) = k21 ms x1 x2 (nI k) (tI y) (tI (g || (s && dr st j))) (nI (j + 1)) := by
    intro y
    rw [f_X6_countSetups_110, f_X6_countSetups_141, f_X6_countSetups_137]
    unfold f_X6_countSetups_142
    cases g with
    | true => rw [bi_neg (by decide), nI_1]; rfl
    | false =>
      rw [bi_pos (by decide)]
      cases s with
      | false => rw [bi_pos (by decide), nI_1]; rfl
      | true =>
        rw [bi_neg (by decide), gd_pos (vp24 (by omega) rfl), nI_clamp (by omega), r_get hb h hj, gd_pos (vp24 (by omega) rfl), nI_clamp (by omega), h8, nI_1]
        unfold dr
        by_cases hd : xF st 1 ((xL st 1).getD j 0) 11 = 0
        · rw [bi_pos hd, hd]; rfl
        · rw [bi_neg hd, decide_eq_true hd]; rfl
  have e109 : f_X6_countSetups_109 k4 k21 ms x1 x2 (nI k) (tI g) (nI j) (tI s) = _ := e110 false
  have e105 : f_X6_countSetups_105 k4 k21 ms x1 x2 (nI k) (tI g) (nI j) (tI s) = _ := e110 true
  rw [f_X6_countSetups_87, e109, e105]
  cases a with
  | false => rw [bi_pos (by decide)]; rfl
  | true =>
    rw [bi_neg (by decide)]
    cases s with
    | false => rw [bi_pos (by decide)]; rfl
    | true =>
      rw [bi_neg (by decide)]
      by_cases hl : j < k
      · rw [bi_pos (nI_lt hl (by omega)), decide_eq_true hl]; rfl
      · rw [bi_neg (nI_nlt (by omega) (by omega)), decide_eq_false hl]; rfl
theorem r_cs_in {k4 : MS → Int32 → Int32 → Int32 → Option (Int32 × MS)} (hb : BI st) (h : RE st ms) {f : Bool} {x2 : Int32} {k : Nat} (hk : k < (xL st 1).length) : ∀ (n j : Nat), j ≤ (xL st 1).length → (xL st 1).length < j + n → f_X6_countSetups_21 k4 n ms (tI f) x2 (nI k) (tI (nwB st k j)) (tI (hsB st k j)) (nI j) = k4 ms (tI f) (if nwB st k (xL st 1).length && (hsB st k (xL st 1).length || !f) then x2 + 1 else x2) (nI (k + 1)) := by
  have hlen := hb.len
  have h24 := hb.n24
  intro n
  induction n with
  | zero => intro j h1 h2; omega
  | succ n ih =>
    intro j h1 h2
    rw [f_X6_countSetups_21, h.2.1]
    by_cases hj : j = (xL st 1).length
    · rw [bi_pos (nI_le (by omega) (by omega)), hj, f_X6_countSetups_170, f_X6_countSetups_164]
      unfold f_X6_countSetups_171
      rw [nI_1]
      cases nwB st k (xL st 1).length with
      | false => rw [bi_pos (by decide)]; rfl
      | true =>
        rw [bi_neg (by decide)]
        cases hsB st k (xL st 1).length with
        | true => rw [bi_neg (by decide)]; rfl
        | false =>
          rw [bi_pos (by decide)]
          cases f with
          | false => rw [bi_pos (by decide)]; rfl
          | true => rw [bi_neg (by decide)]; rfl
    · have hj' : j < (xL st 1).length := by omega
      have gj := hb.get hj'
      have gk := hb.get hk
      have a4 : ∀ {i}, i < xN st 0 → ms.2 4 i = xF st 1 i 3 := fun hi => (r_shot h hi).1
      have a5 : ∀ {i}, i < xN st 0 → ms.2 5 i = xF st 1 i 4 := fun hi => (r_shot h hi).2.1
      have v := vid_eq hb hj' hk
      have ih2 := ih (j + 1) (by omega) (by omega)
      rw [show nwB st k (j + 1) = (nwB st k j && !(decide (vid st j = vid st k) && decide (j < k))) from rfl, show hsB st k (j + 1) = (hsB st k j || (decide (vid st j = vid st k) && dr st j)) from rfl] at ih2
      have go0 : ¬ vid st j = vid st k → f_X6_countSetups_86 k4 (f_X6_countSetups_21 k4 n) ms (tI f) x2 (nI k) (tI (nwB st k j)) (tI (hsB st k j)) (nI j) = k4 ms (tI f) (if nwB st k (xL st 1).length && (hsB st k (xL st 1).length || !f) then x2 + 1 else x2) (nI (k + 1)) := by
        intro hv
        rw [decide_eq_false hv] at ih2
        rw [f_X6_countSetups_86]
        exact (r_87 (s := false) hb h hk hj').trans ih2
      rw [bi_neg (nI_ge (by omega) (by omega)), gd_pos (vp24 (by omega) rfl), nI_clamp (show j < 2 ^ 31 by omega), r_get hb h hj', gd_pos (vp24 (by omega) rfl), gd_pos (vp24 (by omega) rfl), nI_clamp (show k < 2 ^ 31 by omega), r_get hb h hk, gd_pos (vp24 (by omega) rfl), nI_clamp (show (xL st 1).getD j 0 < 2 ^ 31 by omega), nI_clamp (show (xL st 1).getD k 0 < 2 ^ 31 by omega), a4 gj, a4 gk]
      by_cases e1 : xF st 1 ((xL st 1).getD j 0) 3 = xF st 1 ((xL st 1).getD k 0) 3
      · rw [bi_pos e1, gd_pos (vp24 (by omega) rfl), gd_pos (vp24 (by omega) rfl), gd_pos (vp24 (by omega) rfl), gd_pos (vp24 (by omega) rfl), a5 gj, a5 gk]
        by_cases e2 : xF st 1 ((xL st 1).getD j 0) 4 = xF st 1 ((xL st 1).getD k 0) 4
        · rw [bi_pos e2]
          rw [decide_eq_true (v.mpr ⟨e1, e2⟩)] at ih2
          exact (r_87 (s := true) hb h hk hj').trans ih2
        · rw [bi_neg e2]
          exact go0 (fun z => e2 (v.mp z).2)
      · rw [bi_neg e1]
        exact go0 (fun z => e1 (v.mp z).1)
def ctB (st : XS) (f : Bool) (k : Nat) : Bool := nwB st k (xL st 1).length && (hsB st k (xL st 1).length || !f)
theorem r_cs_go {f : Bool} (hb : BI st) (h : RE st ms) : ∀ (n k : Nat), k ≤ (xL st 1).length → (xL st 1).length < k + n → f_X6_countSetups_4 n ms (tI f) (nI (fb_ct (ctB st f) k)) (nI k) = some (nI (fb_ct (ctB st f) (xL st 1).length), ms) := by
  have hlen := hb.len
  intro n
  induction n with
  | zero => intro k h1 h2; omega
  | succ n ih =>
    intro k h1 h2
    rw [f_X6_countSetups_4, h.2.1]
    by_cases hk : k = (xL st 1).length
    · rw [bi_pos (nI_le (by omega) (by omega)), hk]
    · have ih2 := ih (k + 1) (by omega) (by omega)
      rw [fb_ct_succ] at ih2
      rw [bi_neg (nI_ge (by omega) (by omega))]
      refine (r_cs_in (k4 := f_X6_countSetups_4 n) hb h (show k < _ by omega) FU 0 (Nat.zero_le _) (by show _ < 0 + 1000000; omega)).trans ?_
      show f_X6_countSetups_4 n ms (tI f) (if ctB st f k then nI (fb_ct (ctB st f) k) + 1 else nI (fb_ct (ctB st f) k)) (nI (k + 1)) = _
      cases hc : ctB st f k with
      | true =>
        rw [hc, if_pos rfl] at ih2
        rw [if_pos rfl, nI_1]
        exact ih2
      | false =>
        rw [hc, if_neg (by decide)] at ih2
        rw [if_neg (by decide)]
        exact ih2
theorem r_cs {f : Bool} (hb : BI st) (h : RE st ms) : f_X6_countSetups ms (tI f) = some (nI (fb_ct (ctB st f) (xL st 1).length), ms) := by
  have := hb.len
  exact r_cs_go hb h FU 0 (Nat.zero_le _) (by show _ < 0 + 1000000; omega)
/-! both counts are one -/
def eS (st : XS) : Nat → Nat → Bool
  | 0, _ => false
  | k + 1, v => eS st k v || decide (v = vid st k)
theorem eS_in {j : Nat} : ∀ {k : Nat}, j < k → eS st k (vid st j) = true := by
  intro k
  induction k with
  | zero => omega
  | succ k ih =>
    intro h
    unfold eS
    by_cases e : j = k
    · subst e
      rw [decide_eq_true rfl, Bool.or_true]
    · rw [ih (by omega), Bool.true_or]
theorem sS_e {f : Bool} {v : Nat} : ∀ k, sS st f k v = true → eS st k v = true := by
  intro k
  induction k with
  | zero => intro h; cases h
  | succ k ih =>
    intro h
    unfold sS at h
    unfold eS
    rw [Bool.or_eq_true] at h ⊢
    rcases h with h | h
    · exact Or.inl (ih h)
    · rw [Bool.and_eq_true] at h
      exact Or.inr h.2
theorem sS_f {v : Nat} : ∀ k, sS st false k v = eS st k v := by
  intro k
  induction k with
  | zero => rfl
  | succ k ih =>
    unfold sS eS
    rw [ih, Bool.not_false, Bool.or_true, Bool.true_and]
theorem hsB_s {k : Nat} : ∀ j, hsB st k j = sS st true j (vid st k) := by
  intro j
  induction j with
  | zero => rfl
  | succ j ih =>
    unfold hsB sS
    rw [ih, Bool.not_true, Bool.or_false, Bool.and_comm, show decide (vid st j = vid st k) = decide (vid st k = vid st j) from decide_eq_decide.mpr ⟨Eq.symm, Eq.symm⟩]
theorem nwB_e {k : Nat} : ∀ j, nwB st k j = !eS st (min j k) (vid st k) := by
  intro j
  induction j with
  | zero => rw [Nat.zero_min]; rfl
  | succ j ih =>
    unfold nwB
    rw [ih]
    by_cases h : j < k
    · rw [show min (j + 1) k = j + 1 by omega, show min j k = j by omega, show eS st (j + 1) (vid st k) = (eS st j (vid st k) || decide (vid st k = vid st j)) from rfl]
      rw [decide_eq_true h, Bool.and_true, Bool.not_or, show decide (vid st j = vid st k) = decide (vid st k = vid st j) from decide_eq_decide.mpr ⟨Eq.symm, Eq.symm⟩]
    · rw [show min (j + 1) k = k by omega, show min j k = k by omega, decide_eq_false h, Bool.and_false, Bool.not_false, Bool.and_true]
theorem ct_m (hb : BI st) (S : Nat → Bool) : ∀ m, m ≤ (xL st 1).length → fb_ct (fun k => !eS st k (vid st k) && S (vid st k)) m = fb_ct (fun v => eS st m v && S v) 15 := by
  intro m
  induction m with
  | zero => intro _; rfl
  | succ m ih =>
    intro hm
    rw [fb_ct_succ, ih (by omega)]
    have h15 := vid_lt hb (show m < (xL st 1).length by omega)
    have hu := fb_ct_upd (fun v => eS st m v && S v) (S (vid st m)) h15
    have he : fb_ct (fun v => eS st (m + 1) v && S v) 15 = fb_ct (fun v => if v = vid st m then S (vid st m) else eS st m v && S v) 15 := by
      refine fb_ct_cong fun v hv => ?_
      show ((eS st m v || decide (v = vid st m)) && S v) = _
      by_cases e : v = vid st m
      · rw [if_pos e, e, decide_eq_true rfl, Bool.or_true, Bool.true_and]
      · rw [if_neg e, decide_eq_false e, Bool.or_false]
    rw [he]
    cases h1 : eS st m (vid st m) <;> cases h2 : S (vid st m) <;> simp [h1, h2] at hu ⊢ <;> omega
theorem ct_eq (hb : BI st) (f : Bool) : fb_ct (ctB st f) (xL st 1).length = fb_ct (sS st f (xL st 1).length) 15 := by
  have h1 : fb_ct (ctB st f) (xL st 1).length = fb_ct (fun k => !eS st k (vid st k) && sS st f (xL st 1).length (vid st k)) (xL st 1).length := by
    refine fb_ct_cong fun k hk => ?_
    unfold ctB
    rw [nwB_e, hsB_s, show min (xL st 1).length k = k by omega]
    cases f with
    | true => rw [Bool.not_true, Bool.or_false]
    | false => rw [Bool.not_false, Bool.or_true, sS_f, eS_in hk]
  rw [h1, ct_m hb _ _ (Nat.le_refl _)]
  refine fb_ct_cong fun v hv => ?_
  cases h : sS st f (xL st 1).length v with
  | false => rw [Bool.and_false]
  | true => rw [sS_e _ h]; rfl
theorem ag_setups (I : INV st ms) : ∃ r st' ms', f_X5_setups st = some (r, st') ∧ f_X6_setups ms = some (r, ms') ∧ INV st' ms' := by
  refine ⟨nI (fb_ct (sS st false (xL st 1).length) 15), st, setS ms 0 0, ?_, ?_, I.code 0⟩
  · rw [f_X5_setups, show f_X5_setupCount st 0 = _ from p_set (f := false) I.1, bd_some]
  · rw [f_X6_setups, show f_X6_countSetups (setS ms 0 0) 0 = _ from r_cs (f := false) I.1 (I.code 0).2, bd_some, ct_eq I.1]
theorem ag_first (I : INV st ms) : ∃ r st' ms', f_X5_first st = some (r, st') ∧ f_X6_first ms = some (r, ms') ∧ INV st' ms' := by
  refine ⟨nI (fb_ct (sS st true (xL st 1).length) 15), st, setS ms 0 0, ?_, ?_, I.code 0⟩
  · rw [f_X5_first, show f_X5_setupCount st 1 = _ from p_set (f := true) I.1, bd_some]
  · rw [f_X6_first, show f_X6_countSetups (setS ms 0 0) 1 = _ from r_cs (f := true) I.1 (I.code 0).2, bd_some, ct_eq I.1]
theorem ag_days (I : INV st ms) : ∃ r st' ms', f_X5_days st = some (r, st') ∧ f_X6_days ms = some (r, ms') ∧ INV st' ms' := by
  have e1 : ∀ n : Nat, nI n + 4 - 1 = nI n + 3 := fun n => by
    rw [show (4 : Int32) = nI 4 from rfl, show (3 : Int32) = nI 3 from rfl, nI_add, nI_add, nI_pred]
  have e2 : ∀ n : Nat, nI n + 20 - 1 = nI n + 19 := fun n => by
    rw [show (20 : Int32) = nI 20 from rfl, show (19 : Int32) = nI 19 from rfl, nI_add, nI_add, nI_pred]
  have h2 : (setS ms 0 0).1 2 = nI (xL st 1).length := (I.code 0).2.2.1
  refine ⟨if (nI (fb_ct (sS st false (xL st 1).length) 15) + 3) / 4 < (nI (xL st 1).length + 19) / 20 then (nI (xL st 1).length + 19) / 20 else (nI (fb_ct (sS st false (xL st 1).length) 15) + 3) / 4, st, setS ms 0 0, ?_, ?_, I.code 0⟩
  · rw [f_X5_days, show f_X5_setupCount st 0 = _ from p_set (f := false) I.1, bd_some, e1, e2]
  · rw [f_X6_days, show f_X6_countSetups (setS ms 0 0) 0 = _ from r_cs (f := false) I.1 (I.code 0).2, bd_some, ct_eq I.1, h2, f_X6_days_36, f_X6_days_36]
    generalize (nI (fb_ct (sS st false (xL st 1).length) 15) + 3) / 4 = a
    generalize (nI (xL st 1).length + 19) / 20 = b
    by_cases h : a < b
    · rw [if_pos h, bi_pos (Int32.le_of_lt h)]
    · rw [if_neg h]
      by_cases h3 : a ≤ b
      · rw [bi_pos h3]
        rw [Int32.le_iff_toInt_le] at h3
        rw [Int32.lt_iff_toInt_lt] at h
        rw [Int32.toInt_inj.mp (show a.toInt = b.toInt by omega)]
      · rw [bi_neg h3]
end B7
