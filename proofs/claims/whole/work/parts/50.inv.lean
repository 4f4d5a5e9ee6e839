/-! What holds between two calls: of the class's state, and between it and the reference's. -/
def CH (x : Int32) : Prop := narrow .char (.int x) = .int x ∧ fits .char (.int x) = true
def isLCR (x : Int32) : Prop := x = 108 ∨ x = 99 ∨ x = 114
def isEdg (x : Int32) : Prop := x = 108 ∨ x = 114 ∨ x = 45
def COK (st : XS) (i c : Nat) : Prop := (xR st 0 i c = 45 ∧ xR st 1 i c = 45 ∧ xR st 2 i c = 45 ∧ xR st 3 i c = 45) ∨ (isLCR (xR st 0 i c) ∧ isLCR (xR st 1 i c) ∧ isEdg (xR st 2 i c) ∧ isEdg (xR st 3 i c))
def SOK (st : XS) (i : Nat) : Prop :=
  (xF st 1 i 3 = 115 ∨ xF st 1 i 3 = 110 ∨ xF st 1 i 3 = 48) ∧ (0 ≤ xF st 1 i 4 ∧ xF st 1 i 4 < 5) ∧ (1 ≤ xF st 1 i 5 ∧ xF st 1 i 5 ≤ 240) ∧ (xF st 1 i 8 = 45 ∨ (65 ≤ xF st 1 i 8 ∧ xF st 1 i 8 ≤ 70)) ∧ (xF st 1 i 7 = -1 ∨ 0 ≤ xF st 1 i 7) ∧
  (xF st 1 i 11 = 0 ∨ xF st 1 i 11 = 1) ∧ (xF st 2 i 0 = 45 ∨ xF st 2 i 0 = 120 ∨ xF st 2 i 0 = 106 ∨ xF st 2 i 0 = 103 ∨ xF st 2 i 0 = 101 ∨ xF st 2 i 0 = 109) ∧ ∀ c, c < 4 → COK st i c
def NOK (st : XS) : Prop := (xF st 0 0 4 = 0 → ∀ i, i < xN st 0 → xF st 1 i 7 = -1 ∧ xF st 1 i 8 = 45) ∧ (xF st 0 0 4 ≠ 0 → (∀ x ∈ xL st 1, 0 ≤ xF st 1 x 7) ∧ ∀ x ∈ xL st 1, ∀ y, y < xN st 0 → y ≠ x → ¬ (xF st 1 y 7 = xF st 1 x 7 ∧ xF st 1 y 8 = xF st 1 x 8))
def BI (st : XS) : Prop :=
  xL st 0 = List.range (xN st 0) ∧ xN st 0 ≤ 24 ∧ (xL st 1).Nodup ∧ (∀ x ∈ xL st 1, x < xN st 0) ∧ xL st 2 = List.range (xN st 1) ∧ xN st 1 ≤ 40 ∧ (∀ i, i < xN st 1 → xU st i < xN st 0) ∧ (∀ i, i < xN st 0 → SOK st i) ∧ (∀ i, i < xN st 1 → xF st 3 i 2 = 111 ∨ xF st 3 i 2 = 100 ∨ xF st 3 i 2 = 114) ∧ (xF st 0 0 4 = 0 ∨ xF st 0 0 4 = 1) ∧ NOK st
/-- a shot's numbers, both ways -/
def RS (st : XS) (ms : MS) (i : Nat) : Prop :=
  ms.2 4 i = xF st 1 i 3 ∧ ms.2 5 i = xF st 1 i 4 ∧ ms.2 6 i = xF st 1 i 5 ∧ ms.2 7 i = xF st 1 i 6 ∧ ms.2 8 i = xF st 1 i 11 ∧ ms.2 9 i = xF st 1 i 7 ∧ ms.2 10 i = xF st 1 i 8 ∧ ms.2 16 i = xF st 2 i 0 ∧ ms.2 17 i = xF st 2 i 1 ∧ ms.2 18 i = xF st 2 i 2 ∧ ms.2 19 i = xF st 2 i 3 ∧ ms.2 20 i = xF st 1 i 9 ∧ ms.2 21 i = xF st 1 i 10 ∧
  ∀ c, c < 4 → ms.2 11 (4 * i + c) = xR st 0 i c ∧ ms.2 12 (4 * i + c) = xR st 1 i c ∧ ms.2 13 (4 * i + c) = xR st 2 i c ∧ ms.2 14 (4 * i + c) = xR st 3 i c
/-- a place that is not yet made, in the reference -/
def RZ (ms : MS) (i : Nat) : Prop := ms.2 7 i = 0 ∧ ms.2 8 i = 0 ∧ ms.2 17 i = 0 ∧ ms.2 18 i = 0 ∧ ms.2 19 i = 0 ∧ ms.2 21 i = 0
def RE (st : XS) (ms : MS) : Prop :=
  ms.1 1 = nI (xN st 0) ∧ ms.1 2 = nI (xL st 1).length ∧ ms.1 15 = xF st 0 0 4 ∧ ms.1 22 = xF st 0 0 5 ∧ ms.1 23 = nI (xN st 1) ∧ (∀ t, t < (xL st 1).length → ms.2 3 t = nI ((xL st 1).getD t 0)) ∧ (∀ i, i < xN st 0 → RS st ms i) ∧ (∀ i, xN st 0 ≤ i → RZ ms i) ∧
  (∀ i, i < xN st 1 → ms.2 24 i = nI (xU st i) ∧ ms.2 25 i = xF st 3 i 1 ∧ ms.2 26 i = xF st 3 i 2) ∧ ∀ i, i < 6 → ms.2 29 i = 0
def INV (st : XS) (ms : MS) : Prop := BI st ∧ RE st ms
