/-! The worlds that the two constructors leave. -/
def st00 : XS := (fun _ _ _ => 0, fun _ _ _ => 0, fun _ => [], fun _ => 0, fun _ => 0)
def ms00 : MS := (fun _ => 0, fun _ _ => 0)
def ad00 (e0 mi q : Nat) (qs : Nat → Nat) : AD := fun k i => match k with | 0 => q | 9 => qs 3 | 10 => qs 4 | 11 => qs 5 | 12 => qs 6 | 13 => qs i | 15 => e0 | _ => mi
def am00 (q : Nat) (qs : Nat → Nat) : Nat → Nat := fun k => if k = 0 then q else if k < 15 then qs (k - 3) else if k < 22 then qs (k - 4) else qs (k - 6)
def gh00 : LG := fun _ => (0, 0, 0, fun _ => none)
def ceX (G : GG) (e0 q : Nat) (qs : Nat → Nat) : va_W := [(q, .inr (6, [.ref (qs 0), .ref (qs 1), .ref (qs 2), .ref (qs 3), .int 0, .int 0])), ((qs 0), .inr (0, [.int 0, .ref e0, .int 0])), ((qs 1), .inr (0, [.int 0, .ref e0, .int 0])), ((qs 2), .inr (0, [.int 0, .ref e0, .int 0])), ((qs 3), .inr (3, [.ref (qs 4), .ref (qs 5), .ref (qs 6), .int 0])), ((qs 4), .inl (G.2 2, 36, .inl (fun _ => 0))), ((qs 5), .inl (G.2 0, 384, .inl (fun _ => 0))), ((qs 6), .inl (G.2 0, 384, .inl (fun _ => 0)))]
def ixX (z : Nat × Nat) : Nat := match z.1 with | 0 => 0 | 9 => 4 | 10 => 5 | 11 => 6 | 12 => 7 | _ => z.2 + 1
theorem vx00 {z : Nat × Nat} (h : VX st00 gh00 z) : z = (0, 0) ∨ z = (9, 0) ∨ z = (10, 0) ∨ z = (11, 0) ∨ z = (12, 0) ∨ z = (13, 0) ∨ z = (13, 1) ∨ z = (13, 2) := by
  obtain ⟨k, i⟩ := z
  rcases h with h | h | h
  · rcases h with ⟨h1, h2⟩ | ⟨-, -, h3⟩ | ⟨-, h3⟩ | ⟨h1, h2, h3⟩
    · dsimp only at h1 h2
      subst h1
      subst h2
      exact Or.inl rfl
    · exact absurd h3 (Nat.not_lt_zero _)
    · exact absurd h3 (Nat.not_lt_zero _)
    · dsimp only at h1 h2 h3
      subst h3
      rcases (show k = 9 ∨ k = 10 ∨ k = 11 ∨ k = 12 by omega) with rfl | rfl | rfl | rfl <;> simp
  · obtain ⟨h1, h2⟩ := h
    dsimp only at h1 h2
    subst h1
    rcases (show i = 0 ∨ i = 1 ∨ i = 2 by omega) with rfl | rfl | rfl <;> simp
  · exact absurd rfl h.2.2
theorem ceX_at {G : GG} {e0 mi q : Nat} {qs : Nat → Nat} {z : Nat × Nat} (h : VX st00 gh00 z) : (ceX G e0 q qs)[ixX z]? = some (adx (ad00 e0 mi q qs) gh00 z, enX G (ad00 e0 mi q qs) gh00 st00 z) := by
  rcases vx00 h with rfl | rfl | rfl | rfl | rfl | rfl | rfl | rfl <;> simp [ceX, ixX, adx, ad00, enX, fTR, fOr, xF, xR, xL, st00, gh00, nI_0]
theorem ixX_inj {z y : Nat × Nat} (h : VX st00 gh00 z) (h' : VX st00 gh00 y) (e : ixX z = ixX y) : z = y := by
  rcases vx00 h with rfl | rfl | rfl | rfl | rfl | rfl | rfl | rfl <;> rcases vx00 h' with rfl | rfl | rfl | rfl | rfl | rfl | rfl | rfl <;> first | rfl | (simp [ixX] at e)
theorem xw_first {G : GG} {A : Nat → Prop} {e0 mi q : Nat} {qs : Nat → Nat} {H : Heap} (hP : va_P G.1 vwCl (ceX G e0 q qs) H) (hD : va_D A (ceX G e0 q qs)) : XW G A (ad00 e0 mi q qs) st00 H := by
  refine ⟨gh00, ⟨fun z hz => ⟨hP _ _ (ceX_at hz), hD.2 _ _ (ceX_at (mi := mi) hz)⟩, fun x y hx hy hxy => ixX_inj hx hy (hD.1 _ _ _ _ (ceX_at (mi := mi) hx) (ceX_at (mi := mi) hy) hxy)⟩, ?_, ?_⟩
  · intro j hj
    refine ⟨Nat.zero_le _, Nat.zero_le _, fun t ht => absurd ht (Nat.not_lt_zero _), fun t _ => rfl, fun h => absurd rfl h, fun x hx => ?_⟩
    cases hx
  · intro i hi
    exact absurd hi (Nat.not_lt_zero _)
def ceM (G : GG) (q : Nat) (qs : Nat → Nat) : va_W := [(q, .inr (7, [.int 0, .int 0, .int 0, .ref (qs 0), .ref (qs 1), .ref (qs 2), .ref (qs 3), .ref (qs 4), .ref (qs 5), .ref (qs 6), .ref (qs 7), .ref (qs 8), .ref (qs 9), .ref (qs 10), .ref (qs 11), .int 0, .ref (qs 12), .ref (qs 13), .ref (qs 14), .ref (qs 15), .ref (qs 16), .ref (qs 17), .int 0, .int 0, .ref (qs 18), .ref (qs 19), .ref (qs 20), .ref (qs 21), .ref (qs 22), .ref (qs 23)])), ((qs 0), .inl (G.2 0, 24, .inl (fun _ => 0))), ((qs 1), .inl (G.2 1, 24, .inl (fun _ => 0))), ((qs 2), .inl (G.2 0, 24, .inl (fun _ => 0))), ((qs 3), .inl (G.2 0, 24, .inl (fun _ => 0))), ((qs 4), .inl (G.2 0, 24, .inl (fun _ => 0))), ((qs 5), .inl (G.2 2, 24, .inl (fun _ => 0))), ((qs 6), .inl (G.2 0, 24, .inl (fun _ => 0))), ((qs 7), .inl (G.2 1, 24, .inl (fun _ => 0))), ((qs 8), .inl (G.2 1, 96, .inl (fun _ => 0))), ((qs 9), .inl (G.2 1, 96, .inl (fun _ => 0))), ((qs 10), .inl (G.2 1, 96, .inl (fun _ => 0))), ((qs 11), .inl (G.2 1, 96, .inl (fun _ => 0))), ((qs 12), .inl (G.2 1, 24, .inl (fun _ => 0))), ((qs 13), .inl (G.2 0, 24, .inl (fun _ => 0))), ((qs 14), .inl (G.2 0, 24, .inl (fun _ => 0))), ((qs 15), .inl (G.2 0, 24, .inl (fun _ => 0))), ((qs 16), .inl (G.2 0, 24, .inl (fun _ => 0))), ((qs 17), .inl (G.2 0, 24, .inl (fun _ => 0))), ((qs 18), .inl (G.2 0, 40, .inl (fun _ => 0))), ((qs 19), .inl (G.2 0, 40, .inl (fun _ => 0))), ((qs 20), .inl (G.2 1, 40, .inl (fun _ => 0))), ((qs 21), .inl (G.2 0, 6, .inl (fun _ => 0))), ((qs 22), .inl (G.2 0, 6, .inl (fun _ => 0))), ((qs 23), .inl (G.2 2, 6, .inl (fun _ => 0)))]
def ixM (k : Nat) : Nat := if k = 0 then 0 else if k < 15 then k - 2 else if k < 22 then k - 3 else k - 5
theorem vm00 {k : Nat} (h : VM k) : k ∈ [0, 3, 4, 5, 6, 7, 8, 9, 10, 11, 12, 13, 14, 16, 17, 18, 19, 20, 21, 24, 25, 26, 27, 28, 29] := by
  simp only [List.mem_cons, List.not_mem_nil, or_false]
  rcases h with rfl | ⟨h1, h2, h3, h4, h5⟩ <;> omega
theorem ceM_at {G : GG} {q : Nat} {qs : Nat → Nat} {k : Nat} (h : VM k) : (ceM G q qs)[ixM k]? = some (am00 q qs k, enM G (am00 q qs) ms00 k) := by
  have := vm00 h
  simp only [List.mem_cons, List.not_mem_nil, or_false] at this
  rcases this with rfl | rfl | rfl | rfl | rfl | rfl | rfl | rfl | rfl | rfl | rfl | rfl | rfl | rfl | rfl | rfl | rfl | rfl | rfl | rfl | rfl | rfl | rfl | rfl | rfl <;> rfl
theorem ixM_inj {k j : Nat} (h : VM k) (h' : VM j) (e : ixM k = ixM j) : k = j := by
  unfold ixM at e
  rcases h with rfl | ⟨h1, h2, h3, h4, h5⟩ <;> rcases h' with rfl | ⟨g1, g2, g3, g4, g5⟩ <;> (repeat' split at e) <;> omega
theorem mw_first {G : GG} {A : Nat → Prop} {q : Nat} {qs : Nat → Nat} {H : Heap} (hP : va_P G.1 vwCl (ceM G q qs) H) (hD : va_D A (ceM G q qs)) : MW G A (am00 q qs) ms00 H :=
  ⟨fun z hz => ⟨hP _ _ (ceM_at hz), hD.2 _ _ (ceM_at hz)⟩, fun _ _ hx hy hxy => ixM_inj hx hy (hD.1 _ _ _ _ (ceM_at hx) (ceM_at hy) hxy)⟩
theorem inv00 : INV st00 ms00 := by
  refine ⟨⟨rfl, by show 0 ≤ 24; omega, List.nodup_nil, fun x hx => (by cases hx), rfl, by show 0 ≤ 40; omega, fun i hi => absurd hi (Nat.not_lt_zero _), fun i hi => absurd hi (Nat.not_lt_zero _), fun i hi => absurd hi (Nat.not_lt_zero _), Or.inl rfl, fun _ i hi => absurd hi (Nat.not_lt_zero _), fun h => absurd rfl h⟩, ?_⟩
  exact ⟨nI_0.symm, nI_0.symm, rfl, rfl, nI_0.symm, fun t ht => absurd ht (Nat.not_lt_zero _), fun i hi => absurd hi (Nat.not_lt_zero _), fun i _ => ⟨rfl, rfl, rfl, rfl, rfl, rfl⟩, fun i hi => absurd hi (Nat.not_lt_zero _), fun i _ => rfl⟩
