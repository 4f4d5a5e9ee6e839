/-! The agreements, call by call. -/
theorem ag_orders {st : XS} {ms : MS} (I : INV st ms) : ∃ r st' b ms', f_X5_orders st = some (r, st') ∧ f_X6_orders ms = some (b, ms') ∧ INV st' ms' ∧ (∀ k, r = .inl k → k ∈ [1]) ∧ ms'.1 0 = lwc [1] r ∧ ∀ x, r = .inr x → x = b := by
  sorry
theorem ag_best {st : XS} {ms : MS} (I : INV st ms) : ∃ r st' b ms', f_X5_best st = some (r, st') ∧ f_X6_best ms = some (b, ms') ∧ INV st' ms' ∧ (∀ k, r = .inl k → k ∈ [1]) ∧ ms'.1 0 = lwc [1] r ∧ ∀ x, r = .inr x → x = b := by
  sorry
