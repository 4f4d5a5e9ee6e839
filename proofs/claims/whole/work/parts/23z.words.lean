theorem wx_nac : Cond.native arraycopyName ∈ TG := tg_3 79 (by decide +kernel) rfl
theorem wx_sac : Cond.static arraycopyName ∈ TG := tg_3 78 (by decide +kernel) rfl
theorem wx_ngc : Cond.native ⟨"java/lang/Object", "getClass", "()Ljava/lang/Class;"⟩ ∈ TG := tg_3 67 (by decide +kernel) rfl
theorem wx_igc : Cond.instanceMethod ⟨"java/lang/Object", "getClass", "()Ljava/lang/Class;"⟩ ∈ TG := tg_3 50 (by decide +kernel) rfl
theorem wx_sgc : Cond.selects "[Ljava/lang/Object;" ⟨"java/lang/Object", "getClass", "()Ljava/lang/Class;"⟩ ⟨"java/lang/Object", "getClass", "()Ljava/lang/Class;"⟩ ∈ TG := tg_7 209 (by decide +kernel) rfl
theorem wx_sf : Cond.sameField "java/util/ArrayList" "java/util/AbstractList" "modCount" "I" ∈ TG := tg_1 58 (by decide +kernel) rfl
theorem wx_ao : Cond.arrayOver (.object "java/lang/Object") ∈ lw_tbl := tg_t (by decide +kernel)
