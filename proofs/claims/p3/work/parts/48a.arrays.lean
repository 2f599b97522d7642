theorem kNat : Cond.native ⟨"java/lang/System", "arraycopy", "(Ljava/lang/Object;ILjava/lang/Object;II)V"⟩ ∈ lw_g := lg_mem 611 (by decide +kernel) rfl
theorem kSame : Cond.sameMethod "[B" "java/lang/Object" "clone" "()Ljava/lang/Object;" ∈ lw_g := lg_mem 600 (by decide +kernel) rfl
theorem kNatC : Cond.native ⟨"java/lang/Object", "clone", "()Ljava/lang/Object;"⟩ ∈ lw_g := lg_mem 601 (by decide +kernel) rfl
theorem kInsC : Cond.instanceMethod ⟨"java/lang/Object", "clone", "()Ljava/lang/Object;"⟩ ∈ lw_g := lg_mem 602 (by decide +kernel) rfl
theorem kSelC : Cond.selects "[B" ⟨"[B", "clone", "()Ljava/lang/Object;"⟩ ⟨"java/lang/Object", "clone", "()Ljava/lang/Object;"⟩ ∈ lw_g := lg_mem 603 (by decide +kernel) rfl
theorem kIniS : Cond.initialized "java/lang/System" ∈ lw_g := lg_mem 138 (by decide +kernel) rfl