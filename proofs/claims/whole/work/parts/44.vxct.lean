/-! METHODS THAT MAY THROW -/
abbrev IAE : String := "java/lang/IllegalArgumentException"
abbrev ISE : String := "java/lang/IllegalStateException"
abbrev exN : List String := ["java/lang/RuntimeException", "java/lang/Exception"]
abbrev wXA : List Cond := vx_atS R_bk 51 IAE exN
abbrev wXS : List Cond := vx_atS R_bk 62 ISE exN
/-- the words of a throw that don't last by themselves -/
abbrev wXB : List Cond := [.declares ⟨"java/lang/RuntimeException", "<init>", "(Ljava/lang/String;)V"⟩, .declares ⟨"java/lang/Exception", "<init>", "(Ljava/lang/String;)V"⟩, .declares ⟨"java/lang/Throwable", "<init>", "(Ljava/lang/String;)V"⟩, .castable IAE IAE, .castable ISE ISE]
theorem wXA_g : ∀ w ∈ wXA.filter goodWord, w ∈ lw_tbl := by decide +kernel
theorem wXS_g : ∀ w ∈ wXS.filter goodWord, w ∈ lw_tbl := by decide +kernel
theorem wXA_b : ∀ w ∈ wXA.filter (fun w => !goodWord w), w ∈ wXB := by decide +kernel
theorem wXS_b : ∀ w ∈ wXS.filter (fun w => !goodWord w), w ∈ wXB := by decide +kernel
theorem wXA_o : ∀ w ∈ Cond.classLink R_bk 47 IAE :: Cond.initialized IAE :: wXA, vx_ot w = true := by decide +kernel
theorem wXS_o : ∀ w ∈ Cond.classLink R_bk 58 ISE :: Cond.initialized ISE :: wXS, vx_ot w = true := by decide +kernel
