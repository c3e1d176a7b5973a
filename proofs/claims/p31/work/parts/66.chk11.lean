theorem yc_313 : y_ckE yP0 yTY zTF yRC yGR yCTab yk_313 yh_313 18312 = true := by decide +kernel
theorem ye_313_0 : y_ckH yP0 yTY zTF yRC yGR yCTab yk_313 yh_313 18312 (yhg yh_313 0) = true := by decide +kernel
theorem ye_313_1 : y_ckH yP0 yTY zTF yRC yGR yCTab yk_313 yh_313 18312 (yhg yh_313 1) = true := by decide +kernel
theorem yd_313 : ∀ h ∈ yh_313, y_ckH yP0 yTY zTF yRC yGR yCTab yk_313 yh_313 18312 h = true := List.forall_mem_cons.mpr ⟨ye_313_0, List.forall_mem_cons.mpr ⟨ye_313_1, fun _ h => absurd h List.not_mem_nil⟩⟩
