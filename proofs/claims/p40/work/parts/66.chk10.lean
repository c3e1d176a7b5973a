theorem yc_298 : y_ckE yP0 yTY zTF yRC yGR yCTab yk_298 yh_298 18312 = true := by decide +kernel
theorem ye_298_0 : y_ckH yP0 yTY zTF yRC yGR yCTab yk_298 yh_298 18312 (yhg yh_298 0) = true := by decide +kernel
theorem ye_298_1 : y_ckH yP0 yTY zTF yRC yGR yCTab yk_298 yh_298 18312 (yhg yh_298 1) = true := by decide +kernel
theorem yd_298 : ∀ h ∈ yh_298, y_ckH yP0 yTY zTF yRC yGR yCTab yk_298 yh_298 18312 h = true := List.forall_mem_cons.mpr ⟨ye_298_0, List.forall_mem_cons.mpr ⟨ye_298_1, fun _ h => absurd h List.not_mem_nil⟩⟩
