theorem yc_273 : y_ckE yP0 yTY zTF yRC yGR yCTab yk_273 yh_273 10666 = true := by decide +kernel
theorem ye_273_0 : y_ckH yP0 yTY zTF yRC yGR yCTab yk_273 yh_273 10666 (yhg yh_273 0) = true := by decide +kernel
theorem ye_273_1 : y_ckH yP0 yTY zTF yRC yGR yCTab yk_273 yh_273 10666 (yhg yh_273 1) = true := by decide +kernel
theorem ye_273_2 : y_ckH yP0 yTY zTF yRC yGR yCTab yk_273 yh_273 10666 (yhg yh_273 2) = true := by decide +kernel
theorem ye_273_3 : y_ckH yP0 yTY zTF yRC yGR yCTab yk_273 yh_273 10666 (yhg yh_273 3) = true := by decide +kernel
theorem ye_273_4 : y_ckH yP0 yTY zTF yRC yGR yCTab yk_273 yh_273 10666 (yhg yh_273 4) = true := by decide +kernel
theorem ye_273_5 : y_ckH yP0 yTY zTF yRC yGR yCTab yk_273 yh_273 10666 (yhg yh_273 5) = true := by decide +kernel
theorem yd_273 : ∀ h ∈ yh_273, y_ckH yP0 yTY zTF yRC yGR yCTab yk_273 yh_273 10666 h = true := List.forall_mem_cons.mpr ⟨ye_273_0, List.forall_mem_cons.mpr ⟨ye_273_1, List.forall_mem_cons.mpr ⟨ye_273_2, List.forall_mem_cons.mpr ⟨ye_273_3, List.forall_mem_cons.mpr ⟨ye_273_4, List.forall_mem_cons.mpr ⟨ye_273_5, fun _ h => absurd h List.not_mem_nil⟩⟩⟩⟩⟩⟩
