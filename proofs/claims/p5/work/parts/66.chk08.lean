theorem yc_283 : y_ckE yP0 yTY zTF yRC yGR yCTab yk_283 yh_283 10666 = true := by decide +kernel
theorem ye_283_0 : y_ckH yP0 yTY zTF yRC yGR yCTab yk_283 yh_283 10666 (yhg yh_283 0) = true := by decide +kernel
theorem ye_283_1 : y_ckH yP0 yTY zTF yRC yGR yCTab yk_283 yh_283 10666 (yhg yh_283 1) = true := by decide +kernel
theorem ye_283_2 : y_ckH yP0 yTY zTF yRC yGR yCTab yk_283 yh_283 10666 (yhg yh_283 2) = true := by decide +kernel
theorem ye_283_3 : y_ckH yP0 yTY zTF yRC yGR yCTab yk_283 yh_283 10666 (yhg yh_283 3) = true := by decide +kernel
theorem ye_283_4 : y_ckH yP0 yTY zTF yRC yGR yCTab yk_283 yh_283 10666 (yhg yh_283 4) = true := by decide +kernel
theorem ye_283_5 : y_ckH yP0 yTY zTF yRC yGR yCTab yk_283 yh_283 10666 (yhg yh_283 5) = true := by decide +kernel
theorem yd_283 : ∀ h ∈ yh_283, y_ckH yP0 yTY zTF yRC yGR yCTab yk_283 yh_283 10666 h = true := List.forall_mem_cons.mpr ⟨ye_283_0, List.forall_mem_cons.mpr ⟨ye_283_1, List.forall_mem_cons.mpr ⟨ye_283_2, List.forall_mem_cons.mpr ⟨ye_283_3, List.forall_mem_cons.mpr ⟨ye_283_4, List.forall_mem_cons.mpr ⟨ye_283_5, fun _ h => absurd h List.not_mem_nil⟩⟩⟩⟩⟩⟩
