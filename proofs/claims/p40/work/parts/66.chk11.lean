theorem yc_297 : y_ckE yP0 yTY zTF yRC yGR yCTab yk_297 yh_297 30208 = true := by decide +kernel
theorem ye_297_0 : y_ckH yP0 yTY zTF yRC yGR yCTab yk_297 yh_297 30208 (yhg yh_297 0) = true := by decide +kernel
theorem ye_297_1 : y_ckH yP0 yTY zTF yRC yGR yCTab yk_297 yh_297 30208 (yhg yh_297 1) = true := by decide +kernel
theorem ye_297_2 : y_ckH yP0 yTY zTF yRC yGR yCTab yk_297 yh_297 30208 (yhg yh_297 2) = true := by decide +kernel
theorem ye_297_3 : y_ckH yP0 yTY zTF yRC yGR yCTab yk_297 yh_297 30208 (yhg yh_297 3) = true := by decide +kernel
theorem ye_297_4 : y_ckH yP0 yTY zTF yRC yGR yCTab yk_297 yh_297 30208 (yhg yh_297 4) = true := by decide +kernel
theorem ye_297_5 : y_ckH yP0 yTY zTF yRC yGR yCTab yk_297 yh_297 30208 (yhg yh_297 5) = true := by decide +kernel
theorem ye_297_6 : y_ckH yP0 yTY zTF yRC yGR yCTab yk_297 yh_297 30208 (yhg yh_297 6) = true := by decide +kernel
theorem ye_297_7 : y_ckH yP0 yTY zTF yRC yGR yCTab yk_297 yh_297 30208 (yhg yh_297 7) = true := by decide +kernel
theorem ye_297_8 : y_ckH yP0 yTY zTF yRC yGR yCTab yk_297 yh_297 30208 (yhg yh_297 8) = true := by decide +kernel
theorem ye_297_9 : y_ckH yP0 yTY zTF yRC yGR yCTab yk_297 yh_297 30208 (yhg yh_297 9) = true := by decide +kernel
theorem ye_297_10 : y_ckH yP0 yTY zTF yRC yGR yCTab yk_297 yh_297 30208 (yhg yh_297 10) = true := by decide +kernel
theorem yd_297 : ∀ h ∈ yh_297, y_ckH yP0 yTY zTF yRC yGR yCTab yk_297 yh_297 30208 h = true := List.forall_mem_cons.mpr ⟨ye_297_0, List.forall_mem_cons.mpr ⟨ye_297_1, List.forall_mem_cons.mpr ⟨ye_297_2, List.forall_mem_cons.mpr ⟨ye_297_3, List.forall_mem_cons.mpr ⟨ye_297_4, List.forall_mem_cons.mpr ⟨ye_297_5, List.forall_mem_cons.mpr ⟨ye_297_6, List.forall_mem_cons.mpr ⟨ye_297_7, List.forall_mem_cons.mpr ⟨ye_297_8, List.forall_mem_cons.mpr ⟨ye_297_9, List.forall_mem_cons.mpr ⟨ye_297_10, fun _ h => absurd h List.not_mem_nil⟩⟩⟩⟩⟩⟩⟩⟩⟩⟩⟩
