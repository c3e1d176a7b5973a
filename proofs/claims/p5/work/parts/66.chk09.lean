theorem yc_242 : y_ckE yP0 yTY zTF yRC yGR yCTab yk_242 yh_242 13674 = true := by decide +kernel
theorem ye_242_0 : y_ckH yP0 yTY zTF yRC yGR yCTab yk_242 yh_242 13674 (yhg yh_242 0) = true := by decide +kernel
theorem ye_242_1 : y_ckH yP0 yTY zTF yRC yGR yCTab yk_242 yh_242 13674 (yhg yh_242 1) = true := by decide +kernel
theorem yd_242 : ∀ h ∈ yh_242, y_ckH yP0 yTY zTF yRC yGR yCTab yk_242 yh_242 13674 h = true := List.forall_mem_cons.mpr ⟨ye_242_0, List.forall_mem_cons.mpr ⟨ye_242_1, fun _ h => absurd h List.not_mem_nil⟩⟩
theorem ycV_242 : y_ckE yP0 yTYV zTF yRC yGR yCTabV yk_242 yh_242 13674 = true := by decide +kernel
theorem yeV_242_0 : y_ckH yP0 yTYV zTF yRC yGR yCTabV yk_242 yh_242 13674 (yhg yh_242 0) = true := by decide +kernel
theorem yeV_242_1 : y_ckH yP0 yTYV zTF yRC yGR yCTabV yk_242 yh_242 13674 (yhg yh_242 1) = true := by decide +kernel
theorem ydV_242 : ∀ h ∈ yh_242, y_ckH yP0 yTYV zTF yRC yGR yCTabV yk_242 yh_242 13674 h = true := List.forall_mem_cons.mpr ⟨yeV_242_0, List.forall_mem_cons.mpr ⟨yeV_242_1, fun _ h => absurd h List.not_mem_nil⟩⟩
