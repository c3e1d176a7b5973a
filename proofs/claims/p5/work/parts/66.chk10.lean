theorem yc_281 : y_ckE yP0 yTY zTF yRC yGR yCTab yk_281 yh_281 16470 = true := by decide +kernel
theorem yd_281 : ∀ h ∈ yh_281, y_ckH yP0 yTY zTF yRC yGR yCTab yk_281 yh_281 16470 h = true := fun _ h => absurd h List.not_mem_nil
theorem ycV_281 : y_ckE yP0 yTYV zTF yRC yGR yCTabV yk_281 yh_281 16470 = true := by decide +kernel
theorem ydV_281 : ∀ h ∈ yh_281, y_ckH yP0 yTYV zTF yRC yGR yCTabV yk_281 yh_281 16470 h = true := fun _ h => absurd h List.not_mem_nil
