theorem yc_240 : y_ckE yP0 yTY zTF yRC yGR yCTab yk_240 yh_240 6636 = true := by decide +kernel
theorem yd_240 : ∀ h ∈ yh_240, y_ckH yP0 yTY zTF yRC yGR yCTab yk_240 yh_240 6636 h = true := fun _ h => absurd h List.not_mem_nil
