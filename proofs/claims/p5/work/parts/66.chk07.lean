theorem ycV_240 : y_ckE yP0 yTYV zTF yRC yGR yCTabV yk_240 yh_240 6636 = true := by decide +kernel
theorem ydV_240 : ∀ h ∈ yh_240, y_ckH yP0 yTYV zTF yRC yGR yCTabV yk_240 yh_240 6636 h = true := fun _ h => absurd h List.not_mem_nil
