theorem ycV_20 : y_ckE yP0 yTYV zTF yRC yGR yCTabV yk_20 yh_20 1948 = true := by decide +kernel
theorem ydV_20 : ∀ h ∈ yh_20, y_ckH yP0 yTYV zTF yRC yGR yCTabV yk_20 yh_20 1948 h = true := List.forall_mem_cons.mpr ⟨by decide +kernel, fun _ h => absurd h List.not_mem_nil⟩
theorem ycV_343 : y_ckE yP0 yTYV zTF yRC yGR yCTabV yk_343 yh_343 2168 = true := by decide +kernel
theorem ydV_343 : ∀ h ∈ yh_343, y_ckH yP0 yTYV zTF yRC yGR yCTabV yk_343 yh_343 2168 h = true := fun _ h => absurd h List.not_mem_nil
theorem ycV_314 : y_ckE yP0 yTYV zTF yRC yGR yCTabV yk_314 yh_314 2192 = true := by decide +kernel
theorem ydV_314 : ∀ h ∈ yh_314, y_ckH yP0 yTYV zTF yRC yGR yCTabV yk_314 yh_314 2192 h = true := fun _ h => absurd h List.not_mem_nil
theorem ycV_315 : y_ckE yP0 yTYV zTF yRC yGR yCTabV yk_315 yh_315 2192 = true := by decide +kernel
theorem ydV_315 : ∀ h ∈ yh_315, y_ckH yP0 yTYV zTF yRC yGR yCTabV yk_315 yh_315 2192 h = true := fun _ h => absurd h List.not_mem_nil
theorem ycV_319 : y_ckE yP0 yTYV zTF yRC yGR yCTabV yk_319 yh_319 3490 = true := by decide +kernel
theorem ydV_319 : ∀ h ∈ yh_319, y_ckH yP0 yTYV zTF yRC yGR yCTabV yk_319 yh_319 3490 h = true := List.forall_mem_cons.mpr ⟨by decide +kernel, fun _ h => absurd h List.not_mem_nil⟩
