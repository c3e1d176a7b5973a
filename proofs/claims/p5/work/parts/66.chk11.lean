theorem ycV_313 : y_ckE yP0 yTYV zTF yRC yGR yCTabV yk_313 yh_313 18312 = true := by decide +kernel
theorem yeV_313_0 : y_ckH yP0 yTYV zTF yRC yGR yCTabV yk_313 yh_313 18312 (yhg yh_313 0) = true := by decide +kernel
theorem yeV_313_1 : y_ckH yP0 yTYV zTF yRC yGR yCTabV yk_313 yh_313 18312 (yhg yh_313 1) = true := by decide +kernel
theorem ydV_313 : ∀ h ∈ yh_313, y_ckH yP0 yTYV zTF yRC yGR yCTabV yk_313 yh_313 18312 h = true := List.forall_mem_cons.mpr ⟨yeV_313_0, List.forall_mem_cons.mpr ⟨yeV_313_1, fun _ h => absurd h List.not_mem_nil⟩⟩
