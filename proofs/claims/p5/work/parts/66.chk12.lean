theorem ycV_312 : y_ckE yP0 yTYV zTF yRC yGR yCTabV yk_312 yh_312 30208 = true := by decide +kernel
theorem yeV_312_0 : y_ckH yP0 yTYV zTF yRC yGR yCTabV yk_312 yh_312 30208 (yhg yh_312 0) = true := by decide +kernel
theorem yeV_312_1 : y_ckH yP0 yTYV zTF yRC yGR yCTabV yk_312 yh_312 30208 (yhg yh_312 1) = true := by decide +kernel
theorem yeV_312_2 : y_ckH yP0 yTYV zTF yRC yGR yCTabV yk_312 yh_312 30208 (yhg yh_312 2) = true := by decide +kernel
theorem yeV_312_3 : y_ckH yP0 yTYV zTF yRC yGR yCTabV yk_312 yh_312 30208 (yhg yh_312 3) = true := by decide +kernel
theorem yeV_312_4 : y_ckH yP0 yTYV zTF yRC yGR yCTabV yk_312 yh_312 30208 (yhg yh_312 4) = true := by decide +kernel
theorem yeV_312_5 : y_ckH yP0 yTYV zTF yRC yGR yCTabV yk_312 yh_312 30208 (yhg yh_312 5) = true := by decide +kernel
theorem yeV_312_6 : y_ckH yP0 yTYV zTF yRC yGR yCTabV yk_312 yh_312 30208 (yhg yh_312 6) = true := by decide +kernel
theorem yeV_312_7 : y_ckH yP0 yTYV zTF yRC yGR yCTabV yk_312 yh_312 30208 (yhg yh_312 7) = true := by decide +kernel
theorem yeV_312_8 : y_ckH yP0 yTYV zTF yRC yGR yCTabV yk_312 yh_312 30208 (yhg yh_312 8) = true := by decide +kernel
theorem yeV_312_9 : y_ckH yP0 yTYV zTF yRC yGR yCTabV yk_312 yh_312 30208 (yhg yh_312 9) = true := by decide +kernel
theorem yeV_312_10 : y_ckH yP0 yTYV zTF yRC yGR yCTabV yk_312 yh_312 30208 (yhg yh_312 10) = true := by decide +kernel
theorem ydV_312 : ∀ h ∈ yh_312, y_ckH yP0 yTYV zTF yRC yGR yCTabV yk_312 yh_312 30208 h = true := List.forall_mem_cons.mpr ⟨yeV_312_0, List.forall_mem_cons.mpr ⟨yeV_312_1, List.forall_mem_cons.mpr ⟨yeV_312_2, List.forall_mem_cons.mpr ⟨yeV_312_3, List.forall_mem_cons.mpr ⟨yeV_312_4, List.forall_mem_cons.mpr ⟨yeV_312_5, List.forall_mem_cons.mpr ⟨yeV_312_6, List.forall_mem_cons.mpr ⟨yeV_312_7, List.forall_mem_cons.mpr ⟨yeV_312_8, List.forall_mem_cons.mpr ⟨yeV_312_9, List.forall_mem_cons.mpr ⟨yeV_312_10, fun _ h => absurd h List.not_mem_nil⟩⟩⟩⟩⟩⟩⟩⟩⟩⟩⟩
