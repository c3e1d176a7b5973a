theorem yc_282 : y_ckE yP0 yTY zTF yRC yGR yCTab yk_282 yh_282 1452 = true := by decide +kernel
theorem yd_282 : ∀ h ∈ yh_282, y_ckH yP0 yTY zTF yRC yGR yCTab yk_282 yh_282 1452 h = true := List.forall_mem_cons.mpr ⟨by decide +kernel, fun _ h => absurd h List.not_mem_nil⟩
theorem yc_241 : y_ckE yP0 yTY zTF yRC yGR yCTab yk_241 yh_241 1782 = true := by decide +kernel
theorem yd_241 : ∀ h ∈ yh_241, y_ckH yP0 yTY zTF yRC yGR yCTab yk_241 yh_241 1782 h = true := fun _ h => absurd h List.not_mem_nil
theorem ycV_238 : y_ckE yP0 yTYV zTF yRC yGR yCTabV yk_238 yh_238 1368 = true := by decide +kernel
theorem ydV_238 : ∀ h ∈ yh_238, y_ckH yP0 yTYV zTF yRC yGR yCTabV yk_238 yh_238 1368 h = true := fun _ h => absurd h List.not_mem_nil
theorem ycV_228 : y_ckE yP0 yTYV zTF yRC yGR yCTabV yk_228 yh_228 1382 = true := by decide +kernel
theorem ydV_228 : ∀ h ∈ yh_228, y_ckH yP0 yTYV zTF yRC yGR yCTabV yk_228 yh_228 1382 h = true := fun _ h => absurd h List.not_mem_nil
theorem ycV_207 : y_ckE yP0 yTYV zTF yRC yGR yCTabV yk_207 yh_207 1410 = true := by decide +kernel
theorem ydV_207 : ∀ h ∈ yh_207, y_ckH yP0 yTYV zTF yRC yGR yCTabV yk_207 yh_207 1410 h = true := fun _ h => absurd h List.not_mem_nil
theorem ycV_282 : y_ckE yP0 yTYV zTF yRC yGR yCTabV yk_282 yh_282 1452 = true := by decide +kernel
theorem ydV_282 : ∀ h ∈ yh_282, y_ckH yP0 yTYV zTF yRC yGR yCTabV yk_282 yh_282 1452 h = true := List.forall_mem_cons.mpr ⟨by decide +kernel, fun _ h => absurd h List.not_mem_nil⟩
theorem ycV_230 : y_ckE yP0 yTYV zTF yRC yGR yCTabV yk_230 yh_230 1484 = true := by decide +kernel
theorem ydV_230 : ∀ h ∈ yh_230, y_ckH yP0 yTYV zTF yRC yGR yCTabV yk_230 yh_230 1484 h = true := fun _ h => absurd h List.not_mem_nil
theorem ycV_204 : y_ckE yP0 yTYV zTF yRC yGR yCTabV yk_204 yh_204 1584 = true := by decide +kernel
theorem ydV_204 : ∀ h ∈ yh_204, y_ckH yP0 yTYV zTF yRC yGR yCTabV yk_204 yh_204 1584 h = true := fun _ h => absurd h List.not_mem_nil
theorem ycV_205 : y_ckE yP0 yTYV zTF yRC yGR yCTabV yk_205 yh_205 1584 = true := by decide +kernel
theorem ydV_205 : ∀ h ∈ yh_205, y_ckH yP0 yTYV zTF yRC yGR yCTabV yk_205 yh_205 1584 h = true := fun _ h => absurd h List.not_mem_nil
theorem ycV_206 : y_ckE yP0 yTYV zTF yRC yGR yCTabV yk_206 yh_206 1584 = true := by decide +kernel
theorem ydV_206 : ∀ h ∈ yh_206, y_ckH yP0 yTYV zTF yRC yGR yCTabV yk_206 yh_206 1584 h = true := fun _ h => absurd h List.not_mem_nil
theorem ycV_90 : y_ckE yP0 yTYV zTF yRC yGR yCTabV yk_90 yh_90 1602 = true := by decide +kernel
theorem ydV_90 : ∀ h ∈ yh_90, y_ckH yP0 yTYV zTF yRC yGR yCTabV yk_90 yh_90 1602 h = true := fun _ h => absurd h List.not_mem_nil
theorem ycV_344 : y_ckE yP0 yTYV zTF yRC yGR yCTabV yk_344 yh_344 1718 = true := by decide +kernel
theorem ydV_344 : ∀ h ∈ yh_344, y_ckH yP0 yTYV zTF yRC yGR yCTabV yk_344 yh_344 1718 h = true := fun _ h => absurd h List.not_mem_nil
