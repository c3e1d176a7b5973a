theorem yc_174 : y_ckE yP0 yTY zTF yRC yGR yCTab yk_174 yh_174 1044 = true := by decide +kernel
theorem yd_174 : ∀ h ∈ yh_174, y_ckH yP0 yTY zTF yRC yGR yCTab yk_174 yh_174 1044 h = true := fun _ h => absurd h List.not_mem_nil
theorem ycV_114 : y_ckE yP0 yTYV zTF yRC yGR yCTabV yk_114 yh_114 912 = true := by decide +kernel
theorem ydV_114 : ∀ h ∈ yh_114, y_ckH yP0 yTYV zTF yRC yGR yCTabV yk_114 yh_114 912 h = true := fun _ h => absurd h List.not_mem_nil
theorem ycV_115 : y_ckE yP0 yTYV zTF yRC yGR yCTabV yk_115 yh_115 912 = true := by decide +kernel
theorem ydV_115 : ∀ h ∈ yh_115, y_ckH yP0 yTYV zTF yRC yGR yCTabV yk_115 yh_115 912 h = true := fun _ h => absurd h List.not_mem_nil
theorem ycV_308 : y_ckE yP0 yTYV zTF yRC yGR yCTabV yk_308 yh_308 952 = true := by decide +kernel
theorem ydV_308 : ∀ h ∈ yh_308, y_ckH yP0 yTYV zTF yRC yGR yCTabV yk_308 yh_308 952 h = true := fun _ h => absurd h List.not_mem_nil
theorem ycV_166 : y_ckE yP0 yTYV zTF yRC yGR yCTabV yk_166 yh_166 962 = true := by decide +kernel
theorem ydV_166 : ∀ h ∈ yh_166, y_ckH yP0 yTYV zTF yRC yGR yCTabV yk_166 yh_166 962 h = true := List.forall_mem_cons.mpr ⟨by decide +kernel, fun _ h => absurd h List.not_mem_nil⟩
theorem ycV_167 : y_ckE yP0 yTYV zTF yRC yGR yCTabV yk_167 yh_167 962 = true := by decide +kernel
theorem ydV_167 : ∀ h ∈ yh_167, y_ckH yP0 yTYV zTF yRC yGR yCTabV yk_167 yh_167 962 h = true := List.forall_mem_cons.mpr ⟨by decide +kernel, fun _ h => absurd h List.not_mem_nil⟩
theorem ycV_1 : y_ckE yP0 yTYV zTF yRC yGR yCTabV yk_1 yh_1 1034 = true := by decide +kernel
theorem ydV_1 : ∀ h ∈ yh_1, y_ckH yP0 yTYV zTF yRC yGR yCTabV yk_1 yh_1 1034 h = true := fun _ h => absurd h List.not_mem_nil
theorem ycV_3 : y_ckE yP0 yTYV zTF yRC yGR yCTabV yk_3 yh_3 1038 = true := by decide +kernel
theorem ydV_3 : ∀ h ∈ yh_3, y_ckH yP0 yTYV zTF yRC yGR yCTabV yk_3 yh_3 1038 h = true := fun _ h => absurd h List.not_mem_nil
theorem ycV_174 : y_ckE yP0 yTYV zTF yRC yGR yCTabV yk_174 yh_174 1044 = true := by decide +kernel
theorem ydV_174 : ∀ h ∈ yh_174, y_ckH yP0 yTYV zTF yRC yGR yCTabV yk_174 yh_174 1044 h = true := fun _ h => absurd h List.not_mem_nil
theorem ycV_317 : y_ckE yP0 yTYV zTF yRC yGR yCTabV yk_317 yh_317 1064 = true := by decide +kernel
theorem ydV_317 : ∀ h ∈ yh_317, y_ckH yP0 yTYV zTF yRC yGR yCTabV yk_317 yh_317 1064 h = true := List.forall_mem_cons.mpr ⟨by decide +kernel, List.forall_mem_cons.mpr ⟨by decide +kernel, fun _ h => absurd h List.not_mem_nil⟩⟩
theorem ycV_337 : y_ckE yP0 yTYV zTF yRC yGR yCTabV yk_337 yh_337 1098 = true := by decide +kernel
theorem ydV_337 : ∀ h ∈ yh_337, y_ckH yP0 yTYV zTF yRC yGR yCTabV yk_337 yh_337 1098 h = true := List.forall_mem_cons.mpr ⟨by decide +kernel, List.forall_mem_cons.mpr ⟨by decide +kernel, fun _ h => absurd h List.not_mem_nil⟩⟩
theorem ycV_22 : y_ckE yP0 yTYV zTF yRC yGR yCTabV yk_22 yh_22 1132 = true := by decide +kernel
theorem ydV_22 : ∀ h ∈ yh_22, y_ckH yP0 yTYV zTF yRC yGR yCTabV yk_22 yh_22 1132 h = true := List.forall_mem_cons.mpr ⟨by decide +kernel, fun _ h => absurd h List.not_mem_nil⟩
theorem ycV_334 : y_ckE yP0 yTYV zTF yRC yGR yCTabV yk_334 yh_334 1148 = true := by decide +kernel
theorem ydV_334 : ∀ h ∈ yh_334, y_ckH yP0 yTYV zTF yRC yGR yCTabV yk_334 yh_334 1148 h = true := List.forall_mem_cons.mpr ⟨by decide +kernel, List.forall_mem_cons.mpr ⟨by decide +kernel, List.forall_mem_cons.mpr ⟨by decide +kernel, List.forall_mem_cons.mpr ⟨by decide +kernel, List.forall_mem_cons.mpr ⟨by decide +kernel, fun _ h => absurd h List.not_mem_nil⟩⟩⟩⟩⟩
theorem ycV_339 : y_ckE yP0 yTYV zTF yRC yGR yCTabV yk_339 yh_339 1170 = true := by decide +kernel
theorem ydV_339 : ∀ h ∈ yh_339, y_ckH yP0 yTYV zTF yRC yGR yCTabV yk_339 yh_339 1170 h = true := List.forall_mem_cons.mpr ⟨by decide +kernel, List.forall_mem_cons.mpr ⟨by decide +kernel, fun _ h => absurd h List.not_mem_nil⟩⟩
theorem ycV_325 : y_ckE yP0 yTYV zTF yRC yGR yCTabV yk_325 yh_325 1178 = true := by decide +kernel
theorem ydV_325 : ∀ h ∈ yh_325, y_ckH yP0 yTYV zTF yRC yGR yCTabV yk_325 yh_325 1178 h = true := List.forall_mem_cons.mpr ⟨by decide +kernel, fun _ h => absurd h List.not_mem_nil⟩
theorem ycV_294 : y_ckE yP0 yTYV zTF yRC yGR yCTabV yk_294 yh_294 1214 = true := by decide +kernel
theorem ydV_294 : ∀ h ∈ yh_294, y_ckH yP0 yTYV zTF yRC yGR yCTabV yk_294 yh_294 1214 h = true := List.forall_mem_cons.mpr ⟨by decide +kernel, List.forall_mem_cons.mpr ⟨by decide +kernel, fun _ h => absurd h List.not_mem_nil⟩⟩
theorem ycV_118 : y_ckE yP0 yTYV zTF yRC yGR yCTabV yk_118 yh_118 1234 = true := by decide +kernel
theorem ydV_118 : ∀ h ∈ yh_118, y_ckH yP0 yTYV zTF yRC yGR yCTabV yk_118 yh_118 1234 h = true := fun _ h => absurd h List.not_mem_nil
theorem ycV_304 : y_ckE yP0 yTYV zTF yRC yGR yCTabV yk_304 yh_304 1324 = true := by decide +kernel
theorem ydV_304 : ∀ h ∈ yh_304, y_ckH yP0 yTYV zTF yRC yGR yCTabV yk_304 yh_304 1324 h = true := List.forall_mem_cons.mpr ⟨by decide +kernel, List.forall_mem_cons.mpr ⟨by decide +kernel, fun _ h => absurd h List.not_mem_nil⟩⟩
theorem ycV_305 : y_ckE yP0 yTYV zTF yRC yGR yCTabV yk_305 yh_305 1324 = true := by decide +kernel
theorem ydV_305 : ∀ h ∈ yh_305, y_ckH yP0 yTYV zTF yRC yGR yCTabV yk_305 yh_305 1324 h = true := List.forall_mem_cons.mpr ⟨by decide +kernel, List.forall_mem_cons.mpr ⟨by decide +kernel, fun _ h => absurd h List.not_mem_nil⟩⟩
theorem ycV_208 : y_ckE yP0 yTYV zTF yRC yGR yCTabV yk_208 yh_208 1352 = true := by decide +kernel
theorem ydV_208 : ∀ h ∈ yh_208, y_ckH yP0 yTYV zTF yRC yGR yCTabV yk_208 yh_208 1352 h = true := fun _ h => absurd h List.not_mem_nil
