theorem yc_293 : y_ckE yP0 yTY zTF yRC yGR yCTab yk_293 yh_293 952 = true := by decide +kernel
theorem yd_293 : ∀ h ∈ yh_293, y_ckH yP0 yTY zTF yRC yGR yCTab yk_293 yh_293 952 h = true := fun _ h => absurd h List.not_mem_nil
theorem yc_166 : y_ckE yP0 yTY zTF yRC yGR yCTab yk_166 yh_166 962 = true := by decide +kernel
theorem yd_166 : ∀ h ∈ yh_166, y_ckH yP0 yTY zTF yRC yGR yCTab yk_166 yh_166 962 h = true := List.forall_mem_cons.mpr ⟨by decide +kernel, fun _ h => absurd h List.not_mem_nil⟩
theorem yc_167 : y_ckE yP0 yTY zTF yRC yGR yCTab yk_167 yh_167 962 = true := by decide +kernel
theorem yd_167 : ∀ h ∈ yh_167, y_ckH yP0 yTY zTF yRC yGR yCTab yk_167 yh_167 962 h = true := List.forall_mem_cons.mpr ⟨by decide +kernel, fun _ h => absurd h List.not_mem_nil⟩
theorem yc_1 : y_ckE yP0 yTY zTF yRC yGR yCTab yk_1 yh_1 1034 = true := by decide +kernel
theorem yd_1 : ∀ h ∈ yh_1, y_ckH yP0 yTY zTF yRC yGR yCTab yk_1 yh_1 1034 h = true := fun _ h => absurd h List.not_mem_nil
theorem yc_3 : y_ckE yP0 yTY zTF yRC yGR yCTab yk_3 yh_3 1038 = true := by decide +kernel
theorem yd_3 : ∀ h ∈ yh_3, y_ckH yP0 yTY zTF yRC yGR yCTab yk_3 yh_3 1038 h = true := fun _ h => absurd h List.not_mem_nil
theorem yc_174 : y_ckE yP0 yTY zTF yRC yGR yCTab yk_174 yh_174 1044 = true := by decide +kernel
theorem yd_174 : ∀ h ∈ yh_174, y_ckH yP0 yTY zTF yRC yGR yCTab yk_174 yh_174 1044 h = true := fun _ h => absurd h List.not_mem_nil
theorem yc_302 : y_ckE yP0 yTY zTF yRC yGR yCTab yk_302 yh_302 1064 = true := by decide +kernel
theorem yd_302 : ∀ h ∈ yh_302, y_ckH yP0 yTY zTF yRC yGR yCTab yk_302 yh_302 1064 h = true := List.forall_mem_cons.mpr ⟨by decide +kernel, List.forall_mem_cons.mpr ⟨by decide +kernel, fun _ h => absurd h List.not_mem_nil⟩⟩
theorem yc_322 : y_ckE yP0 yTY zTF yRC yGR yCTab yk_322 yh_322 1098 = true := by decide +kernel
theorem yd_322 : ∀ h ∈ yh_322, y_ckH yP0 yTY zTF yRC yGR yCTab yk_322 yh_322 1098 h = true := List.forall_mem_cons.mpr ⟨by decide +kernel, List.forall_mem_cons.mpr ⟨by decide +kernel, fun _ h => absurd h List.not_mem_nil⟩⟩
theorem yc_22 : y_ckE yP0 yTY zTF yRC yGR yCTab yk_22 yh_22 1132 = true := by decide +kernel
theorem yd_22 : ∀ h ∈ yh_22, y_ckH yP0 yTY zTF yRC yGR yCTab yk_22 yh_22 1132 h = true := List.forall_mem_cons.mpr ⟨by decide +kernel, fun _ h => absurd h List.not_mem_nil⟩
theorem yc_319 : y_ckE yP0 yTY zTF yRC yGR yCTab yk_319 yh_319 1148 = true := by decide +kernel
theorem yd_319 : ∀ h ∈ yh_319, y_ckH yP0 yTY zTF yRC yGR yCTab yk_319 yh_319 1148 h = true := List.forall_mem_cons.mpr ⟨by decide +kernel, List.forall_mem_cons.mpr ⟨by decide +kernel, List.forall_mem_cons.mpr ⟨by decide +kernel, List.forall_mem_cons.mpr ⟨by decide +kernel, List.forall_mem_cons.mpr ⟨by decide +kernel, fun _ h => absurd h List.not_mem_nil⟩⟩⟩⟩⟩
theorem yc_324 : y_ckE yP0 yTY zTF yRC yGR yCTab yk_324 yh_324 1170 = true := by decide +kernel
theorem yd_324 : ∀ h ∈ yh_324, y_ckH yP0 yTY zTF yRC yGR yCTab yk_324 yh_324 1170 h = true := List.forall_mem_cons.mpr ⟨by decide +kernel, List.forall_mem_cons.mpr ⟨by decide +kernel, fun _ h => absurd h List.not_mem_nil⟩⟩
theorem yc_310 : y_ckE yP0 yTY zTF yRC yGR yCTab yk_310 yh_310 1178 = true := by decide +kernel
theorem yd_310 : ∀ h ∈ yh_310, y_ckH yP0 yTY zTF yRC yGR yCTab yk_310 yh_310 1178 h = true := List.forall_mem_cons.mpr ⟨by decide +kernel, fun _ h => absurd h List.not_mem_nil⟩
theorem yc_284 : y_ckE yP0 yTY zTF yRC yGR yCTab yk_284 yh_284 1214 = true := by decide +kernel
theorem yd_284 : ∀ h ∈ yh_284, y_ckH yP0 yTY zTF yRC yGR yCTab yk_284 yh_284 1214 h = true := List.forall_mem_cons.mpr ⟨by decide +kernel, List.forall_mem_cons.mpr ⟨by decide +kernel, fun _ h => absurd h List.not_mem_nil⟩⟩
theorem yc_118 : y_ckE yP0 yTY zTF yRC yGR yCTab yk_118 yh_118 1234 = true := by decide +kernel
theorem yd_118 : ∀ h ∈ yh_118, y_ckH yP0 yTY zTF yRC yGR yCTab yk_118 yh_118 1234 h = true := fun _ h => absurd h List.not_mem_nil
theorem yc_289 : y_ckE yP0 yTY zTF yRC yGR yCTab yk_289 yh_289 1324 = true := by decide +kernel
theorem yd_289 : ∀ h ∈ yh_289, y_ckH yP0 yTY zTF yRC yGR yCTab yk_289 yh_289 1324 h = true := List.forall_mem_cons.mpr ⟨by decide +kernel, List.forall_mem_cons.mpr ⟨by decide +kernel, fun _ h => absurd h List.not_mem_nil⟩⟩
theorem yc_290 : y_ckE yP0 yTY zTF yRC yGR yCTab yk_290 yh_290 1324 = true := by decide +kernel
theorem yd_290 : ∀ h ∈ yh_290, y_ckH yP0 yTY zTF yRC yGR yCTab yk_290 yh_290 1324 h = true := List.forall_mem_cons.mpr ⟨by decide +kernel, List.forall_mem_cons.mpr ⟨by decide +kernel, fun _ h => absurd h List.not_mem_nil⟩⟩
theorem yc_208 : y_ckE yP0 yTY zTF yRC yGR yCTab yk_208 yh_208 1352 = true := by decide +kernel
theorem yd_208 : ∀ h ∈ yh_208, y_ckH yP0 yTY zTF yRC yGR yCTab yk_208 yh_208 1352 h = true := fun _ h => absurd h List.not_mem_nil
theorem yc_238 : y_ckE yP0 yTY zTF yRC yGR yCTab yk_238 yh_238 1368 = true := by decide +kernel
theorem yd_238 : ∀ h ∈ yh_238, y_ckH yP0 yTY zTF yRC yGR yCTab yk_238 yh_238 1368 h = true := fun _ h => absurd h List.not_mem_nil
