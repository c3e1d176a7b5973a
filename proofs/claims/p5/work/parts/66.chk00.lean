theorem yc_171 : y_ckE yP0 yTY zTF yRC yGR yCTab yk_171 yh_171 530 = true := by decide +kernel
theorem yd_171 : ∀ h ∈ yh_171, y_ckH yP0 yTY zTF yRC yGR yCTab yk_171 yh_171 530 h = true := fun _ h => absurd h List.not_mem_nil
theorem yc_172 : y_ckE yP0 yTY zTF yRC yGR yCTab yk_172 yh_172 530 = true := by decide +kernel
theorem yd_172 : ∀ h ∈ yh_172, y_ckH yP0 yTY zTF yRC yGR yCTab yk_172 yh_172 530 h = true := fun _ h => absurd h List.not_mem_nil
theorem yc_173 : y_ckE yP0 yTY zTF yRC yGR yCTab yk_173 yh_173 530 = true := by decide +kernel
theorem yd_173 : ∀ h ∈ yh_173, y_ckH yP0 yTY zTF yRC yGR yCTab yk_173 yh_173 530 h = true := fun _ h => absurd h List.not_mem_nil
theorem yc_346 : y_ckE yP0 yTY zTF yRC yGR yCTab yk_346 yh_346 530 = true := by decide +kernel
theorem yd_346 : ∀ h ∈ yh_346, y_ckH yP0 yTY zTF yRC yGR yCTab yk_346 yh_346 530 h = true := List.forall_mem_cons.mpr ⟨by decide +kernel, fun _ h => absurd h List.not_mem_nil⟩
theorem yc_347 : y_ckE yP0 yTY zTF yRC yGR yCTab yk_347 yh_347 530 = true := by decide +kernel
theorem yd_347 : ∀ h ∈ yh_347, y_ckH yP0 yTY zTF yRC yGR yCTab yk_347 yh_347 530 h = true := List.forall_mem_cons.mpr ⟨by decide +kernel, fun _ h => absurd h List.not_mem_nil⟩
theorem yc_348 : y_ckE yP0 yTY zTF yRC yGR yCTab yk_348 yh_348 530 = true := by decide +kernel
theorem yd_348 : ∀ h ∈ yh_348, y_ckH yP0 yTY zTF yRC yGR yCTab yk_348 yh_348 530 h = true := List.forall_mem_cons.mpr ⟨by decide +kernel, fun _ h => absurd h List.not_mem_nil⟩
theorem yc_349 : y_ckE yP0 yTY zTF yRC yGR yCTab yk_349 yh_349 530 = true := by decide +kernel
theorem yd_349 : ∀ h ∈ yh_349, y_ckH yP0 yTY zTF yRC yGR yCTab yk_349 yh_349 530 h = true := List.forall_mem_cons.mpr ⟨by decide +kernel, fun _ h => absurd h List.not_mem_nil⟩
theorem yc_350 : y_ckE yP0 yTY zTF yRC yGR yCTab yk_350 yh_350 530 = true := by decide +kernel
theorem yd_350 : ∀ h ∈ yh_350, y_ckH yP0 yTY zTF yRC yGR yCTab yk_350 yh_350 530 h = true := List.forall_mem_cons.mpr ⟨by decide +kernel, fun _ h => absurd h List.not_mem_nil⟩
theorem yc_351 : y_ckE yP0 yTY zTF yRC yGR yCTab yk_351 yh_351 530 = true := by decide +kernel
theorem yd_351 : ∀ h ∈ yh_351, y_ckH yP0 yTY zTF yRC yGR yCTab yk_351 yh_351 530 h = true := List.forall_mem_cons.mpr ⟨by decide +kernel, fun _ h => absurd h List.not_mem_nil⟩
theorem yc_42 : y_ckE yP0 yTY zTF yRC yGR yCTab yk_42 yh_42 536 = true := by decide +kernel
theorem yd_42 : ∀ h ∈ yh_42, y_ckH yP0 yTY zTF yRC yGR yCTab yk_42 yh_42 536 h = true := List.forall_mem_cons.mpr ⟨by decide +kernel, fun _ h => absurd h List.not_mem_nil⟩
theorem yc_273 : y_ckE yP0 yTY zTF yRC yGR yCTab yk_273 yh_273 540 = true := by decide +kernel
theorem yd_273 : ∀ h ∈ yh_273, y_ckH yP0 yTY zTF yRC yGR yCTab yk_273 yh_273 540 h = true := fun _ h => absurd h List.not_mem_nil
theorem yc_274 : y_ckE yP0 yTY zTF yRC yGR yCTab yk_274 yh_274 540 = true := by decide +kernel
theorem yd_274 : ∀ h ∈ yh_274, y_ckH yP0 yTY zTF yRC yGR yCTab yk_274 yh_274 540 h = true := fun _ h => absurd h List.not_mem_nil
theorem yc_275 : y_ckE yP0 yTY zTF yRC yGR yCTab yk_275 yh_275 540 = true := by decide +kernel
theorem yd_275 : ∀ h ∈ yh_275, y_ckH yP0 yTY zTF yRC yGR yCTab yk_275 yh_275 540 h = true := fun _ h => absurd h List.not_mem_nil
theorem yc_276 : y_ckE yP0 yTY zTF yRC yGR yCTab yk_276 yh_276 540 = true := by decide +kernel
theorem yd_276 : ∀ h ∈ yh_276, y_ckH yP0 yTY zTF yRC yGR yCTab yk_276 yh_276 540 h = true := fun _ h => absurd h List.not_mem_nil
theorem yc_260 : y_ckE yP0 yTY zTF yRC yGR yCTab yk_260 yh_260 542 = true := by decide +kernel
theorem yd_260 : ∀ h ∈ yh_260, y_ckH yP0 yTY zTF yRC yGR yCTab yk_260 yh_260 542 h = true := List.forall_mem_cons.mpr ⟨by decide +kernel, fun _ h => absurd h List.not_mem_nil⟩
theorem yc_261 : y_ckE yP0 yTY zTF yRC yGR yCTab yk_261 yh_261 542 = true := by decide +kernel
theorem yd_261 : ∀ h ∈ yh_261, y_ckH yP0 yTY zTF yRC yGR yCTab yk_261 yh_261 542 h = true := List.forall_mem_cons.mpr ⟨by decide +kernel, fun _ h => absurd h List.not_mem_nil⟩
theorem yc_262 : y_ckE yP0 yTY zTF yRC yGR yCTab yk_262 yh_262 542 = true := by decide +kernel
theorem yd_262 : ∀ h ∈ yh_262, y_ckH yP0 yTY zTF yRC yGR yCTab yk_262 yh_262 542 h = true := List.forall_mem_cons.mpr ⟨by decide +kernel, fun _ h => absurd h List.not_mem_nil⟩
theorem yc_263 : y_ckE yP0 yTY zTF yRC yGR yCTab yk_263 yh_263 542 = true := by decide +kernel
theorem yd_263 : ∀ h ∈ yh_263, y_ckH yP0 yTY zTF yRC yGR yCTab yk_263 yh_263 542 h = true := List.forall_mem_cons.mpr ⟨by decide +kernel, fun _ h => absurd h List.not_mem_nil⟩
theorem yc_264 : y_ckE yP0 yTY zTF yRC yGR yCTab yk_264 yh_264 542 = true := by decide +kernel
theorem yd_264 : ∀ h ∈ yh_264, y_ckH yP0 yTY zTF yRC yGR yCTab yk_264 yh_264 542 h = true := List.forall_mem_cons.mpr ⟨by decide +kernel, fun _ h => absurd h List.not_mem_nil⟩
theorem yc_265 : y_ckE yP0 yTY zTF yRC yGR yCTab yk_265 yh_265 542 = true := by decide +kernel
theorem yd_265 : ∀ h ∈ yh_265, y_ckH yP0 yTY zTF yRC yGR yCTab yk_265 yh_265 542 h = true := List.forall_mem_cons.mpr ⟨by decide +kernel, fun _ h => absurd h List.not_mem_nil⟩
theorem yc_175 : y_ckE yP0 yTY zTF yRC yGR yCTab yk_175 yh_175 554 = true := by decide +kernel
theorem yd_175 : ∀ h ∈ yh_175, y_ckH yP0 yTY zTF yRC yGR yCTab yk_175 yh_175 554 h = true := List.forall_mem_cons.mpr ⟨by decide +kernel, fun _ h => absurd h List.not_mem_nil⟩
theorem yc_177 : y_ckE yP0 yTY zTF yRC yGR yCTab yk_177 yh_177 554 = true := by decide +kernel
theorem yd_177 : ∀ h ∈ yh_177, y_ckH yP0 yTY zTF yRC yGR yCTab yk_177 yh_177 554 h = true := List.forall_mem_cons.mpr ⟨by decide +kernel, fun _ h => absurd h List.not_mem_nil⟩
theorem yc_54 : y_ckE yP0 yTY zTF yRC yGR yCTab yk_54 yh_54 558 = true := by decide +kernel
theorem yd_54 : ∀ h ∈ yh_54, y_ckH yP0 yTY zTF yRC yGR yCTab yk_54 yh_54 558 h = true := fun _ h => absurd h List.not_mem_nil
theorem yc_55 : y_ckE yP0 yTY zTF yRC yGR yCTab yk_55 yh_55 558 = true := by decide +kernel
theorem yd_55 : ∀ h ∈ yh_55, y_ckH yP0 yTY zTF yRC yGR yCTab yk_55 yh_55 558 h = true := fun _ h => absurd h List.not_mem_nil
theorem yc_56 : y_ckE yP0 yTY zTF yRC yGR yCTab yk_56 yh_56 558 = true := by decide +kernel
theorem yd_56 : ∀ h ∈ yh_56, y_ckH yP0 yTY zTF yRC yGR yCTab yk_56 yh_56 558 h = true := fun _ h => absurd h List.not_mem_nil
theorem yc_57 : y_ckE yP0 yTY zTF yRC yGR yCTab yk_57 yh_57 558 = true := by decide +kernel
theorem yd_57 : ∀ h ∈ yh_57, y_ckH yP0 yTY zTF yRC yGR yCTab yk_57 yh_57 558 h = true := fun _ h => absurd h List.not_mem_nil
theorem yc_58 : y_ckE yP0 yTY zTF yRC yGR yCTab yk_58 yh_58 558 = true := by decide +kernel
theorem yd_58 : ∀ h ∈ yh_58, y_ckH yP0 yTY zTF yRC yGR yCTab yk_58 yh_58 558 h = true := fun _ h => absurd h List.not_mem_nil
theorem yc_59 : y_ckE yP0 yTY zTF yRC yGR yCTab yk_59 yh_59 560 = true := by decide +kernel
theorem yd_59 : ∀ h ∈ yh_59, y_ckH yP0 yTY zTF yRC yGR yCTab yk_59 yh_59 560 h = true := List.forall_mem_cons.mpr ⟨by decide +kernel, fun _ h => absurd h List.not_mem_nil⟩
theorem yc_60 : y_ckE yP0 yTY zTF yRC yGR yCTab yk_60 yh_60 560 = true := by decide +kernel
theorem yd_60 : ∀ h ∈ yh_60, y_ckH yP0 yTY zTF yRC yGR yCTab yk_60 yh_60 560 h = true := List.forall_mem_cons.mpr ⟨by decide +kernel, fun _ h => absurd h List.not_mem_nil⟩
theorem yc_61 : y_ckE yP0 yTY zTF yRC yGR yCTab yk_61 yh_61 560 = true := by decide +kernel
theorem yd_61 : ∀ h ∈ yh_61, y_ckH yP0 yTY zTF yRC yGR yCTab yk_61 yh_61 560 h = true := List.forall_mem_cons.mpr ⟨by decide +kernel, fun _ h => absurd h List.not_mem_nil⟩
theorem yc_62 : y_ckE yP0 yTY zTF yRC yGR yCTab yk_62 yh_62 560 = true := by decide +kernel
theorem yd_62 : ∀ h ∈ yh_62, y_ckH yP0 yTY zTF yRC yGR yCTab yk_62 yh_62 560 h = true := List.forall_mem_cons.mpr ⟨by decide +kernel, fun _ h => absurd h List.not_mem_nil⟩
theorem yc_63 : y_ckE yP0 yTY zTF yRC yGR yCTab yk_63 yh_63 560 = true := by decide +kernel
theorem yd_63 : ∀ h ∈ yh_63, y_ckH yP0 yTY zTF yRC yGR yCTab yk_63 yh_63 560 h = true := List.forall_mem_cons.mpr ⟨by decide +kernel, fun _ h => absurd h List.not_mem_nil⟩
theorem yc_64 : y_ckE yP0 yTY zTF yRC yGR yCTab yk_64 yh_64 560 = true := by decide +kernel
theorem yd_64 : ∀ h ∈ yh_64, y_ckH yP0 yTY zTF yRC yGR yCTab yk_64 yh_64 560 h = true := List.forall_mem_cons.mpr ⟨by decide +kernel, fun _ h => absurd h List.not_mem_nil⟩
theorem yc_68 : y_ckE yP0 yTY zTF yRC yGR yCTab yk_68 yh_68 566 = true := by decide +kernel
theorem yd_68 : ∀ h ∈ yh_68, y_ckH yP0 yTY zTF yRC yGR yCTab yk_68 yh_68 566 h = true := fun _ h => absurd h List.not_mem_nil
theorem yc_69 : y_ckE yP0 yTY zTF yRC yGR yCTab yk_69 yh_69 566 = true := by decide +kernel
theorem yd_69 : ∀ h ∈ yh_69, y_ckH yP0 yTY zTF yRC yGR yCTab yk_69 yh_69 566 h = true := fun _ h => absurd h List.not_mem_nil
theorem yc_70 : y_ckE yP0 yTY zTF yRC yGR yCTab yk_70 yh_70 566 = true := by decide +kernel
theorem yd_70 : ∀ h ∈ yh_70, y_ckH yP0 yTY zTF yRC yGR yCTab yk_70 yh_70 566 h = true := fun _ h => absurd h List.not_mem_nil
theorem yc_71 : y_ckE yP0 yTY zTF yRC yGR yCTab yk_71 yh_71 566 = true := by decide +kernel
theorem yd_71 : ∀ h ∈ yh_71, y_ckH yP0 yTY zTF yRC yGR yCTab yk_71 yh_71 566 h = true := fun _ h => absurd h List.not_mem_nil
theorem yc_72 : y_ckE yP0 yTY zTF yRC yGR yCTab yk_72 yh_72 566 = true := by decide +kernel
theorem yd_72 : ∀ h ∈ yh_72, y_ckH yP0 yTY zTF yRC yGR yCTab yk_72 yh_72 566 h = true := fun _ h => absurd h List.not_mem_nil
theorem yc_243 : y_ckE yP0 yTY zTF yRC yGR yCTab yk_243 yh_243 582 = true := by decide +kernel
theorem yd_243 : ∀ h ∈ yh_243, y_ckH yP0 yTY zTF yRC yGR yCTab yk_243 yh_243 582 h = true := List.forall_mem_cons.mpr ⟨by decide +kernel, fun _ h => absurd h List.not_mem_nil⟩
theorem yc_195 : y_ckE yP0 yTY zTF yRC yGR yCTab yk_195 yh_195 584 = true := by decide +kernel
theorem yd_195 : ∀ h ∈ yh_195, y_ckH yP0 yTY zTF yRC yGR yCTab yk_195 yh_195 584 h = true := fun _ h => absurd h List.not_mem_nil
theorem yc_196 : y_ckE yP0 yTY zTF yRC yGR yCTab yk_196 yh_196 584 = true := by decide +kernel
theorem yd_196 : ∀ h ∈ yh_196, y_ckH yP0 yTY zTF yRC yGR yCTab yk_196 yh_196 584 h = true := fun _ h => absurd h List.not_mem_nil
theorem yc_197 : y_ckE yP0 yTY zTF yRC yGR yCTab yk_197 yh_197 584 = true := by decide +kernel
theorem yd_197 : ∀ h ∈ yh_197, y_ckH yP0 yTY zTF yRC yGR yCTab yk_197 yh_197 584 h = true := fun _ h => absurd h List.not_mem_nil
theorem yc_269 : y_ckE yP0 yTY zTF yRC yGR yCTab yk_269 yh_269 594 = true := by decide +kernel
theorem yd_269 : ∀ h ∈ yh_269, y_ckH yP0 yTY zTF yRC yGR yCTab yk_269 yh_269 594 h = true := fun _ h => absurd h List.not_mem_nil
theorem yc_270 : y_ckE yP0 yTY zTF yRC yGR yCTab yk_270 yh_270 594 = true := by decide +kernel
theorem yd_270 : ∀ h ∈ yh_270, y_ckH yP0 yTY zTF yRC yGR yCTab yk_270 yh_270 594 h = true := fun _ h => absurd h List.not_mem_nil
theorem yc_271 : y_ckE yP0 yTY zTF yRC yGR yCTab yk_271 yh_271 594 = true := by decide +kernel
theorem yd_271 : ∀ h ∈ yh_271, y_ckH yP0 yTY zTF yRC yGR yCTab yk_271 yh_271 594 h = true := fun _ h => absurd h List.not_mem_nil
theorem yc_272 : y_ckE yP0 yTY zTF yRC yGR yCTab yk_272 yh_272 594 = true := by decide +kernel
theorem yd_272 : ∀ h ∈ yh_272, y_ckH yP0 yTY zTF yRC yGR yCTab yk_272 yh_272 594 h = true := fun _ h => absurd h List.not_mem_nil
theorem yc_65 : y_ckE yP0 yTY zTF yRC yGR yCTab yk_65 yh_65 598 = true := by decide +kernel
theorem yd_65 : ∀ h ∈ yh_65, y_ckH yP0 yTY zTF yRC yGR yCTab yk_65 yh_65 598 h = true := List.forall_mem_cons.mpr ⟨by decide +kernel, fun _ h => absurd h List.not_mem_nil⟩
theorem yc_66 : y_ckE yP0 yTY zTF yRC yGR yCTab yk_66 yh_66 598 = true := by decide +kernel
theorem yd_66 : ∀ h ∈ yh_66, y_ckH yP0 yTY zTF yRC yGR yCTab yk_66 yh_66 598 h = true := List.forall_mem_cons.mpr ⟨by decide +kernel, fun _ h => absurd h List.not_mem_nil⟩
theorem yc_67 : y_ckE yP0 yTY zTF yRC yGR yCTab yk_67 yh_67 598 = true := by decide +kernel
theorem yd_67 : ∀ h ∈ yh_67, y_ckH yP0 yTY zTF yRC yGR yCTab yk_67 yh_67 598 h = true := List.forall_mem_cons.mpr ⟨by decide +kernel, fun _ h => absurd h List.not_mem_nil⟩
theorem yc_178 : y_ckE yP0 yTY zTF yRC yGR yCTab yk_178 yh_178 602 = true := by decide +kernel
theorem yd_178 : ∀ h ∈ yh_178, y_ckH yP0 yTY zTF yRC yGR yCTab yk_178 yh_178 602 h = true := fun _ h => absurd h List.not_mem_nil
theorem yc_179 : y_ckE yP0 yTY zTF yRC yGR yCTab yk_179 yh_179 602 = true := by decide +kernel
theorem yd_179 : ∀ h ∈ yh_179, y_ckH yP0 yTY zTF yRC yGR yCTab yk_179 yh_179 602 h = true := fun _ h => absurd h List.not_mem_nil
theorem yc_189 : y_ckE yP0 yTY zTF yRC yGR yCTab yk_189 yh_189 602 = true := by decide +kernel
theorem yd_189 : ∀ h ∈ yh_189, y_ckH yP0 yTY zTF yRC yGR yCTab yk_189 yh_189 602 h = true := fun _ h => absurd h List.not_mem_nil
theorem yc_190 : y_ckE yP0 yTY zTF yRC yGR yCTab yk_190 yh_190 602 = true := by decide +kernel
theorem yd_190 : ∀ h ∈ yh_190, y_ckH yP0 yTY zTF yRC yGR yCTab yk_190 yh_190 602 h = true := fun _ h => absurd h List.not_mem_nil
theorem yc_191 : y_ckE yP0 yTY zTF yRC yGR yCTab yk_191 yh_191 602 = true := by decide +kernel
theorem yd_191 : ∀ h ∈ yh_191, y_ckH yP0 yTY zTF yRC yGR yCTab yk_191 yh_191 602 h = true := fun _ h => absurd h List.not_mem_nil
theorem yc_192 : y_ckE yP0 yTY zTF yRC yGR yCTab yk_192 yh_192 602 = true := by decide +kernel
theorem yd_192 : ∀ h ∈ yh_192, y_ckH yP0 yTY zTF yRC yGR yCTab yk_192 yh_192 602 h = true := fun _ h => absurd h List.not_mem_nil
theorem yc_193 : y_ckE yP0 yTY zTF yRC yGR yCTab yk_193 yh_193 602 = true := by decide +kernel
theorem yd_193 : ∀ h ∈ yh_193, y_ckH yP0 yTY zTF yRC yGR yCTab yk_193 yh_193 602 h = true := fun _ h => absurd h List.not_mem_nil
theorem yc_194 : y_ckE yP0 yTY zTF yRC yGR yCTab yk_194 yh_194 602 = true := by decide +kernel
theorem yd_194 : ∀ h ∈ yh_194, y_ckH yP0 yTY zTF yRC yGR yCTab yk_194 yh_194 602 h = true := fun _ h => absurd h List.not_mem_nil
theorem yc_251 : y_ckE yP0 yTY zTF yRC yGR yCTab yk_251 yh_251 604 = true := by decide +kernel
theorem yd_251 : ∀ h ∈ yh_251, y_ckH yP0 yTY zTF yRC yGR yCTab yk_251 yh_251 604 h = true := fun _ h => absurd h List.not_mem_nil
theorem yc_252 : y_ckE yP0 yTY zTF yRC yGR yCTab yk_252 yh_252 604 = true := by decide +kernel
theorem yd_252 : ∀ h ∈ yh_252, y_ckH yP0 yTY zTF yRC yGR yCTab yk_252 yh_252 604 h = true := fun _ h => absurd h List.not_mem_nil
theorem yc_253 : y_ckE yP0 yTY zTF yRC yGR yCTab yk_253 yh_253 604 = true := by decide +kernel
theorem yd_253 : ∀ h ∈ yh_253, y_ckH yP0 yTY zTF yRC yGR yCTab yk_253 yh_253 604 h = true := fun _ h => absurd h List.not_mem_nil
theorem yc_254 : y_ckE yP0 yTY zTF yRC yGR yCTab yk_254 yh_254 604 = true := by decide +kernel
theorem yd_254 : ∀ h ∈ yh_254, y_ckH yP0 yTY zTF yRC yGR yCTab yk_254 yh_254 604 h = true := fun _ h => absurd h List.not_mem_nil
theorem yc_255 : y_ckE yP0 yTY zTF yRC yGR yCTab yk_255 yh_255 604 = true := by decide +kernel
theorem yd_255 : ∀ h ∈ yh_255, y_ckH yP0 yTY zTF yRC yGR yCTab yk_255 yh_255 604 h = true := fun _ h => absurd h List.not_mem_nil
theorem yc_256 : y_ckE yP0 yTY zTF yRC yGR yCTab yk_256 yh_256 604 = true := by decide +kernel
theorem yd_256 : ∀ h ∈ yh_256, y_ckH yP0 yTY zTF yRC yGR yCTab yk_256 yh_256 604 h = true := fun _ h => absurd h List.not_mem_nil
theorem yc_257 : y_ckE yP0 yTY zTF yRC yGR yCTab yk_257 yh_257 604 = true := by decide +kernel
theorem yd_257 : ∀ h ∈ yh_257, y_ckH yP0 yTY zTF yRC yGR yCTab yk_257 yh_257 604 h = true := fun _ h => absurd h List.not_mem_nil
theorem yc_258 : y_ckE yP0 yTY zTF yRC yGR yCTab yk_258 yh_258 604 = true := by decide +kernel
theorem yd_258 : ∀ h ∈ yh_258, y_ckH yP0 yTY zTF yRC yGR yCTab yk_258 yh_258 604 h = true := fun _ h => absurd h List.not_mem_nil
theorem yc_259 : y_ckE yP0 yTY zTF yRC yGR yCTab yk_259 yh_259 604 = true := by decide +kernel
theorem yd_259 : ∀ h ∈ yh_259, y_ckH yP0 yTY zTF yRC yGR yCTab yk_259 yh_259 604 h = true := fun _ h => absurd h List.not_mem_nil
theorem yc_50 : y_ckE yP0 yTY zTF yRC yGR yCTab yk_50 yh_50 608 = true := by decide +kernel
theorem yd_50 : ∀ h ∈ yh_50, y_ckH yP0 yTY zTF yRC yGR yCTab yk_50 yh_50 608 h = true := fun _ h => absurd h List.not_mem_nil
theorem yc_51 : y_ckE yP0 yTY zTF yRC yGR yCTab yk_51 yh_51 608 = true := by decide +kernel
theorem yd_51 : ∀ h ∈ yh_51, y_ckH yP0 yTY zTF yRC yGR yCTab yk_51 yh_51 608 h = true := fun _ h => absurd h List.not_mem_nil
theorem yc_52 : y_ckE yP0 yTY zTF yRC yGR yCTab yk_52 yh_52 608 = true := by decide +kernel
theorem yd_52 : ∀ h ∈ yh_52, y_ckH yP0 yTY zTF yRC yGR yCTab yk_52 yh_52 608 h = true := fun _ h => absurd h List.not_mem_nil
theorem yc_53 : y_ckE yP0 yTY zTF yRC yGR yCTab yk_53 yh_53 608 = true := by decide +kernel
theorem yd_53 : ∀ h ∈ yh_53, y_ckH yP0 yTY zTF yRC yGR yCTab yk_53 yh_53 608 h = true := fun _ h => absurd h List.not_mem_nil
theorem ycV_201 : y_ckE yP0 yTYV zTF yRC yGR yCTabV yk_201 yh_201 506 = true := by decide +kernel
theorem ydV_201 : ∀ h ∈ yh_201, y_ckH yP0 yTYV zTF yRC yGR yCTabV yk_201 yh_201 506 h = true := fun _ h => absurd h List.not_mem_nil
theorem ycV_211 : y_ckE yP0 yTYV zTF yRC yGR yCTabV yk_211 yh_211 508 = true := by decide +kernel
theorem ydV_211 : ∀ h ∈ yh_211, y_ckH yP0 yTYV zTF yRC yGR yCTabV yk_211 yh_211 508 h = true := fun _ h => absurd h List.not_mem_nil
theorem ycV_213 : y_ckE yP0 yTYV zTF yRC yGR yCTabV yk_213 yh_213 508 = true := by decide +kernel
theorem ydV_213 : ∀ h ∈ yh_213, y_ckH yP0 yTYV zTF yRC yGR yCTabV yk_213 yh_213 508 h = true := fun _ h => absurd h List.not_mem_nil
theorem ycV_224 : y_ckE yP0 yTYV zTF yRC yGR yCTabV yk_224 yh_224 508 = true := by decide +kernel
theorem ydV_224 : ∀ h ∈ yh_224, y_ckH yP0 yTYV zTF yRC yGR yCTabV yk_224 yh_224 508 h = true := fun _ h => absurd h List.not_mem_nil
theorem ycV_225 : y_ckE yP0 yTYV zTF yRC yGR yCTabV yk_225 yh_225 508 = true := by decide +kernel
theorem ydV_225 : ∀ h ∈ yh_225, y_ckH yP0 yTYV zTF yRC yGR yCTabV yk_225 yh_225 508 h = true := fun _ h => absurd h List.not_mem_nil
theorem ycV_227 : y_ckE yP0 yTYV zTF yRC yGR yCTabV yk_227 yh_227 508 = true := by decide +kernel
theorem ydV_227 : ∀ h ∈ yh_227, y_ckH yP0 yTYV zTF yRC yGR yCTabV yk_227 yh_227 508 h = true := fun _ h => absurd h List.not_mem_nil
theorem ycV_12 : y_ckE yP0 yTYV zTF yRC yGR yCTabV yk_12 yh_12 510 = true := by decide +kernel
theorem ydV_12 : ∀ h ∈ yh_12, y_ckH yP0 yTYV zTF yRC yGR yCTabV yk_12 yh_12 510 h = true := fun _ h => absurd h List.not_mem_nil
theorem ycV_226 : y_ckE yP0 yTYV zTF yRC yGR yCTabV yk_226 yh_226 510 = true := by decide +kernel
theorem ydV_226 : ∀ h ∈ yh_226, y_ckH yP0 yTYV zTF yRC yGR yCTabV yk_226 yh_226 510 h = true := fun _ h => absurd h List.not_mem_nil
theorem ycV_99 : y_ckE yP0 yTYV zTF yRC yGR yCTabV yk_99 yh_99 512 = true := by decide +kernel
theorem ydV_99 : ∀ h ∈ yh_99, y_ckH yP0 yTYV zTF yRC yGR yCTabV yk_99 yh_99 512 h = true := fun _ h => absurd h List.not_mem_nil
theorem ycV_108 : y_ckE yP0 yTYV zTF yRC yGR yCTabV yk_108 yh_108 512 = true := by decide +kernel
theorem ydV_108 : ∀ h ∈ yh_108, y_ckH yP0 yTYV zTF yRC yGR yCTabV yk_108 yh_108 512 h = true := fun _ h => absurd h List.not_mem_nil
theorem ycV_220 : y_ckE yP0 yTYV zTF yRC yGR yCTabV yk_220 yh_220 512 = true := by decide +kernel
theorem ydV_220 : ∀ h ∈ yh_220, y_ckH yP0 yTYV zTF yRC yGR yCTabV yk_220 yh_220 512 h = true := fun _ h => absurd h List.not_mem_nil
theorem ycV_284 : y_ckE yP0 yTYV zTF yRC yGR yCTabV yk_284 yh_284 512 = true := by decide +kernel
theorem ydV_284 : ∀ h ∈ yh_284, y_ckH yP0 yTYV zTF yRC yGR yCTabV yk_284 yh_284 512 h = true := fun _ h => absurd h List.not_mem_nil
theorem ycV_331 : y_ckE yP0 yTYV zTF yRC yGR yCTabV yk_331 yh_331 514 = true := by decide +kernel
theorem ydV_331 : ∀ h ∈ yh_331, y_ckH yP0 yTYV zTF yRC yGR yCTabV yk_331 yh_331 514 h = true := fun _ h => absurd h List.not_mem_nil
theorem ycV_9 : y_ckE yP0 yTYV zTF yRC yGR yCTabV yk_9 yh_9 516 = true := by decide +kernel
theorem ydV_9 : ∀ h ∈ yh_9, y_ckH yP0 yTYV zTF yRC yGR yCTabV yk_9 yh_9 516 h = true := fun _ h => absurd h List.not_mem_nil
theorem ycV_10 : y_ckE yP0 yTYV zTF yRC yGR yCTabV yk_10 yh_10 516 = true := by decide +kernel
theorem ydV_10 : ∀ h ∈ yh_10, y_ckH yP0 yTYV zTF yRC yGR yCTabV yk_10 yh_10 516 h = true := fun _ h => absurd h List.not_mem_nil
theorem ycV_11 : y_ckE yP0 yTYV zTF yRC yGR yCTabV yk_11 yh_11 516 = true := by decide +kernel
theorem ydV_11 : ∀ h ∈ yh_11, y_ckH yP0 yTYV zTF yRC yGR yCTabV yk_11 yh_11 516 h = true := fun _ h => absurd h List.not_mem_nil
theorem ycV_318 : y_ckE yP0 yTYV zTF yRC yGR yCTabV yk_318 yh_318 524 = true := by decide +kernel
theorem ydV_318 : ∀ h ∈ yh_318, y_ckH yP0 yTYV zTF yRC yGR yCTabV yk_318 yh_318 524 h = true := fun _ h => absurd h List.not_mem_nil
theorem ycV_320 : y_ckE yP0 yTYV zTF yRC yGR yCTabV yk_320 yh_320 524 = true := by decide +kernel
theorem ydV_320 : ∀ h ∈ yh_320, y_ckH yP0 yTYV zTF yRC yGR yCTabV yk_320 yh_320 524 h = true := fun _ h => absurd h List.not_mem_nil
theorem ycV_335 : y_ckE yP0 yTYV zTF yRC yGR yCTabV yk_335 yh_335 524 = true := by decide +kernel
theorem ydV_335 : ∀ h ∈ yh_335, y_ckH yP0 yTYV zTF yRC yGR yCTabV yk_335 yh_335 524 h = true := fun _ h => absurd h List.not_mem_nil
theorem ycV_336 : y_ckE yP0 yTYV zTF yRC yGR yCTabV yk_336 yh_336 524 = true := by decide +kernel
theorem ydV_336 : ∀ h ∈ yh_336, y_ckH yP0 yTYV zTF yRC yGR yCTabV yk_336 yh_336 524 h = true := fun _ h => absurd h List.not_mem_nil
theorem ycV_338 : y_ckE yP0 yTYV zTF yRC yGR yCTabV yk_338 yh_338 524 = true := by decide +kernel
theorem ydV_338 : ∀ h ∈ yh_338, y_ckH yP0 yTYV zTF yRC yGR yCTabV yk_338 yh_338 524 h = true := fun _ h => absurd h List.not_mem_nil
theorem ycV_171 : y_ckE yP0 yTYV zTF yRC yGR yCTabV yk_171 yh_171 530 = true := by decide +kernel
theorem ydV_171 : ∀ h ∈ yh_171, y_ckH yP0 yTYV zTF yRC yGR yCTabV yk_171 yh_171 530 h = true := fun _ h => absurd h List.not_mem_nil
theorem ycV_172 : y_ckE yP0 yTYV zTF yRC yGR yCTabV yk_172 yh_172 530 = true := by decide +kernel
theorem ydV_172 : ∀ h ∈ yh_172, y_ckH yP0 yTYV zTF yRC yGR yCTabV yk_172 yh_172 530 h = true := fun _ h => absurd h List.not_mem_nil
theorem ycV_173 : y_ckE yP0 yTYV zTF yRC yGR yCTabV yk_173 yh_173 530 = true := by decide +kernel
theorem ydV_173 : ∀ h ∈ yh_173, y_ckH yP0 yTYV zTF yRC yGR yCTabV yk_173 yh_173 530 h = true := fun _ h => absurd h List.not_mem_nil
theorem ycV_346 : y_ckE yP0 yTYV zTF yRC yGR yCTabV yk_346 yh_346 530 = true := by decide +kernel
theorem ydV_346 : ∀ h ∈ yh_346, y_ckH yP0 yTYV zTF yRC yGR yCTabV yk_346 yh_346 530 h = true := List.forall_mem_cons.mpr ⟨by decide +kernel, fun _ h => absurd h List.not_mem_nil⟩
theorem ycV_347 : y_ckE yP0 yTYV zTF yRC yGR yCTabV yk_347 yh_347 530 = true := by decide +kernel
theorem ydV_347 : ∀ h ∈ yh_347, y_ckH yP0 yTYV zTF yRC yGR yCTabV yk_347 yh_347 530 h = true := List.forall_mem_cons.mpr ⟨by decide +kernel, fun _ h => absurd h List.not_mem_nil⟩
theorem ycV_348 : y_ckE yP0 yTYV zTF yRC yGR yCTabV yk_348 yh_348 530 = true := by decide +kernel
theorem ydV_348 : ∀ h ∈ yh_348, y_ckH yP0 yTYV zTF yRC yGR yCTabV yk_348 yh_348 530 h = true := List.forall_mem_cons.mpr ⟨by decide +kernel, fun _ h => absurd h List.not_mem_nil⟩
theorem ycV_349 : y_ckE yP0 yTYV zTF yRC yGR yCTabV yk_349 yh_349 530 = true := by decide +kernel
theorem ydV_349 : ∀ h ∈ yh_349, y_ckH yP0 yTYV zTF yRC yGR yCTabV yk_349 yh_349 530 h = true := List.forall_mem_cons.mpr ⟨by decide +kernel, fun _ h => absurd h List.not_mem_nil⟩
theorem ycV_350 : y_ckE yP0 yTYV zTF yRC yGR yCTabV yk_350 yh_350 530 = true := by decide +kernel
theorem ydV_350 : ∀ h ∈ yh_350, y_ckH yP0 yTYV zTF yRC yGR yCTabV yk_350 yh_350 530 h = true := List.forall_mem_cons.mpr ⟨by decide +kernel, fun _ h => absurd h List.not_mem_nil⟩
theorem ycV_351 : y_ckE yP0 yTYV zTF yRC yGR yCTabV yk_351 yh_351 530 = true := by decide +kernel
theorem ydV_351 : ∀ h ∈ yh_351, y_ckH yP0 yTYV zTF yRC yGR yCTabV yk_351 yh_351 530 h = true := List.forall_mem_cons.mpr ⟨by decide +kernel, fun _ h => absurd h List.not_mem_nil⟩
theorem ycV_199 : y_ckE yP0 yTYV zTF yRC yGR yCTabV yk_199 yh_199 534 = true := by decide +kernel
theorem ydV_199 : ∀ h ∈ yh_199, y_ckH yP0 yTYV zTF yRC yGR yCTabV yk_199 yh_199 534 h = true := fun _ h => absurd h List.not_mem_nil
theorem ycV_298 : y_ckE yP0 yTYV zTF yRC yGR yCTabV yk_298 yh_298 534 = true := by decide +kernel
theorem ydV_298 : ∀ h ∈ yh_298, y_ckH yP0 yTYV zTF yRC yGR yCTabV yk_298 yh_298 534 h = true := fun _ h => absurd h List.not_mem_nil
theorem ycV_42 : y_ckE yP0 yTYV zTF yRC yGR yCTabV yk_42 yh_42 536 = true := by decide +kernel
theorem ydV_42 : ∀ h ∈ yh_42, y_ckH yP0 yTYV zTF yRC yGR yCTabV yk_42 yh_42 536 h = true := List.forall_mem_cons.mpr ⟨by decide +kernel, fun _ h => absurd h List.not_mem_nil⟩
theorem ycV_160 : y_ckE yP0 yTYV zTF yRC yGR yCTabV yk_160 yh_160 536 = true := by decide +kernel
theorem ydV_160 : ∀ h ∈ yh_160, y_ckH yP0 yTYV zTF yRC yGR yCTabV yk_160 yh_160 536 h = true := List.forall_mem_cons.mpr ⟨by decide +kernel, fun _ h => absurd h List.not_mem_nil⟩
theorem ycV_161 : y_ckE yP0 yTYV zTF yRC yGR yCTabV yk_161 yh_161 536 = true := by decide +kernel
theorem ydV_161 : ∀ h ∈ yh_161, y_ckH yP0 yTYV zTF yRC yGR yCTabV yk_161 yh_161 536 h = true := List.forall_mem_cons.mpr ⟨by decide +kernel, fun _ h => absurd h List.not_mem_nil⟩
theorem ycV_215 : y_ckE yP0 yTYV zTF yRC yGR yCTabV yk_215 yh_215 536 = true := by decide +kernel
theorem ydV_215 : ∀ h ∈ yh_215, y_ckH yP0 yTYV zTF yRC yGR yCTabV yk_215 yh_215 536 h = true := fun _ h => absurd h List.not_mem_nil
theorem ycV_239 : y_ckE yP0 yTYV zTF yRC yGR yCTabV yk_239 yh_239 536 = true := by decide +kernel
theorem ydV_239 : ∀ h ∈ yh_239, y_ckH yP0 yTYV zTF yRC yGR yCTabV yk_239 yh_239 536 h = true := fun _ h => absurd h List.not_mem_nil
theorem ycV_291 : y_ckE yP0 yTYV zTF yRC yGR yCTabV yk_291 yh_291 536 = true := by decide +kernel
theorem ydV_291 : ∀ h ∈ yh_291, y_ckH yP0 yTYV zTF yRC yGR yCTabV yk_291 yh_291 536 h = true := List.forall_mem_cons.mpr ⟨by decide +kernel, fun _ h => absurd h List.not_mem_nil⟩
theorem ycV_216 : y_ckE yP0 yTYV zTF yRC yGR yCTabV yk_216 yh_216 538 = true := by decide +kernel
theorem ydV_216 : ∀ h ∈ yh_216, y_ckH yP0 yTYV zTF yRC yGR yCTabV yk_216 yh_216 538 h = true := fun _ h => absurd h List.not_mem_nil
theorem ycV_223 : y_ckE yP0 yTYV zTF yRC yGR yCTabV yk_223 yh_223 538 = true := by decide +kernel
theorem ydV_223 : ∀ h ∈ yh_223, y_ckH yP0 yTYV zTF yRC yGR yCTabV yk_223 yh_223 538 h = true := fun _ h => absurd h List.not_mem_nil
theorem ycV_231 : y_ckE yP0 yTYV zTF yRC yGR yCTabV yk_231 yh_231 538 = true := by decide +kernel
theorem ydV_231 : ∀ h ∈ yh_231, y_ckH yP0 yTYV zTF yRC yGR yCTabV yk_231 yh_231 538 h = true := fun _ h => absurd h List.not_mem_nil
theorem ycV_306 : y_ckE yP0 yTYV zTF yRC yGR yCTabV yk_306 yh_306 538 = true := by decide +kernel
theorem ydV_306 : ∀ h ∈ yh_306, y_ckH yP0 yTYV zTF yRC yGR yCTabV yk_306 yh_306 538 h = true := List.forall_mem_cons.mpr ⟨by decide +kernel, fun _ h => absurd h List.not_mem_nil⟩
theorem ycV_273 : y_ckE yP0 yTYV zTF yRC yGR yCTabV yk_273 yh_273 540 = true := by decide +kernel
theorem ydV_273 : ∀ h ∈ yh_273, y_ckH yP0 yTYV zTF yRC yGR yCTabV yk_273 yh_273 540 h = true := fun _ h => absurd h List.not_mem_nil
theorem ycV_274 : y_ckE yP0 yTYV zTF yRC yGR yCTabV yk_274 yh_274 540 = true := by decide +kernel
theorem ydV_274 : ∀ h ∈ yh_274, y_ckH yP0 yTYV zTF yRC yGR yCTabV yk_274 yh_274 540 h = true := fun _ h => absurd h List.not_mem_nil
theorem ycV_275 : y_ckE yP0 yTYV zTF yRC yGR yCTabV yk_275 yh_275 540 = true := by decide +kernel
theorem ydV_275 : ∀ h ∈ yh_275, y_ckH yP0 yTYV zTF yRC yGR yCTabV yk_275 yh_275 540 h = true := fun _ h => absurd h List.not_mem_nil
theorem ycV_276 : y_ckE yP0 yTYV zTF yRC yGR yCTabV yk_276 yh_276 540 = true := by decide +kernel
theorem ydV_276 : ∀ h ∈ yh_276, y_ckH yP0 yTYV zTF yRC yGR yCTabV yk_276 yh_276 540 h = true := fun _ h => absurd h List.not_mem_nil
theorem ycV_143 : y_ckE yP0 yTYV zTF yRC yGR yCTabV yk_143 yh_143 542 = true := by decide +kernel
theorem ydV_143 : ∀ h ∈ yh_143, y_ckH yP0 yTYV zTF yRC yGR yCTabV yk_143 yh_143 542 h = true := List.forall_mem_cons.mpr ⟨by decide +kernel, fun _ h => absurd h List.not_mem_nil⟩
theorem ycV_144 : y_ckE yP0 yTYV zTF yRC yGR yCTabV yk_144 yh_144 542 = true := by decide +kernel
theorem ydV_144 : ∀ h ∈ yh_144, y_ckH yP0 yTYV zTF yRC yGR yCTabV yk_144 yh_144 542 h = true := List.forall_mem_cons.mpr ⟨by decide +kernel, fun _ h => absurd h List.not_mem_nil⟩
theorem ycV_260 : y_ckE yP0 yTYV zTF yRC yGR yCTabV yk_260 yh_260 542 = true := by decide +kernel
theorem ydV_260 : ∀ h ∈ yh_260, y_ckH yP0 yTYV zTF yRC yGR yCTabV yk_260 yh_260 542 h = true := List.forall_mem_cons.mpr ⟨by decide +kernel, fun _ h => absurd h List.not_mem_nil⟩
theorem ycV_261 : y_ckE yP0 yTYV zTF yRC yGR yCTabV yk_261 yh_261 542 = true := by decide +kernel
theorem ydV_261 : ∀ h ∈ yh_261, y_ckH yP0 yTYV zTF yRC yGR yCTabV yk_261 yh_261 542 h = true := List.forall_mem_cons.mpr ⟨by decide +kernel, fun _ h => absurd h List.not_mem_nil⟩
theorem ycV_262 : y_ckE yP0 yTYV zTF yRC yGR yCTabV yk_262 yh_262 542 = true := by decide +kernel
theorem ydV_262 : ∀ h ∈ yh_262, y_ckH yP0 yTYV zTF yRC yGR yCTabV yk_262 yh_262 542 h = true := List.forall_mem_cons.mpr ⟨by decide +kernel, fun _ h => absurd h List.not_mem_nil⟩
theorem ycV_263 : y_ckE yP0 yTYV zTF yRC yGR yCTabV yk_263 yh_263 542 = true := by decide +kernel
theorem ydV_263 : ∀ h ∈ yh_263, y_ckH yP0 yTYV zTF yRC yGR yCTabV yk_263 yh_263 542 h = true := List.forall_mem_cons.mpr ⟨by decide +kernel, fun _ h => absurd h List.not_mem_nil⟩
theorem ycV_264 : y_ckE yP0 yTYV zTF yRC yGR yCTabV yk_264 yh_264 542 = true := by decide +kernel
theorem ydV_264 : ∀ h ∈ yh_264, y_ckH yP0 yTYV zTF yRC yGR yCTabV yk_264 yh_264 542 h = true := List.forall_mem_cons.mpr ⟨by decide +kernel, fun _ h => absurd h List.not_mem_nil⟩
theorem ycV_265 : y_ckE yP0 yTYV zTF yRC yGR yCTabV yk_265 yh_265 542 = true := by decide +kernel
theorem ydV_265 : ∀ h ∈ yh_265, y_ckH yP0 yTYV zTF yRC yGR yCTabV yk_265 yh_265 542 h = true := List.forall_mem_cons.mpr ⟨by decide +kernel, fun _ h => absurd h List.not_mem_nil⟩
theorem ycV_33 : y_ckE yP0 yTYV zTF yRC yGR yCTabV yk_33 yh_33 544 = true := by decide +kernel
theorem ydV_33 : ∀ h ∈ yh_33, y_ckH yP0 yTYV zTF yRC yGR yCTabV yk_33 yh_33 544 h = true := List.forall_mem_cons.mpr ⟨by decide +kernel, fun _ h => absurd h List.not_mem_nil⟩
theorem ycV_321 : y_ckE yP0 yTYV zTF yRC yGR yCTabV yk_321 yh_321 544 = true := by decide +kernel
theorem ydV_321 : ∀ h ∈ yh_321, y_ckH yP0 yTYV zTF yRC yGR yCTabV yk_321 yh_321 544 h = true := List.forall_mem_cons.mpr ⟨by decide +kernel, fun _ h => absurd h List.not_mem_nil⟩
theorem ycV_156 : y_ckE yP0 yTYV zTF yRC yGR yCTabV yk_156 yh_156 546 = true := by decide +kernel
theorem ydV_156 : ∀ h ∈ yh_156, y_ckH yP0 yTYV zTF yRC yGR yCTabV yk_156 yh_156 546 h = true := fun _ h => absurd h List.not_mem_nil
theorem ycV_157 : y_ckE yP0 yTYV zTF yRC yGR yCTabV yk_157 yh_157 546 = true := by decide +kernel
theorem ydV_157 : ∀ h ∈ yh_157, y_ckH yP0 yTYV zTF yRC yGR yCTabV yk_157 yh_157 546 h = true := fun _ h => absurd h List.not_mem_nil
theorem ycV_286 : y_ckE yP0 yTYV zTF yRC yGR yCTabV yk_286 yh_286 548 = true := by decide +kernel
theorem ydV_286 : ∀ h ∈ yh_286, y_ckH yP0 yTYV zTF yRC yGR yCTabV yk_286 yh_286 548 h = true := List.forall_mem_cons.mpr ⟨by decide +kernel, fun _ h => absurd h List.not_mem_nil⟩
theorem ycV_302 : y_ckE yP0 yTYV zTF yRC yGR yCTabV yk_302 yh_302 548 = true := by decide +kernel
theorem ydV_302 : ∀ h ∈ yh_302, y_ckH yP0 yTYV zTF yRC yGR yCTabV yk_302 yh_302 548 h = true := fun _ h => absurd h List.not_mem_nil
theorem ycV_237 : y_ckE yP0 yTYV zTF yRC yGR yCTabV yk_237 yh_237 550 = true := by decide +kernel
theorem ydV_237 : ∀ h ∈ yh_237, y_ckH yP0 yTYV zTF yRC yGR yCTabV yk_237 yh_237 550 h = true := List.forall_mem_cons.mpr ⟨by decide +kernel, fun _ h => absurd h List.not_mem_nil⟩
theorem ycV_145 : y_ckE yP0 yTYV zTF yRC yGR yCTabV yk_145 yh_145 554 = true := by decide +kernel
theorem ydV_145 : ∀ h ∈ yh_145, y_ckH yP0 yTYV zTF yRC yGR yCTabV yk_145 yh_145 554 h = true := List.forall_mem_cons.mpr ⟨by decide +kernel, fun _ h => absurd h List.not_mem_nil⟩
theorem ycV_146 : y_ckE yP0 yTYV zTF yRC yGR yCTabV yk_146 yh_146 554 = true := by decide +kernel
theorem ydV_146 : ∀ h ∈ yh_146, y_ckH yP0 yTYV zTF yRC yGR yCTabV yk_146 yh_146 554 h = true := List.forall_mem_cons.mpr ⟨by decide +kernel, fun _ h => absurd h List.not_mem_nil⟩
theorem ycV_147 : y_ckE yP0 yTYV zTF yRC yGR yCTabV yk_147 yh_147 554 = true := by decide +kernel
theorem ydV_147 : ∀ h ∈ yh_147, y_ckH yP0 yTYV zTF yRC yGR yCTabV yk_147 yh_147 554 h = true := List.forall_mem_cons.mpr ⟨by decide +kernel, fun _ h => absurd h List.not_mem_nil⟩
theorem ycV_164 : y_ckE yP0 yTYV zTF yRC yGR yCTabV yk_164 yh_164 554 = true := by decide +kernel
theorem ydV_164 : ∀ h ∈ yh_164, y_ckH yP0 yTYV zTF yRC yGR yCTabV yk_164 yh_164 554 h = true := List.forall_mem_cons.mpr ⟨by decide +kernel, fun _ h => absurd h List.not_mem_nil⟩
theorem ycV_165 : y_ckE yP0 yTYV zTF yRC yGR yCTabV yk_165 yh_165 554 = true := by decide +kernel
theorem ydV_165 : ∀ h ∈ yh_165, y_ckH yP0 yTYV zTF yRC yGR yCTabV yk_165 yh_165 554 h = true := List.forall_mem_cons.mpr ⟨by decide +kernel, fun _ h => absurd h List.not_mem_nil⟩
theorem ycV_175 : y_ckE yP0 yTYV zTF yRC yGR yCTabV yk_175 yh_175 554 = true := by decide +kernel
theorem ydV_175 : ∀ h ∈ yh_175, y_ckH yP0 yTYV zTF yRC yGR yCTabV yk_175 yh_175 554 h = true := List.forall_mem_cons.mpr ⟨by decide +kernel, fun _ h => absurd h List.not_mem_nil⟩
theorem ycV_177 : y_ckE yP0 yTYV zTF yRC yGR yCTabV yk_177 yh_177 554 = true := by decide +kernel
theorem ydV_177 : ∀ h ∈ yh_177, y_ckH yP0 yTYV zTF yRC yGR yCTabV yk_177 yh_177 554 h = true := List.forall_mem_cons.mpr ⟨by decide +kernel, fun _ h => absurd h List.not_mem_nil⟩
theorem ycV_300 : y_ckE yP0 yTYV zTF yRC yGR yCTabV yk_300 yh_300 554 = true := by decide +kernel
theorem ydV_300 : ∀ h ∈ yh_300, y_ckH yP0 yTYV zTF yRC yGR yCTabV yk_300 yh_300 554 h = true := fun _ h => absurd h List.not_mem_nil
theorem ycV_89 : y_ckE yP0 yTYV zTF yRC yGR yCTabV yk_89 yh_89 556 = true := by decide +kernel
theorem ydV_89 : ∀ h ∈ yh_89, y_ckH yP0 yTYV zTF yRC yGR yCTabV yk_89 yh_89 556 h = true := List.forall_mem_cons.mpr ⟨by decide +kernel, fun _ h => absurd h List.not_mem_nil⟩
theorem ycV_219 : y_ckE yP0 yTYV zTF yRC yGR yCTabV yk_219 yh_219 556 = true := by decide +kernel
theorem ydV_219 : ∀ h ∈ yh_219, y_ckH yP0 yTYV zTF yRC yGR yCTabV yk_219 yh_219 556 h = true := fun _ h => absurd h List.not_mem_nil
theorem ycV_59 : y_ckE yP0 yTYV zTF yRC yGR yCTabV yk_59 yh_59 560 = true := by decide +kernel
theorem ydV_59 : ∀ h ∈ yh_59, y_ckH yP0 yTYV zTF yRC yGR yCTabV yk_59 yh_59 560 h = true := List.forall_mem_cons.mpr ⟨by decide +kernel, fun _ h => absurd h List.not_mem_nil⟩
theorem ycV_60 : y_ckE yP0 yTYV zTF yRC yGR yCTabV yk_60 yh_60 560 = true := by decide +kernel
theorem ydV_60 : ∀ h ∈ yh_60, y_ckH yP0 yTYV zTF yRC yGR yCTabV yk_60 yh_60 560 h = true := List.forall_mem_cons.mpr ⟨by decide +kernel, fun _ h => absurd h List.not_mem_nil⟩
theorem ycV_61 : y_ckE yP0 yTYV zTF yRC yGR yCTabV yk_61 yh_61 560 = true := by decide +kernel
theorem ydV_61 : ∀ h ∈ yh_61, y_ckH yP0 yTYV zTF yRC yGR yCTabV yk_61 yh_61 560 h = true := List.forall_mem_cons.mpr ⟨by decide +kernel, fun _ h => absurd h List.not_mem_nil⟩
theorem ycV_62 : y_ckE yP0 yTYV zTF yRC yGR yCTabV yk_62 yh_62 560 = true := by decide +kernel
theorem ydV_62 : ∀ h ∈ yh_62, y_ckH yP0 yTYV zTF yRC yGR yCTabV yk_62 yh_62 560 h = true := List.forall_mem_cons.mpr ⟨by decide +kernel, fun _ h => absurd h List.not_mem_nil⟩
theorem ycV_63 : y_ckE yP0 yTYV zTF yRC yGR yCTabV yk_63 yh_63 560 = true := by decide +kernel
theorem ydV_63 : ∀ h ∈ yh_63, y_ckH yP0 yTYV zTF yRC yGR yCTabV yk_63 yh_63 560 h = true := List.forall_mem_cons.mpr ⟨by decide +kernel, fun _ h => absurd h List.not_mem_nil⟩
theorem ycV_64 : y_ckE yP0 yTYV zTF yRC yGR yCTabV yk_64 yh_64 560 = true := by decide +kernel
theorem ydV_64 : ∀ h ∈ yh_64, y_ckH yP0 yTYV zTF yRC yGR yCTabV yk_64 yh_64 560 h = true := List.forall_mem_cons.mpr ⟨by decide +kernel, fun _ h => absurd h List.not_mem_nil⟩
theorem ycV_73 : y_ckE yP0 yTYV zTF yRC yGR yCTabV yk_73 yh_73 560 = true := by decide +kernel
theorem ydV_73 : ∀ h ∈ yh_73, y_ckH yP0 yTYV zTF yRC yGR yCTabV yk_73 yh_73 560 h = true := fun _ h => absurd h List.not_mem_nil
theorem ycV_74 : y_ckE yP0 yTYV zTF yRC yGR yCTabV yk_74 yh_74 560 = true := by decide +kernel
theorem ydV_74 : ∀ h ∈ yh_74, y_ckH yP0 yTYV zTF yRC yGR yCTabV yk_74 yh_74 560 h = true := fun _ h => absurd h List.not_mem_nil
theorem ycV_75 : y_ckE yP0 yTYV zTF yRC yGR yCTabV yk_75 yh_75 560 = true := by decide +kernel
theorem ydV_75 : ∀ h ∈ yh_75, y_ckH yP0 yTYV zTF yRC yGR yCTabV yk_75 yh_75 560 h = true := fun _ h => absurd h List.not_mem_nil
theorem ycV_76 : y_ckE yP0 yTYV zTF yRC yGR yCTabV yk_76 yh_76 560 = true := by decide +kernel
theorem ydV_76 : ∀ h ∈ yh_76, y_ckH yP0 yTYV zTF yRC yGR yCTabV yk_76 yh_76 560 h = true := fun _ h => absurd h List.not_mem_nil
theorem ycV_77 : y_ckE yP0 yTYV zTF yRC yGR yCTabV yk_77 yh_77 560 = true := by decide +kernel
theorem ydV_77 : ∀ h ∈ yh_77, y_ckH yP0 yTYV zTF yRC yGR yCTabV yk_77 yh_77 560 h = true := fun _ h => absurd h List.not_mem_nil
theorem ycV_78 : y_ckE yP0 yTYV zTF yRC yGR yCTabV yk_78 yh_78 560 = true := by decide +kernel
theorem ydV_78 : ∀ h ∈ yh_78, y_ckH yP0 yTYV zTF yRC yGR yCTabV yk_78 yh_78 560 h = true := fun _ h => absurd h List.not_mem_nil
theorem ycV_79 : y_ckE yP0 yTYV zTF yRC yGR yCTabV yk_79 yh_79 560 = true := by decide +kernel
theorem ydV_79 : ∀ h ∈ yh_79, y_ckH yP0 yTYV zTF yRC yGR yCTabV yk_79 yh_79 560 h = true := fun _ h => absurd h List.not_mem_nil
theorem ycV_80 : y_ckE yP0 yTYV zTF yRC yGR yCTabV yk_80 yh_80 560 = true := by decide +kernel
theorem ydV_80 : ∀ h ∈ yh_80, y_ckH yP0 yTYV zTF yRC yGR yCTabV yk_80 yh_80 560 h = true := fun _ h => absurd h List.not_mem_nil
theorem ycV_81 : y_ckE yP0 yTYV zTF yRC yGR yCTabV yk_81 yh_81 560 = true := by decide +kernel
theorem ydV_81 : ∀ h ∈ yh_81, y_ckH yP0 yTYV zTF yRC yGR yCTabV yk_81 yh_81 560 h = true := fun _ h => absurd h List.not_mem_nil
theorem ycV_82 : y_ckE yP0 yTYV zTF yRC yGR yCTabV yk_82 yh_82 560 = true := by decide +kernel
theorem ydV_82 : ∀ h ∈ yh_82, y_ckH yP0 yTYV zTF yRC yGR yCTabV yk_82 yh_82 560 h = true := fun _ h => absurd h List.not_mem_nil
theorem ycV_83 : y_ckE yP0 yTYV zTF yRC yGR yCTabV yk_83 yh_83 560 = true := by decide +kernel
theorem ydV_83 : ∀ h ∈ yh_83, y_ckH yP0 yTYV zTF yRC yGR yCTabV yk_83 yh_83 560 h = true := fun _ h => absurd h List.not_mem_nil
theorem ycV_84 : y_ckE yP0 yTYV zTF yRC yGR yCTabV yk_84 yh_84 560 = true := by decide +kernel
theorem ydV_84 : ∀ h ∈ yh_84, y_ckH yP0 yTYV zTF yRC yGR yCTabV yk_84 yh_84 560 h = true := fun _ h => absurd h List.not_mem_nil
theorem ycV_85 : y_ckE yP0 yTYV zTF yRC yGR yCTabV yk_85 yh_85 560 = true := by decide +kernel
theorem ydV_85 : ∀ h ∈ yh_85, y_ckH yP0 yTYV zTF yRC yGR yCTabV yk_85 yh_85 560 h = true := fun _ h => absurd h List.not_mem_nil
theorem ycV_86 : y_ckE yP0 yTYV zTF yRC yGR yCTabV yk_86 yh_86 560 = true := by decide +kernel
theorem ydV_86 : ∀ h ∈ yh_86, y_ckH yP0 yTYV zTF yRC yGR yCTabV yk_86 yh_86 560 h = true := fun _ h => absurd h List.not_mem_nil
theorem ycV_87 : y_ckE yP0 yTYV zTF yRC yGR yCTabV yk_87 yh_87 560 = true := by decide +kernel
theorem ydV_87 : ∀ h ∈ yh_87, y_ckH yP0 yTYV zTF yRC yGR yCTabV yk_87 yh_87 560 h = true := fun _ h => absurd h List.not_mem_nil
theorem ycV_25 : y_ckE yP0 yTYV zTF yRC yGR yCTabV yk_25 yh_25 562 = true := by decide +kernel
theorem ydV_25 : ∀ h ∈ yh_25, y_ckH yP0 yTYV zTF yRC yGR yCTabV yk_25 yh_25 562 h = true := List.forall_mem_cons.mpr ⟨by decide +kernel, fun _ h => absurd h List.not_mem_nil⟩
theorem ycV_198 : y_ckE yP0 yTYV zTF yRC yGR yCTabV yk_198 yh_198 562 = true := by decide +kernel
theorem ydV_198 : ∀ h ∈ yh_198, y_ckH yP0 yTYV zTF yRC yGR yCTabV yk_198 yh_198 562 h = true := fun _ h => absurd h List.not_mem_nil
theorem ycV_297 : y_ckE yP0 yTYV zTF yRC yGR yCTabV yk_297 yh_297 562 = true := by decide +kernel
theorem ydV_297 : ∀ h ∈ yh_297, y_ckH yP0 yTYV zTF yRC yGR yCTabV yk_297 yh_297 562 h = true := fun _ h => absurd h List.not_mem_nil
theorem ycV_4 : y_ckE yP0 yTYV zTF yRC yGR yCTabV yk_4 yh_4 564 = true := by decide +kernel
theorem ydV_4 : ∀ h ∈ yh_4, y_ckH yP0 yTYV zTF yRC yGR yCTabV yk_4 yh_4 564 h = true := fun _ h => absurd h List.not_mem_nil
theorem ycV_5 : y_ckE yP0 yTYV zTF yRC yGR yCTabV yk_5 yh_5 564 = true := by decide +kernel
theorem ydV_5 : ∀ h ∈ yh_5, y_ckH yP0 yTYV zTF yRC yGR yCTabV yk_5 yh_5 564 h = true := fun _ h => absurd h List.not_mem_nil
theorem ycV_6 : y_ckE yP0 yTYV zTF yRC yGR yCTabV yk_6 yh_6 564 = true := by decide +kernel
theorem ydV_6 : ∀ h ∈ yh_6, y_ckH yP0 yTYV zTF yRC yGR yCTabV yk_6 yh_6 564 h = true := fun _ h => absurd h List.not_mem_nil
theorem ycV_7 : y_ckE yP0 yTYV zTF yRC yGR yCTabV yk_7 yh_7 564 = true := by decide +kernel
theorem ydV_7 : ∀ h ∈ yh_7, y_ckH yP0 yTYV zTF yRC yGR yCTabV yk_7 yh_7 564 h = true := fun _ h => absurd h List.not_mem_nil
theorem ycV_8 : y_ckE yP0 yTYV zTF yRC yGR yCTabV yk_8 yh_8 564 = true := by decide +kernel
theorem ydV_8 : ∀ h ∈ yh_8, y_ckH yP0 yTYV zTF yRC yGR yCTabV yk_8 yh_8 564 h = true := fun _ h => absurd h List.not_mem_nil
theorem ycV_214 : y_ckE yP0 yTYV zTF yRC yGR yCTabV yk_214 yh_214 564 = true := by decide +kernel
theorem ydV_214 : ∀ h ∈ yh_214, y_ckH yP0 yTYV zTF yRC yGR yCTabV yk_214 yh_214 564 h = true := fun _ h => absurd h List.not_mem_nil
theorem ycV_221 : y_ckE yP0 yTYV zTF yRC yGR yCTabV yk_221 yh_221 564 = true := by decide +kernel
theorem ydV_221 : ∀ h ∈ yh_221, y_ckH yP0 yTYV zTF yRC yGR yCTabV yk_221 yh_221 564 h = true := fun _ h => absurd h List.not_mem_nil
theorem ycV_32 : y_ckE yP0 yTYV zTF yRC yGR yCTabV yk_32 yh_32 566 = true := by decide +kernel
theorem ydV_32 : ∀ h ∈ yh_32, y_ckH yP0 yTYV zTF yRC yGR yCTabV yk_32 yh_32 566 h = true := List.forall_mem_cons.mpr ⟨by decide +kernel, fun _ h => absurd h List.not_mem_nil⟩
theorem ycV_68 : y_ckE yP0 yTYV zTF yRC yGR yCTabV yk_68 yh_68 566 = true := by decide +kernel
theorem ydV_68 : ∀ h ∈ yh_68, y_ckH yP0 yTYV zTF yRC yGR yCTabV yk_68 yh_68 566 h = true := fun _ h => absurd h List.not_mem_nil
theorem ycV_69 : y_ckE yP0 yTYV zTF yRC yGR yCTabV yk_69 yh_69 566 = true := by decide +kernel
theorem ydV_69 : ∀ h ∈ yh_69, y_ckH yP0 yTYV zTF yRC yGR yCTabV yk_69 yh_69 566 h = true := fun _ h => absurd h List.not_mem_nil
theorem ycV_70 : y_ckE yP0 yTYV zTF yRC yGR yCTabV yk_70 yh_70 566 = true := by decide +kernel
theorem ydV_70 : ∀ h ∈ yh_70, y_ckH yP0 yTYV zTF yRC yGR yCTabV yk_70 yh_70 566 h = true := fun _ h => absurd h List.not_mem_nil
theorem ycV_71 : y_ckE yP0 yTYV zTF yRC yGR yCTabV yk_71 yh_71 566 = true := by decide +kernel
theorem ydV_71 : ∀ h ∈ yh_71, y_ckH yP0 yTYV zTF yRC yGR yCTabV yk_71 yh_71 566 h = true := fun _ h => absurd h List.not_mem_nil
theorem ycV_72 : y_ckE yP0 yTYV zTF yRC yGR yCTabV yk_72 yh_72 566 = true := by decide +kernel
theorem ydV_72 : ∀ h ∈ yh_72, y_ckH yP0 yTYV zTF yRC yGR yCTabV yk_72 yh_72 566 h = true := fun _ h => absurd h List.not_mem_nil
theorem ycV_287 : y_ckE yP0 yTYV zTF yRC yGR yCTabV yk_287 yh_287 568 = true := by decide +kernel
theorem ydV_287 : ∀ h ∈ yh_287, y_ckH yP0 yTYV zTF yRC yGR yCTabV yk_287 yh_287 568 h = true := List.forall_mem_cons.mpr ⟨by decide +kernel, fun _ h => absurd h List.not_mem_nil⟩
theorem ycV_288 : y_ckE yP0 yTYV zTF yRC yGR yCTabV yk_288 yh_288 568 = true := by decide +kernel
theorem ydV_288 : ∀ h ∈ yh_288, y_ckH yP0 yTYV zTF yRC yGR yCTabV yk_288 yh_288 568 h = true := List.forall_mem_cons.mpr ⟨by decide +kernel, fun _ h => absurd h List.not_mem_nil⟩
theorem ycV_289 : y_ckE yP0 yTYV zTF yRC yGR yCTabV yk_289 yh_289 568 = true := by decide +kernel
theorem ydV_289 : ∀ h ∈ yh_289, y_ckH yP0 yTYV zTF yRC yGR yCTabV yk_289 yh_289 568 h = true := List.forall_mem_cons.mpr ⟨by decide +kernel, fun _ h => absurd h List.not_mem_nil⟩
theorem ycV_21 : y_ckE yP0 yTYV zTF yRC yGR yCTabV yk_21 yh_21 570 = true := by decide +kernel
theorem ydV_21 : ∀ h ∈ yh_21, y_ckH yP0 yTYV zTF yRC yGR yCTabV yk_21 yh_21 570 h = true := List.forall_mem_cons.mpr ⟨by decide +kernel, fun _ h => absurd h List.not_mem_nil⟩
theorem ycV_148 : y_ckE yP0 yTYV zTF yRC yGR yCTabV yk_148 yh_148 572 = true := by decide +kernel
theorem ydV_148 : ∀ h ∈ yh_148, y_ckH yP0 yTYV zTF yRC yGR yCTabV yk_148 yh_148 572 h = true := List.forall_mem_cons.mpr ⟨by decide +kernel, fun _ h => absurd h List.not_mem_nil⟩
theorem ycV_236 : y_ckE yP0 yTYV zTF yRC yGR yCTabV yk_236 yh_236 572 = true := by decide +kernel
theorem ydV_236 : ∀ h ∈ yh_236, y_ckH yP0 yTYV zTF yRC yGR yCTabV yk_236 yh_236 572 h = true := fun _ h => absurd h List.not_mem_nil
theorem ycV_24 : y_ckE yP0 yTYV zTF yRC yGR yCTabV yk_24 yh_24 574 = true := by decide +kernel
theorem ydV_24 : ∀ h ∈ yh_24, y_ckH yP0 yTYV zTF yRC yGR yCTabV yk_24 yh_24 574 h = true := List.forall_mem_cons.mpr ⟨by decide +kernel, fun _ h => absurd h List.not_mem_nil⟩
theorem ycV_149 : y_ckE yP0 yTYV zTF yRC yGR yCTabV yk_149 yh_149 574 = true := by decide +kernel
theorem ydV_149 : ∀ h ∈ yh_149, y_ckH yP0 yTYV zTF yRC yGR yCTabV yk_149 yh_149 574 h = true := List.forall_mem_cons.mpr ⟨by decide +kernel, fun _ h => absurd h List.not_mem_nil⟩
theorem ycV_342 : y_ckE yP0 yTYV zTF yRC yGR yCTabV yk_342 yh_342 576 = true := by decide +kernel
theorem ydV_342 : ∀ h ∈ yh_342, y_ckH yP0 yTYV zTF yRC yGR yCTabV yk_342 yh_342 576 h = true := fun _ h => absurd h List.not_mem_nil
theorem ycV_162 : y_ckE yP0 yTYV zTF yRC yGR yCTabV yk_162 yh_162 578 = true := by decide +kernel
theorem ydV_162 : ∀ h ∈ yh_162, y_ckH yP0 yTYV zTF yRC yGR yCTabV yk_162 yh_162 578 h = true := List.forall_mem_cons.mpr ⟨by decide +kernel, fun _ h => absurd h List.not_mem_nil⟩
theorem ycV_163 : y_ckE yP0 yTYV zTF yRC yGR yCTabV yk_163 yh_163 578 = true := by decide +kernel
theorem ydV_163 : ∀ h ∈ yh_163, y_ckH yP0 yTYV zTF yRC yGR yCTabV yk_163 yh_163 578 h = true := List.forall_mem_cons.mpr ⟨by decide +kernel, fun _ h => absurd h List.not_mem_nil⟩
theorem ycV_210 : y_ckE yP0 yTYV zTF yRC yGR yCTabV yk_210 yh_210 578 = true := by decide +kernel
theorem ydV_210 : ∀ h ∈ yh_210, y_ckH yP0 yTYV zTF yRC yGR yCTabV yk_210 yh_210 578 h = true := fun _ h => absurd h List.not_mem_nil
theorem ycV_43 : y_ckE yP0 yTYV zTF yRC yGR yCTabV yk_43 yh_43 580 = true := by decide +kernel
theorem ydV_43 : ∀ h ∈ yh_43, y_ckH yP0 yTYV zTF yRC yGR yCTabV yk_43 yh_43 580 h = true := List.forall_mem_cons.mpr ⟨by decide +kernel, fun _ h => absurd h List.not_mem_nil⟩
theorem ycV_323 : y_ckE yP0 yTYV zTF yRC yGR yCTabV yk_323 yh_323 580 = true := by decide +kernel
theorem ydV_323 : ∀ h ∈ yh_323, y_ckH yP0 yTYV zTF yRC yGR yCTabV yk_323 yh_323 580 h = true := fun _ h => absurd h List.not_mem_nil
theorem ycV_345 : y_ckE yP0 yTYV zTF yRC yGR yCTabV yk_345 yh_345 580 = true := by decide +kernel
theorem ydV_345 : ∀ h ∈ yh_345, y_ckH yP0 yTYV zTF yRC yGR yCTabV yk_345 yh_345 580 h = true := fun _ h => absurd h List.not_mem_nil
theorem ycV_243 : y_ckE yP0 yTYV zTF yRC yGR yCTabV yk_243 yh_243 582 = true := by decide +kernel
theorem ydV_243 : ∀ h ∈ yh_243, y_ckH yP0 yTYV zTF yRC yGR yCTabV yk_243 yh_243 582 h = true := List.forall_mem_cons.mpr ⟨by decide +kernel, fun _ h => absurd h List.not_mem_nil⟩
theorem ycV_311 : y_ckE yP0 yTYV zTF yRC yGR yCTabV yk_311 yh_311 582 = true := by decide +kernel
theorem ydV_311 : ∀ h ∈ yh_311, y_ckH yP0 yTYV zTF yRC yGR yCTabV yk_311 yh_311 582 h = true := fun _ h => absurd h List.not_mem_nil
theorem ycV_195 : y_ckE yP0 yTYV zTF yRC yGR yCTabV yk_195 yh_195 584 = true := by decide +kernel
theorem ydV_195 : ∀ h ∈ yh_195, y_ckH yP0 yTYV zTF yRC yGR yCTabV yk_195 yh_195 584 h = true := fun _ h => absurd h List.not_mem_nil
theorem ycV_196 : y_ckE yP0 yTYV zTF yRC yGR yCTabV yk_196 yh_196 584 = true := by decide +kernel
theorem ydV_196 : ∀ h ∈ yh_196, y_ckH yP0 yTYV zTF yRC yGR yCTabV yk_196 yh_196 584 h = true := fun _ h => absurd h List.not_mem_nil
theorem ycV_197 : y_ckE yP0 yTYV zTF yRC yGR yCTabV yk_197 yh_197 584 = true := by decide +kernel
theorem ydV_197 : ∀ h ∈ yh_197, y_ckH yP0 yTYV zTF yRC yGR yCTabV yk_197 yh_197 584 h = true := fun _ h => absurd h List.not_mem_nil
theorem ycV_332 : y_ckE yP0 yTYV zTF yRC yGR yCTabV yk_332 yh_332 586 = true := by decide +kernel
theorem ydV_332 : ∀ h ∈ yh_332, y_ckH yP0 yTYV zTF yRC yGR yCTabV yk_332 yh_332 586 h = true := fun _ h => absurd h List.not_mem_nil
theorem ycV_34 : y_ckE yP0 yTYV zTF yRC yGR yCTabV yk_34 yh_34 590 = true := by decide +kernel
theorem ydV_34 : ∀ h ∈ yh_34, y_ckH yP0 yTYV zTF yRC yGR yCTabV yk_34 yh_34 590 h = true := List.forall_mem_cons.mpr ⟨by decide +kernel, fun _ h => absurd h List.not_mem_nil⟩
theorem ycV_322 : y_ckE yP0 yTYV zTF yRC yGR yCTabV yk_322 yh_322 590 = true := by decide +kernel
theorem ydV_322 : ∀ h ∈ yh_322, y_ckH yP0 yTYV zTF yRC yGR yCTabV yk_322 yh_322 590 h = true := fun _ h => absurd h List.not_mem_nil
theorem ycV_290 : y_ckE yP0 yTYV zTF yRC yGR yCTabV yk_290 yh_290 592 = true := by decide +kernel
theorem ydV_290 : ∀ h ∈ yh_290, y_ckH yP0 yTYV zTF yRC yGR yCTabV yk_290 yh_290 592 h = true := List.forall_mem_cons.mpr ⟨by decide +kernel, fun _ h => absurd h List.not_mem_nil⟩
theorem ycV_229 : y_ckE yP0 yTYV zTF yRC yGR yCTabV yk_229 yh_229 594 = true := by decide +kernel
theorem ydV_229 : ∀ h ∈ yh_229, y_ckH yP0 yTYV zTF yRC yGR yCTabV yk_229 yh_229 594 h = true := fun _ h => absurd h List.not_mem_nil
theorem ycV_269 : y_ckE yP0 yTYV zTF yRC yGR yCTabV yk_269 yh_269 594 = true := by decide +kernel
theorem ydV_269 : ∀ h ∈ yh_269, y_ckH yP0 yTYV zTF yRC yGR yCTabV yk_269 yh_269 594 h = true := fun _ h => absurd h List.not_mem_nil
theorem ycV_270 : y_ckE yP0 yTYV zTF yRC yGR yCTabV yk_270 yh_270 594 = true := by decide +kernel
theorem ydV_270 : ∀ h ∈ yh_270, y_ckH yP0 yTYV zTF yRC yGR yCTabV yk_270 yh_270 594 h = true := fun _ h => absurd h List.not_mem_nil
theorem ycV_271 : y_ckE yP0 yTYV zTF yRC yGR yCTabV yk_271 yh_271 594 = true := by decide +kernel
theorem ydV_271 : ∀ h ∈ yh_271, y_ckH yP0 yTYV zTF yRC yGR yCTabV yk_271 yh_271 594 h = true := fun _ h => absurd h List.not_mem_nil
theorem ycV_272 : y_ckE yP0 yTYV zTF yRC yGR yCTabV yk_272 yh_272 594 = true := by decide +kernel
theorem ydV_272 : ∀ h ∈ yh_272, y_ckH yP0 yTYV zTF yRC yGR yCTabV yk_272 yh_272 594 h = true := fun _ h => absurd h List.not_mem_nil
theorem ycV_152 : y_ckE yP0 yTYV zTF yRC yGR yCTabV yk_152 yh_152 596 = true := by decide +kernel
theorem ydV_152 : ∀ h ∈ yh_152, y_ckH yP0 yTYV zTF yRC yGR yCTabV yk_152 yh_152 596 h = true := fun _ h => absurd h List.not_mem_nil
theorem ycV_153 : y_ckE yP0 yTYV zTF yRC yGR yCTabV yk_153 yh_153 596 = true := by decide +kernel
theorem ydV_153 : ∀ h ∈ yh_153, y_ckH yP0 yTYV zTF yRC yGR yCTabV yk_153 yh_153 596 h = true := fun _ h => absurd h List.not_mem_nil
theorem ycV_23 : y_ckE yP0 yTYV zTF yRC yGR yCTabV yk_23 yh_23 598 = true := by decide +kernel
theorem ydV_23 : ∀ h ∈ yh_23, y_ckH yP0 yTYV zTF yRC yGR yCTabV yk_23 yh_23 598 h = true := List.forall_mem_cons.mpr ⟨by decide +kernel, fun _ h => absurd h List.not_mem_nil⟩
theorem ycV_65 : y_ckE yP0 yTYV zTF yRC yGR yCTabV yk_65 yh_65 598 = true := by decide +kernel
theorem ydV_65 : ∀ h ∈ yh_65, y_ckH yP0 yTYV zTF yRC yGR yCTabV yk_65 yh_65 598 h = true := List.forall_mem_cons.mpr ⟨by decide +kernel, fun _ h => absurd h List.not_mem_nil⟩
theorem ycV_66 : y_ckE yP0 yTYV zTF yRC yGR yCTabV yk_66 yh_66 598 = true := by decide +kernel
theorem ydV_66 : ∀ h ∈ yh_66, y_ckH yP0 yTYV zTF yRC yGR yCTabV yk_66 yh_66 598 h = true := List.forall_mem_cons.mpr ⟨by decide +kernel, fun _ h => absurd h List.not_mem_nil⟩
theorem ycV_67 : y_ckE yP0 yTYV zTF yRC yGR yCTabV yk_67 yh_67 598 = true := by decide +kernel
theorem ydV_67 : ∀ h ∈ yh_67, y_ckH yP0 yTYV zTF yRC yGR yCTabV yk_67 yh_67 598 h = true := List.forall_mem_cons.mpr ⟨by decide +kernel, fun _ h => absurd h List.not_mem_nil⟩
theorem ycV_19 : y_ckE yP0 yTYV zTF yRC yGR yCTabV yk_19 yh_19 600 = true := by decide +kernel
theorem ydV_19 : ∀ h ∈ yh_19, y_ckH yP0 yTYV zTF yRC yGR yCTabV yk_19 yh_19 600 h = true := List.forall_mem_cons.mpr ⟨by decide +kernel, fun _ h => absurd h List.not_mem_nil⟩
theorem ycV_178 : y_ckE yP0 yTYV zTF yRC yGR yCTabV yk_178 yh_178 602 = true := by decide +kernel
theorem ydV_178 : ∀ h ∈ yh_178, y_ckH yP0 yTYV zTF yRC yGR yCTabV yk_178 yh_178 602 h = true := fun _ h => absurd h List.not_mem_nil
theorem ycV_179 : y_ckE yP0 yTYV zTF yRC yGR yCTabV yk_179 yh_179 602 = true := by decide +kernel
theorem ydV_179 : ∀ h ∈ yh_179, y_ckH yP0 yTYV zTF yRC yGR yCTabV yk_179 yh_179 602 h = true := fun _ h => absurd h List.not_mem_nil
theorem ycV_189 : y_ckE yP0 yTYV zTF yRC yGR yCTabV yk_189 yh_189 602 = true := by decide +kernel
theorem ydV_189 : ∀ h ∈ yh_189, y_ckH yP0 yTYV zTF yRC yGR yCTabV yk_189 yh_189 602 h = true := fun _ h => absurd h List.not_mem_nil
theorem ycV_190 : y_ckE yP0 yTYV zTF yRC yGR yCTabV yk_190 yh_190 602 = true := by decide +kernel
theorem ydV_190 : ∀ h ∈ yh_190, y_ckH yP0 yTYV zTF yRC yGR yCTabV yk_190 yh_190 602 h = true := fun _ h => absurd h List.not_mem_nil
theorem ycV_191 : y_ckE yP0 yTYV zTF yRC yGR yCTabV yk_191 yh_191 602 = true := by decide +kernel
theorem ydV_191 : ∀ h ∈ yh_191, y_ckH yP0 yTYV zTF yRC yGR yCTabV yk_191 yh_191 602 h = true := fun _ h => absurd h List.not_mem_nil
theorem ycV_192 : y_ckE yP0 yTYV zTF yRC yGR yCTabV yk_192 yh_192 602 = true := by decide +kernel
theorem ydV_192 : ∀ h ∈ yh_192, y_ckH yP0 yTYV zTF yRC yGR yCTabV yk_192 yh_192 602 h = true := fun _ h => absurd h List.not_mem_nil
theorem ycV_193 : y_ckE yP0 yTYV zTF yRC yGR yCTabV yk_193 yh_193 602 = true := by decide +kernel
theorem ydV_193 : ∀ h ∈ yh_193, y_ckH yP0 yTYV zTF yRC yGR yCTabV yk_193 yh_193 602 h = true := fun _ h => absurd h List.not_mem_nil
theorem ycV_194 : y_ckE yP0 yTYV zTF yRC yGR yCTabV yk_194 yh_194 602 = true := by decide +kernel
theorem ydV_194 : ∀ h ∈ yh_194, y_ckH yP0 yTYV zTF yRC yGR yCTabV yk_194 yh_194 602 h = true := fun _ h => absurd h List.not_mem_nil
theorem ycV_285 : y_ckE yP0 yTYV zTF yRC yGR yCTabV yk_285 yh_285 602 = true := by decide +kernel
theorem ydV_285 : ∀ h ∈ yh_285, y_ckH yP0 yTYV zTF yRC yGR yCTabV yk_285 yh_285 602 h = true := List.forall_mem_cons.mpr ⟨by decide +kernel, fun _ h => absurd h List.not_mem_nil⟩
theorem ycV_251 : y_ckE yP0 yTYV zTF yRC yGR yCTabV yk_251 yh_251 604 = true := by decide +kernel
theorem ydV_251 : ∀ h ∈ yh_251, y_ckH yP0 yTYV zTF yRC yGR yCTabV yk_251 yh_251 604 h = true := fun _ h => absurd h List.not_mem_nil
theorem ycV_252 : y_ckE yP0 yTYV zTF yRC yGR yCTabV yk_252 yh_252 604 = true := by decide +kernel
theorem ydV_252 : ∀ h ∈ yh_252, y_ckH yP0 yTYV zTF yRC yGR yCTabV yk_252 yh_252 604 h = true := fun _ h => absurd h List.not_mem_nil
theorem ycV_253 : y_ckE yP0 yTYV zTF yRC yGR yCTabV yk_253 yh_253 604 = true := by decide +kernel
theorem ydV_253 : ∀ h ∈ yh_253, y_ckH yP0 yTYV zTF yRC yGR yCTabV yk_253 yh_253 604 h = true := fun _ h => absurd h List.not_mem_nil
theorem ycV_254 : y_ckE yP0 yTYV zTF yRC yGR yCTabV yk_254 yh_254 604 = true := by decide +kernel
theorem ydV_254 : ∀ h ∈ yh_254, y_ckH yP0 yTYV zTF yRC yGR yCTabV yk_254 yh_254 604 h = true := fun _ h => absurd h List.not_mem_nil
theorem ycV_255 : y_ckE yP0 yTYV zTF yRC yGR yCTabV yk_255 yh_255 604 = true := by decide +kernel
theorem ydV_255 : ∀ h ∈ yh_255, y_ckH yP0 yTYV zTF yRC yGR yCTabV yk_255 yh_255 604 h = true := fun _ h => absurd h List.not_mem_nil
theorem ycV_256 : y_ckE yP0 yTYV zTF yRC yGR yCTabV yk_256 yh_256 604 = true := by decide +kernel
theorem ydV_256 : ∀ h ∈ yh_256, y_ckH yP0 yTYV zTF yRC yGR yCTabV yk_256 yh_256 604 h = true := fun _ h => absurd h List.not_mem_nil
theorem ycV_257 : y_ckE yP0 yTYV zTF yRC yGR yCTabV yk_257 yh_257 604 = true := by decide +kernel
theorem ydV_257 : ∀ h ∈ yh_257, y_ckH yP0 yTYV zTF yRC yGR yCTabV yk_257 yh_257 604 h = true := fun _ h => absurd h List.not_mem_nil
theorem ycV_258 : y_ckE yP0 yTYV zTF yRC yGR yCTabV yk_258 yh_258 604 = true := by decide +kernel
theorem ydV_258 : ∀ h ∈ yh_258, y_ckH yP0 yTYV zTF yRC yGR yCTabV yk_258 yh_258 604 h = true := fun _ h => absurd h List.not_mem_nil
theorem ycV_259 : y_ckE yP0 yTYV zTF yRC yGR yCTabV yk_259 yh_259 604 = true := by decide +kernel
theorem ydV_259 : ∀ h ∈ yh_259, y_ckH yP0 yTYV zTF yRC yGR yCTabV yk_259 yh_259 604 h = true := fun _ h => absurd h List.not_mem_nil
theorem ycV_340 : y_ckE yP0 yTYV zTF yRC yGR yCTabV yk_340 yh_340 604 = true := by decide +kernel
theorem ydV_340 : ∀ h ∈ yh_340, y_ckH yP0 yTYV zTF yRC yGR yCTabV yk_340 yh_340 604 h = true := fun _ h => absurd h List.not_mem_nil
theorem ycV_222 : y_ckE yP0 yTYV zTF yRC yGR yCTabV yk_222 yh_222 606 = true := by decide +kernel
theorem ydV_222 : ∀ h ∈ yh_222, y_ckH yP0 yTYV zTF yRC yGR yCTabV yk_222 yh_222 606 h = true := fun _ h => absurd h List.not_mem_nil
theorem ycV_50 : y_ckE yP0 yTYV zTF yRC yGR yCTabV yk_50 yh_50 608 = true := by decide +kernel
theorem ydV_50 : ∀ h ∈ yh_50, y_ckH yP0 yTYV zTF yRC yGR yCTabV yk_50 yh_50 608 h = true := fun _ h => absurd h List.not_mem_nil
theorem ycV_51 : y_ckE yP0 yTYV zTF yRC yGR yCTabV yk_51 yh_51 608 = true := by decide +kernel
theorem ydV_51 : ∀ h ∈ yh_51, y_ckH yP0 yTYV zTF yRC yGR yCTabV yk_51 yh_51 608 h = true := fun _ h => absurd h List.not_mem_nil
theorem ycV_52 : y_ckE yP0 yTYV zTF yRC yGR yCTabV yk_52 yh_52 608 = true := by decide +kernel
theorem ydV_52 : ∀ h ∈ yh_52, y_ckH yP0 yTYV zTF yRC yGR yCTabV yk_52 yh_52 608 h = true := fun _ h => absurd h List.not_mem_nil
theorem ycV_53 : y_ckE yP0 yTYV zTF yRC yGR yCTabV yk_53 yh_53 608 = true := by decide +kernel
theorem ydV_53 : ∀ h ∈ yh_53, y_ckH yP0 yTYV zTF yRC yGR yCTabV yk_53 yh_53 608 h = true := fun _ h => absurd h List.not_mem_nil
theorem ycV_299 : y_ckE yP0 yTYV zTF yRC yGR yCTabV yk_299 yh_299 608 = true := by decide +kernel
theorem ydV_299 : ∀ h ∈ yh_299, y_ckH yP0 yTYV zTF yRC yGR yCTabV yk_299 yh_299 608 h = true := fun _ h => absurd h List.not_mem_nil
theorem ycV_158 : y_ckE yP0 yTYV zTF yRC yGR yCTabV yk_158 yh_158 610 = true := by decide +kernel
theorem ydV_158 : ∀ h ∈ yh_158, y_ckH yP0 yTYV zTF yRC yGR yCTabV yk_158 yh_158 610 h = true := fun _ h => absurd h List.not_mem_nil
theorem ycV_159 : y_ckE yP0 yTYV zTF yRC yGR yCTabV yk_159 yh_159 610 = true := by decide +kernel
theorem ydV_159 : ∀ h ∈ yh_159, y_ckH yP0 yTYV zTF yRC yGR yCTabV yk_159 yh_159 610 h = true := fun _ h => absurd h List.not_mem_nil
theorem ycV_29 : y_ckE yP0 yTYV zTF yRC yGR yCTabV yk_29 yh_29 614 = true := by decide +kernel
theorem ydV_29 : ∀ h ∈ yh_29, y_ckH yP0 yTYV zTF yRC yGR yCTabV yk_29 yh_29 614 h = true := List.forall_mem_cons.mpr ⟨by decide +kernel, fun _ h => absurd h List.not_mem_nil⟩
theorem ycV_91 : y_ckE yP0 yTYV zTF yRC yGR yCTabV yk_91 yh_91 616 = true := by decide +kernel
theorem ydV_91 : ∀ h ∈ yh_91, y_ckH yP0 yTYV zTF yRC yGR yCTabV yk_91 yh_91 616 h = true := List.forall_mem_cons.mpr ⟨by decide +kernel, fun _ h => absurd h List.not_mem_nil⟩
theorem ycV_92 : y_ckE yP0 yTYV zTF yRC yGR yCTabV yk_92 yh_92 616 = true := by decide +kernel
theorem ydV_92 : ∀ h ∈ yh_92, y_ckH yP0 yTYV zTF yRC yGR yCTabV yk_92 yh_92 616 h = true := List.forall_mem_cons.mpr ⟨by decide +kernel, fun _ h => absurd h List.not_mem_nil⟩
theorem ycV_93 : y_ckE yP0 yTYV zTF yRC yGR yCTabV yk_93 yh_93 616 = true := by decide +kernel
theorem ydV_93 : ∀ h ∈ yh_93, y_ckH yP0 yTYV zTF yRC yGR yCTabV yk_93 yh_93 616 h = true := List.forall_mem_cons.mpr ⟨by decide +kernel, fun _ h => absurd h List.not_mem_nil⟩
theorem ycV_94 : y_ckE yP0 yTYV zTF yRC yGR yCTabV yk_94 yh_94 616 = true := by decide +kernel
theorem ydV_94 : ∀ h ∈ yh_94, y_ckH yP0 yTYV zTF yRC yGR yCTabV yk_94 yh_94 616 h = true := List.forall_mem_cons.mpr ⟨by decide +kernel, fun _ h => absurd h List.not_mem_nil⟩
theorem ycV_95 : y_ckE yP0 yTYV zTF yRC yGR yCTabV yk_95 yh_95 616 = true := by decide +kernel
theorem ydV_95 : ∀ h ∈ yh_95, y_ckH yP0 yTYV zTF yRC yGR yCTabV yk_95 yh_95 616 h = true := List.forall_mem_cons.mpr ⟨by decide +kernel, fun _ h => absurd h List.not_mem_nil⟩
theorem ycV_96 : y_ckE yP0 yTYV zTF yRC yGR yCTabV yk_96 yh_96 616 = true := by decide +kernel
theorem ydV_96 : ∀ h ∈ yh_96, y_ckH yP0 yTYV zTF yRC yGR yCTabV yk_96 yh_96 616 h = true := List.forall_mem_cons.mpr ⟨by decide +kernel, fun _ h => absurd h List.not_mem_nil⟩
theorem ycV_97 : y_ckE yP0 yTYV zTF yRC yGR yCTabV yk_97 yh_97 616 = true := by decide +kernel
theorem ydV_97 : ∀ h ∈ yh_97, y_ckH yP0 yTYV zTF yRC yGR yCTabV yk_97 yh_97 616 h = true := List.forall_mem_cons.mpr ⟨by decide +kernel, fun _ h => absurd h List.not_mem_nil⟩
theorem ycV_98 : y_ckE yP0 yTYV zTF yRC yGR yCTabV yk_98 yh_98 616 = true := by decide +kernel
theorem ydV_98 : ∀ h ∈ yh_98, y_ckH yP0 yTYV zTF yRC yGR yCTabV yk_98 yh_98 616 h = true := List.forall_mem_cons.mpr ⟨by decide +kernel, fun _ h => absurd h List.not_mem_nil⟩
theorem ycV_100 : y_ckE yP0 yTYV zTF yRC yGR yCTabV yk_100 yh_100 616 = true := by decide +kernel
theorem ydV_100 : ∀ h ∈ yh_100, y_ckH yP0 yTYV zTF yRC yGR yCTabV yk_100 yh_100 616 h = true := List.forall_mem_cons.mpr ⟨by decide +kernel, fun _ h => absurd h List.not_mem_nil⟩
