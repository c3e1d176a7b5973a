theorem yc_119 : y_ckE yP0 yTY zTF yRC yGR yCTab yk_119 yh_119 624 = true := by decide +kernel
theorem yd_119 : ∀ h ∈ yh_119, y_ckH yP0 yTY zTF yRC yGR yCTab yk_119 yh_119 624 h = true := List.forall_mem_cons.mpr ⟨by decide +kernel, fun _ h => absurd h List.not_mem_nil⟩
theorem yc_234 : y_ckE yP0 yTY zTF yRC yGR yCTab yk_234 yh_234 626 = true := by decide +kernel
theorem yd_234 : ∀ h ∈ yh_234, y_ckH yP0 yTY zTF yRC yGR yCTab yk_234 yh_234 626 h = true := fun _ h => absurd h List.not_mem_nil
theorem yc_180 : y_ckE yP0 yTY zTF yRC yGR yCTab yk_180 yh_180 628 = true := by decide +kernel
theorem yd_180 : ∀ h ∈ yh_180, y_ckH yP0 yTY zTF yRC yGR yCTab yk_180 yh_180 628 h = true := fun _ h => absurd h List.not_mem_nil
theorem yc_181 : y_ckE yP0 yTY zTF yRC yGR yCTab yk_181 yh_181 628 = true := by decide +kernel
theorem yd_181 : ∀ h ∈ yh_181, y_ckH yP0 yTY zTF yRC yGR yCTab yk_181 yh_181 628 h = true := fun _ h => absurd h List.not_mem_nil
theorem yc_182 : y_ckE yP0 yTY zTF yRC yGR yCTab yk_182 yh_182 628 = true := by decide +kernel
theorem yd_182 : ∀ h ∈ yh_182, y_ckH yP0 yTY zTF yRC yGR yCTab yk_182 yh_182 628 h = true := fun _ h => absurd h List.not_mem_nil
theorem yc_183 : y_ckE yP0 yTY zTF yRC yGR yCTab yk_183 yh_183 628 = true := by decide +kernel
theorem yd_183 : ∀ h ∈ yh_183, y_ckH yP0 yTY zTF yRC yGR yCTab yk_183 yh_183 628 h = true := fun _ h => absurd h List.not_mem_nil
theorem yc_184 : y_ckE yP0 yTY zTF yRC yGR yCTab yk_184 yh_184 628 = true := by decide +kernel
theorem yd_184 : ∀ h ∈ yh_184, y_ckH yP0 yTY zTF yRC yGR yCTab yk_184 yh_184 628 h = true := fun _ h => absurd h List.not_mem_nil
theorem yc_185 : y_ckE yP0 yTY zTF yRC yGR yCTab yk_185 yh_185 628 = true := by decide +kernel
theorem yd_185 : ∀ h ∈ yh_185, y_ckH yP0 yTY zTF yRC yGR yCTab yk_185 yh_185 628 h = true := fun _ h => absurd h List.not_mem_nil
theorem yc_186 : y_ckE yP0 yTY zTF yRC yGR yCTab yk_186 yh_186 628 = true := by decide +kernel
theorem yd_186 : ∀ h ∈ yh_186, y_ckH yP0 yTY zTF yRC yGR yCTab yk_186 yh_186 628 h = true := fun _ h => absurd h List.not_mem_nil
theorem yc_187 : y_ckE yP0 yTY zTF yRC yGR yCTab yk_187 yh_187 628 = true := by decide +kernel
theorem yd_187 : ∀ h ∈ yh_187, y_ckH yP0 yTY zTF yRC yGR yCTab yk_187 yh_187 628 h = true := fun _ h => absurd h List.not_mem_nil
theorem yc_188 : y_ckE yP0 yTY zTF yRC yGR yCTab yk_188 yh_188 628 = true := by decide +kernel
theorem yd_188 : ∀ h ∈ yh_188, y_ckH yP0 yTY zTF yRC yGR yCTab yk_188 yh_188 628 h = true := fun _ h => absurd h List.not_mem_nil
theorem yc_46 : y_ckE yP0 yTY zTF yRC yGR yCTab yk_46 yh_46 636 = true := by decide +kernel
theorem yd_46 : ∀ h ∈ yh_46, y_ckH yP0 yTY zTF yRC yGR yCTab yk_46 yh_46 636 h = true := fun _ h => absurd h List.not_mem_nil
theorem yc_47 : y_ckE yP0 yTY zTF yRC yGR yCTab yk_47 yh_47 636 = true := by decide +kernel
theorem yd_47 : ∀ h ∈ yh_47, y_ckH yP0 yTY zTF yRC yGR yCTab yk_47 yh_47 636 h = true := fun _ h => absurd h List.not_mem_nil
theorem yc_200 : y_ckE yP0 yTY zTF yRC yGR yCTab yk_200 yh_200 638 = true := by decide +kernel
theorem yd_200 : ∀ h ∈ yh_200, y_ckH yP0 yTY zTF yRC yGR yCTab yk_200 yh_200 638 h = true := fun _ h => absurd h List.not_mem_nil
theorem yc_120 : y_ckE yP0 yTY zTF yRC yGR yCTab yk_120 yh_120 646 = true := by decide +kernel
theorem yd_120 : ∀ h ∈ yh_120, y_ckH yP0 yTY zTF yRC yGR yCTab yk_120 yh_120 646 h = true := fun _ h => absurd h List.not_mem_nil
theorem yc_121 : y_ckE yP0 yTY zTF yRC yGR yCTab yk_121 yh_121 646 = true := by decide +kernel
theorem yd_121 : ∀ h ∈ yh_121, y_ckH yP0 yTY zTF yRC yGR yCTab yk_121 yh_121 646 h = true := fun _ h => absurd h List.not_mem_nil
theorem yc_122 : y_ckE yP0 yTY zTF yRC yGR yCTab yk_122 yh_122 646 = true := by decide +kernel
theorem yd_122 : ∀ h ∈ yh_122, y_ckH yP0 yTY zTF yRC yGR yCTab yk_122 yh_122 646 h = true := fun _ h => absurd h List.not_mem_nil
theorem yc_123 : y_ckE yP0 yTY zTF yRC yGR yCTab yk_123 yh_123 646 = true := by decide +kernel
theorem yd_123 : ∀ h ∈ yh_123, y_ckH yP0 yTY zTF yRC yGR yCTab yk_123 yh_123 646 h = true := fun _ h => absurd h List.not_mem_nil
theorem yc_124 : y_ckE yP0 yTY zTF yRC yGR yCTab yk_124 yh_124 646 = true := by decide +kernel
theorem yd_124 : ∀ h ∈ yh_124, y_ckH yP0 yTY zTF yRC yGR yCTab yk_124 yh_124 646 h = true := fun _ h => absurd h List.not_mem_nil
theorem yc_125 : y_ckE yP0 yTY zTF yRC yGR yCTab yk_125 yh_125 646 = true := by decide +kernel
theorem yd_125 : ∀ h ∈ yh_125, y_ckH yP0 yTY zTF yRC yGR yCTab yk_125 yh_125 646 h = true := fun _ h => absurd h List.not_mem_nil
theorem yc_126 : y_ckE yP0 yTY zTF yRC yGR yCTab yk_126 yh_126 646 = true := by decide +kernel
theorem yd_126 : ∀ h ∈ yh_126, y_ckH yP0 yTY zTF yRC yGR yCTab yk_126 yh_126 646 h = true := fun _ h => absurd h List.not_mem_nil
theorem yc_127 : y_ckE yP0 yTY zTF yRC yGR yCTab yk_127 yh_127 646 = true := by decide +kernel
theorem yd_127 : ∀ h ∈ yh_127, y_ckH yP0 yTY zTF yRC yGR yCTab yk_127 yh_127 646 h = true := fun _ h => absurd h List.not_mem_nil
theorem yc_128 : y_ckE yP0 yTY zTF yRC yGR yCTab yk_128 yh_128 646 = true := by decide +kernel
theorem yd_128 : ∀ h ∈ yh_128, y_ckH yP0 yTY zTF yRC yGR yCTab yk_128 yh_128 646 h = true := fun _ h => absurd h List.not_mem_nil
theorem yc_129 : y_ckE yP0 yTY zTF yRC yGR yCTab yk_129 yh_129 646 = true := by decide +kernel
theorem yd_129 : ∀ h ∈ yh_129, y_ckH yP0 yTY zTF yRC yGR yCTab yk_129 yh_129 646 h = true := fun _ h => absurd h List.not_mem_nil
theorem yc_130 : y_ckE yP0 yTY zTF yRC yGR yCTab yk_130 yh_130 646 = true := by decide +kernel
theorem yd_130 : ∀ h ∈ yh_130, y_ckH yP0 yTY zTF yRC yGR yCTab yk_130 yh_130 646 h = true := fun _ h => absurd h List.not_mem_nil
theorem yc_131 : y_ckE yP0 yTY zTF yRC yGR yCTab yk_131 yh_131 646 = true := by decide +kernel
theorem yd_131 : ∀ h ∈ yh_131, y_ckH yP0 yTY zTF yRC yGR yCTab yk_131 yh_131 646 h = true := fun _ h => absurd h List.not_mem_nil
theorem yc_132 : y_ckE yP0 yTY zTF yRC yGR yCTab yk_132 yh_132 646 = true := by decide +kernel
theorem yd_132 : ∀ h ∈ yh_132, y_ckH yP0 yTY zTF yRC yGR yCTab yk_132 yh_132 646 h = true := fun _ h => absurd h List.not_mem_nil
theorem yc_133 : y_ckE yP0 yTY zTF yRC yGR yCTab yk_133 yh_133 646 = true := by decide +kernel
theorem yd_133 : ∀ h ∈ yh_133, y_ckH yP0 yTY zTF yRC yGR yCTab yk_133 yh_133 646 h = true := fun _ h => absurd h List.not_mem_nil
theorem yc_134 : y_ckE yP0 yTY zTF yRC yGR yCTab yk_134 yh_134 646 = true := by decide +kernel
theorem yd_134 : ∀ h ∈ yh_134, y_ckH yP0 yTY zTF yRC yGR yCTab yk_134 yh_134 646 h = true := fun _ h => absurd h List.not_mem_nil
theorem yc_135 : y_ckE yP0 yTY zTF yRC yGR yCTab yk_135 yh_135 646 = true := by decide +kernel
theorem yd_135 : ∀ h ∈ yh_135, y_ckH yP0 yTY zTF yRC yGR yCTab yk_135 yh_135 646 h = true := fun _ h => absurd h List.not_mem_nil
theorem yc_136 : y_ckE yP0 yTY zTF yRC yGR yCTab yk_136 yh_136 646 = true := by decide +kernel
theorem yd_136 : ∀ h ∈ yh_136, y_ckH yP0 yTY zTF yRC yGR yCTab yk_136 yh_136 646 h = true := fun _ h => absurd h List.not_mem_nil
theorem yc_137 : y_ckE yP0 yTY zTF yRC yGR yCTab yk_137 yh_137 646 = true := by decide +kernel
theorem yd_137 : ∀ h ∈ yh_137, y_ckH yP0 yTY zTF yRC yGR yCTab yk_137 yh_137 646 h = true := fun _ h => absurd h List.not_mem_nil
theorem yc_138 : y_ckE yP0 yTY zTF yRC yGR yCTab yk_138 yh_138 646 = true := by decide +kernel
theorem yd_138 : ∀ h ∈ yh_138, y_ckH yP0 yTY zTF yRC yGR yCTab yk_138 yh_138 646 h = true := fun _ h => absurd h List.not_mem_nil
theorem yc_139 : y_ckE yP0 yTY zTF yRC yGR yCTab yk_139 yh_139 646 = true := by decide +kernel
theorem yd_139 : ∀ h ∈ yh_139, y_ckH yP0 yTY zTF yRC yGR yCTab yk_139 yh_139 646 h = true := fun _ h => absurd h List.not_mem_nil
theorem yc_140 : y_ckE yP0 yTY zTF yRC yGR yCTab yk_140 yh_140 646 = true := by decide +kernel
theorem yd_140 : ∀ h ∈ yh_140, y_ckH yP0 yTY zTF yRC yGR yCTab yk_140 yh_140 646 h = true := fun _ h => absurd h List.not_mem_nil
theorem yc_141 : y_ckE yP0 yTY zTF yRC yGR yCTab yk_141 yh_141 646 = true := by decide +kernel
theorem yd_141 : ∀ h ∈ yh_141, y_ckH yP0 yTY zTF yRC yGR yCTab yk_141 yh_141 646 h = true := fun _ h => absurd h List.not_mem_nil
theorem yc_142 : y_ckE yP0 yTY zTF yRC yGR yCTab yk_142 yh_142 646 = true := by decide +kernel
theorem yd_142 : ∀ h ∈ yh_142, y_ckH yP0 yTY zTF yRC yGR yCTab yk_142 yh_142 646 h = true := fun _ h => absurd h List.not_mem_nil
theorem yc_244 : y_ckE yP0 yTY zTF yRC yGR yCTab yk_244 yh_244 660 = true := by decide +kernel
theorem yd_244 : ∀ h ∈ yh_244, y_ckH yP0 yTY zTF yRC yGR yCTab yk_244 yh_244 660 h = true := fun _ h => absurd h List.not_mem_nil
theorem yc_245 : y_ckE yP0 yTY zTF yRC yGR yCTab yk_245 yh_245 660 = true := by decide +kernel
theorem yd_245 : ∀ h ∈ yh_245, y_ckH yP0 yTY zTF yRC yGR yCTab yk_245 yh_245 660 h = true := fun _ h => absurd h List.not_mem_nil
theorem yc_246 : y_ckE yP0 yTY zTF yRC yGR yCTab yk_246 yh_246 660 = true := by decide +kernel
theorem yd_246 : ∀ h ∈ yh_246, y_ckH yP0 yTY zTF yRC yGR yCTab yk_246 yh_246 660 h = true := fun _ h => absurd h List.not_mem_nil
theorem yc_247 : y_ckE yP0 yTY zTF yRC yGR yCTab yk_247 yh_247 660 = true := by decide +kernel
theorem yd_247 : ∀ h ∈ yh_247, y_ckH yP0 yTY zTF yRC yGR yCTab yk_247 yh_247 660 h = true := fun _ h => absurd h List.not_mem_nil
theorem yc_248 : y_ckE yP0 yTY zTF yRC yGR yCTab yk_248 yh_248 660 = true := by decide +kernel
theorem yd_248 : ∀ h ∈ yh_248, y_ckH yP0 yTY zTF yRC yGR yCTab yk_248 yh_248 660 h = true := fun _ h => absurd h List.not_mem_nil
theorem yc_249 : y_ckE yP0 yTY zTF yRC yGR yCTab yk_249 yh_249 660 = true := by decide +kernel
theorem yd_249 : ∀ h ∈ yh_249, y_ckH yP0 yTY zTF yRC yGR yCTab yk_249 yh_249 660 h = true := fun _ h => absurd h List.not_mem_nil
theorem yc_250 : y_ckE yP0 yTY zTF yRC yGR yCTab yk_250 yh_250 660 = true := by decide +kernel
theorem yd_250 : ∀ h ∈ yh_250, y_ckH yP0 yTY zTF yRC yGR yCTab yk_250 yh_250 660 h = true := fun _ h => absurd h List.not_mem_nil
theorem yc_235 : y_ckE yP0 yTY zTF yRC yGR yCTab yk_235 yh_235 674 = true := by decide +kernel
theorem yd_235 : ∀ h ∈ yh_235, y_ckH yP0 yTY zTF yRC yGR yCTab yk_235 yh_235 674 h = true := fun _ h => absurd h List.not_mem_nil
theorem yc_37 : y_ckE yP0 yTY zTF yRC yGR yCTab yk_37 yh_37 688 = true := by decide +kernel
theorem yd_37 : ∀ h ∈ yh_37, y_ckH yP0 yTY zTF yRC yGR yCTab yk_37 yh_37 688 h = true := fun _ h => absurd h List.not_mem_nil
theorem yc_38 : y_ckE yP0 yTY zTF yRC yGR yCTab yk_38 yh_38 688 = true := by decide +kernel
theorem yd_38 : ∀ h ∈ yh_38, y_ckH yP0 yTY zTF yRC yGR yCTab yk_38 yh_38 688 h = true := fun _ h => absurd h List.not_mem_nil
theorem yc_39 : y_ckE yP0 yTY zTF yRC yGR yCTab yk_39 yh_39 688 = true := by decide +kernel
theorem yd_39 : ∀ h ∈ yh_39, y_ckH yP0 yTY zTF yRC yGR yCTab yk_39 yh_39 688 h = true := fun _ h => absurd h List.not_mem_nil
theorem yc_40 : y_ckE yP0 yTY zTF yRC yGR yCTab yk_40 yh_40 688 = true := by decide +kernel
theorem yd_40 : ∀ h ∈ yh_40, y_ckH yP0 yTY zTF yRC yGR yCTab yk_40 yh_40 688 h = true := fun _ h => absurd h List.not_mem_nil
theorem yc_41 : y_ckE yP0 yTY zTF yRC yGR yCTab yk_41 yh_41 688 = true := by decide +kernel
theorem yd_41 : ∀ h ∈ yh_41, y_ckH yP0 yTY zTF yRC yGR yCTab yk_41 yh_41 688 h = true := fun _ h => absurd h List.not_mem_nil
theorem yc_277 : y_ckE yP0 yTY zTF yRC yGR yCTab yk_277 yh_277 692 = true := by decide +kernel
theorem yd_277 : ∀ h ∈ yh_277, y_ckH yP0 yTY zTF yRC yGR yCTab yk_277 yh_277 692 h = true := fun _ h => absurd h List.not_mem_nil
theorem yc_278 : y_ckE yP0 yTY zTF yRC yGR yCTab yk_278 yh_278 692 = true := by decide +kernel
theorem yd_278 : ∀ h ∈ yh_278, y_ckH yP0 yTY zTF yRC yGR yCTab yk_278 yh_278 692 h = true := fun _ h => absurd h List.not_mem_nil
theorem yc_279 : y_ckE yP0 yTY zTF yRC yGR yCTab yk_279 yh_279 692 = true := by decide +kernel
theorem yd_279 : ∀ h ∈ yh_279, y_ckH yP0 yTY zTF yRC yGR yCTab yk_279 yh_279 692 h = true := fun _ h => absurd h List.not_mem_nil
theorem yc_280 : y_ckE yP0 yTY zTF yRC yGR yCTab yk_280 yh_280 692 = true := by decide +kernel
theorem yd_280 : ∀ h ∈ yh_280, y_ckH yP0 yTY zTF yRC yGR yCTab yk_280 yh_280 692 h = true := fun _ h => absurd h List.not_mem_nil
theorem ycV_101 : y_ckE yP0 yTYV zTF yRC yGR yCTabV yk_101 yh_101 616 = true := by decide +kernel
theorem ydV_101 : ∀ h ∈ yh_101, y_ckH yP0 yTYV zTF yRC yGR yCTabV yk_101 yh_101 616 h = true := List.forall_mem_cons.mpr ⟨by decide +kernel, fun _ h => absurd h List.not_mem_nil⟩
theorem ycV_102 : y_ckE yP0 yTYV zTF yRC yGR yCTabV yk_102 yh_102 616 = true := by decide +kernel
theorem ydV_102 : ∀ h ∈ yh_102, y_ckH yP0 yTYV zTF yRC yGR yCTabV yk_102 yh_102 616 h = true := List.forall_mem_cons.mpr ⟨by decide +kernel, fun _ h => absurd h List.not_mem_nil⟩
theorem ycV_103 : y_ckE yP0 yTYV zTF yRC yGR yCTabV yk_103 yh_103 616 = true := by decide +kernel
theorem ydV_103 : ∀ h ∈ yh_103, y_ckH yP0 yTYV zTF yRC yGR yCTabV yk_103 yh_103 616 h = true := List.forall_mem_cons.mpr ⟨by decide +kernel, fun _ h => absurd h List.not_mem_nil⟩
theorem ycV_104 : y_ckE yP0 yTYV zTF yRC yGR yCTabV yk_104 yh_104 616 = true := by decide +kernel
theorem ydV_104 : ∀ h ∈ yh_104, y_ckH yP0 yTYV zTF yRC yGR yCTabV yk_104 yh_104 616 h = true := List.forall_mem_cons.mpr ⟨by decide +kernel, fun _ h => absurd h List.not_mem_nil⟩
theorem ycV_105 : y_ckE yP0 yTYV zTF yRC yGR yCTabV yk_105 yh_105 616 = true := by decide +kernel
theorem ydV_105 : ∀ h ∈ yh_105, y_ckH yP0 yTYV zTF yRC yGR yCTabV yk_105 yh_105 616 h = true := List.forall_mem_cons.mpr ⟨by decide +kernel, fun _ h => absurd h List.not_mem_nil⟩
theorem ycV_106 : y_ckE yP0 yTYV zTF yRC yGR yCTabV yk_106 yh_106 616 = true := by decide +kernel
theorem ydV_106 : ∀ h ∈ yh_106, y_ckH yP0 yTYV zTF yRC yGR yCTabV yk_106 yh_106 616 h = true := List.forall_mem_cons.mpr ⟨by decide +kernel, fun _ h => absurd h List.not_mem_nil⟩
theorem ycV_107 : y_ckE yP0 yTYV zTF yRC yGR yCTabV yk_107 yh_107 616 = true := by decide +kernel
theorem ydV_107 : ∀ h ∈ yh_107, y_ckH yP0 yTYV zTF yRC yGR yCTabV yk_107 yh_107 616 h = true := List.forall_mem_cons.mpr ⟨by decide +kernel, fun _ h => absurd h List.not_mem_nil⟩
theorem ycV_2 : y_ckE yP0 yTYV zTF yRC yGR yCTabV yk_2 yh_2 622 = true := by decide +kernel
theorem ydV_2 : ∀ h ∈ yh_2, y_ckH yP0 yTYV zTF yRC yGR yCTabV yk_2 yh_2 622 h = true := fun _ h => absurd h List.not_mem_nil
theorem ycV_31 : y_ckE yP0 yTYV zTF yRC yGR yCTabV yk_31 yh_31 624 = true := by decide +kernel
theorem ydV_31 : ∀ h ∈ yh_31, y_ckH yP0 yTYV zTF yRC yGR yCTabV yk_31 yh_31 624 h = true := List.forall_mem_cons.mpr ⟨by decide +kernel, fun _ h => absurd h List.not_mem_nil⟩
theorem ycV_180 : y_ckE yP0 yTYV zTF yRC yGR yCTabV yk_180 yh_180 628 = true := by decide +kernel
theorem ydV_180 : ∀ h ∈ yh_180, y_ckH yP0 yTYV zTF yRC yGR yCTabV yk_180 yh_180 628 h = true := fun _ h => absurd h List.not_mem_nil
theorem ycV_181 : y_ckE yP0 yTYV zTF yRC yGR yCTabV yk_181 yh_181 628 = true := by decide +kernel
theorem ydV_181 : ∀ h ∈ yh_181, y_ckH yP0 yTYV zTF yRC yGR yCTabV yk_181 yh_181 628 h = true := fun _ h => absurd h List.not_mem_nil
theorem ycV_182 : y_ckE yP0 yTYV zTF yRC yGR yCTabV yk_182 yh_182 628 = true := by decide +kernel
theorem ydV_182 : ∀ h ∈ yh_182, y_ckH yP0 yTYV zTF yRC yGR yCTabV yk_182 yh_182 628 h = true := fun _ h => absurd h List.not_mem_nil
theorem ycV_183 : y_ckE yP0 yTYV zTF yRC yGR yCTabV yk_183 yh_183 628 = true := by decide +kernel
theorem ydV_183 : ∀ h ∈ yh_183, y_ckH yP0 yTYV zTF yRC yGR yCTabV yk_183 yh_183 628 h = true := fun _ h => absurd h List.not_mem_nil
theorem ycV_184 : y_ckE yP0 yTYV zTF yRC yGR yCTabV yk_184 yh_184 628 = true := by decide +kernel
theorem ydV_184 : ∀ h ∈ yh_184, y_ckH yP0 yTYV zTF yRC yGR yCTabV yk_184 yh_184 628 h = true := fun _ h => absurd h List.not_mem_nil
theorem ycV_185 : y_ckE yP0 yTYV zTF yRC yGR yCTabV yk_185 yh_185 628 = true := by decide +kernel
theorem ydV_185 : ∀ h ∈ yh_185, y_ckH yP0 yTYV zTF yRC yGR yCTabV yk_185 yh_185 628 h = true := fun _ h => absurd h List.not_mem_nil
theorem ycV_186 : y_ckE yP0 yTYV zTF yRC yGR yCTabV yk_186 yh_186 628 = true := by decide +kernel
theorem ydV_186 : ∀ h ∈ yh_186, y_ckH yP0 yTYV zTF yRC yGR yCTabV yk_186 yh_186 628 h = true := fun _ h => absurd h List.not_mem_nil
theorem ycV_187 : y_ckE yP0 yTYV zTF yRC yGR yCTabV yk_187 yh_187 628 = true := by decide +kernel
theorem ydV_187 : ∀ h ∈ yh_187, y_ckH yP0 yTYV zTF yRC yGR yCTabV yk_187 yh_187 628 h = true := fun _ h => absurd h List.not_mem_nil
theorem ycV_188 : y_ckE yP0 yTYV zTF yRC yGR yCTabV yk_188 yh_188 628 = true := by decide +kernel
theorem ydV_188 : ∀ h ∈ yh_188, y_ckH yP0 yTYV zTF yRC yGR yCTabV yk_188 yh_188 628 h = true := fun _ h => absurd h List.not_mem_nil
theorem ycV_27 : y_ckE yP0 yTYV zTF yRC yGR yCTabV yk_27 yh_27 630 = true := by decide +kernel
theorem ydV_27 : ∀ h ∈ yh_27, y_ckH yP0 yTYV zTF yRC yGR yCTabV yk_27 yh_27 630 h = true := List.forall_mem_cons.mpr ⟨by decide +kernel, List.forall_mem_cons.mpr ⟨by decide +kernel, fun _ h => absurd h List.not_mem_nil⟩⟩
theorem ycV_310 : y_ckE yP0 yTYV zTF yRC yGR yCTabV yk_310 yh_310 630 = true := by decide +kernel
theorem ydV_310 : ∀ h ∈ yh_310, y_ckH yP0 yTYV zTF yRC yGR yCTabV yk_310 yh_310 630 h = true := fun _ h => absurd h List.not_mem_nil
theorem ycV_217 : y_ckE yP0 yTYV zTF yRC yGR yCTabV yk_217 yh_217 632 = true := by decide +kernel
theorem ydV_217 : ∀ h ∈ yh_217, y_ckH yP0 yTYV zTF yRC yGR yCTabV yk_217 yh_217 632 h = true := fun _ h => absurd h List.not_mem_nil
theorem ycV_218 : y_ckE yP0 yTYV zTF yRC yGR yCTabV yk_218 yh_218 632 = true := by decide +kernel
theorem ydV_218 : ∀ h ∈ yh_218, y_ckH yP0 yTYV zTF yRC yGR yCTabV yk_218 yh_218 632 h = true := fun _ h => absurd h List.not_mem_nil
theorem ycV_46 : y_ckE yP0 yTYV zTF yRC yGR yCTabV yk_46 yh_46 636 = true := by decide +kernel
theorem ydV_46 : ∀ h ∈ yh_46, y_ckH yP0 yTYV zTF yRC yGR yCTabV yk_46 yh_46 636 h = true := fun _ h => absurd h List.not_mem_nil
theorem ycV_47 : y_ckE yP0 yTYV zTF yRC yGR yCTabV yk_47 yh_47 636 = true := by decide +kernel
theorem ydV_47 : ∀ h ∈ yh_47, y_ckH yP0 yTYV zTF yRC yGR yCTabV yk_47 yh_47 636 h = true := fun _ h => absurd h List.not_mem_nil
theorem ycV_154 : y_ckE yP0 yTYV zTF yRC yGR yCTabV yk_154 yh_154 636 = true := by decide +kernel
theorem ydV_154 : ∀ h ∈ yh_154, y_ckH yP0 yTYV zTF yRC yGR yCTabV yk_154 yh_154 636 h = true := fun _ h => absurd h List.not_mem_nil
theorem ycV_155 : y_ckE yP0 yTYV zTF yRC yGR yCTabV yk_155 yh_155 636 = true := by decide +kernel
theorem ydV_155 : ∀ h ∈ yh_155, y_ckH yP0 yTYV zTF yRC yGR yCTabV yk_155 yh_155 636 h = true := fun _ h => absurd h List.not_mem_nil
theorem ycV_329 : y_ckE yP0 yTYV zTF yRC yGR yCTabV yk_329 yh_329 636 = true := by decide +kernel
theorem ydV_329 : ∀ h ∈ yh_329, y_ckH yP0 yTYV zTF yRC yGR yCTabV yk_329 yh_329 636 h = true := List.forall_mem_cons.mpr ⟨by decide +kernel, fun _ h => absurd h List.not_mem_nil⟩
theorem ycV_324 : y_ckE yP0 yTYV zTF yRC yGR yCTabV yk_324 yh_324 638 = true := by decide +kernel
theorem ydV_324 : ∀ h ∈ yh_324, y_ckH yP0 yTYV zTF yRC yGR yCTabV yk_324 yh_324 638 h = true := List.forall_mem_cons.mpr ⟨by decide +kernel, fun _ h => absurd h List.not_mem_nil⟩
theorem ycV_0 : y_ckE yP0 yTYV zTF yRC yGR yCTabV yk_0 yh_0 642 = true := by decide +kernel
theorem ydV_0 : ∀ h ∈ yh_0, y_ckH yP0 yTYV zTF yRC yGR yCTabV yk_0 yh_0 642 h = true := List.forall_mem_cons.mpr ⟨by decide +kernel, fun _ h => absurd h List.not_mem_nil⟩
theorem ycV_120 : y_ckE yP0 yTYV zTF yRC yGR yCTabV yk_120 yh_120 646 = true := by decide +kernel
theorem ydV_120 : ∀ h ∈ yh_120, y_ckH yP0 yTYV zTF yRC yGR yCTabV yk_120 yh_120 646 h = true := fun _ h => absurd h List.not_mem_nil
theorem ycV_121 : y_ckE yP0 yTYV zTF yRC yGR yCTabV yk_121 yh_121 646 = true := by decide +kernel
theorem ydV_121 : ∀ h ∈ yh_121, y_ckH yP0 yTYV zTF yRC yGR yCTabV yk_121 yh_121 646 h = true := fun _ h => absurd h List.not_mem_nil
theorem ycV_122 : y_ckE yP0 yTYV zTF yRC yGR yCTabV yk_122 yh_122 646 = true := by decide +kernel
theorem ydV_122 : ∀ h ∈ yh_122, y_ckH yP0 yTYV zTF yRC yGR yCTabV yk_122 yh_122 646 h = true := fun _ h => absurd h List.not_mem_nil
theorem ycV_123 : y_ckE yP0 yTYV zTF yRC yGR yCTabV yk_123 yh_123 646 = true := by decide +kernel
theorem ydV_123 : ∀ h ∈ yh_123, y_ckH yP0 yTYV zTF yRC yGR yCTabV yk_123 yh_123 646 h = true := fun _ h => absurd h List.not_mem_nil
theorem ycV_124 : y_ckE yP0 yTYV zTF yRC yGR yCTabV yk_124 yh_124 646 = true := by decide +kernel
theorem ydV_124 : ∀ h ∈ yh_124, y_ckH yP0 yTYV zTF yRC yGR yCTabV yk_124 yh_124 646 h = true := fun _ h => absurd h List.not_mem_nil
theorem ycV_125 : y_ckE yP0 yTYV zTF yRC yGR yCTabV yk_125 yh_125 646 = true := by decide +kernel
theorem ydV_125 : ∀ h ∈ yh_125, y_ckH yP0 yTYV zTF yRC yGR yCTabV yk_125 yh_125 646 h = true := fun _ h => absurd h List.not_mem_nil
theorem ycV_126 : y_ckE yP0 yTYV zTF yRC yGR yCTabV yk_126 yh_126 646 = true := by decide +kernel
theorem ydV_126 : ∀ h ∈ yh_126, y_ckH yP0 yTYV zTF yRC yGR yCTabV yk_126 yh_126 646 h = true := fun _ h => absurd h List.not_mem_nil
theorem ycV_127 : y_ckE yP0 yTYV zTF yRC yGR yCTabV yk_127 yh_127 646 = true := by decide +kernel
theorem ydV_127 : ∀ h ∈ yh_127, y_ckH yP0 yTYV zTF yRC yGR yCTabV yk_127 yh_127 646 h = true := fun _ h => absurd h List.not_mem_nil
theorem ycV_128 : y_ckE yP0 yTYV zTF yRC yGR yCTabV yk_128 yh_128 646 = true := by decide +kernel
theorem ydV_128 : ∀ h ∈ yh_128, y_ckH yP0 yTYV zTF yRC yGR yCTabV yk_128 yh_128 646 h = true := fun _ h => absurd h List.not_mem_nil
theorem ycV_129 : y_ckE yP0 yTYV zTF yRC yGR yCTabV yk_129 yh_129 646 = true := by decide +kernel
theorem ydV_129 : ∀ h ∈ yh_129, y_ckH yP0 yTYV zTF yRC yGR yCTabV yk_129 yh_129 646 h = true := fun _ h => absurd h List.not_mem_nil
theorem ycV_130 : y_ckE yP0 yTYV zTF yRC yGR yCTabV yk_130 yh_130 646 = true := by decide +kernel
theorem ydV_130 : ∀ h ∈ yh_130, y_ckH yP0 yTYV zTF yRC yGR yCTabV yk_130 yh_130 646 h = true := fun _ h => absurd h List.not_mem_nil
theorem ycV_131 : y_ckE yP0 yTYV zTF yRC yGR yCTabV yk_131 yh_131 646 = true := by decide +kernel
theorem ydV_131 : ∀ h ∈ yh_131, y_ckH yP0 yTYV zTF yRC yGR yCTabV yk_131 yh_131 646 h = true := fun _ h => absurd h List.not_mem_nil
theorem ycV_132 : y_ckE yP0 yTYV zTF yRC yGR yCTabV yk_132 yh_132 646 = true := by decide +kernel
theorem ydV_132 : ∀ h ∈ yh_132, y_ckH yP0 yTYV zTF yRC yGR yCTabV yk_132 yh_132 646 h = true := fun _ h => absurd h List.not_mem_nil
theorem ycV_133 : y_ckE yP0 yTYV zTF yRC yGR yCTabV yk_133 yh_133 646 = true := by decide +kernel
theorem ydV_133 : ∀ h ∈ yh_133, y_ckH yP0 yTYV zTF yRC yGR yCTabV yk_133 yh_133 646 h = true := fun _ h => absurd h List.not_mem_nil
theorem ycV_134 : y_ckE yP0 yTYV zTF yRC yGR yCTabV yk_134 yh_134 646 = true := by decide +kernel
theorem ydV_134 : ∀ h ∈ yh_134, y_ckH yP0 yTYV zTF yRC yGR yCTabV yk_134 yh_134 646 h = true := fun _ h => absurd h List.not_mem_nil
theorem ycV_135 : y_ckE yP0 yTYV zTF yRC yGR yCTabV yk_135 yh_135 646 = true := by decide +kernel
theorem ydV_135 : ∀ h ∈ yh_135, y_ckH yP0 yTYV zTF yRC yGR yCTabV yk_135 yh_135 646 h = true := fun _ h => absurd h List.not_mem_nil
theorem ycV_136 : y_ckE yP0 yTYV zTF yRC yGR yCTabV yk_136 yh_136 646 = true := by decide +kernel
theorem ydV_136 : ∀ h ∈ yh_136, y_ckH yP0 yTYV zTF yRC yGR yCTabV yk_136 yh_136 646 h = true := fun _ h => absurd h List.not_mem_nil
theorem ycV_137 : y_ckE yP0 yTYV zTF yRC yGR yCTabV yk_137 yh_137 646 = true := by decide +kernel
theorem ydV_137 : ∀ h ∈ yh_137, y_ckH yP0 yTYV zTF yRC yGR yCTabV yk_137 yh_137 646 h = true := fun _ h => absurd h List.not_mem_nil
theorem ycV_138 : y_ckE yP0 yTYV zTF yRC yGR yCTabV yk_138 yh_138 646 = true := by decide +kernel
theorem ydV_138 : ∀ h ∈ yh_138, y_ckH yP0 yTYV zTF yRC yGR yCTabV yk_138 yh_138 646 h = true := fun _ h => absurd h List.not_mem_nil
theorem ycV_139 : y_ckE yP0 yTYV zTF yRC yGR yCTabV yk_139 yh_139 646 = true := by decide +kernel
theorem ydV_139 : ∀ h ∈ yh_139, y_ckH yP0 yTYV zTF yRC yGR yCTabV yk_139 yh_139 646 h = true := fun _ h => absurd h List.not_mem_nil
theorem ycV_140 : y_ckE yP0 yTYV zTF yRC yGR yCTabV yk_140 yh_140 646 = true := by decide +kernel
theorem ydV_140 : ∀ h ∈ yh_140, y_ckH yP0 yTYV zTF yRC yGR yCTabV yk_140 yh_140 646 h = true := fun _ h => absurd h List.not_mem_nil
theorem ycV_141 : y_ckE yP0 yTYV zTF yRC yGR yCTabV yk_141 yh_141 646 = true := by decide +kernel
theorem ydV_141 : ∀ h ∈ yh_141, y_ckH yP0 yTYV zTF yRC yGR yCTabV yk_141 yh_141 646 h = true := fun _ h => absurd h List.not_mem_nil
theorem ycV_142 : y_ckE yP0 yTYV zTF yRC yGR yCTabV yk_142 yh_142 646 = true := by decide +kernel
theorem ydV_142 : ∀ h ∈ yh_142, y_ckH yP0 yTYV zTF yRC yGR yCTabV yk_142 yh_142 646 h = true := fun _ h => absurd h List.not_mem_nil
theorem ycV_330 : y_ckE yP0 yTYV zTF yRC yGR yCTabV yk_330 yh_330 646 = true := by decide +kernel
theorem ydV_330 : ∀ h ∈ yh_330, y_ckH yP0 yTYV zTF yRC yGR yCTabV yk_330 yh_330 646 h = true := List.forall_mem_cons.mpr ⟨by decide +kernel, fun _ h => absurd h List.not_mem_nil⟩
theorem ycV_28 : y_ckE yP0 yTYV zTF yRC yGR yCTabV yk_28 yh_28 654 = true := by decide +kernel
theorem ydV_28 : ∀ h ∈ yh_28, y_ckH yP0 yTYV zTF yRC yGR yCTabV yk_28 yh_28 654 h = true := List.forall_mem_cons.mpr ⟨by decide +kernel, List.forall_mem_cons.mpr ⟨by decide +kernel, fun _ h => absurd h List.not_mem_nil⟩⟩
theorem ycV_30 : y_ckE yP0 yTYV zTF yRC yGR yCTabV yk_30 yh_30 654 = true := by decide +kernel
theorem ydV_30 : ∀ h ∈ yh_30, y_ckH yP0 yTYV zTF yRC yGR yCTabV yk_30 yh_30 654 h = true := List.forall_mem_cons.mpr ⟨by decide +kernel, fun _ h => absurd h List.not_mem_nil⟩
theorem ycV_26 : y_ckE yP0 yTYV zTF yRC yGR yCTabV yk_26 yh_26 660 = true := by decide +kernel
theorem ydV_26 : ∀ h ∈ yh_26, y_ckH yP0 yTYV zTF yRC yGR yCTabV yk_26 yh_26 660 h = true := List.forall_mem_cons.mpr ⟨by decide +kernel, fun _ h => absurd h List.not_mem_nil⟩
theorem ycV_244 : y_ckE yP0 yTYV zTF yRC yGR yCTabV yk_244 yh_244 660 = true := by decide +kernel
theorem ydV_244 : ∀ h ∈ yh_244, y_ckH yP0 yTYV zTF yRC yGR yCTabV yk_244 yh_244 660 h = true := fun _ h => absurd h List.not_mem_nil
theorem ycV_245 : y_ckE yP0 yTYV zTF yRC yGR yCTabV yk_245 yh_245 660 = true := by decide +kernel
theorem ydV_245 : ∀ h ∈ yh_245, y_ckH yP0 yTYV zTF yRC yGR yCTabV yk_245 yh_245 660 h = true := fun _ h => absurd h List.not_mem_nil
theorem ycV_246 : y_ckE yP0 yTYV zTF yRC yGR yCTabV yk_246 yh_246 660 = true := by decide +kernel
theorem ydV_246 : ∀ h ∈ yh_246, y_ckH yP0 yTYV zTF yRC yGR yCTabV yk_246 yh_246 660 h = true := fun _ h => absurd h List.not_mem_nil
theorem ycV_247 : y_ckE yP0 yTYV zTF yRC yGR yCTabV yk_247 yh_247 660 = true := by decide +kernel
theorem ydV_247 : ∀ h ∈ yh_247, y_ckH yP0 yTYV zTF yRC yGR yCTabV yk_247 yh_247 660 h = true := fun _ h => absurd h List.not_mem_nil
theorem ycV_248 : y_ckE yP0 yTYV zTF yRC yGR yCTabV yk_248 yh_248 660 = true := by decide +kernel
theorem ydV_248 : ∀ h ∈ yh_248, y_ckH yP0 yTYV zTF yRC yGR yCTabV yk_248 yh_248 660 h = true := fun _ h => absurd h List.not_mem_nil
theorem ycV_249 : y_ckE yP0 yTYV zTF yRC yGR yCTabV yk_249 yh_249 660 = true := by decide +kernel
theorem ydV_249 : ∀ h ∈ yh_249, y_ckH yP0 yTYV zTF yRC yGR yCTabV yk_249 yh_249 660 h = true := fun _ h => absurd h List.not_mem_nil
theorem ycV_250 : y_ckE yP0 yTYV zTF yRC yGR yCTabV yk_250 yh_250 660 = true := by decide +kernel
theorem ydV_250 : ∀ h ∈ yh_250, y_ckH yP0 yTYV zTF yRC yGR yCTabV yk_250 yh_250 660 h = true := fun _ h => absurd h List.not_mem_nil
theorem ycV_13 : y_ckE yP0 yTYV zTF yRC yGR yCTabV yk_13 yh_13 662 = true := by decide +kernel
theorem ydV_13 : ∀ h ∈ yh_13, y_ckH yP0 yTYV zTF yRC yGR yCTabV yk_13 yh_13 662 h = true := List.forall_mem_cons.mpr ⟨by decide +kernel, fun _ h => absurd h List.not_mem_nil⟩
theorem ycV_14 : y_ckE yP0 yTYV zTF yRC yGR yCTabV yk_14 yh_14 662 = true := by decide +kernel
theorem ydV_14 : ∀ h ∈ yh_14, y_ckH yP0 yTYV zTF yRC yGR yCTabV yk_14 yh_14 662 h = true := List.forall_mem_cons.mpr ⟨by decide +kernel, fun _ h => absurd h List.not_mem_nil⟩
theorem ycV_203 : y_ckE yP0 yTYV zTF yRC yGR yCTabV yk_203 yh_203 676 = true := by decide +kernel
theorem ydV_203 : ∀ h ∈ yh_203, y_ckH yP0 yTYV zTF yRC yGR yCTabV yk_203 yh_203 676 h = true := fun _ h => absurd h List.not_mem_nil
theorem ycV_333 : y_ckE yP0 yTYV zTF yRC yGR yCTabV yk_333 yh_333 676 = true := by decide +kernel
theorem ydV_333 : ∀ h ∈ yh_333, y_ckH yP0 yTYV zTF yRC yGR yCTabV yk_333 yh_333 676 h = true := fun _ h => absurd h List.not_mem_nil
theorem ycV_316 : y_ckE yP0 yTYV zTF yRC yGR yCTabV yk_316 yh_316 686 = true := by decide +kernel
theorem ydV_316 : ∀ h ∈ yh_316, y_ckH yP0 yTYV zTF yRC yGR yCTabV yk_316 yh_316 686 h = true := List.forall_mem_cons.mpr ⟨by decide +kernel, List.forall_mem_cons.mpr ⟨by decide +kernel, fun _ h => absurd h List.not_mem_nil⟩⟩
theorem ycV_277 : y_ckE yP0 yTYV zTF yRC yGR yCTabV yk_277 yh_277 692 = true := by decide +kernel
theorem ydV_277 : ∀ h ∈ yh_277, y_ckH yP0 yTYV zTF yRC yGR yCTabV yk_277 yh_277 692 h = true := fun _ h => absurd h List.not_mem_nil
theorem ycV_278 : y_ckE yP0 yTYV zTF yRC yGR yCTabV yk_278 yh_278 692 = true := by decide +kernel
theorem ydV_278 : ∀ h ∈ yh_278, y_ckH yP0 yTYV zTF yRC yGR yCTabV yk_278 yh_278 692 h = true := fun _ h => absurd h List.not_mem_nil
theorem ycV_279 : y_ckE yP0 yTYV zTF yRC yGR yCTabV yk_279 yh_279 692 = true := by decide +kernel
theorem ydV_279 : ∀ h ∈ yh_279, y_ckH yP0 yTYV zTF yRC yGR yCTabV yk_279 yh_279 692 h = true := fun _ h => absurd h List.not_mem_nil
theorem ycV_280 : y_ckE yP0 yTYV zTF yRC yGR yCTabV yk_280 yh_280 692 = true := by decide +kernel
theorem ydV_280 : ∀ h ∈ yh_280, y_ckH yP0 yTYV zTF yRC yGR yCTabV yk_280 yh_280 692 h = true := fun _ h => absurd h List.not_mem_nil
