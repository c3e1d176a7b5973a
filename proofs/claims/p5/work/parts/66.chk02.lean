theorem yc_266 : y_ckE yP0 yTY zTF yRC yGR yCTab yk_266 yh_266 700 = true := by decide +kernel
theorem yd_266 : ∀ h ∈ yh_266, y_ckH yP0 yTY zTF yRC yGR yCTab yk_266 yh_266 700 h = true := fun _ h => absurd h List.not_mem_nil
theorem yc_267 : y_ckE yP0 yTY zTF yRC yGR yCTab yk_267 yh_267 700 = true := by decide +kernel
theorem yd_267 : ∀ h ∈ yh_267, y_ckH yP0 yTY zTF yRC yGR yCTab yk_267 yh_267 700 h = true := fun _ h => absurd h List.not_mem_nil
theorem yc_268 : y_ckE yP0 yTY zTF yRC yGR yCTab yk_268 yh_268 700 = true := by decide +kernel
theorem yd_268 : ∀ h ∈ yh_268, y_ckH yP0 yTY zTF yRC yGR yCTab yk_268 yh_268 700 h = true := fun _ h => absurd h List.not_mem_nil
theorem yc_44 : y_ckE yP0 yTY zTF yRC yGR yCTab yk_44 yh_44 720 = true := by decide +kernel
theorem yd_44 : ∀ h ∈ yh_44, y_ckH yP0 yTY zTF yRC yGR yCTab yk_44 yh_44 720 h = true := List.forall_mem_cons.mpr ⟨by decide +kernel, fun _ h => absurd h List.not_mem_nil⟩
theorem yc_48 : y_ckE yP0 yTY zTF yRC yGR yCTab yk_48 yh_48 732 = true := by decide +kernel
theorem yd_48 : ∀ h ∈ yh_48, y_ckH yP0 yTY zTF yRC yGR yCTab yk_48 yh_48 732 h = true := fun _ h => absurd h List.not_mem_nil
theorem yc_45 : y_ckE yP0 yTY zTF yRC yGR yCTab yk_45 yh_45 758 = true := by decide +kernel
theorem yd_45 : ∀ h ∈ yh_45, y_ckH yP0 yTY zTF yRC yGR yCTab yk_45 yh_45 758 h = true := fun _ h => absurd h List.not_mem_nil
theorem yc_49 : y_ckE yP0 yTY zTF yRC yGR yCTab yk_49 yh_49 818 = true := by decide +kernel
theorem yd_49 : ∀ h ∈ yh_49, y_ckH yP0 yTY zTF yRC yGR yCTab yk_49 yh_49 818 h = true := fun _ h => absurd h List.not_mem_nil
theorem yc_176 : y_ckE yP0 yTY zTF yRC yGR yCTab yk_176 yh_176 886 = true := by decide +kernel
theorem yd_176 : ∀ h ∈ yh_176, y_ckH yP0 yTY zTF yRC yGR yCTab yk_176 yh_176 886 h = true := List.forall_mem_cons.mpr ⟨by decide +kernel, fun _ h => absurd h List.not_mem_nil⟩
theorem ycV_150 : y_ckE yP0 yTYV zTF yRC yGR yCTabV yk_150 yh_150 694 = true := by decide +kernel
theorem ydV_150 : ∀ h ∈ yh_150, y_ckH yP0 yTYV zTF yRC yGR yCTabV yk_150 yh_150 694 h = true := List.forall_mem_cons.mpr ⟨by decide +kernel, List.forall_mem_cons.mpr ⟨by decide +kernel, fun _ h => absurd h List.not_mem_nil⟩⟩
theorem ycV_151 : y_ckE yP0 yTYV zTF yRC yGR yCTabV yk_151 yh_151 694 = true := by decide +kernel
theorem ydV_151 : ∀ h ∈ yh_151, y_ckH yP0 yTYV zTF yRC yGR yCTabV yk_151 yh_151 694 h = true := List.forall_mem_cons.mpr ⟨by decide +kernel, List.forall_mem_cons.mpr ⟨by decide +kernel, fun _ h => absurd h List.not_mem_nil⟩⟩
theorem ycV_296 : y_ckE yP0 yTYV zTF yRC yGR yCTabV yk_296 yh_296 694 = true := by decide +kernel
theorem ydV_296 : ∀ h ∈ yh_296, y_ckH yP0 yTYV zTF yRC yGR yCTabV yk_296 yh_296 694 h = true := fun _ h => absurd h List.not_mem_nil
theorem ycV_266 : y_ckE yP0 yTYV zTF yRC yGR yCTabV yk_266 yh_266 700 = true := by decide +kernel
theorem ydV_266 : ∀ h ∈ yh_266, y_ckH yP0 yTYV zTF yRC yGR yCTabV yk_266 yh_266 700 h = true := fun _ h => absurd h List.not_mem_nil
theorem ycV_267 : y_ckE yP0 yTYV zTF yRC yGR yCTabV yk_267 yh_267 700 = true := by decide +kernel
theorem ydV_267 : ∀ h ∈ yh_267, y_ckH yP0 yTYV zTF yRC yGR yCTabV yk_267 yh_267 700 h = true := fun _ h => absurd h List.not_mem_nil
theorem ycV_268 : y_ckE yP0 yTYV zTF yRC yGR yCTabV yk_268 yh_268 700 = true := by decide +kernel
theorem ydV_268 : ∀ h ∈ yh_268, y_ckH yP0 yTYV zTF yRC yGR yCTabV yk_268 yh_268 700 h = true := fun _ h => absurd h List.not_mem_nil
theorem ycV_168 : y_ckE yP0 yTYV zTF yRC yGR yCTabV yk_168 yh_168 704 = true := by decide +kernel
theorem ydV_168 : ∀ h ∈ yh_168, y_ckH yP0 yTYV zTF yRC yGR yCTabV yk_168 yh_168 704 h = true := List.forall_mem_cons.mpr ⟨by decide +kernel, List.forall_mem_cons.mpr ⟨by decide +kernel, fun _ h => absurd h List.not_mem_nil⟩⟩
theorem ycV_169 : y_ckE yP0 yTYV zTF yRC yGR yCTabV yk_169 yh_169 704 = true := by decide +kernel
theorem ydV_169 : ∀ h ∈ yh_169, y_ckH yP0 yTYV zTF yRC yGR yCTabV yk_169 yh_169 704 h = true := List.forall_mem_cons.mpr ⟨by decide +kernel, List.forall_mem_cons.mpr ⟨by decide +kernel, fun _ h => absurd h List.not_mem_nil⟩⟩
theorem ycV_212 : y_ckE yP0 yTYV zTF yRC yGR yCTabV yk_212 yh_212 708 = true := by decide +kernel
theorem ydV_212 : ∀ h ∈ yh_212, y_ckH yP0 yTYV zTF yRC yGR yCTabV yk_212 yh_212 708 h = true := fun _ h => absurd h List.not_mem_nil
theorem ycV_292 : y_ckE yP0 yTYV zTF yRC yGR yCTabV yk_292 yh_292 710 = true := by decide +kernel
theorem ydV_292 : ∀ h ∈ yh_292, y_ckH yP0 yTYV zTF yRC yGR yCTabV yk_292 yh_292 710 h = true := List.forall_mem_cons.mpr ⟨by decide +kernel, List.forall_mem_cons.mpr ⟨by decide +kernel, fun _ h => absurd h List.not_mem_nil⟩⟩
theorem ycV_326 : y_ckE yP0 yTYV zTF yRC yGR yCTabV yk_326 yh_326 718 = true := by decide +kernel
theorem ydV_326 : ∀ h ∈ yh_326, y_ckH yP0 yTYV zTF yRC yGR yCTabV yk_326 yh_326 718 h = true := fun _ h => absurd h List.not_mem_nil
theorem ycV_44 : y_ckE yP0 yTYV zTF yRC yGR yCTabV yk_44 yh_44 720 = true := by decide +kernel
theorem ydV_44 : ∀ h ∈ yh_44, y_ckH yP0 yTYV zTF yRC yGR yCTabV yk_44 yh_44 720 h = true := List.forall_mem_cons.mpr ⟨by decide +kernel, fun _ h => absurd h List.not_mem_nil⟩
theorem ycV_202 : y_ckE yP0 yTYV zTF yRC yGR yCTabV yk_202 yh_202 726 = true := by decide +kernel
theorem ydV_202 : ∀ h ∈ yh_202, y_ckH yP0 yTYV zTF yRC yGR yCTabV yk_202 yh_202 726 h = true := fun _ h => absurd h List.not_mem_nil
theorem ycV_327 : y_ckE yP0 yTYV zTF yRC yGR yCTabV yk_327 yh_327 726 = true := by decide +kernel
theorem ydV_327 : ∀ h ∈ yh_327, y_ckH yP0 yTYV zTF yRC yGR yCTabV yk_327 yh_327 726 h = true := fun _ h => absurd h List.not_mem_nil
theorem ycV_48 : y_ckE yP0 yTYV zTF yRC yGR yCTabV yk_48 yh_48 732 = true := by decide +kernel
theorem ydV_48 : ∀ h ∈ yh_48, y_ckH yP0 yTYV zTF yRC yGR yCTabV yk_48 yh_48 732 h = true := fun _ h => absurd h List.not_mem_nil
theorem ycV_341 : y_ckE yP0 yTYV zTF yRC yGR yCTabV yk_341 yh_341 736 = true := by decide +kernel
theorem ydV_341 : ∀ h ∈ yh_341, y_ckH yP0 yTYV zTF yRC yGR yCTabV yk_341 yh_341 736 h = true := List.forall_mem_cons.mpr ⟨by decide +kernel, fun _ h => absurd h List.not_mem_nil⟩
theorem ycV_328 : y_ckE yP0 yTYV zTF yRC yGR yCTabV yk_328 yh_328 738 = true := by decide +kernel
theorem ydV_328 : ∀ h ∈ yh_328, y_ckH yP0 yTYV zTF yRC yGR yCTabV yk_328 yh_328 738 h = true := List.forall_mem_cons.mpr ⟨by decide +kernel, fun _ h => absurd h List.not_mem_nil⟩
theorem ycV_233 : y_ckE yP0 yTYV zTF yRC yGR yCTabV yk_233 yh_233 742 = true := by decide +kernel
theorem ydV_233 : ∀ h ∈ yh_233, y_ckH yP0 yTYV zTF yRC yGR yCTabV yk_233 yh_233 742 h = true := fun _ h => absurd h List.not_mem_nil
theorem ycV_309 : y_ckE yP0 yTYV zTF yRC yGR yCTabV yk_309 yh_309 750 = true := by decide +kernel
theorem ydV_309 : ∀ h ∈ yh_309, y_ckH yP0 yTYV zTF yRC yGR yCTabV yk_309 yh_309 750 h = true := fun _ h => absurd h List.not_mem_nil
theorem ycV_45 : y_ckE yP0 yTYV zTF yRC yGR yCTabV yk_45 yh_45 758 = true := by decide +kernel
theorem ydV_45 : ∀ h ∈ yh_45, y_ckH yP0 yTYV zTF yRC yGR yCTabV yk_45 yh_45 758 h = true := fun _ h => absurd h List.not_mem_nil
theorem ycV_209 : y_ckE yP0 yTYV zTF yRC yGR yCTabV yk_209 yh_209 760 = true := by decide +kernel
theorem ydV_209 : ∀ h ∈ yh_209, y_ckH yP0 yTYV zTF yRC yGR yCTabV yk_209 yh_209 760 h = true := fun _ h => absurd h List.not_mem_nil
theorem ycV_232 : y_ckE yP0 yTYV zTF yRC yGR yCTabV yk_232 yh_232 764 = true := by decide +kernel
theorem ydV_232 : ∀ h ∈ yh_232, y_ckH yP0 yTYV zTF yRC yGR yCTabV yk_232 yh_232 764 h = true := fun _ h => absurd h List.not_mem_nil
theorem ycV_35 : y_ckE yP0 yTYV zTF yRC yGR yCTabV yk_35 yh_35 770 = true := by decide +kernel
theorem ydV_35 : ∀ h ∈ yh_35, y_ckH yP0 yTYV zTF yRC yGR yCTabV yk_35 yh_35 770 h = true := List.forall_mem_cons.mpr ⟨by decide +kernel, fun _ h => absurd h List.not_mem_nil⟩
theorem ycV_36 : y_ckE yP0 yTYV zTF yRC yGR yCTabV yk_36 yh_36 770 = true := by decide +kernel
theorem ydV_36 : ∀ h ∈ yh_36, y_ckH yP0 yTYV zTF yRC yGR yCTabV yk_36 yh_36 770 h = true := List.forall_mem_cons.mpr ⟨by decide +kernel, fun _ h => absurd h List.not_mem_nil⟩
theorem ycV_15 : y_ckE yP0 yTYV zTF yRC yGR yCTabV yk_15 yh_15 786 = true := by decide +kernel
theorem ydV_15 : ∀ h ∈ yh_15, y_ckH yP0 yTYV zTF yRC yGR yCTabV yk_15 yh_15 786 h = true := fun _ h => absurd h List.not_mem_nil
theorem ycV_16 : y_ckE yP0 yTYV zTF yRC yGR yCTabV yk_16 yh_16 786 = true := by decide +kernel
theorem ydV_16 : ∀ h ∈ yh_16, y_ckH yP0 yTYV zTF yRC yGR yCTabV yk_16 yh_16 786 h = true := fun _ h => absurd h List.not_mem_nil
theorem ycV_307 : y_ckE yP0 yTYV zTF yRC yGR yCTabV yk_307 yh_307 792 = true := by decide +kernel
theorem ydV_307 : ∀ h ∈ yh_307, y_ckH yP0 yTYV zTF yRC yGR yCTabV yk_307 yh_307 792 h = true := fun _ h => absurd h List.not_mem_nil
theorem ycV_17 : y_ckE yP0 yTYV zTF yRC yGR yCTabV yk_17 yh_17 798 = true := by decide +kernel
theorem ydV_17 : ∀ h ∈ yh_17, y_ckH yP0 yTYV zTF yRC yGR yCTabV yk_17 yh_17 798 h = true := List.forall_mem_cons.mpr ⟨by decide +kernel, fun _ h => absurd h List.not_mem_nil⟩
theorem ycV_303 : y_ckE yP0 yTYV zTF yRC yGR yCTabV yk_303 yh_303 800 = true := by decide +kernel
theorem ydV_303 : ∀ h ∈ yh_303, y_ckH yP0 yTYV zTF yRC yGR yCTabV yk_303 yh_303 800 h = true := fun _ h => absurd h List.not_mem_nil
theorem ycV_295 : y_ckE yP0 yTYV zTF yRC yGR yCTabV yk_295 yh_295 810 = true := by decide +kernel
theorem ydV_295 : ∀ h ∈ yh_295, y_ckH yP0 yTYV zTF yRC yGR yCTabV yk_295 yh_295 810 h = true := fun _ h => absurd h List.not_mem_nil
theorem ycV_117 : y_ckE yP0 yTYV zTF yRC yGR yCTabV yk_117 yh_117 814 = true := by decide +kernel
theorem ydV_117 : ∀ h ∈ yh_117, y_ckH yP0 yTYV zTF yRC yGR yCTabV yk_117 yh_117 814 h = true := fun _ h => absurd h List.not_mem_nil
theorem ycV_49 : y_ckE yP0 yTYV zTF yRC yGR yCTabV yk_49 yh_49 818 = true := by decide +kernel
theorem ydV_49 : ∀ h ∈ yh_49, y_ckH yP0 yTYV zTF yRC yGR yCTabV yk_49 yh_49 818 h = true := fun _ h => absurd h List.not_mem_nil
theorem ycV_170 : y_ckE yP0 yTYV zTF yRC yGR yCTabV yk_170 yh_170 838 = true := by decide +kernel
theorem ydV_170 : ∀ h ∈ yh_170, y_ckH yP0 yTYV zTF yRC yGR yCTabV yk_170 yh_170 838 h = true := fun _ h => absurd h List.not_mem_nil
theorem ycV_88 : y_ckE yP0 yTYV zTF yRC yGR yCTabV yk_88 yh_88 868 = true := by decide +kernel
theorem ydV_88 : ∀ h ∈ yh_88, y_ckH yP0 yTYV zTF yRC yGR yCTabV yk_88 yh_88 868 h = true := List.forall_mem_cons.mpr ⟨by decide +kernel, fun _ h => absurd h List.not_mem_nil⟩
theorem ycV_116 : y_ckE yP0 yTYV zTF yRC yGR yCTabV yk_116 yh_116 870 = true := by decide +kernel
theorem ydV_116 : ∀ h ∈ yh_116, y_ckH yP0 yTYV zTF yRC yGR yCTabV yk_116 yh_116 870 h = true := fun _ h => absurd h List.not_mem_nil
theorem ycV_176 : y_ckE yP0 yTYV zTF yRC yGR yCTabV yk_176 yh_176 886 = true := by decide +kernel
theorem ydV_176 : ∀ h ∈ yh_176, y_ckH yP0 yTYV zTF yRC yGR yCTabV yk_176 yh_176 886 h = true := List.forall_mem_cons.mpr ⟨by decide +kernel, fun _ h => absurd h List.not_mem_nil⟩
theorem ycV_293 : y_ckE yP0 yTYV zTF yRC yGR yCTabV yk_293 yh_293 890 = true := by decide +kernel
theorem ydV_293 : ∀ h ∈ yh_293, y_ckH yP0 yTYV zTF yRC yGR yCTabV yk_293 yh_293 890 h = true := fun _ h => absurd h List.not_mem_nil
theorem ycV_109 : y_ckE yP0 yTYV zTF yRC yGR yCTabV yk_109 yh_109 912 = true := by decide +kernel
theorem ydV_109 : ∀ h ∈ yh_109, y_ckH yP0 yTYV zTF yRC yGR yCTabV yk_109 yh_109 912 h = true := fun _ h => absurd h List.not_mem_nil
theorem ycV_110 : y_ckE yP0 yTYV zTF yRC yGR yCTabV yk_110 yh_110 912 = true := by decide +kernel
theorem ydV_110 : ∀ h ∈ yh_110, y_ckH yP0 yTYV zTF yRC yGR yCTabV yk_110 yh_110 912 h = true := fun _ h => absurd h List.not_mem_nil
theorem ycV_111 : y_ckE yP0 yTYV zTF yRC yGR yCTabV yk_111 yh_111 912 = true := by decide +kernel
theorem ydV_111 : ∀ h ∈ yh_111, y_ckH yP0 yTYV zTF yRC yGR yCTabV yk_111 yh_111 912 h = true := fun _ h => absurd h List.not_mem_nil
theorem ycV_112 : y_ckE yP0 yTYV zTF yRC yGR yCTabV yk_112 yh_112 912 = true := by decide +kernel
theorem ydV_112 : ∀ h ∈ yh_112, y_ckH yP0 yTYV zTF yRC yGR yCTabV yk_112 yh_112 912 h = true := fun _ h => absurd h List.not_mem_nil
theorem ycV_113 : y_ckE yP0 yTYV zTF yRC yGR yCTabV yk_113 yh_113 912 = true := by decide +kernel
theorem ydV_113 : ∀ h ∈ yh_113, y_ckH yP0 yTYV zTF yRC yGR yCTabV yk_113 yh_113 912 h = true := fun _ h => absurd h List.not_mem_nil
