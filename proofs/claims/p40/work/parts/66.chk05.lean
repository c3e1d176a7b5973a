theorem yc_299 : y_ckE yP0 yTY zTF yRC yGR yCTab yk_299 yh_299 2192 = true := by decide +kernel
theorem yd_299 : ∀ h ∈ yh_299, y_ckH yP0 yTY zTF yRC yGR yCTab yk_299 yh_299 2192 h = true := fun _ h => absurd h List.not_mem_nil
theorem yc_300 : y_ckE yP0 yTY zTF yRC yGR yCTab yk_300 yh_300 2192 = true := by decide +kernel
theorem yd_300 : ∀ h ∈ yh_300, y_ckH yP0 yTY zTF yRC yGR yCTab yk_300 yh_300 2192 h = true := fun _ h => absurd h List.not_mem_nil
theorem yc_304 : y_ckE yP0 yTY zTF yRC yGR yCTab yk_304 yh_304 3490 = true := by decide +kernel
theorem yd_304 : ∀ h ∈ yh_304, y_ckH yP0 yTY zTF yRC yGR yCTab yk_304 yh_304 3490 h = true := List.forall_mem_cons.mpr ⟨by decide +kernel, fun _ h => absurd h List.not_mem_nil⟩
theorem yc_18 : y_ckE yP0 yTY zTF yRC yGR yCTab yk_18 yh_18 3600 = true := by decide +kernel
theorem ye_18_0 : y_ckH yP0 yTY zTF yRC yGR yCTab yk_18 yh_18 3600 (yhg yh_18 0) = true := by decide +kernel
theorem ye_18_1 : y_ckH yP0 yTY zTF yRC yGR yCTab yk_18 yh_18 3600 (yhg yh_18 1) = true := by decide +kernel
theorem ye_18_2 : y_ckH yP0 yTY zTF yRC yGR yCTab yk_18 yh_18 3600 (yhg yh_18 2) = true := by decide +kernel
theorem ye_18_3 : y_ckH yP0 yTY zTF yRC yGR yCTab yk_18 yh_18 3600 (yhg yh_18 3) = true := by decide +kernel
theorem ye_18_4 : y_ckH yP0 yTY zTF yRC yGR yCTab yk_18 yh_18 3600 (yhg yh_18 4) = true := by decide +kernel
theorem ye_18_5 : y_ckH yP0 yTY zTF yRC yGR yCTab yk_18 yh_18 3600 (yhg yh_18 5) = true := by decide +kernel
theorem ye_18_6 : y_ckH yP0 yTY zTF yRC yGR yCTab yk_18 yh_18 3600 (yhg yh_18 6) = true := by decide +kernel
theorem ye_18_7 : y_ckH yP0 yTY zTF yRC yGR yCTab yk_18 yh_18 3600 (yhg yh_18 7) = true := by decide +kernel
theorem ye_18_8 : y_ckH yP0 yTY zTF yRC yGR yCTab yk_18 yh_18 3600 (yhg yh_18 8) = true := by decide +kernel
theorem ye_18_9 : y_ckH yP0 yTY zTF yRC yGR yCTab yk_18 yh_18 3600 (yhg yh_18 9) = true := by decide +kernel
theorem ye_18_10 : y_ckH yP0 yTY zTF yRC yGR yCTab yk_18 yh_18 3600 (yhg yh_18 10) = true := by decide +kernel
theorem ye_18_11 : y_ckH yP0 yTY zTF yRC yGR yCTab yk_18 yh_18 3600 (yhg yh_18 11) = true := by decide +kernel
theorem ye_18_12 : y_ckH yP0 yTY zTF yRC yGR yCTab yk_18 yh_18 3600 (yhg yh_18 12) = true := by decide +kernel
theorem ye_18_13 : y_ckH yP0 yTY zTF yRC yGR yCTab yk_18 yh_18 3600 (yhg yh_18 13) = true := by decide +kernel
theorem ye_18_14 : y_ckH yP0 yTY zTF yRC yGR yCTab yk_18 yh_18 3600 (yhg yh_18 14) = true := by decide +kernel
theorem ye_18_15 : y_ckH yP0 yTY zTF yRC yGR yCTab yk_18 yh_18 3600 (yhg yh_18 15) = true := by decide +kernel
theorem ye_18_16 : y_ckH yP0 yTY zTF yRC yGR yCTab yk_18 yh_18 3600 (yhg yh_18 16) = true := by decide +kernel
theorem ye_18_17 : y_ckH yP0 yTY zTF yRC yGR yCTab yk_18 yh_18 3600 (yhg yh_18 17) = true := by decide +kernel
theorem ye_18_18 : y_ckH yP0 yTY zTF yRC yGR yCTab yk_18 yh_18 3600 (yhg yh_18 18) = true := by decide +kernel
theorem ye_18_19 : y_ckH yP0 yTY zTF yRC yGR yCTab yk_18 yh_18 3600 (yhg yh_18 19) = true := by decide +kernel
theorem ye_18_20 : y_ckH yP0 yTY zTF yRC yGR yCTab yk_18 yh_18 3600 (yhg yh_18 20) = true := by decide +kernel
theorem ye_18_21 : y_ckH yP0 yTY zTF yRC yGR yCTab yk_18 yh_18 3600 (yhg yh_18 21) = true := by decide +kernel
theorem ye_18_22 : y_ckH yP0 yTY zTF yRC yGR yCTab yk_18 yh_18 3600 (yhg yh_18 22) = true := by decide +kernel
theorem ye_18_23 : y_ckH yP0 yTY zTF yRC yGR yCTab yk_18 yh_18 3600 (yhg yh_18 23) = true := by decide +kernel
theorem ye_18_24 : y_ckH yP0 yTY zTF yRC yGR yCTab yk_18 yh_18 3600 (yhg yh_18 24) = true := by decide +kernel
theorem ye_18_25 : y_ckH yP0 yTY zTF yRC yGR yCTab yk_18 yh_18 3600 (yhg yh_18 25) = true := by decide +kernel
theorem ye_18_26 : y_ckH yP0 yTY zTF yRC yGR yCTab yk_18 yh_18 3600 (yhg yh_18 26) = true := by decide +kernel
theorem ye_18_27 : y_ckH yP0 yTY zTF yRC yGR yCTab yk_18 yh_18 3600 (yhg yh_18 27) = true := by decide +kernel
theorem ye_18_28 : y_ckH yP0 yTY zTF yRC yGR yCTab yk_18 yh_18 3600 (yhg yh_18 28) = true := by decide +kernel
theorem ye_18_29 : y_ckH yP0 yTY zTF yRC yGR yCTab yk_18 yh_18 3600 (yhg yh_18 29) = true := by decide +kernel
theorem ye_18_30 : y_ckH yP0 yTY zTF yRC yGR yCTab yk_18 yh_18 3600 (yhg yh_18 30) = true := by decide +kernel
theorem ye_18_31 : y_ckH yP0 yTY zTF yRC yGR yCTab yk_18 yh_18 3600 (yhg yh_18 31) = true := by decide +kernel
theorem ye_18_32 : y_ckH yP0 yTY zTF yRC yGR yCTab yk_18 yh_18 3600 (yhg yh_18 32) = true := by decide +kernel
theorem ye_18_33 : y_ckH yP0 yTY zTF yRC yGR yCTab yk_18 yh_18 3600 (yhg yh_18 33) = true := by decide +kernel
theorem ye_18_34 : y_ckH yP0 yTY zTF yRC yGR yCTab yk_18 yh_18 3600 (yhg yh_18 34) = true := by decide +kernel
theorem ye_18_35 : y_ckH yP0 yTY zTF yRC yGR yCTab yk_18 yh_18 3600 (yhg yh_18 35) = true := by decide +kernel
theorem ye_18_36 : y_ckH yP0 yTY zTF yRC yGR yCTab yk_18 yh_18 3600 (yhg yh_18 36) = true := by decide +kernel
theorem ye_18_37 : y_ckH yP0 yTY zTF yRC yGR yCTab yk_18 yh_18 3600 (yhg yh_18 37) = true := by decide +kernel
theorem ye_18_38 : y_ckH yP0 yTY zTF yRC yGR yCTab yk_18 yh_18 3600 (yhg yh_18 38) = true := by decide +kernel
theorem ye_18_39 : y_ckH yP0 yTY zTF yRC yGR yCTab yk_18 yh_18 3600 (yhg yh_18 39) = true := by decide +kernel
theorem ye_18_40 : y_ckH yP0 yTY zTF yRC yGR yCTab yk_18 yh_18 3600 (yhg yh_18 40) = true := by decide +kernel
theorem ye_18_41 : y_ckH yP0 yTY zTF yRC yGR yCTab yk_18 yh_18 3600 (yhg yh_18 41) = true := by decide +kernel
theorem ye_18_42 : y_ckH yP0 yTY zTF yRC yGR yCTab yk_18 yh_18 3600 (yhg yh_18 42) = true := by decide +kernel
theorem ye_18_43 : y_ckH yP0 yTY zTF yRC yGR yCTab yk_18 yh_18 3600 (yhg yh_18 43) = true := by decide +kernel
theorem ye_18_44 : y_ckH yP0 yTY zTF yRC yGR yCTab yk_18 yh_18 3600 (yhg yh_18 44) = true := by decide +kernel
theorem yd_18 : ∀ h ∈ yh_18, y_ckH yP0 yTY zTF yRC yGR yCTab yk_18 yh_18 3600 h = true := List.forall_mem_cons.mpr ⟨ye_18_0, List.forall_mem_cons.mpr ⟨ye_18_1, List.forall_mem_cons.mpr ⟨ye_18_2, List.forall_mem_cons.mpr ⟨ye_18_3, List.forall_mem_cons.mpr ⟨ye_18_4, List.forall_mem_cons.mpr ⟨ye_18_5, List.forall_mem_cons.mpr ⟨ye_18_6, List.forall_mem_cons.mpr ⟨ye_18_7, List.forall_mem_cons.mpr ⟨ye_18_8, List.forall_mem_cons.mpr ⟨ye_18_9, List.forall_mem_cons.mpr ⟨ye_18_10, List.forall_mem_cons.mpr ⟨ye_18_11, List.forall_mem_cons.mpr ⟨ye_18_12, List.forall_mem_cons.mpr ⟨ye_18_13, List.forall_mem_cons.mpr ⟨ye_18_14, List.forall_mem_cons.mpr ⟨ye_18_15, List.forall_mem_cons.mpr ⟨ye_18_16, List.forall_mem_cons.mpr ⟨ye_18_17, List.forall_mem_cons.mpr ⟨ye_18_18, List.forall_mem_cons.mpr ⟨ye_18_19, List.forall_mem_cons.mpr ⟨ye_18_20, List.forall_mem_cons.mpr ⟨ye_18_21, List.forall_mem_cons.mpr ⟨ye_18_22, List.forall_mem_cons.mpr ⟨ye_18_23, List.forall_mem_cons.mpr ⟨ye_18_24, List.forall_mem_cons.mpr ⟨ye_18_25, List.forall_mem_cons.mpr ⟨ye_18_26, List.forall_mem_cons.mpr ⟨ye_18_27, List.forall_mem_cons.mpr ⟨ye_18_28, List.forall_mem_cons.mpr ⟨ye_18_29, List.forall_mem_cons.mpr ⟨ye_18_30, List.forall_mem_cons.mpr ⟨ye_18_31, List.forall_mem_cons.mpr ⟨ye_18_32, List.forall_mem_cons.mpr ⟨ye_18_33, List.forall_mem_cons.mpr ⟨ye_18_34, List.forall_mem_cons.mpr ⟨ye_18_35, List.forall_mem_cons.mpr ⟨ye_18_36, List.forall_mem_cons.mpr ⟨ye_18_37, List.forall_mem_cons.mpr ⟨ye_18_38, List.forall_mem_cons.mpr ⟨ye_18_39, List.forall_mem_cons.mpr ⟨ye_18_40, List.forall_mem_cons.mpr ⟨ye_18_41, List.forall_mem_cons.mpr ⟨ye_18_42, List.forall_mem_cons.mpr ⟨ye_18_43, List.forall_mem_cons.mpr ⟨ye_18_44, fun _ h => absurd h List.not_mem_nil⟩⟩⟩⟩⟩⟩⟩⟩⟩⟩⟩⟩⟩⟩⟩⟩⟩⟩⟩⟩⟩⟩⟩⟩⟩⟩⟩⟩⟩⟩⟩⟩⟩⟩⟩⟩⟩⟩⟩⟩⟩⟩⟩⟩⟩
