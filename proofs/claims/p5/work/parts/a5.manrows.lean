/-! ===== the law's own man, coat: rows ===== -/
theorem zw_0 : (.initialized "HeldCoatsLaw" : Cond) ∈ zTB := z_mem zc_1 0 rfl rfl
theorem zw_23 : (.initialized "java/util/NoSuchElementException" : Cond) ∈ zTB := z_mem zc_1 23 rfl rfl
theorem zw_1261 : (.methodLink "HeldCoatsLaw" 45 ⟨"HeldCoatsLaw", "man", "(LHeldCoats;II[J)I"⟩ : Cond) ∈ zTB := z_mem zc_6 61 rfl rfl
theorem zw_1262 : (.static ⟨"HeldCoatsLaw", "man", "(LHeldCoats;II[J)I"⟩ : Cond) ∈ zTB := z_mem zc_6 62 rfl rfl
theorem zw_1263 : (.codeWith ⟨"HeldCoatsLaw", "man", "(LHeldCoats;II[J)I"⟩ method_3_code 5 (some .int) [(0, 10, 13, 13)] : Cond) ∈ zTB := z_mem zc_6 63 rfl rfl
theorem zw_1264 : (.classLink "HeldCoatsLaw" 13 "java/util/NoSuchElementException" : Cond) ∈ zTB := z_mem zc_6 64 rfl rfl
theorem zw_1265 : (.methodLink "HeldCoatsLaw" 7 ⟨"HeldCoats", "man", "(II)I"⟩ : Cond) ∈ zTB := z_mem zc_6 65 rfl rfl
theorem zw_1266 : (.instanceMethod ⟨"HeldCoats", "man", "(II)I"⟩ : Cond) ∈ zTB := z_mem zc_6 66 rfl rfl
theorem zw_1267 : (.selects "HeldCoats" ⟨"HeldCoats", "man", "(II)I"⟩ ⟨"HeldCoats", "man", "(II)I"⟩ : Cond) ∈ zTB := z_mem zc_6 67 rfl rfl
theorem zw_1269 : (.classLink "HeldCoats" 143 "java/util/NoSuchElementException" : Cond) ∈ zTB := z_mem zc_6 69 rfl rfl
theorem zw_1342 : (.methodLink "HeldCoatsLaw" 51 ⟨"HeldCoatsLaw", "coat", "(LHeldCoats;II[J)I"⟩ : Cond) ∈ zTB := z_mem zc_6 142 rfl rfl
theorem zw_1343 : (.static ⟨"HeldCoatsLaw", "coat", "(LHeldCoats;II[J)I"⟩ : Cond) ∈ zTB := z_mem zc_6 143 rfl rfl
theorem zw_1344 : (.codeWith ⟨"HeldCoatsLaw", "coat", "(LHeldCoats;II[J)I"⟩ method_4_code 5 (some .int) [(0, 10, 13, 13)] : Cond) ∈ zTB := z_mem zc_6 144 rfl rfl
theorem zw_1345 : (.methodLink "HeldCoatsLaw" 15 ⟨"HeldCoats", "coat", "(II)I"⟩ : Cond) ∈ zTB := z_mem zc_6 145 rfl rfl
theorem zw_1346 : (.instanceMethod ⟨"HeldCoats", "coat", "(II)I"⟩ : Cond) ∈ zTB := z_mem zc_6 146 rfl rfl
theorem zw_1347 : (.selects "HeldCoats" ⟨"HeldCoats", "coat", "(II)I"⟩ ⟨"HeldCoats", "coat", "(II)I"⟩ : Cond) ∈ zTB := z_mem zc_6 147 rfl rfl
def yt_lman : List zE := [(0, .aload_n 3, []), (1, .iconst 0, []), (2, .aload_n 0, []), (3, .iload_n 1, []), (4, .iload_n 2, []), (5, .invokevirtual 7, [9999]), (8, .i2l, []), (9, .lastore, []), (10, .goto 7, []), (17, .iconst 0, []), (18, .ireturn, [])]
def ym_lman : yM := (⟨"HeldCoatsLaw", "man", "(LHeldCoats;II[J)I"⟩, method_3_code, 5, (some .int), [yt_lman], 4, [])
theorem yo_lman : y_Mok zTB zNT vwCl zTF yP0 ym_lman := ⟨by decide +kernel, List.forall_mem_cons.mpr ⟨List.forall_mem_cons.mpr ⟨ye_s (by decide +kernel) trivial, List.forall_mem_cons.mpr ⟨ye_s (by decide +kernel) trivial, List.forall_mem_cons.mpr ⟨ye_s (by decide +kernel) trivial, List.forall_mem_cons.mpr ⟨ye_s (by decide +kernel) trivial, List.forall_mem_cons.mpr ⟨ye_s (by decide +kernel) trivial, List.forall_mem_cons.mpr ⟨⟨by decide +kernel, Or.inl rfl⟩, List.forall_mem_cons.mpr ⟨ye_s (by decide +kernel) trivial, List.forall_mem_cons.mpr ⟨ye_s (by decide +kernel) trivial, List.forall_mem_cons.mpr ⟨ye_s (by decide +kernel) trivial, List.forall_mem_cons.mpr ⟨ye_s (by decide +kernel) trivial, List.forall_mem_cons.mpr ⟨ye_s (by decide +kernel) trivial, fun _ h => absurd h List.not_mem_nil⟩⟩⟩⟩⟩⟩⟩⟩⟩⟩⟩, fun _ h => absurd h List.not_mem_nil⟩⟩
def yt_lcoat : List zE := [(0, .aload_n 3, []), (1, .iconst 0, []), (2, .aload_n 0, []), (3, .iload_n 1, []), (4, .iload_n 2, []), (5, .invokevirtual 15, [9999]), (8, .i2l, []), (9, .lastore, []), (10, .goto 7, []), (17, .iconst 0, []), (18, .ireturn, [])]
def ym_lcoat : yM := (⟨"HeldCoatsLaw", "coat", "(LHeldCoats;II[J)I"⟩, method_4_code, 5, (some .int), [yt_lcoat], 4, [])
theorem yo_lcoat : y_Mok zTB zNT vwCl zTF yP0 ym_lcoat := ⟨by decide +kernel, List.forall_mem_cons.mpr ⟨List.forall_mem_cons.mpr ⟨ye_s (by decide +kernel) trivial, List.forall_mem_cons.mpr ⟨ye_s (by decide +kernel) trivial, List.forall_mem_cons.mpr ⟨ye_s (by decide +kernel) trivial, List.forall_mem_cons.mpr ⟨ye_s (by decide +kernel) trivial, List.forall_mem_cons.mpr ⟨ye_s (by decide +kernel) trivial, List.forall_mem_cons.mpr ⟨⟨by decide +kernel, Or.inl rfl⟩, List.forall_mem_cons.mpr ⟨ye_s (by decide +kernel) trivial, List.forall_mem_cons.mpr ⟨ye_s (by decide +kernel) trivial, List.forall_mem_cons.mpr ⟨ye_s (by decide +kernel) trivial, List.forall_mem_cons.mpr ⟨ye_s (by decide +kernel) trivial, List.forall_mem_cons.mpr ⟨ye_s (by decide +kernel) trivial, fun _ h => absurd h List.not_mem_nil⟩⟩⟩⟩⟩⟩⟩⟩⟩⟩⟩, fun _ h => absurd h List.not_mem_nil⟩⟩
