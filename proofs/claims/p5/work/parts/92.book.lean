section HK
variable {EX : (Nat → Prop) → State → Heap → Prop} {l : Launch} {kc : Nat → ClassId} {D : va_G} {xb : Nat} {ad : Nat → Option Nat} {RI : va_W → Prop}
theorem hk_next_ok (hE : z_EX EX) : y_ConOk EX l zTB zNT kc D vwCl xb yTYV yGR RI ad yP0 hk_next := y_weakV (K := yk_242) (by decide +kernel) (y_consV hE (j := 175) List.mem_cons_self)
theorem hk_takes_ok (hE : z_EX EX) : y_ConOk EX l zTB zNT kc D vwCl xb yTYV yGR RI ad yP0 hk_takes := y_weakV (K := yk_248) (by decide +kernel) (y_consV hE (j := 181) (List.mem_cons_of_mem _ (List.mem_cons_of_mem _ (List.mem_cons_of_mem _ (List.mem_cons_of_mem _ List.mem_cons_self)))))
theorem hk_find1_ok (hE : z_EX EX) : y_ConOk EX l zTB zNT kc D vwCl xb yTYV yGR RI ad yP0 (hk_find yk_261 7) := y_weakV (K := yk_261) (by decide +kernel) (y_consV hE (j := 183) (List.mem_cons_of_mem _ List.mem_cons_self))
theorem hk_find2_ok (hE : z_EX EX) : y_ConOk EX l zTB zNT kc D vwCl xb yTYV yGR RI ad yP0 (hk_find yk_265 5) := y_weakV (K := yk_265) (by decide +kernel) (y_consV hE (j := 183) (List.mem_cons_of_mem _ (List.mem_cons_of_mem _ (List.mem_cons_of_mem _ (List.mem_cons_of_mem _ (List.mem_cons_of_mem _ List.mem_cons_self))))))
theorem hk_w_ok (hE : z_EX EX) : y_ConOk EX l zTB zNT kc D vwCl xb yTYV yGR (fun _ => True) ad yP0 hk_wK := y_chk_ok (RC := yRC) hE (fun _ _ _ h => h) y_prog (fun j K' hK' => ⟨yCT_jV hK', fun _ => y_consV hE hK'⟩) hk_wc (fun _ h => absurd h List.not_mem_nil)
theorem hk_lT (hE : z_EX EX) {n : Nat} (hn : n ≤ 40) : y_ConOk EX l zTB zNT kc D vwCl xb yTYV yGR (fun _ => True) ad yP0 (hk_lK n) := by
  have hck : y_ckE yP0 yTYV zTF yRC yGR hk_CT0 (hk_lK n) [] 400 = true := by
    by_cases h1 : n < 14
    · exact List.all_eq_true.mp hk_lc0 n (List.mem_range.mpr h1)
    · by_cases h2 : n < 28
      · have := List.all_eq_true.mp hk_lc1 (n - 14) (List.mem_range.mpr (by omega))
        rwa [show 14 + (n - 14) = n by omega] at this
      · have := List.all_eq_true.mp hk_lc2 (n - 28) (List.mem_range.mpr (by omega))
        rwa [show 28 + (n - 28) = n by omega] at this
  refine y_chk_ok (RC := yRC) hE (fun _ _ _ h => h) y_prog (fun j K' hK' => ?_) hck (fun _ h => absurd h List.not_mem_nil)
  rcases y_cputl_in (CT := y_cput (y_cput (y_cput yCTabV 175 hk_next) 181 hk_takes) 177 hk_wK) (j := 183) (Ks := [hk_find yk_261 7, hk_find yk_265 5]) hK' with ⟨rfl, hK1⟩ | hK'
  · rcases List.mem_cons.mp hK1 with rfl | hK1
    · exact ⟨rfl, fun _ => hk_find1_ok hE⟩
    · have := List.mem_singleton.mp hK1
      subst this
      exact ⟨rfl, fun _ => hk_find2_ok hE⟩
  rcases y_cput_in hK' with ⟨rfl, rfl⟩ | hK'
  · exact ⟨rfl, fun _ => hk_w_ok hE⟩
  rcases y_cput_in hK' with ⟨rfl, rfl⟩ | hK'
  · exact ⟨rfl, fun _ => hk_takes_ok hE⟩
  rcases y_cput_in hK' with ⟨rfl, rfl⟩ | hK'
  · exact ⟨rfl, fun _ => hk_next_ok hE⟩
  exact ⟨yCT_jV hK', fun _ => y_consV hE hK'⟩
theorem hk_dT (hE : z_EX EX) {f : Nat} (hf : f < 5) : y_ConOk EX l zTB zNT kc D vwCl xb yTYV yGR (fun _ => True) ad yP0 (hk_dK f) := y_chk_ok (RC := yRC) hE (fun _ _ _ h => h) y_prog (fun j K' hK' => ⟨yCT_jV hK', fun _ => y_consV hE hK'⟩) (List.all_eq_true.mp hk_dc f (List.mem_range.mpr hf)) (fun _ h => absurd h List.not_mem_nil)
/-- a contract that says nothing of what binds -/
theorem y_anyRI {K : yCon} (h1 : K.2.2.2.2.2.2.1 = false) (h2 : K.2.2.2.1.all (fun o => !o.2.2) = true) (h : y_ConOk EX l zTB zNT kc D vwCl xb yTYV yGR (fun _ => True) ad yP0 K) : y_ConOk EX l zTB zNT kc D vwCl xb yTYV yGR RI ad yP0 K := by
  intro y cc maxL ret tab na sp hP d hd av ws sz env0 hav hpre hri hGo hwt had hnam
  refine y_Met_conv (h y cc maxL ret tab na sp hP d hd av ws sz env0 hav hpre (fun _ => trivial) hGo hwt had hnam) (fun rv u ⟨o, ho, g1, g2, g3, g4⟩ => ⟨o, ho, g1, g2, fun q => ?_, g4⟩)
  have h9 := List.all_eq_true.mp h2 o ho
  rw [q] at h9
  cases h9
theorem hk_l_ok (hE : z_EX EX) {n : Nat} (hn : n ≤ 40) : y_ConOk EX l zTB zNT kc D vwCl xb yTYV yGR RI ad yP0 (hk_lK n) := y_anyRI rfl (by
  unfold hk_lK
  dsimp only
  rw [List.all_cons]
  by_cases h : n < 40
  · rw [if_pos h]; rfl
  · rw [if_neg h]; rfl) (hk_lT hE hn)
theorem hk_d_ok (hE : z_EX EX) {f : Nat} (hf : f < 5) : y_ConOk EX l zTB zNT kc D vwCl xb yTYV yGR RI ad yP0 (hk_dK f) := y_anyRI rfl rfl (hk_dT hE hf)
end HK
