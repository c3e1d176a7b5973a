/-! ===== the law: contracts of the members ===== -/
def hl_imo (lo hi : Int) : yCon := (273, [.inr (some 210), .inl (lo, hi)], [], [(some (.inl (0, 0)), [], true)], [(209, 0, 0)], 21, true, [])
def hl_reo (lo hi : Int) : yCon := (274, [.inr (some 210), .inl (lo, hi)], [], [(some (.inl (0, 0)), [], true)], [(209, 0, 0)], 21, true, [])
theorem hl_c1 : y_ckE yP0 yTY zTF yRC yGR yCTab (hl_imo (-2147483648) (-1)) [] 100 = true := by decide +kernel
theorem hl_c2 : y_ckE yP0 yTY zTF yRC yGR yCTab (hl_imo 2 2147483647) [] 100 = true := by decide +kernel
theorem hl_c3 : y_ckE yP0 yTY zTF yRC yGR yCTab (hl_reo (-2147483648) (-1)) [] 100 = true := by decide +kernel
theorem hl_c4 : y_ckE yP0 yTY zTF yRC yGR yCTab (hl_reo 2 2147483647) [] 100 = true := by decide +kernel
def hl_re : yCon := (274, [.inr (some 210), .inl (-2147483648, 2147483647)], [], [(some (.inl (0, 1)), [], true)], hc_reE, 21, true, [])
section HL1
variable {EX : (Nat → Prop) → State → Heap → Prop} {l : Launch} {kc : Nat → ClassId} {D : va_G} {xb : Nat} {ad : Nat → Option Nat}
theorem hl_o {K : yCon} (hE : z_EX EX) (h : y_ckE yP0 yTY zTF yRC yGR yCTab K [] 100 = true) : y_ConOk EX l zTB zNT kc D vwCl xb yTY yGR w_R ad yP0 K := y_chk_ok (RC := yRC) hE w_R_RI y_prog (fun j K' hK' => ⟨yCT_j hK', fun _ => y_cons hE hK'⟩) h (fun _ h => absurd h List.not_mem_nil)
theorem hl_oV {K : yCon} (hE : z_EX EX) (h : y_ckE yP0 yTYV zTF yRC yGR yCTabV K [] 100 = true) : y_ConOk EX l zTB zNT kc D vwCl xb yTYV yGR w_R ad yP0 K := y_chk_ok (RC := yRC) hE w_R_RI y_prog (fun j K' hK' => ⟨yCT_jV hK', fun _ => y_consV hE hK'⟩) h (fun _ h => absurd h List.not_mem_nil)
theorem hl_re_ok (hE : z_EX EX) : y_ConOk EX l zTB zNT kc D vwCl xb yTY yGR w_R ad yP0 hl_re := by
  intro y cc maxL ret tab na sp hP d hd av ws sz env0 hav hpre hri hGo hwt had hnam
  match av, hav with
  | [v0, v1], ⟨h0, ⟨x, hx, hx1, hx2⟩, _⟩ =>
    have hone : ∀ (K : yCon), y_ConOk EX l zTB zNT kc D vwCl xb yTY yGR w_R ad yP0 K → K.1 = 274 → K.2.2.2.2.2.1 = 21 → K.2.2.1 = [] → K.2.2.2.2.2.2.2 = [] → z_L (y_pv ad) K.2.1 [v0, v1] → y_sub K.2.2.2.2.1 hc_reE = true → (∀ o ∈ K.2.2.2.1, (o.1 = some (.inl (0, 0)) ∨ o.1 = some (.inl (1, 1))) ∧ o.2.2 = true) → Met l y (.code y cc maxL ret :: zTB) (z_rm d 0 0) (va_Pc [v0, v1] (z_pre EX zNT D vwCl kc ws sz)) (y_Q D vwCl ws sz ret (y_post xb kc yTY yGR w_R ad hl_re.2.2.2.2.1 env0 ws hl_re.2.2.2.1)) 0 0 (va_A ws sz) := by
      intro K hK e1 e2 e3 e4 hav2 hsub ho
      refine y_Met_conv (hK y cc maxL ret tab na sp (by rw [e1]; exact hP) d (by rw [e2]; exact hd) [v0, v1] ws sz [] hav2 (fun f hf => by rw [e3] at hf; cases hf) (fun _ => hri rfl) hGo hwt had (by rw [e4]; trivial)) (fun rv u ⟨o, ho1, g1, g2, g3, g4, g5, g6, g7⟩ => ⟨_, List.mem_cons_self, ?_, (fun _ h => by cases h), fun _ => g3 (ho o ho1).2, g4, g5, y_fr_sub hsub g6, g7⟩)
      rcases (ho o ho1).1 with e | e
      · rw [e] at g1
        cases rv with
        | none => exact g1.elim
        | some v =>
          obtain ⟨⟨x9, rfl, a1, a2⟩, _⟩ := g1
          exact ⟨⟨x9, rfl, by omega, by omega⟩, trivial⟩
      · rw [e] at g1
        cases rv with
        | none => exact g1.elim
        | some v =>
          obtain ⟨⟨x9, rfl, a1, a2⟩, _⟩ := g1
          exact ⟨⟨x9, rfl, by omega, by omega⟩, trivial⟩
    by_cases hk0 : x.toInt ≤ -1
    · refine hone _ (hl_o hE hl_c3) rfl rfl rfl rfl ⟨h0, ⟨x, hx, hx1, hk0⟩, trivial⟩ (by decide +kernel) (fun o ho => ?_)
      have := List.mem_singleton.mp ho
      subst this
      exact ⟨Or.inl rfl, rfl⟩
    by_cases hk2 : 2 ≤ x.toInt
    · refine hone _ (hl_o hE hl_c4) rfl rfl rfl rfl ⟨h0, ⟨x, hx, hk2, hx2⟩, trivial⟩ (by decide +kernel) (fun o ho => ?_)
      have := List.mem_singleton.mp ho
      subst this
      exact ⟨Or.inl rfl, rfl⟩
    have hko : ∀ k : Nat, ∀ o ∈ (hc_reK k).2.2.2.1, (o.1 = some (.inl (0, 0)) ∨ o.1 = some (.inl (1, 1))) ∧ o.2.2 = true := by
      intro k o ho
      rcases List.mem_cons.mp ho with rfl | ho
      · exact ⟨Or.inr rfl, rfl⟩
      · have := List.mem_singleton.mp ho
        subst this
        exact ⟨Or.inl rfl, rfl⟩
    by_cases hk1 : x.toInt = 0
    · exact hone _ (w_R_conv (hc_res hE (k := 0) (Or.inl rfl))) rfl rfl rfl rfl ⟨h0, ⟨x, hx, (show (0 : Int) ≤ x.toInt by omega), (show x.toInt ≤ 0 by omega)⟩, trivial⟩ (by decide +kernel) (hko 0)
    · exact hone _ (w_R_conv (hc_res hE (k := 1) (Or.inr rfl))) rfl rfl rfl rfl ⟨h0, ⟨x, hx, (show (1 : Int) ≤ x.toInt by omega), (show x.toInt ≤ 1 by omega)⟩, trivial⟩ (by decide +kernel) (hko 1)
  | [], h => exact h.elim
  | [_], h => exact h.2.elim
  | _ :: _ :: _ :: _, h => exact h.2.2.elim
end HL1
section HL2
variable {EX : (Nat → Prop) → State → Heap → Prop} {l : Launch} {kc : Nat → ClassId} {D : va_G} {xb : Nat} {ad : Nat → Option Nat}
theorem y_cclr_in {CT : List (List (List yCon))} {a b j : Nat} {K : yCon} (h : K ∈ y_cget (CT.set a ((CT.getD a []).set b [])) j) : K ∈ y_cget CT j := by
  unfold y_cget at h
  rw [List.getElem?_set] at h
  by_cases h1 : a = j / 16
  · rw [if_pos h1] at h
    by_cases h2 : a < CT.length
    · rw [if_pos h2] at h
      dsimp only at h
      have hg : CT.getD a [] = CT[a] := by rw [List.getD_eq_getElem?_getD, List.getElem?_eq_getElem h2]; rfl
      rw [hg, List.getElem?_set] at h
      by_cases h3 : b = j % 16
      · rw [if_pos h3] at h
        by_cases h4 : b < CT[a].length
        · rw [if_pos h4] at h
          cases h
        · rw [if_neg h4] at h
          cases h
      · rw [if_neg h3] at h
        unfold y_cget
        rw [← h1, List.getElem?_eq_getElem h2]
        exact h
    · rw [if_neg h2] at h
      cases h
  · rw [if_neg h1] at h
    exact h
end HL2
