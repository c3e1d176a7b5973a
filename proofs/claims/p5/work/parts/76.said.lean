section HSAID2
variable {EX : (Nat → Prop) → State → Heap → Prop} {l : Launch} {kc : Nat → ClassId} {D : va_G} {xb : Nat} {ad : Nat → Option Nat}
def h_saidP (_ : va_W) (rv : Option Value) (_ : va_W) : Prop := ∃ x : Int32, rv = some (.int x) ∧ 0 ≤ x.toInt ∧ x.toInt ≤ 1
theorem h_said_st {c k : Nat} (hk : k = 1 ∨ k = 2 ∨ k = 3) : y_get (y_cst (0, []) (h_said (c, k))).2.1 2 = some (.inl (.inr (1, 0))) := by
  rcases hk with rfl | rfl | rfl <;> rfl
theorem h_said_go1 {c k : Nat} {δ : Int} (hk : (k = 1 ∧ δ = 0) ∨ (k = 2 ∧ δ = -1) ∨ (k = 3 ∧ δ = 1)) (hc : c ≤ 43) (hJ : h_saidJ (c, k) (c + 1, 0) δ = true) : y_go1 kc yP0 yTYV zTF yGR [] (fun _ => True) yCTabV ad ym_X12_isSaid 400 20 20 h_saidD h_said (fun _ => h_saidE) h_saidr h_saidE h_saidF h_saidP (c, k) := by
  unfold h_saidJ at hJ
  rw [show yP0 271 = some ym_X12_isSaid from rfl] at hJ
  dsimp only at hJ
  split at hJ
  next es hes =>
    refine ⟨_, es, hes, (show y_sub h_saidE h_saidE = true by decide +kernel), fun q hq => Or.inl ⟨(c + 1, 0), Or.inl ⟨rfl, by dsimp only; omega⟩, ?_, ?_, ?_⟩⟩
    · rcases hk with ⟨rfl, _⟩ | ⟨rfl, _⟩ | ⟨rfl, _⟩ <;> exact (show 3 * (45 - (c + 1)) + 2 < 3 * (45 - c) + 1 by omega)
    · have := List.all_eq_true.mp hJ q hq
      rw [Bool.and_eq_true] at this
      exact this.1
    · intro w0 ws ws' ls ls' e0 env ⟨hwf, hx⟩ _ _ hl0 _ he _ _ hfr hB hl' _
      have hck := List.all_eq_true.mp hJ q hq
      rw [Bool.and_eq_true] at hck
      have hk9 : k ≠ 9 ∧ k ≠ 4 ∧ k ≠ 0 := by rcases hk with ⟨rfl, _⟩ | ⟨rfl, _⟩ | ⟨rfl, _⟩ <;> decide
      obtain ⟨x, hx1, hx2, hx3, hx4⟩ := (hx.resolve_left hk9.1).resolve_left hk9.2.1
      obtain ⟨v, hv1, hv2, hv3, hv4⟩ := hx4.resolve_left hk9.2.2
      dsimp only at hx3 hv1 hv2 hv3 hv4
      obtain ⟨x0, hx01, hx02⟩ := h_lst hl0 (h_said_st (hk.imp (fun q => q.1) (fun q => q.imp (fun q => q.1) (fun q => q.1))))
      rw [hx1] at hx01
      cases hx01
      split at hck
      next t ht =>
        have ht2 := y_eqI_ok hck.2
        subst ht2
        obtain ⟨x', hx'1, hx'2⟩ := h_lst hl' ht
        have hx03 := y_e_mono he hx02
        unfold y_e at hx03 hx'2
        dsimp only at hx03 hx'2
        obtain ⟨u, u1, u2⟩ := Option.map_eq_some_iff.mp hx03
        rw [u1] at hx'2
        have hxx : u + δ = x'.toInt := Option.some.inj hx'2
        have hat : ∀ j, w_at ws' 211 118 j = w_at ws 211 118 j := fun j => h_saidfr hfr _
        have hD : w_D (w_at ws' 211 118) (c + 1) = some x'.toInt.toNat ∧ 0 ≤ x'.toInt := by
          unfold w_D
          rw [w_D_same (g := w_at ws 211 118) (fun j _ => hat j), hx3, hat c, hv1]
          dsimp only
          rcases hk with ⟨rfl, rfl⟩ | ⟨rfl, rfl⟩ | ⟨rfl, rfl⟩
          · have h20 : v.toInt = 20 := hv2
            have := hv3 rfl
            rw [if_pos h20, if_pos (by omega)]
            exact ⟨congrArg some (by omega), by omega⟩
          · have h21 : v.toInt = 21 ∨ v.toInt = 22 := hv2
            have := hv4 rfl
            rw [if_neg (by omega), if_pos h21, if_pos (by omega)]
            exact ⟨congrArg some (by omega), by omega⟩
          · obtain ⟨n1, n2, n3⟩ : v.toInt ≠ 20 ∧ v.toInt ≠ 21 ∧ v.toInt ≠ 22 := hv2
            rw [if_neg n1, if_neg (by omega)]
            exact ⟨congrArg some (by omega), by omega⟩
        exact ⟨h_said_wf hfr hwf, Or.inr (Or.inr ⟨x', hx'1, hD.2, hD.1, Or.inl rfl⟩)⟩
      next => cases hck.2
  next => cases hJ
theorem h_said_ret {c : Nat} (hR : h_saidR (c, 4) = true) : y_go1 kc yP0 yTYV zTF yGR [] (fun _ => True) yCTabV ad ym_X12_isSaid 400 20 20 h_saidD h_said (fun _ => h_saidE) h_saidr h_saidE h_saidF h_saidP (c, 4) := by
  unfold h_saidR at hR
  rw [show yP0 271 = some ym_X12_isSaid from rfl] at hR
  dsimp only at hR
  split at hR
  next es hes =>
    refine ⟨_, es, hes, (show y_sub h_saidE h_saidE = true by decide +kernel), fun q hq => Or.inr ?_⟩
    have := List.all_eq_true.mp hR q hq
    simp only [Bool.and_eq_true] at this
    obtain ⟨q1, q2, q3⟩ := this
    split at q3
    next t ht =>
      rw [Bool.and_eq_true] at q3
      refine ⟨_, ht, List.isEmpty_iff.mp q1, List.isEmpty_iff.mp q2, ?_⟩
      intro w0 ws ws' ls rv e0 env _ _ _ _ _ _ _ _ _ _ _ hB _ hrv
      cases rv with
      | none => exact hrv.elim
      | some v =>
        obtain ⟨⟨x, rfl, hx⟩, _⟩ := hrv
        have r := y_rng_ok hB hx
        have a1 := of_decide_eq_true q3.1
        have a2 := of_decide_eq_true q3.2
        exact ⟨x, rfl, by omega, by omega⟩
    next => cases q3
  next => cases hR
theorem h_said_ent : y_go1 kc yP0 yTYV zTF yGR [] (fun _ => True) yCTabV ad ym_X12_isSaid 400 20 20 h_saidD h_said (fun _ => h_saidE) h_saidr h_saidE h_saidF h_saidP (0, 9) := by
  have hS := h_said5
  unfold h_saidS at hS
  rw [show yP0 271 = some ym_X12_isSaid from rfl] at hS
  dsimp only at hS
  split at hS
  next es hes =>
    refine ⟨_, es, hes, (show y_sub h_saidE h_saidE = true by decide +kernel), fun q hq => Or.inl ⟨(0, 0), Or.inl ⟨rfl, by decide⟩, by decide, ?_, ?_⟩⟩
    · have := List.all_eq_true.mp hS q hq
      rw [Bool.and_eq_true] at this
      exact this.1
    · intro w0 ws ws' ls ls' e0 env ⟨hwf, _⟩ _ _ _ _ _ _ _ hfr _ hl' _
      have hck := List.all_eq_true.mp hS q hq
      rw [Bool.and_eq_true] at hck
      split at hck
      next t ht =>
        have ht2 := y_eqI_ok hck.2
        subst ht2
        obtain ⟨x', hx'1, hx'2⟩ := h_lst hl' ht
        have h0 : (0 : Int) = x'.toInt := Option.some.inj hx'2
        exact ⟨h_said_wf hfr hwf, Or.inr (Or.inr ⟨x', hx'1, by omega, by rw [← h0]; rfl, Or.inl rfl⟩)⟩
      next => cases hck.2
  next => cases hS
theorem h_said_all (a : Nat × Nat) (ha : h_saidD a) : y_go1 kc yP0 yTYV zTF yGR [] (fun _ => True) yCTabV ad ym_X12_isSaid 400 20 20 h_saidD h_said (fun _ => h_saidE) h_saidr h_saidE h_saidF h_saidP a ∨ y_go2 kc yTYV ad 5 h_saidD h_said h_saidr h_saidF a := by
  rcases ha with ha | ⟨hk, hc⟩ | ⟨hk, hc⟩ | rfl
  · exact Or.inr (h_said_go2 ha)
  · left
    obtain ⟨c, k⟩ := a
    dsimp only at hk hc
    rcases hk with rfl | rfl | rfl
    · exact h_said_go1 (Or.inl ⟨rfl, rfl⟩) hc (List.all_eq_true.mp h_said1 c (List.mem_range.mpr (by omega)))
    · exact h_said_go1 (Or.inr (Or.inl ⟨rfl, rfl⟩)) hc (List.all_eq_true.mp h_said2 c (List.mem_range.mpr (by omega)))
    · exact h_said_go1 (Or.inr (Or.inr ⟨rfl, rfl⟩)) hc (List.all_eq_true.mp h_said3 c (List.mem_range.mpr (by omega)))
  · left
    obtain ⟨c, k⟩ := a
    dsimp only at hk hc
    subst hk
    exact h_said_ret (List.all_eq_true.mp h_said4 c (List.mem_range.mpr (by omega)))
  · exact Or.inl h_said_ent
/-- isSaid(k): the codes in order, it ends and answers -/
def yk_isSaid : yCon := (271, [.inr (some 210), .inl (0, 7)], [], [(some (.inl (0, 1)), [], false)], h_saidE, 21, true, [])
theorem h_isSaid (hE : z_EX EX) {RI : va_W → Prop} (hRI : ∀ ws, RI ws → w_WF ws 211 118) : y_ConOk EX l zTB zNT kc D vwCl xb yTYV yGR RI ad yP0 yk_isSaid := by
  intro y cc maxL ret tab na sp hP d hd av ws sz env0 hav hpre hri hGo hwt had hnam
  have hP0 : yP0 271 = some ym_X12_isSaid := rfl
  have hP1 : yP0 271 = some (y, cc, maxL, ret, tab, na, sp) := hP
  have e := hP0.symm.trans hP1
  have hh := @h_said_all kc ad
  rw [Option.some.inj e] at hh
  have hmL : maxL = 5 := by
    have := congrArg (fun M : yM => M.2.2.1) (Option.some.inj e)
    exact this.symm
  subst hmL
  have hW := y_walk (l := l) (D := D) (xb := xb) (sz := sz) (d := d) (w0 := ws) (av := av) (TB := zTB) (NT := zNT) (cl := vwCl) (n := 20) (d0 := 20) (RC := []) (RI := fun _ => True) hE (fun _ _ _ h => h) y_prog (fun j K' hK' => ⟨yCT_jV hK', fun _ => y_consV hE hK'⟩) hP1 hh (a0 := (0, 9)) (Or.inr (Or.inr (Or.inr rfl))) rfl rfl (fun h => by cases h) rfl (by decide) (by have h9 : 21 ≤ d := hd; omega) hav (fun _ h => by cases h) (fun _ => ⟨hRI ws (hri rfl), Or.inl rfl⟩) hGo hwt had
  refine y_Met_conv hW (fun rv u ⟨⟨x, hx1, hx2, hx3⟩, g1, g2, g3, g4⟩ => ⟨_, List.mem_cons_self, ?_, (fun _ h => by cases h), (fun h => by cases h), g1, g2, g3, g4⟩)
  rw [hx1]
  exact ⟨⟨x, rfl, hx2, hx3⟩, trivial⟩
end HSAID2
