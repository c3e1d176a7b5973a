section HC2
variable {EX : (Nat → Prop) → State → Heap → Prop} {l : Launch} {kc : Nat → ClassId} {D : va_G} {xb : Nat} {ad : Nat → Option Nat}
theorem y_in_row {E : yR} {r a b k : Nat} (hm : (r, a, b) ∈ E) (h1 : a ≤ k) (h2 : k ≤ b) : y_in E r k = true := List.any_eq_true.mpr ⟨_, hm, by simp [h1, h2]⟩
theorem y_in_no {E : yR} {r k : Nat} (h : ∀ q ∈ E, q.1 = r → ¬ (q.2.1 ≤ k ∧ k ≤ q.2.2)) : y_in E r k = false := by
  cases hh : y_in E r k with
  | false => rfl
  | true =>
    obtain ⟨q, hq, h1⟩ := List.any_eq_true.mp hh
    simp only [Bool.and_eq_true, Nat.ble_eq, beq_iff_eq] at h1
    exact absurd ⟨h1.2.1, h1.2.2⟩ (h q hq h1.1)
theorem hc_imOk (hE : z_EX EX) {k : Nat} (hk : k = 0 ∨ k = 1) (hit : ((List.range 299).all (hc_it 273 18 k 222 (299 * k) 211 0)) = true) (hend : hc_end 273 18 k [(224, k, k)] = true) (hent : hc_ent false 273 18 k = true) : y_ConOk EX l zTB zNT kc D vwCl xb yTY yGR w_RI ad yP0 (hc_imK k) := by
  intro y cc maxL ret tab na sp hP d hd av ws sz env0 hav hpre hri hGo hwt had hnam
  have hP1 : yP0 273 = some (y, cc, maxL, ret, tab, na, sp) := hP
  have e : some ym_X12_image = some (y, cc, maxL, ret, tab, na, sp) := (show yP0 273 = some ym_X12_image from rfl).symm.trans hP1
  have hmL : 3 = maxL := congrArg (fun M : yM => M.2.2.1) (Option.some.inj e)
  subst hmL
  have hs1 : ∀ i, i < 299 → y_sub [(222, 299 * k + i, 299 * k + i)] (hc_imE k) = true := by
    intro i hi
    unfold y_sub y_ina hc_imE
    simp
    omega
  have hh := fun a ha => hc_all (kc := kc) (ad := ad) (jm := 273) (pcL := 18) (kk := k) (rd := 222) (od := 299 * k) (rs := 211) (os := 0) (tl := [(224, k, k)]) (effM := hc_imE k) hP1 (by decide) (by decide) (by decide) (by simp) (by simp) hs1 (by rcases hk with rfl | rfl <;> decide) (by rcases hk with rfl | rfl <;> decide) hit hend hent a ha
  have hW := y_walk (l := l) (D := D) (xb := xb) (sz := sz) (d := d) (w0 := ws) (av := av) (TB := zTB) (NT := zNT) (cl := vwCl) (n := 20) (d0 := 20) (RC := []) (RI := fun _ => True) hE (fun _ _ _ h => h) y_prog (fun j K' hK' => ⟨yCT_j hK', fun _ => y_cons hE hK'⟩) hP1 (fun a ha => Or.inl (hh a ha)) (a0 := (1, 0)) (Or.inr rfl) rfl rfl (fun h => by cases h) rfl (show 2 ≤ 3 by decide) (by have h9 : 21 ≤ d := hd; omega) hav (fun _ h => by cases h) (fun _ => rfl) hGo hwt had
  refine y_Met_conv hW (fun rv u ⟨⟨x, hx1, hx⟩, g1, g2, g3, g4⟩ => ⟨_, List.mem_cons_self, ?_, (fun _ h => by cases h), (fun _ => ?_), g1, g2, g3, g4⟩)
  · rcases hx with ⟨hx, _⟩ | ⟨hx, _⟩
    · rw [hx1]
      exact ⟨⟨x, rfl, by omega, by omega⟩, trivial⟩
    · cases hx
  · rcases hx with ⟨_, hx⟩ | ⟨hx, _⟩
    · obtain ⟨c1, c2, c3⟩ := w_cnt hwt
      obtain ⟨r1, r2, r3⟩ := hri rfl
      have hs : ∀ j, y_at u 211 j = y_at ws 211 j := fun j => g3 211 j (by
        unfold y_in hc_imE
        simp)
      have hcp : w_WF u 222 (299 * k + 118) := w_WF_copy (r := 211) (o := 118) (fun j hj => by
        have := hx (118 + j) (by omega)
        rw [Nat.zero_add, ← Nat.add_assoc] at this
        exact this) c1 r1
      have hW1 : w_WF u 211 118 := w_WF_same (fun j _ _ => hs j) c1 r1
      have hun : ∀ j, ¬ (299 * k ≤ j ∧ j ≤ 299 * k + 298) → y_at u 222 j = y_at ws 222 j := fun j hj => g3 222 j (y_in_no (fun q hq h1 => by
        rcases List.mem_cons.mp hq with rfl | hq
        · exact hj
        · rcases List.mem_cons.mp hq with rfl | hq
          · exact absurd h1 (by decide)
          · have := List.mem_singleton.mp hq
            subst this
            exact absurd (show (224 : Nat) = 222 from h1) (by decide)))
      rcases hk with rfl | rfl
      · exact ⟨hW1, hcp, w_WF_same (fun j h1 h2 => hun j (by omega)) c3 r3⟩
      · exact ⟨hW1, w_WF_same (fun j h1 h2 => hun j (by omega)) c2 r2, hcp⟩
    · cases hx
theorem hc_reOk (hE : z_EX EX) {k : Nat} (hk : k = 0 ∨ k = 1) (hit : ((List.range 299).all (hc_it 274 27 k 211 0 222 (299 * k))) = true) (hend : hc_end 274 27 k [(209, 23, 23)] = true) (hent : hc_ent true 274 27 k = true) : y_ConOk EX l zTB zNT kc D vwCl xb yTY yGR w_RI ad yP0 (hc_reK k) := by
  intro y cc maxL ret tab na sp hP d hd av ws sz env0 hav hpre hri hGo hwt had hnam
  have hP1 : yP0 274 = some (y, cc, maxL, ret, tab, na, sp) := hP
  have e : some ym_X12_restore = some (y, cc, maxL, ret, tab, na, sp) := (show yP0 274 = some ym_X12_restore from rfl).symm.trans hP1
  have hmL : 3 = maxL := congrArg (fun M : yM => M.2.2.1) (Option.some.inj e)
  subst hmL
  have hs1 : ∀ i, i < 299 → y_sub [(211, 0 + i, 0 + i)] hc_reE = true := by
    intro i hi
    unfold y_sub y_ina hc_reE
    simp
    omega
  have hh := fun a ha => hc_all (kc := kc) (ad := ad) (jm := 274) (pcL := 27) (kk := k) (rd := 211) (od := 0) (rs := 222) (os := 299 * k) (tl := [(209, 23, 23)]) (effM := hc_reE) hP1 (by decide) (by decide) (by decide) (by decide) (by decide) hs1 (by decide) (by decide) hit hend hent a ha
  have hW := y_walk (l := l) (D := D) (xb := xb) (sz := sz) (d := d) (w0 := ws) (av := av) (TB := zTB) (NT := zNT) (cl := vwCl) (n := 20) (d0 := 20) (RC := []) (RI := fun _ => True) hE (fun _ _ _ h => h) y_prog (fun j K' hK' => ⟨yCT_j hK', fun _ => y_cons hE hK'⟩) hP1 (fun a ha => Or.inl (hh a ha)) (a0 := (1, 0)) (Or.inr rfl) rfl rfl (fun h => by cases h) rfl (show 2 ≤ 3 by decide) (by have h9 : 21 ≤ d := hd; omega) hav (fun _ h => by cases h) (fun _ => rfl) hGo hwt had
  refine y_Met_conv hW (fun rv u ⟨⟨x, hx1, hx⟩, g1, g2, g3, g4⟩ => ?_)
  obtain ⟨c1, c2, c3⟩ := w_cnt hwt
  obtain ⟨r1, r2, r3⟩ := hri rfl
  have hun : ∀ j, y_at u 222 j = y_at ws 222 j := fun j => g3 222 j (by
    unfold y_in
    show List.any [(211, 0, 298), (209, 0, 0), (209, 23, 23)] _ = false
    simp)
  rcases hx with ⟨hx, hcp⟩ | ⟨_, hx, hsm⟩
  · refine ⟨_, List.mem_cons_self, ?_, (fun _ h => by cases h), (fun _ => ?_), g1, g2, g3, g4⟩
    · rw [hx1]
      exact ⟨⟨x, rfl, by omega, by omega⟩, trivial⟩
    · have hW1 : w_WF u 211 118 := by
        refine w_WF_copy (r := 222) (o := 299 * k + 118) (fun j hj => by
          have := hcp (118 + j) (by omega)
          rw [Nat.zero_add, ← Nat.add_assoc] at this
          exact this) ?_ ?_
        · rcases hk with rfl | rfl
          · exact c2
          · exact c3
        · rcases hk with rfl | rfl
          · exact r2
          · exact r3
      exact ⟨hW1, w_WF_same (fun j _ _ => hun j) c2 r2, w_WF_same (fun j _ _ => hun j) c3 r3⟩
  · refine ⟨_, List.mem_cons_of_mem _ List.mem_cons_self, ?_, (fun _ h => by cases h), (fun _ => ?_), g1, g2, g3, g4⟩
    · rw [hx1]
      exact ⟨⟨x, rfl, by omega, by omega⟩, trivial⟩
    · exact ⟨w_WF_same (fun j _ _ => hsm 211 j (by decide)) c1 r1, w_WF_same (fun j _ _ => hun j) c2 r2, w_WF_same (fun j _ _ => hun j) c3 r3⟩
theorem hc_ims (hE : z_EX EX) {k : Nat} (hk : k = 0 ∨ k = 1) : y_ConOk EX l zTB zNT kc D vwCl xb yTY yGR w_RI ad yP0 (hc_imK k) := by
  rcases hk with rfl | rfl
  · exact hc_imOk hE (Or.inl rfl) hc_i0 hc_i0e hc_i0s
  · exact hc_imOk hE (Or.inr rfl) hc_i1 hc_i1e hc_i1s
theorem hc_res (hE : z_EX EX) {k : Nat} (hk : k = 0 ∨ k = 1) : y_ConOk EX l zTB zNT kc D vwCl xb yTY yGR w_RI ad yP0 (hc_reK k) := by
  rcases hk with rfl | rfl
  · exact hc_reOk hE (Or.inl rfl) hc_r0 hc_r0e hc_r0s
  · exact hc_reOk hE (Or.inr rfl) hc_r1 hc_r1e hc_r1s
end HC2
