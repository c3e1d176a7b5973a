/-! ===== their contracts ===== -/
def hg_imK (k : Nat) : yCon := (273, [.inr (some 210), .inl (Int.ofNat k, Int.ofNat k)], [], [(some (.inl (1, 1)), [((224, k), (1, 1), none)], true)], hc_imE k, 21, true, [])
def hg_re1 (k : Nat) : yCon := (274, [.inr (some 210), .inl (Int.ofNat k, Int.ofNat k)], [((224, k), (1, 1), none)], [(some (.inl (1, 1)), [], true)], hc_reE, 21, true, [])
def hg_re0 (k : Nat) : yCon := (274, [.inr (some 210), .inl (Int.ofNat k, Int.ofNat k)], [((224, k), (0, 0), none)], [(some (.inl (0, 0)), [], true)], [(209, 0, 0), (209, 23, 23)], 21, true, [])
section HG2
variable {EX : (Nat → Prop) → State → Heap → Prop} {l : Launch} {kc : Nat → ClassId} {D : va_G} {xb : Nat} {ad : Nat → Option Nat}
theorem hg_f {kc : Nat → ClassId} {ad : Nat → Option Nat} {ws : va_W} (hw : y_w kc ad yTY ws) {k : Nat} (hk : k = 0 ∨ k = 1) : ∀ f ∈ ([((224, k), (0, 1), none)] : List yF), y_fv2 [] ws f := by
  intro f hf
  have := List.mem_singleton.mp hf
  subst this
  have hq : y_ty yTY 224 k = some (0, 1) := by rcases hk with rfl | rfl <;> decide +kernel
  obtain ⟨x, x1, x2, x3⟩ := y_ty_ok hw hq
  exact ⟨x, x1, x2, x3, fun _ _ e => by cases e⟩
theorem hg_imOk (hE : z_EX EX) {k : Nat} (hk : k = 0 ∨ k = 1) (hit : ((List.range 299).all (hg_it 273 18 k 222 (299 * k) 211 0)) = true) (hend : hg_end false 273 18 k [(224, k, k)] = true) (hent : hg_ent false 273 18 k = true) : y_ConOk EX l zTB zNT kc D vwCl xb yTY yGR w_RI ad yP0 (hg_imK k) := by
  intro y cc maxL ret tab na sp hP d hd av ws sz env0 hav hpre hri hGo hwt had hnam
  have hP1 : yP0 273 = some (y, cc, maxL, ret, tab, na, sp) := hP
  have e : some ym_X12_image = some (y, cc, maxL, ret, tab, na, sp) := (show yP0 273 = some ym_X12_image from rfl).symm.trans hP1
  have hmL : 3 = maxL := congrArg (fun M : yM => M.2.2.1) (Option.some.inj e)
  subst hmL
  have hs1 : ∀ i, i < 299 → y_sub [(222, 299 * k + i, 299 * k + i)] (hc_imE k) = true := by
    intro i hi
    unfold y_sub y_ina hc_imE
    simp
    omega
  have hh := fun a ha => hg_all (kc := kc) (ad := ad) (jm := 273) (pcL := 18) (kk := k) (rd := 222) (od := 299 * k) (rs := 211) (os := 0) (tl := [(224, k, k)]) (effM := hc_imE k) hP1 (by decide) (by decide) (by decide) (by simp) (by simp) hs1 (by rcases hk with rfl | rfl <;> decide) (by rcases hk with rfl | rfl <;> decide) hit hend hent a ha
  have hW := y_walk (l := l) (D := D) (xb := xb) (sz := sz) (d := d) (w0 := ws) (av := av) (TB := zTB) (NT := zNT) (cl := vwCl) (n := 20) (d0 := 20) (RC := []) (RI := fun _ => True) hE (fun _ _ _ h => h) y_prog (fun j K' hK' => ⟨yCT_j hK', fun _ => y_cons hE hK'⟩) hP1 (fun a ha => Or.inl (hh a ha)) (a0 := (1, 0)) (Or.inr rfl) rfl rfl (fun h => by cases h) rfl (show 2 ≤ 3 by decide) (by have h9 : 21 ≤ d := hd; omega) hav (fun f hf => hg_f hwt hk f hf) (fun _ => rfl) hGo hwt had
  refine y_Met_conv hW (fun rv u ⟨⟨x, hx1, hx⟩, g1, g2, g3, g4⟩ => ⟨_, List.mem_cons_self, ?_, (fun f hf => ?_), (fun _ => ?_), g1, g2, g3, g4⟩)
  · rcases hx with ⟨hx, _⟩ | ⟨hx, _⟩
    · rw [hx1]
      exact ⟨⟨x, rfl, by omega, by omega⟩, trivial⟩
    · cases hx
  · have := List.mem_singleton.mp hf
    subst this
    rcases hx with ⟨_, _, hx, _⟩ | ⟨hx, _⟩
    · exact hs_fv (hx rfl) (by decide) (by decide)
    · cases hx
  · rcases hx with ⟨_, _, _, hx⟩ | ⟨hx, _⟩
    · obtain ⟨c1, c2, c3⟩ := w_cnt hwt
      obtain ⟨r1, r2, r3⟩ := hri rfl
      have hs : ∀ j, y_at u 211 j = y_at ws 211 j := fun j => g3 211 j (by
        unfold y_in hc_imE
        simp)
      have hcp : w_WF u 222 (299 * k + 118) := w_WF_copy (r := 211) (o := 118) (fun j hj => by
        have := hx (118 + j) (by omega)
        rw [Nat.zero_add, ← Nat.add_assoc] at this
        exact this) c1 r1
      have hW1 : w_WF u 211 118 := w_WF_same (fun j _ _ => hs j) c1 r1
      have hun : ∀ j, ¬ (299 * k ≤ j ∧ j ≤ 299 * k + 298) → y_at u 222 j = y_at ws 222 j := fun j hj => g3 222 j (y_in_no (fun q hq h1 => by
        rcases List.mem_cons.mp hq with rfl | hq
        · exact hj
        · rcases List.mem_cons.mp hq with rfl | hq
          · exact absurd h1 (by decide)
          · have := List.mem_singleton.mp hq
            subst this
            exact absurd (show (224 : Nat) = 222 from h1) (by decide)))
      rcases hk with rfl | rfl
      · exact ⟨hW1, hcp, w_WF_same (fun j h1 h2 => hun j (by omega)) c3 r3⟩
      · exact ⟨hW1, w_WF_same (fun j h1 h2 => hun j (by omega)) c2 r2, hcp⟩
    · cases hx
theorem hg_reMet (hE : z_EX EX) {k : Nat} (hk : k = 0 ∨ k = 1) (hit : ((List.range 299).all (hg_it 274 27 k 211 0 222 (299 * k))) = true) (hend : hg_end true 274 27 k [(209, 23, 23)] = true) (hent : hg_ent true 274 27 k = true) {y : MethodName} {cc : ByteArray} {maxL : Nat} {ret : Option FieldType} {tab : List (List zE)} {na : Nat} {sp : List Nat} (hP1 : yP0 274 = some (y, cc, maxL, ret, tab, na, sp)) {d : Nat} (hd : 21 ≤ d) {av : List Value} {ws : va_W} {sz : Nat} (hav : z_L (y_pv ad) [.inr (some 210), .inl (Int.ofNat k, Int.ofNat k)] av) (hri : w_RI ws) (hGo : y_Go yGR ws) (hwt : y_w kc ad yTY ws) (had : z_ad xb ws = ad) : Met l y (.code y cc maxL ret :: zTB) (z_rm d 0 0) (va_Pc av (z_pre EX zNT D vwCl kc ws sz)) (y_Q D vwCl ws sz ret (fun rv u => ∃ x : Int32, rv = some (.int x) ∧ ((x.toInt = 1 ∧ hs_cell ws 224 k 1 ∧ w_RI u) ∨ (x.toInt = 0 ∧ hs_cell ws 224 k 0 ∧ (∀ r j, r ≠ 209 → y_at u r j = y_at ws r j) ∧ w_RI u)) ∧ y_Go yGR u ∧ y_w kc ad yTY u ∧ y_fr hc_reE ws u ∧ z_ad xb u = ad)) 0 0 (va_A ws sz) := by
  have e : some ym_X12_restore = some (y, cc, maxL, ret, tab, na, sp) := (show yP0 274 = some ym_X12_restore from rfl).symm.trans hP1
  have hmL : 3 = maxL := congrArg (fun M : yM => M.2.2.1) (Option.some.inj e)
  subst hmL
  have hs1 : ∀ i, i < 299 → y_sub [(211, 0 + i, 0 + i)] hc_reE = true := by
    intro i hi
    unfold y_sub y_ina hc_reE
    simp
    omega
  have hh := fun a ha => hg_all (kc := kc) (ad := ad) (jm := 274) (pcL := 27) (kk := k) (rd := 211) (od := 0) (rs := 222) (os := 299 * k) (tl := [(209, 23, 23)]) (effM := hc_reE) hP1 (by decide) (by decide) (by decide) (by decide) (by decide) hs1 (by decide) (by decide) hit hend hent a ha
  have hW := y_walk (l := l) (D := D) (xb := xb) (sz := sz) (d := d) (w0 := ws) (av := av) (TB := zTB) (NT := zNT) (cl := vwCl) (n := 20) (d0 := 20) (RC := []) (RI := fun _ => True) hE (fun _ _ _ h => h) y_prog (fun j K' hK' => ⟨yCT_j hK', fun _ => y_cons hE hK'⟩) hP1 (fun a ha => Or.inl (hh a ha)) (a0 := (1, 0)) (Or.inr rfl) rfl rfl (fun h => by cases h) rfl (show 2 ≤ 3 by decide) (by have h9 : 21 ≤ d := hd; omega) hav (fun f hf => hg_f hwt hk f hf) (fun _ => rfl) hGo hwt had
  refine y_Met_conv hW (fun rv u ⟨⟨x, hx1, hx⟩, g1, g2, g3, g4⟩ => ⟨x, hx1, ?_, g1, g2, g3, g4⟩)
  obtain ⟨c1, c2, c3⟩ := w_cnt hwt
  obtain ⟨r1, r2, r3⟩ := hri
  have hun : ∀ j, y_at u 222 j = y_at ws 222 j := fun j => g3 222 j (by
    unfold y_in
    show List.any [(211, 0, 298), (209, 0, 0), (209, 23, 23)] _ = false
    simp)
  rcases hx with ⟨hx, hk1, _, hcp⟩ | ⟨_, hx, hk0, hsm⟩
  · refine Or.inl ⟨hx, hk1 rfl, ?_⟩
    have hW1 : w_WF u 211 118 := by
      refine w_WF_copy (r := 222) (o := 299 * k + 118) (fun j hj => by
        have := hcp (118 + j) (by omega)
        rw [Nat.zero_add, ← Nat.add_assoc] at this
        exact this) ?_ ?_
      · rcases hk with rfl | rfl
        · exact c2
        · exact c3
      · rcases hk with rfl | rfl
        · exact r2
        · exact r3
    exact ⟨hW1, w_WF_same (fun j _ _ => hun j) c2 r2, w_WF_same (fun j _ _ => hun j) c3 r3⟩
  · exact Or.inr ⟨hx, hk0, hsm, w_WF_same (fun j _ _ => hsm 211 j (by decide)) c1 r1, w_WF_same (fun j _ _ => hun j) c2 r2, w_WF_same (fun j _ _ => hun j) c3 r3⟩
theorem hg_reM (hE : z_EX EX) {k : Nat} (hk : k = 0 ∨ k = 1) {y : MethodName} {cc : ByteArray} {maxL : Nat} {ret : Option FieldType} {tab : List (List zE)} {na : Nat} {sp : List Nat} (hP1 : yP0 274 = some (y, cc, maxL, ret, tab, na, sp)) {d : Nat} (hd : 21 ≤ d) {av : List Value} {ws : va_W} {sz : Nat} (hav : z_L (y_pv ad) [.inr (some 210), .inl (Int.ofNat k, Int.ofNat k)] av) (hri : w_RI ws) (hGo : y_Go yGR ws) (hwt : y_w kc ad yTY ws) (had : z_ad xb ws = ad) : Met l y (.code y cc maxL ret :: zTB) (z_rm d 0 0) (va_Pc av (z_pre EX zNT D vwCl kc ws sz)) (y_Q D vwCl ws sz ret (fun rv u => ∃ x : Int32, rv = some (.int x) ∧ ((x.toInt = 1 ∧ hs_cell ws 224 k 1 ∧ w_RI u) ∨ (x.toInt = 0 ∧ hs_cell ws 224 k 0 ∧ (∀ r j, r ≠ 209 → y_at u r j = y_at ws r j) ∧ w_RI u)) ∧ y_Go yGR u ∧ y_w kc ad yTY u ∧ y_fr hc_reE ws u ∧ z_ad xb u = ad)) 0 0 (va_A ws sz) := by
  rcases hk with rfl | rfl
  · exact hg_reMet (l := l) (D := D) (xb := xb) (sz := sz) hE (Or.inl rfl) hg_r0 hg_r0e hg_r0s hP1 hd hav hri hGo hwt had
  · exact hg_reMet (l := l) (D := D) (xb := xb) (sz := sz) hE (Or.inr rfl) hg_r1 hg_r1e hg_r1s hP1 hd hav hri hGo hwt had
theorem hg_ims (hE : z_EX EX) {k : Nat} (hk : k = 0 ∨ k = 1) : y_ConOk EX l zTB zNT kc D vwCl xb yTY yGR w_RI ad yP0 (hg_imK k) := by
  rcases hk with rfl | rfl
  · exact hg_imOk hE (Or.inl rfl) hg_i0 hg_i0e hg_i0s
  · exact hg_imOk hE (Or.inr rfl) hg_i1 hg_i1e hg_i1s
theorem hg_r1ok (hE : z_EX EX) {k : Nat} (hk : k = 0 ∨ k = 1) : y_ConOk EX l zTB zNT kc D vwCl xb yTY yGR w_RI ad yP0 (hg_re1 k) := by
  intro y cc maxL ret tab na sp hP d hd av ws sz env0 hav hpre hri hGo hwt had hnam
  obtain ⟨v, v1, v2, v3, _⟩ := hpre _ List.mem_cons_self
  dsimp only at v1 v2 v3
  refine y_Met_conv (hg_reM (l := l) (D := D) (xb := xb) (sz := sz) hE hk hP hd hav (hri rfl) hGo hwt had) (fun rv u ⟨x, hx1, hx, g1, g2, g3, g4⟩ => ?_)
  rcases hx with ⟨hx, _, hw⟩ | ⟨_, h0, _⟩
  · refine ⟨_, List.mem_cons_self, hs_rv hx hx1, (fun _ h => by cases h), fun _ => hw, g1, g2, g3, g4⟩
  · have := hs_cell_eq h0 v1
    omega
theorem hg_r0ok (hE : z_EX EX) {k : Nat} (hk : k = 0 ∨ k = 1) : y_ConOk EX l zTB zNT kc D vwCl xb yTY yGR w_RI ad yP0 (hg_re0 k) := by
  intro y cc maxL ret tab na sp hP d hd av ws sz env0 hav hpre hri hGo hwt had hnam
  obtain ⟨v, v1, v2, v3, _⟩ := hpre _ List.mem_cons_self
  dsimp only at v1 v2 v3
  refine y_Met_conv (hg_reM (l := l) (D := D) (xb := xb) (sz := sz) hE hk hP hd hav (hri rfl) hGo hwt had) (fun rv u ⟨x, hx1, hx, g1, g2, g3, g4⟩ => ?_)
  rcases hx with ⟨_, h1, _⟩ | ⟨hx, _, hsm, hw⟩
  · have := hs_cell_eq h1 v1
    omega
  · refine ⟨_, List.mem_cons_self, hs_rv hx hx1, (fun _ h => by cases h), fun _ => hw, g1, g2, fun r j hr => ?_, g4⟩
    by_cases h9 : r = 209
    · subst h9
      refine g3 209 j ?_
      cases hh : y_in hc_reE 209 j with
      | false => rfl
      | true =>
        have : y_in [(209, 0, 0), (209, 23, 23)] 209 j = true := by
          unfold y_in hc_reE at hh
          unfold y_in
          simpa using hh
        exact (Bool.false_ne_true (hr.symm.trans this)).elim
    · exact hsm r j h9
end HG2
