/-! ===== what binds cells, with its counts ===== -/
def w_N (ws : va_W) : Prop := (∀ n : Int32, y_at ws 211 118 = some n → n.toInt ≤ 59) ∧ (∀ n : Int32, y_at ws 222 118 = some n → n.toInt ≤ 59) ∧ (∀ n : Int32, y_at ws 222 417 = some n → n.toInt ≤ 59)
def w_R (ws : va_W) : Prop := w_RI ws ∧ w_N ws
theorem w_R_RI : y_RI yRC w_R := by
  intro u v h ⟨hr, c1, c2, c3⟩
  have hin : ∀ r a b, (r, a, b) ∈ yRC → ∀ k, a ≤ k → k ≤ b → y_at v r k = y_at u r k := fun r a b hm k h1 h2 => h r k (y_in_row hm h1 h2)
  refine ⟨⟨w_WF_same (fun k h1 h2 => hin 211 118 298 (by decide) k h1 (by omega)) c1 hr.1, w_WF_same (fun k h1 h2 => hin 222 118 298 (by decide) k h1 (by omega)) c2 hr.2.1, w_WF_same (fun k h1 h2 => hin 222 417 597 (by decide) k h1 (by omega)) c3 hr.2.2⟩, fun n hn => c1 n ?_, fun n hn => c2 n ?_, fun n hn => c3 n ?_⟩
  · rw [← hin 211 118 298 (by decide) 118 (by decide) (by decide)]; exact hn
  · rw [← hin 222 118 298 (by decide) 118 (by decide) (by decide)]; exact hn
  · rw [← hin 222 417 597 (by decide) 417 (by decide) (by decide)]; exact hn
section HW
variable {EX : (Nat → Prop) → State → Heap → Prop} {l : Launch} {kc : Nat → ClassId} {D : va_G} {xb : Nat} {ad : Nat → Option Nat} {RI : va_W → Prop}
theorem w_R_conv {K : yCon} (h : y_ConOk EX l zTB zNT kc D vwCl xb yTY yGR w_RI ad yP0 K) : y_ConOk EX l zTB zNT kc D vwCl xb yTY yGR w_R ad yP0 K := by
  intro y cc maxL ret tab na sp hP d hd av ws sz env0 hav hpre hri hGo hwt had hnam
  exact y_Met_conv (h y cc maxL ret tab na sp hP d hd av ws sz env0 hav hpre (fun q => (hri q).1) hGo hwt had hnam) (fun rv u ⟨o, ho, g1, g2, g3, g4, g5, g6⟩ => ⟨o, ho, g1, g2, fun q => ⟨g3 q, w_cnt g5⟩, g4, g5, g6⟩)
theorem w_R_convV {K : yCon} (h : y_ConOk EX l zTB zNT kc D vwCl xb yTYV yGR w_RI ad yP0 K) : y_ConOk EX l zTB zNT kc D vwCl xb yTYV yGR w_R ad yP0 K := by
  intro y cc maxL ret tab na sp hP d hd av ws sz env0 hav hpre hri hGo hwt had hnam
  exact y_Met_conv (h y cc maxL ret tab na sp hP d hd av ws sz env0 hav hpre (fun q => (hri q).1) hGo hwt had hnam) (fun rv u ⟨o, ho, g1, g2, g3, g4, g5, g6⟩ => ⟨o, ho, g1, g2, fun q => ⟨g3 q, w_cntV g5⟩, g4, g5, g6⟩)
/-- the same contract, said of fewer cells -/
def y_wko (o o' : yOut) : Bool := (match o.1, o'.1 with
  | none, none => true
  | some (.inl (lo, hi)), some (.inl (lo', hi')) => decide (lo' ≤ lo) && decide (hi ≤ hi')
  | _, _ => false) && (o'.2.1.all (fun f' => f'.2.2.isNone && o.2.1.any (fun f => decide (f.1 = f'.1) && (decide (f'.2.1.1 ≤ f.2.1.1) && decide (f.2.1.2 ≤ f'.2.1.2)))) && (!o'.2.2 || o.2.2))
def y_wkcV (K : yCon) (outs : List yOut) : Bool := K.2.2.1.all (fun f => f.2.2.isNone) && (K.2.2.2.2.2.2.2.all (fun rk => (y_ty yTYV rk.1 rk.2).isSome) && K.2.2.2.1.all (fun o => outs.any (fun o' => y_wko o o')))
theorem y_weakV {K : yCon} {outs : List yOut} (hw : y_wkcV K outs = true) (h : y_ConOk EX l zTB zNT kc D vwCl xb yTYV yGR RI ad yP0 K) : y_ConOk EX l zTB zNT kc D vwCl xb yTYV yGR RI ad yP0 (K.1, K.2.1, K.2.2.1, outs, K.2.2.2.2.1, K.2.2.2.2.2.1, K.2.2.2.2.2.2.1, []) := by
  intro y cc maxL ret tab na sp hP d hd av ws sz env0 hav hpre hri hGo hwt had hnam
  unfold y_wkcV at hw
  simp only [Bool.and_eq_true] at hw
  obtain ⟨w1, w2, w3⟩ := hw
  have hnm : ∃ env1, z_L (y_nam ws) K.2.2.2.2.2.2.2 env1 := by
    generalize K.2.2.2.2.2.2.2 = l0 at w2
    induction l0 with
    | nil => exact ⟨[], trivial⟩
    | cons rk r ih =>
      rw [List.all_cons, Bool.and_eq_true] at w2
      obtain ⟨e1, h1⟩ := ih w2.2
      obtain ⟨q, hq⟩ := Option.isSome_iff_exists.mp w2.1
      obtain ⟨x, x1, _⟩ := y_ty_ok hwt hq
      exact ⟨x.toInt :: e1, ⟨x, x1, rfl⟩, h1⟩
  obtain ⟨env1, h1⟩ := hnm
  refine y_Met_conv (h y cc maxL ret tab na sp hP d hd av ws sz env1 hav (fun f hf => ?_) hri hGo hwt had h1) (fun rv u ⟨o, ho, g1, g2, g3, g4⟩ => ?_)
  · obtain ⟨x, x1, x2, x3, _⟩ := hpre f hf
    exact ⟨x, x1, x2, x3, fun j c e => by
      have := List.all_eq_true.mp w1 f hf
      dsimp only at e
      rw [e] at this
      cases this⟩
  · obtain ⟨o', ho', hk⟩ := List.any_eq_true.mp (List.all_eq_true.mp w3 o ho)
    unfold y_wko at hk
    simp only [Bool.and_eq_true] at hk
    obtain ⟨k1, k2, k3⟩ := hk
    refine ⟨o', ho', ?_, fun f hf => ?_, fun q => g3 ?_, g4⟩
    · split at k1
      next e1 e2 => rw [e1] at g1; rw [e2]; exact g1
      next lo hi lo' hi' e1 e2 =>
        rw [e1] at g1
        rw [e2]
        cases rv with
        | none => exact g1.elim
        | some v =>
          obtain ⟨⟨x, rfl, x1, x2⟩, _⟩ := g1
          simp only [Bool.and_eq_true, decide_eq_true_eq] at k1
          exact ⟨⟨x, rfl, by omega, by omega⟩, trivial⟩
      next => cases k1
    · have h9 := List.all_eq_true.mp k2 f hf
      rw [Bool.and_eq_true] at h9
      obtain ⟨f0, hf0, h8⟩ := List.any_eq_true.mp h9.2
      simp only [Bool.and_eq_true, decide_eq_true_eq] at h8
      obtain ⟨x, x1, x2, x3, _⟩ := g2 f0 hf0
      rw [h8.1] at x1
      dsimp only at x2 x3
      refine ⟨x, x1, by dsimp only; omega, by dsimp only; omega, fun j c e => ?_⟩
      dsimp only at e
      rw [e] at h9
      cases h9.1
    · rw [q] at k3
      simpa using k3
end HW
/-! ===== said ===== -/
def hd_CT : List (List (List yCon)) := y_cput yCTabV 271 yk_isSaid
def hd_K : yCon := (272, [.inr (some 210), .inl (-2147483648, 2147483647)], [], [(some (.inl (-2147483648, 2147483647)), [], true)], [(209, 0, 0), (221, 0, 44)], 22, true, [])
def hd_H : List yCut := [(26, [(0, .inr (some 210)), (1, .inl (-2147483648, 2147483647)), (2, .inl (-2147483648, 2147483647)), (3, .inl (0, 8))], [], [.inr (.inl 3)], true)]
theorem hd_e : y_ckE yP0 yTYV zTF yRC yGR hd_CT hd_K hd_H 900 = true := by decide +kernel
theorem hd_h : ∀ h ∈ hd_H, y_ckH yP0 yTYV zTF yRC yGR hd_CT hd_K hd_H 900 h = true := List.forall_mem_cons.mpr ⟨by decide +kernel, fun _ h => absurd h List.not_mem_nil⟩
/-! ===== capital ===== -/
def hp_E : yR := [(209, 0, 0), (209, 2, 5), (209, 11, 16), (209, 18, 20), (209, 23, 23), (211, 0, 298), (212, 0, 61)]
def hp_K : yCon := (190, [.inr (some 210)], [], [(some (.inl (-941, -1)), [], true), (some (.inl (-2147483648, 2147483647)), [((211, 118), (0, 0), none)], false)], hp_E, 6, true, [(209, 4)])
def hp_H : List yCut := [(80, [(0, .inr (some 210)), (1, .inl (0, 0))], [], [.inl 2, .inr (.inl 1)], false),
  (80, [(0, .inr (some 210)), (1, .inl (120, 120))], [((211, 118), (0, 0), none)], [.inl 2, .inr (.inl 1)], false),
  (80, [(0, .inr (some 210)), (1, .inl (180, 180))], [((211, 118), (0, 0), none)], [.inl 2, .inr (.inl 1)], false),
  (80, [(0, .inr (some 210)), (1, .inl (240, 240))], [((211, 118), (0, 0), none)], [.inl 2, .inr (.inl 1)], false),
  (80, [(0, .inr (some 210)), (1, .inl (60, 60))], [], [.inl 2, .inr (.inl 1)], false),
  (35, [(0, .inr (some 210))], [((209, 4), (0, 940), none)], [.inl 1, .inr (.inr (209, 4))], true)]
theorem hp_e : y_ckE yP0 yTY zTF yRC yGR yCTab hp_K hp_H 11000 = true := by decide +kernel
theorem hp_h0 : y_ckH yP0 yTY zTF yRC yGR yCTab hp_K hp_H 11000 (yhg hp_H 0) = true := by decide +kernel
theorem hp_h1 : y_ckH yP0 yTY zTF yRC yGR yCTab hp_K hp_H 11000 (yhg hp_H 1) = true := by decide +kernel
theorem hp_h2 : y_ckH yP0 yTY zTF yRC yGR yCTab hp_K hp_H 11000 (yhg hp_H 2) = true := by decide +kernel
theorem hp_h3 : y_ckH yP0 yTY zTF yRC yGR yCTab hp_K hp_H 11000 (yhg hp_H 3) = true := by decide +kernel
theorem hp_h4 : y_ckH yP0 yTY zTF yRC yGR yCTab hp_K hp_H 11000 (yhg hp_H 4) = true := by decide +kernel
theorem hp_h5 : y_ckH yP0 yTY zTF yRC yGR yCTab hp_K hp_H 11000 (yhg hp_H 5) = true := by decide +kernel
theorem hp_h : ∀ h ∈ hp_H, y_ckH yP0 yTY zTF yRC yGR yCTab hp_K hp_H 11000 h = true := List.forall_mem_cons.mpr ⟨hp_h0, List.forall_mem_cons.mpr ⟨hp_h1, List.forall_mem_cons.mpr ⟨hp_h2, List.forall_mem_cons.mpr ⟨hp_h3, List.forall_mem_cons.mpr ⟨hp_h4, List.forall_mem_cons.mpr ⟨hp_h5, fun _ h => absurd h List.not_mem_nil⟩⟩⟩⟩⟩⟩
section HW2
variable {EX : (Nat → Prop) → State → Heap → Prop} {l : Launch} {kc : Nat → ClassId} {D : va_G} {xb : Nat} {ad : Nat → Option Nat}
theorem hd_ok (hE : z_EX EX) : y_ConOk EX l zTB zNT kc D vwCl xb yTYV yGR w_R ad yP0 hd_K := by
  refine y_chk_ok (RC := yRC) hE w_R_RI y_prog (fun j K' hK' => ?_) hd_e hd_h
  rcases y_cput_in hK' with ⟨rfl, rfl⟩ | hK'
  · exact ⟨rfl, fun _ => h_isSaid hE (fun ws h => h.1.1)⟩
  · exact ⟨yCT_jV hK', fun _ => y_consV hE hK'⟩
def hp_K2 : yCon := (190, [.inr (some 210)], [], [(some (.inl (-2147483648, 2147483647)), [], true)], hp_E, 6, true, [])
theorem hp_ok (hE : z_EX EX) : y_ConOk EX l zTB zNT kc D vwCl xb yTY yGR w_R ad yP0 hp_K2 := by
  have h0 : y_ConOk EX l zTB zNT kc D vwCl xb yTY yGR w_R ad yP0 hp_K := y_chk_ok (RC := yRC) hE w_R_RI y_prog (fun j K' hK' => ⟨yCT_j hK', fun _ => y_cons hE hK'⟩) hp_e hp_h
  intro y cc maxL ret tab na sp hP d hd av ws sz env0 hav hpre hri hGo hwt had hnam
  obtain ⟨x, x1, _⟩ := y_ty_ok (r := 209) (k := 4) hwt (q := (0, 940)) (by decide +kernel)
  refine y_Met_conv (h0 y cc maxL ret tab na sp hP d hd av ws sz [x.toInt] hav (fun _ h => by cases h) hri hGo hwt had ⟨⟨x, x1, rfl⟩, trivial⟩) (fun rv u ⟨o, ho, g1, g2, g3, g4, g5, g6, g7⟩ => ?_)
  have hRu : w_R u := by
    rcases List.mem_cons.mp ho with rfl | ho
    · exact g3 rfl
    · have := List.mem_singleton.mp ho
      subst this
      obtain ⟨v, v1, v2, v3, _⟩ := g2 _ List.mem_cons_self
      dsimp only at v1 v2 v3
      obtain ⟨c1, c2, c3⟩ := w_cnt hwt
      obtain ⟨⟨r1, r2, r3⟩, _⟩ := hri rfl
      refine ⟨⟨fun n hn i hi => ?_, w_WF_same (fun k _ _ => hq_free_ok (E := hp_E) (a := 0) (b := 597) (by decide) g6 (by omega) (by omega)) c2 r2, w_WF_same (fun k _ _ => hq_free_ok (E := hp_E) (a := 0) (b := 597) (by decide) g6 (by omega) (by omega)) c3 r3⟩, w_cnt g5⟩
      rw [v1] at hn
      cases hn
      rw [show i = 0 by omega]
      exact ⟨0, rfl⟩
  refine ⟨_, List.mem_cons_self, ?_, (fun _ h => by cases h), fun _ => hRu, g4, g5, g6, g7⟩
  have hfull : ∀ p : yP, (p = .inl (-941, -1) ∨ p = .inl (-2147483648, 2147483647)) → z_L (y_pv ad) (some p).toList rv.toList → z_L (y_pv ad) (some (.inl (-2147483648, 2147483647) : yP)).toList rv.toList := by
    intro p hp hz
    cases rv with
    | none => exact hz.elim
    | some v =>
      rcases hp with rfl | rfl
      · obtain ⟨⟨x9, rfl, y1, y2⟩, _⟩ := hz
        exact ⟨⟨x9, rfl, by omega, by omega⟩, trivial⟩
      · exact hz
  rcases List.mem_cons.mp ho with rfl | ho
  · exact hfull _ (Or.inl rfl) g1
  · have := List.mem_singleton.mp ho
    subst this
    exact hfull _ (Or.inr rfl) g1
end HW2
