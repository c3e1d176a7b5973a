/-! ===== a cell that stays: walks that say it too ===== -/
section YLIFT
variable {kc : Nat → ClassId} {P : Nat → Option yM} {TY : List (List yC)} {TF : Nat → Nat → FieldType} {GR : List yGr} {RC : yR} {RI : va_W → Prop} {CT : List (List (List yCon))} {ad : Nat → Option Nat} {M : yM} {fu n d : Nat} {σ : Type} {Dom : σ → Prop} {HD HD' : σ → yCut} {E : σ → yR} {rank : σ → Nat} {effM : yR} {Φ : va_W → σ → Array Slot → va_W → Prop} {Post : va_W → Option Value → va_W → Prop} {a : σ} {p : σ → Prop} {r k v : Nat}
theorem y_go1_lift (hHD : ∀ b, p b → HD' b = HD b) (ha : p a) (hb : ∀ b, rank b < rank a → HD' b = HD b) (hfree : hq_free (E a) r k k = true) (h : y_go1 kc P TY TF GR RC RI CT ad M fu n d Dom HD E rank effM Φ Post a) : y_go1 kc P TY TF GR RC RI CT ad M fu n d Dom HD' E rank effM (fun w0 b ls ws => Φ w0 b ls ws ∧ (p b → hs_cell ws r k v)) (fun w0 rv u => Post w0 rv u ∧ hs_cell u r k v) a := by
  obtain ⟨cut, es, h1, h2, h3⟩ := h
  unfold y_go1
  rw [hHD a ha]
  refine ⟨cut, es, h1, h2, fun q hq => ?_⟩
  rcases h3 q hq with ⟨b, hd, hr, hh, hg⟩ | ⟨rz, z1, z2, z3, hg⟩
  · refine Or.inl ⟨b, hd, hr, by rw [hb b hr]; exact hh, ?_⟩
    intro w0 ws ws' ls ls' e0 env hF g1 g2 g3 g4 g5 g6 g7 g8 g9 g10 g11
    exact ⟨hg w0 ws ws' ls ls' e0 env hF.1 g1 g2 g3 g4 g5 g6 g7 g8 g9 g10 g11, fun _ => hs_cell_fr (hq_free_ok hfree g8 (Nat.le_refl _) (Nat.le_refl _)) (hF.2 ha)⟩
  · refine Or.inr ⟨rz, z1, z2, z3, ?_⟩
    intro w0 ws ws' ls rv e0 env hF g1 g2 g3 g4 g5 g6 g7 g8 g9 g10 g11 g12 g13
    exact ⟨hg w0 ws ws' ls rv e0 env hF.1 g1 g2 g3 g4 g5 g6 g7 g8 g9 g10 g11 g12 g13, hs_cell_fr (hq_free_ok hfree g9 (Nat.le_refl _) (Nat.le_refl _)) (hF.2 ha)⟩
theorem y_goR2_lift {nL : Nat} (hHD : ∀ b, p b → HD' b = HD b) (ha : p a) (hb : ∀ b, rank b < rank a → HD' b = HD b) (h : y_goR2 kc TY RI ad nL Dom HD rank Φ a) : y_goR2 kc TY RI ad nL Dom HD' rank (fun w0 b ls ws => Φ w0 b ls ws ∧ (p b → hs_cell ws r k v)) a := by
  unfold y_goR2
  rw [hHD a ha]
  intro w0 ws ls vs hF g1 g2 g3 g4 g5
  obtain ⟨b, hd, hr, h1, h2, h3, h4, h5⟩ := h w0 ws ls vs hF.1 g1 g2 g3 g4 g5
  refine ⟨b, hd, hr, ?_⟩
  rw [hb b hr]
  exact ⟨h1, h2, ⟨h3, fun _ => hF.2 ha⟩, h4, h5⟩
end YLIFT
/-! ===== capital: the tape is empty behind it ===== -/
def ht_K : yCon := (190, [.inr (some 210)], [], [(some (.inl (-941, -1)), [((209, 2), (0, 0), none)], true), (some (.inl (-2147483648, 2147483647)), [((211, 118), (0, 0), none), ((209, 2), (0, 0), none)], false)], hp_E, 6, true, [(209, 4)])
def ht_H : List yCut := [(80, [(0, .inr (some 210)), (1, .inl (0, 0))], [((209, 2), (0, 0), none)], [.inl 2, .inr (.inl 1)], false),
  (80, [(0, .inr (some 210)), (1, .inl (120, 120))], [((211, 118), (0, 0), none), ((209, 2), (0, 0), none)], [.inl 2, .inr (.inl 1)], false),
  (80, [(0, .inr (some 210)), (1, .inl (180, 180))], [((211, 118), (0, 0), none), ((209, 2), (0, 0), none)], [.inl 2, .inr (.inl 1)], false),
  (80, [(0, .inr (some 210)), (1, .inl (240, 240))], [((211, 118), (0, 0), none), ((209, 2), (0, 0), none)], [.inl 2, .inr (.inl 1)], false),
  (80, [(0, .inr (some 210)), (1, .inl (60, 60))], [((209, 2), (0, 0), none)], [.inl 2, .inr (.inl 1)], false),
  (35, [(0, .inr (some 210))], [((209, 4), (0, 940), none), ((209, 2), (0, 0), none)], [.inl 1, .inr (.inr (209, 4))], true)]
theorem ht_e : y_ckE yP0 yTY zTF yRC yGR yCTab ht_K ht_H 11000 = true := by decide +kernel
theorem ht_h0 : y_ckH yP0 yTY zTF yRC yGR yCTab ht_K ht_H 11000 (yhg ht_H 0) = true := by decide +kernel
theorem ht_h1 : y_ckH yP0 yTY zTF yRC yGR yCTab ht_K ht_H 11000 (yhg ht_H 1) = true := by decide +kernel
theorem ht_h2 : y_ckH yP0 yTY zTF yRC yGR yCTab ht_K ht_H 11000 (yhg ht_H 2) = true := by decide +kernel
theorem ht_h3 : y_ckH yP0 yTY zTF yRC yGR yCTab ht_K ht_H 11000 (yhg ht_H 3) = true := by decide +kernel
theorem ht_h4 : y_ckH yP0 yTY zTF yRC yGR yCTab ht_K ht_H 11000 (yhg ht_H 4) = true := by decide +kernel
theorem ht_h5 : y_ckH yP0 yTY zTF yRC yGR yCTab ht_K ht_H 11000 (yhg ht_H 5) = true := by decide +kernel
theorem ht_h : ∀ h ∈ ht_H, y_ckH yP0 yTY zTF yRC yGR yCTab ht_K ht_H 11000 h = true := List.forall_mem_cons.mpr ⟨ht_h0, List.forall_mem_cons.mpr ⟨ht_h1, List.forall_mem_cons.mpr ⟨ht_h2, List.forall_mem_cons.mpr ⟨ht_h3, List.forall_mem_cons.mpr ⟨ht_h4, List.forall_mem_cons.mpr ⟨ht_h5, fun _ h => absurd h List.not_mem_nil⟩⟩⟩⟩⟩⟩
/-! ===== sentence: the tape is empty behind it ===== -/
def ht_c0 : Bool := match hz_run [48] (0, 0, 0) with
  | some es => es.all (fun q => hz_hit q (1, 0, 0) && (hq_in q (hq_k q 209 40) 0 0 && (hq_in q (hq_k q 209 41) 0 0 && (hq_in q (hq_k q 209 42) 0 0 && (hq_in q (hq_k q 209 44) 0 0 && hq_in q (hq_k q 209 2) 0 0)))))
  | none => false
theorem ht_k0 : ht_c0 = true := by decide +kernel
section HT
variable {EX : (Nat → Prop) → State → Heap → Prop} {l : Launch} {kc : Nat → ClassId} {D : va_G} {xb : Nat} {ad : Nat → Option Nat}
def ht_K2 : yCon := (190, [.inr (some 210)], [], [(some (.inl (-2147483648, 2147483647)), [((209, 2), (0, 0), none)], true)], hp_E, 6, true, [])
theorem ht_ok (hE : z_EX EX) : y_ConOk EX l zTB zNT kc D vwCl xb yTY yGR w_R ad yP0 ht_K2 := by
  have h0 : y_ConOk EX l zTB zNT kc D vwCl xb yTY yGR w_R ad yP0 ht_K := y_chk_ok (RC := yRC) hE w_R_RI y_prog (fun j K' hK' => ⟨yCT_j hK', fun _ => y_cons hE hK'⟩) ht_e ht_h
  intro y cc maxL ret tab na sp hP d hd av ws sz env0 hav hpre hri hGo hwt had hnam
  obtain ⟨x, x1, _⟩ := y_ty_ok (r := 209) (k := 4) hwt (q := (0, 940)) (by decide +kernel)
  refine y_Met_conv (h0 y cc maxL ret tab na sp hP d hd av ws sz [x.toInt] hav (fun _ h => by cases h) hri hGo hwt had ⟨⟨x, x1, rfl⟩, trivial⟩) (fun rv u ⟨o, ho, g1, g2, g3, g4, g5, g6, g7⟩ => ?_)
  have hRu : w_R u := by
    rcases List.mem_cons.mp ho with rfl | ho
    · exact g3 rfl
    · have := List.mem_singleton.mp ho
      subst this
      obtain ⟨v, v1, v2, v3, _⟩ := g2 _ List.mem_cons_self
      dsimp only at v1 v2 v3
      obtain ⟨c1, c2, c3⟩ := w_cnt hwt
      obtain ⟨⟨r1, r2, r3⟩, _⟩ := hri rfl
      refine ⟨⟨fun n hn i hi => ?_, w_WF_same (fun k _ _ => hq_free_ok (E := hp_E) (a := 0) (b := 597) (by decide) g6 (by omega) (by omega)) c2 r2, w_WF_same (fun k _ _ => hq_free_ok (E := hp_E) (a := 0) (b := 597) (by decide) g6 (by omega) (by omega)) c3 r3⟩, w_cnt g5⟩
      rw [v1] at hn
      cases hn
      rw [show i = 0 by omega]
      exact ⟨0, rfl⟩
  have h2 : ∀ f ∈ ([((209, 2), (0, 0), none)] : List yF), y_fv2 env0 u f := by
    intro f hf
    have := List.mem_singleton.mp hf
    subst this
    rcases List.mem_cons.mp ho with rfl | ho
    · obtain ⟨y, y1, y2, y3, _⟩ := g2 _ List.mem_cons_self
      exact ⟨y, y1, y2, y3, fun _ _ e => by cases e⟩
    · have := List.mem_singleton.mp ho
      subst this
      obtain ⟨y, y1, y2, y3, _⟩ := g2 _ (List.mem_cons_of_mem _ List.mem_cons_self)
      exact ⟨y, y1, y2, y3, fun _ _ e => by cases e⟩
  refine ⟨_, List.mem_cons_self, ?_, h2, fun _ => hRu, g4, g5, g6, g7⟩
  have hfull : ∀ p : yP, (p = .inl (-941, -1) ∨ p = .inl (-2147483648, 2147483647)) → z_L (y_pv ad) (some p).toList rv.toList → z_L (y_pv ad) (some (.inl (-2147483648, 2147483647) : yP)).toList rv.toList := by
    intro p hp hz
    cases rv with
    | none => exact hz.elim
    | some v =>
      rcases hp with rfl | rfl
      · obtain ⟨⟨x9, rfl, y1, y2⟩, _⟩ := hz
        exact ⟨⟨x9, rfl, by omega, by omega⟩, trivial⟩
      · exact hz
  rcases List.mem_cons.mp ho with rfl | ho
  · exact hfull _ (Or.inl rfl) g1
  · have := List.mem_singleton.mp ho
    subst this
    exact hfull _ (Or.inr rfl) g1
abbrev ht_F (w0 : va_W) (a : hz_S) (ls : Array Slot) (ws : va_W) : Prop := hz_F w0 a ls ws ∧ (a.1 ≠ 0 → hs_cell ws 209 2 0)
abbrev ht_P (w0 : va_W) (rv : Option Value) (u : va_W) : Prop := hz_P w0 rv u ∧ hs_cell u 209 2 0
abbrev ht_go (kc : Nat → ClassId) (ad : Nat → Option Nat) (a : hz_S) : Prop := y_go1 kc yP0 yTYV zTF yGR hs_RC hs_I hz_CT ad ym_X12_sentence 400 7 7 hz_D hz_hd hz_E hz_r hz_eff ht_F ht_P a
theorem ht_go0 {v : Nat × Nat} : ht_go kc ad (0, v) := by
  have hck := ht_k0
  unfold ht_c0 at hck
  rw [hz_run_eq] at hck
  split at hck
  next es hes =>
    refine ⟨_, es, hes, (show y_sub (hz_E (0, 0, 0)) hz_eff = true by decide +kernel), fun q hq => Or.inl ?_⟩
    have h9 := List.all_eq_true.mp hck q hq
    simp only [Bool.and_eq_true] at h9
    obtain ⟨q0, q1, q2, q3, q4, q5⟩ := h9
    refine ⟨(1, 20, 941), Or.inl (show 1 ≤ 9 by decide), (show 1000 + 4000 * 20 + 3 * 941 + 6 < 200000 by decide), q0, ?_⟩
    intro w0 ws ws' ls ls' e0 env hF _ _ _ hk0 he hw hw' hfr hB _ hk
    obtain ⟨x1, a1, a2, a3⟩ := hq_in_cell q1 hk hB
    obtain ⟨x2, b1, b2, b3⟩ := hq_in_cell q2 hk hB
    obtain ⟨x3, c1, c2, c3⟩ := hq_in_cell q3 hk hB
    obtain ⟨x4, d1, d2, d3⟩ := hq_in_cell q4 hk hB
    obtain ⟨x5, w1, w2, w3⟩ := hq_in_cell q5 hk hB
    exact ⟨⟨hz_WF (E := hz_E (0, 0, 0)) (by decide) hw hfr hF.1, ⟨0, 0, 0, 0, 0, ⟨x1, a1, by omega⟩, ⟨x3, c1, by omega⟩, ⟨x2, b1, by omega⟩, ⟨x4, d1, by omega⟩, rfl, Nat.le_refl _, by decide, by decide⟩, fun o _ => (show 20 ≤ 20 + o by omega), fun p _ => (show 941 ≤ 941 + p by omega)⟩, fun _ => ⟨x5, w1, by omega⟩⟩
  next => cases hck
def ht_Ks : yCon := (269, [.inr (some 210)], [], [(some (.inl (-2147483648, 2147483647)), [((209, 2), (0, 0), none)], true)], hz_eff, 7, true, [])
theorem ht_sok (hE : z_EX EX) : y_ConOk EX l zTB zNT kc D vwCl xb yTYV yGR w_RI ad yP0 ht_Ks := by
  intro y cc maxL ret tab na sp hP d hd av ws sz env0 hav hpre hri hGo hwt had hnam
  have hP1 : yP0 269 = some (y, cc, maxL, ret, tab, na, sp) := hP
  have e : ym_X12_sentence = (y, cc, maxL, ret, tab, na, sp) := Option.some.inj ((show yP0 269 = some ym_X12_sentence from rfl).symm.trans hP1)
  have hmL : maxL = 3 := (congrArg (fun M : yM => M.2.2.1) e).symm
  have hstep : ∀ a, hz_D a → y_go1 kc yP0 yTYV zTF yGR hs_RC hs_I hz_CT ad (y, cc, maxL, ret, tab, na, sp) 400 7 7 hz_D hz_hd hz_E hz_r hz_eff ht_F ht_P a ∨ y_goR2 kc yTYV hs_I ad maxL hz_D hz_hd hz_r ht_F a := by
    rw [← e, hmL]
    rintro ⟨k, v⟩ ha
    rcases ha with h0 | ⟨h0, hc⟩ | ⟨h0, hc⟩ | ⟨h0, hc⟩
    · dsimp only at h0
      match k, h0 with
      | 0, _ => exact Or.inl ht_go0
      | 1, _ => exact Or.inr (y_goR2_lift (p := fun a : hz_S => a.1 ≠ 0) (fun _ _ => rfl) (show (1 : Nat) ≠ 0 by decide) (fun _ _ => rfl) hz_goa)
      | 2, _ => exact Or.inl (y_go1_lift (p := fun a : hz_S => a.1 ≠ 0) (fun _ _ => rfl) (show (2 : Nat) ≠ 0 by decide) (fun _ _ => rfl) (show hq_free ho_eff 209 2 2 = true by decide) hz_go2)
      | 3, _ => exact Or.inl (y_go1_lift (p := fun a : hz_S => a.1 ≠ 0) (fun _ _ => rfl) (show (3 : Nat) ≠ 0 by decide) (fun _ _ => rfl) (show hq_free hb_eff 209 2 2 = true by decide) hz_go3)
      | 4, _ => exact Or.inl (y_go1_lift (p := fun a : hz_S => a.1 ≠ 0) (fun _ _ => rfl) (show (4 : Nat) ≠ 0 by decide) (fun _ _ => rfl) (show hq_free hb_eff 209 2 2 = true by decide) hz_go4)
      | 5, _ => exact Or.inl (y_go1_lift (p := fun a : hz_S => a.1 ≠ 0) (fun _ _ => rfl) (show (5 : Nat) ≠ 0 by decide) (fun _ _ => rfl) (show hq_free hb_eff 209 2 2 = true by decide) hz_go5)
      | 6, _ => exact Or.inl (y_go1_lift (p := fun a : hz_S => a.1 ≠ 0) (fun _ _ => rfl) (show (6 : Nat) ≠ 0 by decide) (fun _ _ => rfl) (show hq_free hn_eff 209 2 2 = true by decide) hz_go6)
      | 7, _ => exact Or.inl (y_go1_lift (p := fun a : hz_S => a.1 ≠ 0) (fun _ _ => rfl) (show (7 : Nat) ≠ 0 by decide) (fun _ _ => rfl) (show hq_free [(209, 15, 16)] 209 2 2 = true by decide) hz_go7)
      | 8, _ => exact Or.inl (y_go1_lift (p := fun a : hz_S => a.1 ≠ 0) (fun _ _ => rfl) (show (8 : Nat) ≠ 0 by decide) (fun _ _ => rfl) (show hq_free [(211, 118, 118)] 209 2 2 = true by decide) hz_go8)
      | 9, _ => exact Or.inr (y_goR2_lift (p := fun a : hz_S => a.1 ≠ 0) (fun _ _ => rfl) (show (9 : Nat) ≠ 0 by decide) (fun _ _ => rfl) hz_goc)
      | n + 10, h => omega
    · dsimp only at h0 hc; subst h0; exact Or.inr (y_goR2_lift (p := fun a : hz_S => a.1 ≠ 0) (fun _ _ => rfl) (show (10 : Nat) ≠ 0 by decide) (fun _ _ => rfl) (hz_gob hc))
    · dsimp only at h0 hc; subst h0; exact Or.inl (y_go1_lift (p := fun a : hz_S => a.1 ≠ 0) (fun _ _ => rfl) (show (11 : Nat) ≠ 0 by decide) (fun _ _ => rfl) (show hq_free [(211, 119 + v.1, 119 + v.1)] 209 2 2 = true from rfl) (hz_go11 hc))
    · dsimp only at h0 hc; subst h0; exact Or.inl (y_go1_lift (p := fun a : hz_S => a.1 ≠ 0) (fun _ _ => rfl) (show (12 : Nat) ≠ 0 by decide) (fun _ _ => rfl) rfl (hz_go12 hc))
  have hCT : ∀ (j : Nat) (K' : yCon), K' ∈ y_cget hz_CT j → K'.1 = j ∧ (K'.2.2.2.2.2.1 < 7 → y_ConOk EX l zTB zNT kc D vwCl xb yTYV yGR hs_I ad yP0 K') := by
    intro j K' hK'
    rcases y_cput_in hK' with ⟨rfl, rfl⟩ | hK'
    · exact ⟨rfl, fun _ => ho_ok hE⟩
    rcases y_cput_in hK' with ⟨rfl, rfl⟩ | hK'
    · exact ⟨rfl, fun _ => hb_ok2 hE⟩
    rcases y_cput_in hK' with ⟨rfl, rfl⟩ | hK'
    · exact ⟨rfl, fun _ => hb_ok1 hE⟩
    rcases y_cput_in hK' with ⟨rfl, rfl⟩ | hK'
    · exact ⟨rfl, fun _ => hn_joins hE⟩
    rcases y_cput_in hK' with ⟨rfl, rfl⟩ | hK'
    · exact ⟨rfl, fun _ => hn_nots hE⟩
    exact ⟨yCT_jV hK', fun _ => y_consV hE hK'⟩
  obtain ⟨r1, r2, r3⟩ := hri rfl
  have hW := y_walkR (l := l) (D := D) (xb := xb) (sz := sz) (d := d) (w0 := ws) (av := av) (TB := zTB) (NT := zNT) (cl := vwCl) (n := 7) (d0 := 7) (RC := hs_RC) (RI := hs_I) hE hs_RI y_prog hCT hP1 hstep (a0 := (0, 0, 0)) (Or.inl (show 0 ≤ 9 by decide)) rfl rfl (fun h => by cases h) rfl (show 1 ≤ maxL by omega) hd hav (fun _ h => by cases h) (fun _ => ⟨r1, fun h => absurd rfl h⟩) hGo hwt had
  refine y_Met_conv hW (fun rv u ⟨⟨⟨⟨x, hx1⟩, hx2⟩, hx3⟩, g1, g2, g3, g4⟩ => ⟨_, List.mem_cons_self, ?_, (fun f hf => by
    have := List.mem_singleton.mp hf
    subst this
    exact hs_fv hx3 (by decide) (by decide)), (fun _ => ?_), g1, g2, g3, g4⟩)
  · rw [hx1]
    have := z_any x
    exact ⟨⟨x, rfl, by omega, by omega⟩, trivial⟩
  · obtain ⟨c1, c2, c3⟩ := w_cntV hwt
    exact ⟨hx2, w_WF_same (fun k _ _ => hq_free_ok (E := hz_eff) (a := 0) (b := 597) (by decide) g3 (by omega) (by omega)) c2 r2, w_WF_same (fun k _ _ => hq_free_ok (E := hz_eff) (a := 0) (b := 597) (by decide) g3 (by omega) (by omega)) c3 r3⟩
end HT
