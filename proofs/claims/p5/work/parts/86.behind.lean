section HB
variable {EX : (Nat → Prop) → State → Heap → Prop} {l : Launch} {kc : Nat → ClassId} {D : va_G} {xb : Nat} {ad : Nat → Option Nat}
def hb_D (a : Nat × Nat) : Prop := a.1 = 0 ∨ a.1 = 1 ∨ a.1 = 2 ∨ (a.1 = 3 ∧ a.2 ≤ 39) ∨ a.1 = 4
def hb_r (a : Nat × Nat) : Nat := match a.1 with
  | 0 => 6
  | 1 => 5
  | 2 => 4
  | _ => 1
def hb_F (w0 : va_W) (_ : Nat × Nat) (_ : Array Slot) (ws : va_W) : Prop := y_at ws 209 11 = y_at w0 209 11 ∧ y_at ws 209 4 = y_at w0 209 4
def hb_P (w0 : va_W) (rv : Option Value) (u : va_W) : Prop := ∃ x : Int32, rv = some (.int x) ∧ (x.toInt = 0 ∨ (x.toInt = 1 ∧ hs_I u ∧ (∀ n, hs_cell w0 209 11 n → n = 1 ∨ n = 3) ∧ (hs_cell u 209 44 0 ∨ (hs_cell u 209 44 1 ∧ ((∀ p0, hs_cell w0 209 4 p0 → ∃ p1, hs_cell u 209 4 p1 ∧ p0 + 1 ≤ p1) ∨ hs_cell u 209 11 0 ∨ hs_cell u 209 11 4)))))
theorem hb_go0 : y_go1 kc yP0 yTYV zTF yGR hs_RC hs_I hb_CT ad ym_X12_behind 400 6 6 hb_D hb_hd hb_E hb_r hb_eff hb_F hb_P (0, 0) := by
  have hck := hb_k0
  unfold hb_c0 hq_runV at hck
  rw [show yP0 268 = some ym_X12_behind from rfl] at hck
  dsimp only at hck
  unfold y_go1
  split at hck
  next M' es hM' hes =>
    refine ⟨_, es, hes, (by decide +kernel), fun q hq => Or.inl ⟨(1, 0), Or.inr (Or.inl rfl), (show 5 < 6 by decide), List.all_eq_true.mp hck q hq, ?_⟩⟩
    intro w0 ws ws' ls ls' e0 env hF _ _ _ _ _ _ _ hfr _ _ _
    exact ⟨(hq_free_ok (E := hn_eff) (r := 209) (a := 11) (b := 11) (by decide) hfr (Nat.le_refl _) (Nat.le_refl _)).trans hF.1, (hq_free_ok (E := hn_eff) (r := 209) (a := 4) (b := 4) (by decide) hfr (Nat.le_refl _) (Nat.le_refl _)).trans hF.2⟩
  next => cases hck
theorem hb_go1 : y_go1 kc yP0 yTYV zTF yGR hs_RC hs_I hb_CT ad ym_X12_behind 400 6 6 hb_D hb_hd hb_E hb_r hb_eff hb_F hb_P (1, 0) := by
  have hck := hb_k1
  unfold hb_c1 hq_runV at hck
  rw [show yP0 268 = some ym_X12_behind from rfl] at hck
  dsimp only at hck
  unfold y_go1
  split at hck
  next M' es hM' hes =>
    refine ⟨_, es, hes, (by decide +kernel), fun q hq => Or.inl ?_⟩
    have h9 := List.all_eq_true.mp hck q hq
    rw [Bool.or_eq_true] at h9
    have hgo : ∀ (w0 ws ws' : va_W), y_at ws 209 11 = y_at w0 209 11 ∧ y_at ws 209 4 = y_at w0 209 4 → y_fr hn_eff ws ws' → y_at ws' 209 11 = y_at w0 209 11 ∧ y_at ws' 209 4 = y_at w0 209 4 := fun w0 ws ws' hF hfr => ⟨(hq_free_ok (E := hn_eff) (r := 209) (a := 11) (b := 11) (by decide) hfr (Nat.le_refl _) (Nat.le_refl _)).trans hF.1, (hq_free_ok (E := hn_eff) (r := 209) (a := 4) (b := 4) (by decide) hfr (Nat.le_refl _) (Nat.le_refl _)).trans hF.2⟩
    rcases h9 with h9 | h9
    · refine ⟨(2, 0), Or.inr (Or.inr (Or.inl rfl)), (show 4 < 5 by decide), h9, ?_⟩
      intro w0 ws ws' ls ls' e0 env hF _ _ _ _ _ _ _ hfr _ _ _
      exact hgo w0 ws ws' hF hfr
    · refine ⟨(4, 0), Or.inr (Or.inr (Or.inr (Or.inr rfl))), (show 1 < 5 by decide), h9, ?_⟩
      intro w0 ws ws' ls ls' e0 env hF _ _ _ _ _ _ _ hfr _ _ _
      exact hgo w0 ws ws' hF hfr
  next => cases hck
theorem hb_go2 {v : Nat} : y_goR2 kc yTYV hs_I ad 1 hb_D hb_hd hb_r hb_F (2, v) := by
  intro w0 ws ls vs hF hri hw hv hlv hfs
  obtain ⟨c, t, o, w, d, h1, h2, h3, h4, h5, h6, h7, h8⟩ := hri rfl
  obtain ⟨x, x1, x2, x3, _⟩ := hfs _ List.mem_cons_self
  dsimp only at x1 x2 x3
  have hx := hs_cell_eq h4 x1
  refine ⟨(3, t), Or.inr (Or.inr (Or.inr (Or.inl ⟨rfl, by dsimp only; omega⟩))), (show 1 < 4 by decide), rfl, hri, hF, ⟨vs, hv, hlv⟩, ?_⟩
  intro f hf
  rcases List.mem_cons.mp hf with rfl | hf
  · exact hfs _ List.mem_cons_self
  · rcases List.mem_cons.mp hf with rfl | hf
    · exact hfs _ (List.mem_cons_of_mem _ List.mem_cons_self)
    · have := List.mem_singleton.mp hf
      subst this
      obtain ⟨y, y1, y2⟩ := h2
      exact ⟨y, y1, by dsimp only; rw [y2]; exact Int.le_refl _, by dsimp only; rw [y2]; exact Int.le_refl _, fun _ _ e => by cases e⟩
theorem hb_go3 {t0 : Nat} (ht0 : t0 ≤ 39) : y_go1 kc yP0 yTYV zTF yGR hs_RC hs_I hb_CT ad ym_X12_behind 400 6 6 hb_D hb_hd hb_E hb_r hb_eff hb_F hb_P (3, t0) := by
  have hck := List.all_eq_true.mp hb_k3 t0 (List.mem_range.mpr (by omega))
  unfold hb_c3 hq_runV at hck
  rw [show yP0 268 = some ym_X12_behind from rfl] at hck
  dsimp only at hck
  unfold y_go1
  split at hck
  next M' es hM' hes =>
    cases hM'
    refine ⟨_, es, hes, ?_, fun q hq => Or.inr ?_⟩
    · unfold y_sub y_ina hb_E hb_eff
      simp
      omega
    have h9 := List.all_eq_true.mp hck q hq
    simp only [Bool.and_eq_true] at h9
    obtain ⟨q0, q1, q2, q3⟩ := h9
    obtain ⟨rz, z1, z2, z3, z4⟩ := hq_ret_ok (ad := ad) q0
    refine ⟨rz, z1, z2, z3, ?_⟩
    intro w0 ws ws' ls rv e0 env hF hri _ _ hk0 he _ hw' _ hfr _ hB hk hrv
    obtain ⟨x, x1, x2, x3⟩ := z4 env rv hB hrv
    obtain ⟨c, t, o, w, d, h1, h2, h3, h4, h5, h6, h7, h8⟩ := hri rfl
    have htt : t = t0 := hs_k0c (h := hb_hd (3, t0)) (by unfold hq_k0 y_cst hb_hd; simp [y_mkf, y_f1, y_kget, y_mks, y_mk, y_eqI]) hk0 h2
    subst htt
    obtain ⟨u1, u2, u3⟩ := hq_k0_cell (c := 1) (h := hb_hd (3, t)) (r := 209) (k := 44) (by unfold hq_k0 y_cst hb_hd; simp [y_mkf, y_f1, y_kget, y_mks, y_mk, y_eqI]) hk0
    have hw1 : w = 1 := by have := hs_cell_eq h4 u2; omega
    subst hw1
    obtain ⟨k1, k2, k3⟩ := hq_k0_cell (c := 1) (h := hb_hd (3, t)) (r := 209) (k := 11) (by unfold hq_k0 y_cst hb_hd; simp [y_mkf, y_f1, y_kget, y_mks, y_mk, y_eqI]) hk0
    obtain ⟨z, a1, a2, a3⟩ := hq_in_cell q1 hk hB
    obtain ⟨y, b1, b2, b3⟩ := hq_in_cell q2 hk hB
    obtain ⟨v, d1, d2, d3⟩ := hq_in_cell q3 hk hB
    have hs : ∀ {r k : Nat}, (r = 220 → k < t) → (r = 209 → k = 40 ∨ k = 41) → y_at ws' r k = y_at ws r k := fun {r k} e1 e2 => hfr r k (y_in_no (fun p hp e => by
      rcases List.mem_cons.mp hp with rfl | hp
      · have := e1 (show (220 : Nat) = r from e).symm
        dsimp only; omega
      · rcases List.mem_cons.mp hp with rfl | hp
        · have := e2 (show (209 : Nat) = r from e).symm
          dsimp only; omega
        · rcases List.mem_cons.mp hp with rfl | hp
          · have := e2 (show (209 : Nat) = r from e).symm
            dsimp only; omega
          · rcases List.mem_cons.mp hp with rfl | hp
            · have := e2 (show (209 : Nat) = r from e).symm
              dsimp only; omega
            · have := List.mem_singleton.mp hp
              subst this
              have := e2 (show (209 : Nat) = r from e).symm
              dsimp only; omega))
    have hb1 : hs_b (some v) = 1 := by unfold hs_b; dsimp only; rw [if_pos (by omega)]
    refine ⟨x, x1, Or.inr ⟨by omega, ⟨c, t + 1, o, 0, d, hs_cell_fr (hs (fun h => absurd h (by decide)) (fun _ => Or.inl rfl)) h1, ⟨z, a1, by have h9 : (Int.ofNat t) = (t : Int) := rfl; omega⟩, hs_cell_fr (hs (fun h => absurd h (by decide)) (fun _ => Or.inr rfl)) h3, ⟨y, b1, by omega⟩, ?_, ?_, by omega, h8⟩, fun n hn => ?_, Or.inl ⟨y, b1, by omega⟩⟩⟩
    · rw [← h5]
      exact w_D_same (fun j hj => hs (fun h => absurd h (by decide)) (fun h => absurd h (by decide)))
    · show hs_A (hs_sk ws') t + hs_b (hs_sk ws' t) + 0 ≤ d
      rw [show hs_sk ws' t = some v from d1, hb1, hs_A_same (f := hs_sk ws') (g := hs_sk ws) (t := t) (fun j hj => hs (fun _ => hj) (fun h => absurd h (by decide)))]
      exact h6
    · have := hs_cell_eq hn (hF.1.symm.trans k2)
      omega
  next => cases hck
theorem hb_go4 : y_go1 kc yP0 yTYV zTF yGR hs_RC hs_I hb_CT ad ym_X12_behind 400 6 6 hb_D hb_hd hb_E hb_r hb_eff hb_F hb_P (4, 0) := by
  have hck := hb_k4
  unfold hb_c4 hq_runV at hck
  rw [show yP0 268 = some ym_X12_behind from rfl] at hck
  dsimp only at hck
  unfold y_go1
  split at hck
  next M' es hM' hes =>
    cases hM'
    refine ⟨_, es, hes, (by decide +kernel), fun q hq => Or.inr ?_⟩
    have h9 := List.all_eq_true.mp hck q hq
    rw [Bool.or_eq_true] at h9
    rcases h9 with h9 | h9
    · obtain ⟨rz, z1, z2, z3, z4⟩ := hq_ret_ok (ad := ad) h9
      refine ⟨rz, z1, z2, z3, ?_⟩
      intro w0 ws ws' ls rv e0 env _ _ _ _ _ _ _ _ _ _ _ hB _ hrv
      obtain ⟨x, x1, x2, x3⟩ := z4 env rv hB hrv
      exact ⟨x, x1, Or.inl (by omega)⟩
    simp only [Bool.and_eq_true, Bool.or_eq_true] at h9
    obtain ⟨q0, q1, q2, q3⟩ := h9
    obtain ⟨rz, z1, z2, z3, z4⟩ := hq_ret_ok (ad := ad) q0
    refine ⟨rz, z1, z2, z3, ?_⟩
    intro w0 ws ws' ls rv e0 env hF hri _ _ hk0 he _ hw' _ hfr _ hB hk hrv
    obtain ⟨x, x1, x2, x3⟩ := z4 env rv hB hrv
    obtain ⟨c, t, o, w, d, h1, h2, h3, h4, h5, h6, h7, h8⟩ := hri rfl
    obtain ⟨u1, u2, u3⟩ := hq_k0_cell (c := 1) (h := hb_hd (4, 0)) (r := 209) (k := 44) (by decide +kernel) hk0
    have hw1 : w = 1 := by have := hs_cell_eq h4 u2; omega
    subst hw1
    obtain ⟨k1, k2, k3, k4⟩ := hq_in0_cell q2 hk0 he hB
    obtain ⟨y, y', a1, a2, a3⟩ := hq_ad_cell q1 hk0 hk he
    have hy := hs_cell_eq h2 a1
    obtain ⟨t', t1, t2⟩ := hs_nat (r := 209) (k := 42) hw' (q := (0, 44)) (by decide +kernel) (by decide)
    have hy' := hs_cell_eq t1 a2
    have htt : t = t' + 1 := by omega
    subst htt
    have hs : ∀ {r a b : Nat}, hq_free (hb_E (4, 0)) r a b = true → ∀ k, a ≤ k → k ≤ b → y_at ws' r k = y_at ws r k := fun hh k g1 g2 => hq_free_ok hh hfr g1 g2
    have hw44 : y_at ws' 209 44 = y_at ws 209 44 := hs (a := 44) (b := 44) (by decide) 44 (by decide) (by decide)
    refine ⟨x, x1, Or.inr ⟨by omega, ⟨c, t', o, 1, d, hs_cell_fr (hs (a := 40) (b := 41) (by decide) 40 (by decide) (by decide)) h1, t1, hs_cell_fr (hs (a := 40) (b := 41) (by decide) 41 (by decide) (by decide)) h3, hs_cell_fr hw44 h4, ?_, ?_, by omega, h8⟩, fun n hn => ?_, Or.inr ⟨hs_cell_fr hw44 h4, ?_⟩⟩⟩
    · rw [← h5]
      exact w_D_same (fun j hj => hs (r := 213) (a := 0) (b := 134) (by decide) _ (by omega) (by omega))
    · rw [hs_A_same (f := hs_sk ws') (g := hs_sk ws) (t := t') (fun j hj => hs (r := 220) (a := 0) (b := 44) (by decide) _ (by omega) (by omega))]
      have : hs_A (hs_sk ws) (t' + 1) = hs_A (hs_sk ws) t' + hs_b (hs_sk ws t') := rfl
      omega
    · have := hs_cell_eq hn (hF.1.symm.trans k2)
      omega
    · rcases q3 with q3 | q3 | q3
      · refine Or.inl (fun p0 hp0 => ?_)
        obtain ⟨v, v', b1, b2, b3⟩ := hq_ge_cell q3 hk0 hk he hB
        have := hs_cell_eq hp0 (hF.2.symm.trans b1)
        exact ⟨v'.toInt.toNat, ⟨v', b2, by omega⟩, by omega⟩
      · obtain ⟨v, v1, v2, v3⟩ := hq_in_cell q3 hk hB
        exact Or.inr (Or.inl ⟨v, v1, by omega⟩)
      · obtain ⟨v, v1, v2, v3⟩ := hq_in_cell q3 hk hB
        exact Or.inr (Or.inr ⟨v, v1, by omega⟩)
  next => cases hck
theorem hb_met (hE : z_EX EX) {y : MethodName} {cc : ByteArray} {maxL : Nat} {ret : Option FieldType} {tab : List (List zE)} {na : Nat} {sp : List Nat} (hP1 : yP0 268 = some (y, cc, maxL, ret, tab, na, sp)) {d : Nat} (hd : 6 ≤ d) {av : List Value} {ws : va_W} {sz : Nat} (hav : z_L (y_pv ad) [.inr (some 210)] av) (hpre : ∀ f ∈ ([((209, 44), (1, 1), none)] : List yF), y_fv2 [] ws f) (hri : hs_I ws) (hGo : y_Go yGR ws) (hwt : y_w kc ad yTYV ws) (had : z_ad xb ws = ad) : Met l y (.code y cc maxL ret :: zTB) (z_rm d 0 0) (va_Pc av (z_pre EX zNT D vwCl kc ws sz)) (y_Q D vwCl ws sz ret (fun rv u => hb_P ws rv u ∧ y_Go yGR u ∧ y_w kc ad yTYV u ∧ y_fr hb_eff ws u ∧ z_ad xb u = ad)) 0 0 (va_A ws sz) := by
  have e : ym_X12_behind = (y, cc, maxL, ret, tab, na, sp) := Option.some.inj ((show yP0 268 = some ym_X12_behind from rfl).symm.trans hP1)
  have hmL : maxL = 1 := (congrArg (fun M : yM => M.2.2.1) e).symm
  have hstep : ∀ a, hb_D a → y_go1 kc yP0 yTYV zTF yGR hs_RC hs_I hb_CT ad (y, cc, maxL, ret, tab, na, sp) 400 6 6 hb_D hb_hd hb_E hb_r hb_eff hb_F hb_P a ∨ y_goR2 kc yTYV hs_I ad maxL hb_D hb_hd hb_r hb_F a := by
    rw [← e, hmL]
    rintro ⟨k, v⟩ ha
    rcases ha with h0 | h0 | h0 | ⟨h0, hc⟩ | h0
    · dsimp only at h0; subst h0; exact Or.inl hb_go0
    · dsimp only at h0; subst h0; exact Or.inl hb_go1
    · dsimp only at h0; subst h0; exact Or.inr hb_go2
    · dsimp only at h0 hc; subst h0; exact Or.inl (hb_go3 hc)
    · dsimp only at h0; subst h0; exact Or.inl hb_go4
  have hCT : ∀ (j : Nat) (K' : yCon), K' ∈ y_cget hb_CT j → K'.1 = j ∧ (K'.2.2.2.2.2.1 < 6 → y_ConOk EX l zTB zNT kc D vwCl xb yTYV yGR hs_I ad yP0 K') := by
    intro j K' hK'
    rcases y_cput_in hK' with ⟨rfl, rfl⟩ | hK'
    · exact ⟨rfl, fun _ => hn_joins hE⟩
    · rcases y_cput_in hK' with ⟨rfl, rfl⟩ | hK'
      · exact ⟨rfl, fun _ => hn_nots hE⟩
      · exact ⟨yCT_jV hK', fun _ => y_consV hE hK'⟩
  exact y_walkR (l := l) (D := D) (xb := xb) (sz := sz) (d := d) (w0 := ws) (av := av) (TB := zTB) (NT := zNT) (cl := vwCl) (n := 6) (d0 := 6) (RC := hs_RC) (RI := hs_I) hE hs_RI y_prog hCT hP1 hstep (a0 := (0, 0)) (Or.inl rfl) rfl rfl (fun _ => hri) rfl (show 1 ≤ maxL by omega) hd hav hpre (fun _ => ⟨rfl, rfl⟩) hGo hwt had
def hb_K1 : yCon := (268, [.inr (some 210)], [((209, 44), (1, 1), none)], [(some (.inl (0, 0)), [], false), (some (.inl (1, 1)), [((209, 44), (0, 0), none)], true), (some (.inl (1, 1)), [((209, 44), (1, 1), none), ((209, 4), (0, 940), some (0, 1))], true), (some (.inl (1, 1)), [((209, 44), (1, 1), none), ((209, 11), (0, 0), none)], true), (some (.inl (1, 1)), [((209, 44), (1, 1), none), ((209, 11), (4, 4), none)], true)], hb_eff, 6, true, [(209, 4)])
def hb_K2 : yCon := (268, [.inr (some 210)], [((209, 44), (1, 1), none), ((209, 11), (4, 4), none)], [(some (.inl (0, 0)), [], false)], hb_eff, 6, true, [])
theorem hs_fv {env : List Int} {ws : va_W} {r k n : Nat} {lo hi : Int} (h : hs_cell ws r k n) (h1 : lo ≤ (n : Int)) (h2 : (n : Int) ≤ hi) : y_fv2 env ws ((r, k), (lo, hi), none) := by
  obtain ⟨x, x1, x2⟩ := h
  exact ⟨x, x1, by dsimp only; omega, by dsimp only; omega, fun _ _ e => by cases e⟩
theorem hs_fv0 {env : List Int} {ws : va_W} {f : yF} (h : y_fv2 env ws f) (hn : f.2.2 = none) : y_fv2 [] ws f := by
  obtain ⟨x, x1, x2, x3, _⟩ := h
  exact ⟨x, x1, x2, x3, fun _ _ e => by dsimp only at e; rw [hn] at e; cases e⟩
theorem hs_rv {ad : Nat → Option Nat} {x : Int32} {n : Int} (h : x.toInt = n) {rv : Option Value} (hr : rv = some (.int x)) : z_L (y_pv ad) (some (.inl (n, n) : yP)).toList rv.toList := by
  rw [hr]
  exact ⟨⟨x, rfl, by omega, by omega⟩, trivial⟩
theorem hb_ok1 (hE : z_EX EX) : y_ConOk EX l zTB zNT kc D vwCl xb yTYV yGR hs_I ad yP0 hb_K1 := by
  intro y cc maxL ret tab na sp hP d hd av ws sz env0 hav hpre hri hGo hwt had hnam
  refine y_Met_conv (hb_met (l := l) (D := D) hE hP hd hav (fun f hf => hs_fv0 (hpre f hf) (by have := List.mem_singleton.mp hf; subst this; rfl)) (hri rfl) hGo hwt had) (fun rv u ⟨⟨x, hx1, hx⟩, g1, g2, g3, g4⟩ => ?_)
  rcases hx with hx | ⟨hx, hI, _, hx2⟩
  · exact ⟨_, List.mem_cons_self, hs_rv hx hx1, (fun _ h => by cases h), (fun h => by cases h), g1, g2, g3, g4⟩
  · rcases hx2 with hx2 | ⟨hx2, hx3 | hx3 | hx3⟩
    · refine ⟨_, List.mem_cons_of_mem _ List.mem_cons_self, hs_rv hx hx1, (fun f hf => ?_), (fun _ => hI), g1, g2, g3, g4⟩
      have := List.mem_singleton.mp hf
      subst this
      exact hs_fv hx2 (by decide) (by decide)
    · refine ⟨_, List.mem_cons_of_mem _ (List.mem_cons_of_mem _ List.mem_cons_self), hs_rv hx hx1, (fun f hf => ?_), (fun _ => hI), g1, g2, g3, g4⟩
      rcases List.mem_cons.mp hf with rfl | hf
      · exact hs_fv hx2 (by decide) (by decide)
      · have := List.mem_singleton.mp hf
        subst this
        obtain ⟨p0, o1, o2⟩ := hs_nat (r := 209) (k := 4) hwt (q := (0, 940)) (by decide +kernel) (by decide)
        obtain ⟨p1, ⟨v, v1, v2⟩, v3⟩ := hx3 p0 o1
        obtain ⟨v', w1, w2, w3⟩ := y_ty_ok (r := 209) (k := 4) g2 (q := (0, 940)) (by decide +kernel)
        rw [v1] at w1
        cases w1
        refine ⟨v, v1, w2, w3, fun j c e => ?_⟩
        cases e
        cases env0 with
        | nil => exact hnam.elim
        | cons n0 r0 =>
          obtain ⟨⟨x0, m1, m2⟩, _⟩ := hnam
          have := hs_cell_eq o1 m1
          exact ⟨n0, rfl, by omega⟩
    · refine ⟨_, List.mem_cons_of_mem _ (List.mem_cons_of_mem _ (List.mem_cons_of_mem _ List.mem_cons_self)), hs_rv hx hx1, (fun f hf => ?_), (fun _ => hI), g1, g2, g3, g4⟩
      rcases List.mem_cons.mp hf with rfl | hf
      · exact hs_fv hx2 (by decide) (by decide)
      · have := List.mem_singleton.mp hf
        subst this
        exact hs_fv hx3 (by decide) (by decide)
    · refine ⟨_, List.mem_cons_of_mem _ (List.mem_cons_of_mem _ (List.mem_cons_of_mem _ (List.mem_cons_of_mem _ List.mem_cons_self))), hs_rv hx hx1, (fun f hf => ?_), (fun _ => hI), g1, g2, g3, g4⟩
      rcases List.mem_cons.mp hf with rfl | hf
      · exact hs_fv hx2 (by decide) (by decide)
      · have := List.mem_singleton.mp hf
        subst this
        exact hs_fv hx3 (by decide) (by decide)
theorem hb_ok2 (hE : z_EX EX) : y_ConOk EX l zTB zNT kc D vwCl xb yTYV yGR hs_I ad yP0 hb_K2 := by
  intro y cc maxL ret tab na sp hP d hd av ws sz env0 hav hpre hri hGo hwt had hnam
  obtain ⟨p, p1, p2, p3, _⟩ := hpre _ (List.mem_cons_of_mem _ List.mem_cons_self)
  dsimp only at p1 p2 p3
  refine y_Met_conv (hb_met (l := l) (D := D) hE hP hd hav (fun f hf => by have := List.mem_singleton.mp hf; subst this; exact hs_fv0 (hpre _ List.mem_cons_self) rfl) (hri rfl) hGo hwt had) (fun rv u ⟨⟨x, hx1, hx⟩, g1, g2, g3, g4⟩ => ?_)
  rcases hx with hx | ⟨hx, hI, hn, _⟩
  · exact ⟨_, List.mem_cons_self, hs_rv hx hx1, (fun _ h => by cases h), (fun h => by cases h), g1, g2, g3, g4⟩
  · have := hn 4 ⟨p, p1, by omega⟩
    omega
end HB
