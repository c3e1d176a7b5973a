section HO
variable {EX : (Nat → Prop) → State → Heap → Prop} {l : Launch} {kc : Nat → ClassId} {D : va_G} {xb : Nat} {ad : Nat → Option Nat}
def ho_D (a : Nat × Nat) : Prop := a.1 = 0 ∨ a.1 = 1 ∨ (a.1 = 2 ∧ a.2 ≤ 38) ∨ a.1 = 3 ∨ (a.1 = 4 ∧ a.2 ≤ 38)
def ho_r (a : Nat × Nat) : Nat := match a.1 with
  | 0 => 5
  | 1 => 4
  | 3 => 4
  | _ => 1
def ho_F (w0 : va_W) (a : Nat × Nat) (_ : Array Slot) (ws : va_W) : Prop := (a.1 = 0 → ws = w0) ∧ (a.1 ≠ 0 → ∃ c t o d, hs_V ws c t o 0 d ∧ c + t + 2 ≤ 2 * o ∧ ∀ o0, hs_cell w0 209 41 o0 → o = o0 + 1)
def ho_P (w0 : va_W) (rv : Option Value) (u : va_W) : Prop := ∃ x : Int32, rv = some (.int x) ∧ (x.toInt = 0 ∨ (x.toInt = 1 ∧ hs_I u ∧ ∀ o0, hs_cell w0 209 41 o0 → hs_cell u 209 41 (o0 + 1)))
theorem ho_go2 {b : Nat} {v : Nat} (hb : b = 1 ∨ b = 3) : y_goR2 kc yTYV hs_I ad 5 ho_D ho_hd ho_r ho_F (b, v) := by
  intro w0 ws ls vs hF hri hw hv hlv hfs
  obtain ⟨c, t, o, d, hV, h7, h8⟩ := hF.2 (by
    rcases hb with rfl | rfl
    · exact (show ¬ (1 : Nat) = 0 by decide)
    · exact (show ¬ (3 : Nat) = 0 by decide))
  have hV2 := hV
  obtain ⟨h1, h2, h3, h4, h5, h6, h9, h10⟩ := hV
  rcases hb with rfl | rfl
  · refine ⟨(2, t), Or.inr (Or.inr (Or.inl ⟨rfl, by dsimp only; omega⟩)), (show 1 < 4 by decide), rfl, (fun h => by cases h), ⟨fun h => absurd (show (2 : Nat) = 0 from h) (by decide), fun _ => ⟨c, t, o, d, hV2, h7, h8⟩⟩, ⟨vs, hv, hlv⟩, ?_⟩
    intro f hf
    have := List.mem_singleton.mp hf
    subst this
    obtain ⟨x, x1, x2⟩ := h2
    exact ⟨x, x1, by dsimp only; rw [x2]; exact Int.le_refl _, by dsimp only; rw [x2]; exact Int.le_refl _, fun _ _ e => by cases e⟩
  · refine ⟨(4, c), Or.inr (Or.inr (Or.inr (Or.inr ⟨rfl, by dsimp only; omega⟩))), (show 1 < 4 by decide), rfl, (fun h => by cases h), ⟨fun h => absurd (show (4 : Nat) = 0 from h) (by decide), fun _ => ⟨c, t, o, d, hV2, h7, h8⟩⟩, ⟨vs, hv, hlv⟩, ?_⟩
    intro f hf
    have := List.mem_singleton.mp hf
    subst this
    obtain ⟨x, x1, x2⟩ := h1
    exact ⟨x, x1, by dsimp only; rw [x2]; exact Int.le_refl _, by dsimp only; rw [x2]; exact Int.le_refl _, fun _ _ e => by cases e⟩
/-- cells that no row of a list of changes has -/
def hq_free (E : yR) (r a b : Nat) : Bool := E.all (fun q => !(q.1 == r) || (Nat.blt b q.2.1 || Nat.blt q.2.2 a))
theorem hq_free_ok {E : yR} {r a b : Nat} (h : hq_free E r a b = true) {ws ws' : va_W} (hf : y_fr E ws ws') {k : Nat} (h1 : a ≤ k) (h2 : k ≤ b) : y_at ws' r k = y_at ws r k := hf r k (y_in_no (fun q hq e => by
  have h3 := List.all_eq_true.mp h q hq
  simp only [Bool.or_eq_true, Bool.not_eq_true', beq_eq_false_iff_ne, Nat.blt_eq] at h3
  omega))
theorem ho_go0 : y_go1 kc yP0 yTYV zTF yGR hs_RC hs_I yCTabV ad ym_X12_operand 400 5 5 ho_D ho_hd ho_E ho_r ho_eff ho_F ho_P (0, 0) := by
  have hck := ho_k0
  unfold ho_c0 hq_runV at hck
  rw [show yP0 267 = some ym_X12_operand from rfl] at hck
  dsimp only at hck
  unfold y_go1
  split at hck
  next M' es hM' hes =>
    cases hM'
    refine ⟨_, es, hes, (by decide +kernel), fun q hq => ?_⟩
    have h9 := List.all_eq_true.mp hck q hq
    rw [Bool.or_eq_true] at h9
    rcases h9 with h9 | h9
    · obtain ⟨rz, z1, z2, z3, z4⟩ := hq_ret_ok (ad := ad) h9
      refine Or.inr ⟨rz, z1, z2, z3, ?_⟩
      intro w0 ws ws' ls rv e0 env _ _ _ _ _ _ _ _ _ _ _ hB _ hrv
      obtain ⟨x, x1, x2, x3⟩ := z4 env rv hB hrv
      exact ⟨x, x1, Or.inl (by omega)⟩
    · rw [Bool.and_eq_true, Bool.or_eq_true] at h9
      obtain ⟨q1, q2⟩ := h9
      have hgo : ∀ (w0 ws ws' : va_W) (ls : Array Slot) (e0 env : List Int), ho_F w0 (0, 0) ls ws → hs_I ws → y_k e0 ws (y_cst (0, []) (ho_hd (0, 0))).2.2.2.1 → e0 <+: env → y_w kc ad yTYV ws' → y_fr (ho_E (0, 0)) ws ws' → y_k env ws' q.2.2.2.2.1 → ∃ c t o d, hs_V ws' c t o 0 d ∧ c + t + 2 ≤ 2 * o ∧ ∀ o0, hs_cell w0 209 41 o0 → o = o0 + 1 := by
        intro w0 ws ws' ls e0 env hF hI hk0 he hw' hfr hk
        have hws : ws = w0 := hF.1 rfl
        subst hws
        obtain ⟨c, t, o, w, d, h1, h2, h3, h4, h5, h6, h7, h8⟩ := hI
        obtain ⟨x, x', a1, a2, a3⟩ := hq_ad_cell q1 hk0 hk he
        obtain ⟨x1, b1, b2⟩ := hq_k0_cell (c := 0) (h := ho_hd (0, 0)) (r := 209) (k := 44) (by decide +kernel) hk0
        have hw0 : w = 0 := by have := hs_cell_eq h4 b1; omega
        subst hw0
        have hx := hs_cell_eq h3 a1
        obtain ⟨o', o1, o2⟩ := hs_nat (r := 209) (k := 41) hw' (q := (0, 20)) (by decide +kernel) (by decide)
        have hx' := hs_cell_eq o1 a2
        have hs : ∀ {r a b : Nat}, hq_free (ho_E (0, 0)) r a b = true → ∀ k, a ≤ k → k ≤ b → y_at ws' r k = y_at ws r k := fun hh k g1 g2 => hq_free_ok hh hfr g1 g2
        refine ⟨c, t, o', d, ⟨hs_cell_fr (hs (a := 40) (b := 40) (by decide) 40 (by decide) (by decide)) h1, hs_cell_fr (hs (a := 42) (b := 44) (by decide) 42 (by decide) (by decide)) h2, o1, hs_cell_fr (hs (a := 42) (b := 44) (by decide) 44 (by decide) (by decide)) h4, ?_, ?_, by omega, by dsimp only at o2; omega⟩, by omega, fun o0 h0 => ?_⟩
        · rw [← h5]
          exact w_D_same (fun j hj => hs (r := 213) (a := 0) (b := 134) (by decide) _ (by omega) (by omega))
        · rw [hs_A_same (f := hs_sk ws') (g := hs_sk ws) (t := t) (fun j hj => hs (r := 220) (a := 0) (b := 44) (by decide) _ (by omega) (by omega))]
          exact h6
        · have := hs_one h0 h3
          omega
      rcases q2 with q2 | q2
      · refine Or.inl ⟨(1, 0), Or.inr (Or.inl rfl), (show 4 < 5 by decide), q2, ?_⟩
        intro w0 ws ws' ls ls' e0 env hF hri _ _ hk0 he _ hw' hfr hB _ hk
        exact ⟨fun h => absurd (show (1 : Nat) = 0 from h) (by decide), fun _ => hgo w0 ws ws' ls e0 env hF (hri rfl) hk0 he hw' hfr hk⟩
      · refine Or.inl ⟨(3, 0), Or.inr (Or.inr (Or.inr (Or.inl rfl))), (show 4 < 5 by decide), q2, ?_⟩
        intro w0 ws ws' ls ls' e0 env hF hri _ _ hk0 he _ hw' hfr hB _ hk
        exact ⟨fun h => absurd (show (3 : Nat) = 0 from h) (by decide), fun _ => hgo w0 ws ws' ls e0 env hF (hri rfl) hk0 he hw' hfr hk⟩
  next => cases hck
theorem hs_k0c {h : yCut} {r k c : Nat} {e0 : List Int} {ws : va_W} {n : Nat} (hc : hq_k0 h r k = some (.inl (Int.ofNat c))) (hk0 : y_k e0 ws (y_cst (0, []) h).2.2.2.1) (hn : hs_cell ws r k n) : n = c := by
  obtain ⟨x, x1, x2⟩ := hq_k0_cell hc hk0
  have := hs_cell_eq hn x1
  have h9 : (Int.ofNat c) = (c : Int) := rfl
  omega
theorem ho_goT {t0 : Nat} (ht0 : t0 ≤ 38) : y_go1 kc yP0 yTYV zTF yGR hs_RC hs_I yCTabV ad ym_X12_operand 400 5 5 ho_D ho_hd ho_E ho_r ho_eff ho_F ho_P (2, t0) := by
  have hck := List.all_eq_true.mp ho_k2 t0 (List.mem_range.mpr (by omega))
  unfold ho_c2 hq_runV at hck
  rw [show yP0 267 = some ym_X12_operand from rfl] at hck
  dsimp only at hck
  unfold y_go1
  split at hck
  next M' es hM' hes =>
    cases hM'
    refine ⟨_, es, hes, ?_, fun q hq => Or.inr ?_⟩
    · unfold y_sub y_ina ho_E ho_eff
      simp
      omega
    have h9 := List.all_eq_true.mp hck q hq
    simp only [Bool.and_eq_true, Bool.or_eq_true] at h9
    obtain ⟨q0, q1, q2⟩ := h9
    obtain ⟨rz, z1, z2, z3, z4⟩ := hq_ret_ok (ad := ad) q0
    refine ⟨rz, z1, z2, z3, ?_⟩
    intro w0 ws ws' ls rv e0 env hF _ _ _ hk0 he _ hw' _ hfr _ hB hk hrv
    obtain ⟨x, x1, x2, x3⟩ := z4 env rv hB hrv
    obtain ⟨c, t, o, d, ⟨h1, h2, h3, h4, h5, h6, h7, h8⟩, g1, g2⟩ := hF.2 (show ¬ (2 : Nat) = 0 by decide)
    have htt : t = t0 := hs_k0c (h := ho_hd (2, t0)) (by unfold hq_k0 y_cst ho_hd ho_L; simp [y_mkf, y_f1, y_kget, y_mks, y_mk, y_eqI]) hk0 h2
    subst htt
    obtain ⟨z, a1, a2, a3⟩ := hq_in_cell q1 hk hB
    have hb : ∃ y : Int32, y_at ws' 220 t = some y ∧ hs_b (some y) = 0 := by
      rcases q2 with q2 | q2
      · obtain ⟨y, b1, b2, b3⟩ := hq_in_cell q2 hk hB
        exact ⟨y, b1, by unfold hs_b; dsimp only; rw [if_neg (by omega)]⟩
      · obtain ⟨y, b1, b2, b3⟩ := hq_in_cell q2 hk hB
        exact ⟨y, b1, by unfold hs_b; dsimp only; rw [if_neg (by omega)]⟩
    obtain ⟨y, b1, b2⟩ := hb
    have hs : ∀ {r k : Nat}, (r = 220 → k < t) → (r = 209 → k ≤ 41 ∨ k = 44) → y_at ws' r k = y_at ws r k := fun {r k} e1 e2 => hfr r k (y_in_no (fun p hp e => by
      rcases List.mem_cons.mp hp with rfl | hp
      · have := e1 (show (220 : Nat) = r from e).symm
        dsimp only; omega
      · have := List.mem_singleton.mp hp
        subst this
        have := e2 (show (209 : Nat) = r from e).symm
        dsimp only; omega))
    refine ⟨x, x1, Or.inr ⟨by omega, ⟨c, t + 1, o, 0, d, hs_cell_fr (hs (fun h => absurd h (by decide)) (fun _ => Or.inl (by decide))) h1, ⟨z, a1, by have h9 : (Int.ofNat t) = (t : Int) := rfl; omega⟩, hs_cell_fr (hs (fun h => absurd h (by decide)) (fun _ => Or.inl (by decide))) h3, hs_cell_fr (hs (fun h => absurd h (by decide)) (fun _ => Or.inr rfl)) h4, ?_, ?_, by omega, h8⟩, fun o0 h0 => ?_⟩⟩
    · rw [← h5]
      exact w_D_same (fun j hj => hs (fun h => absurd h (by decide)) (fun h => absurd h (by decide)))
    · show hs_A (hs_sk ws') t + hs_b (hs_sk ws' t) + 0 ≤ d
      rw [show hs_sk ws' t = some y from b1, b2, hs_A_same (f := hs_sk ws') (g := hs_sk ws) (t := t) (fun j hj => hs (fun _ => hj) (fun h => absurd h (by decide)))]
      exact h6
    · have := g2 o0 h0
      subst this
      exact hs_cell_fr (hs (fun h => absurd h (by decide)) (fun _ => Or.inl (by decide))) h3
  next => cases hck
theorem ho_goC {c0 : Nat} (hc0 : c0 ≤ 38) : y_go1 kc yP0 yTYV zTF yGR hs_RC hs_I yCTabV ad ym_X12_operand 400 5 5 ho_D ho_hd ho_E ho_r ho_eff ho_F ho_P (4, c0) := by
  have hck := List.all_eq_true.mp ho_k4 c0 (List.mem_range.mpr (by omega))
  unfold ho_c4 hq_runV at hck
  rw [show yP0 267 = some ym_X12_operand from rfl] at hck
  dsimp only at hck
  unfold y_go1
  split at hck
  next M' es hM' hes =>
    cases hM'
    refine ⟨_, es, hes, ?_, fun q hq => Or.inr ?_⟩
    · unfold y_sub y_ina ho_E ho_eff
      simp
      omega
    have h9 := List.all_eq_true.mp hck q hq
    rw [Bool.or_eq_true] at h9
    rcases h9 with h9 | h9
    · obtain ⟨rz, z1, z2, z3, z4⟩ := hq_ret_ok (ad := ad) h9
      refine ⟨rz, z1, z2, z3, ?_⟩
      intro w0 ws ws' ls rv e0 env _ _ _ _ _ _ _ _ _ _ _ hB _ hrv
      obtain ⟨x, x1, x2, x3⟩ := z4 env rv hB hrv
      exact ⟨x, x1, Or.inl (by omega)⟩
    simp only [Bool.and_eq_true] at h9
    obtain ⟨q0, q1, q2, q3⟩ := h9
    obtain ⟨rz, z1, z2, z3, z4⟩ := hq_ret_ok (ad := ad) q0
    refine ⟨rz, z1, z2, z3, ?_⟩
    intro w0 ws ws' ls rv e0 env hF _ _ _ hk0 he _ hw' _ hfr _ hB hk hrv
    obtain ⟨x, x1, x2, x3⟩ := z4 env rv hB hrv
    obtain ⟨c, t, o, d, ⟨h1, h2, h3, h4, h5, h6, h7, h8⟩, g1, g2⟩ := hF.2 (show ¬ (4 : Nat) = 0 by decide)
    have htt : c = c0 := hs_k0c (h := ho_hd (4, c0)) (by unfold hq_k0 y_cst ho_hd ho_L; simp [y_mkf, y_f1, y_kget, y_mks, y_mk, y_eqI]) hk0 h1
    subst htt
    obtain ⟨z, a1, a2, a3⟩ := hq_in_cell q1 hk hB
    obtain ⟨y, b1, b2, b3⟩ := hq_in_cell q2 hk hB
    obtain ⟨v, d1, d2, d3⟩ := hq_in_cell q3 hk hB
    have hs : ∀ {r k : Nat}, (r = 213 → k < 3 * c) → (r = 209 → k = 41 ∨ k = 42) → y_at ws' r k = y_at ws r k := fun {r k} e1 e2 => hfr r k (y_in_no (fun p hp e => by
      rcases List.mem_cons.mp hp with rfl | hp
      · have := e2 (show (209 : Nat) = r from e).symm
        dsimp only; omega
      · rcases List.mem_cons.mp hp with rfl | hp
        · have := e2 (show (209 : Nat) = r from e).symm
          dsimp only; omega
        · rcases List.mem_cons.mp hp with rfl | hp
          · have := e1 (show (213 : Nat) = r from e).symm
            dsimp only; omega
          · rcases List.mem_cons.mp hp with rfl | hp
            · have := e2 (show (209 : Nat) = r from e).symm
              dsimp only; omega
            · rcases List.mem_cons.mp hp with rfl | hp
              · have := e2 (show (209 : Nat) = r from e).symm
                dsimp only; omega
              · have := List.mem_singleton.mp hp
                subst this
                have := e2 (show (209 : Nat) = r from e).symm
                dsimp only; omega))
    refine ⟨x, x1, Or.inr ⟨by omega, ⟨c + 1, t, o, 1, d + 1, ⟨z, a1, by have h9 : (Int.ofNat c) = (c : Int) := rfl; omega⟩, hs_cell_fr (hs (fun h => absurd h (by decide)) (fun _ => Or.inr rfl)) h2, hs_cell_fr (hs (fun h => absurd h (by decide)) (fun _ => Or.inl rfl)) h3, ⟨y, b1, by omega⟩, hs_D0 (fun j hj => hs (fun _ => by omega) (fun h => absurd h (by decide))) h5 d1 (by omega), ?_, by omega, h8⟩, fun o0 h0 => ?_⟩⟩
    · rw [hs_A_same (f := hs_sk ws') (g := hs_sk ws) (t := t) (fun j hj => hs (fun h => absurd h (by decide)) (fun h => absurd h (by decide)))]
      omega
    · have := g2 o0 h0
      subst this
      exact hs_cell_fr (hs (fun h => absurd h (by decide)) (fun _ => Or.inl rfl)) h3
  next => cases hck
def ho_K : yCon := (267, [.inr (some 210)], [((209, 44), (0, 0), none)], [(some (.inl (0, 0)), [], false), (some (.inl (1, 1)), [((209, 41), (0, 20), some (0, 1))], true)], ho_eff, 5, true, [(209, 41)])
theorem ho_ok (hE : z_EX EX) : y_ConOk EX l zTB zNT kc D vwCl xb yTYV yGR hs_I ad yP0 ho_K := by
  intro y cc maxL ret tab na sp hP d hd av ws sz env0 hav hpre hri hGo hwt had hnam
  have hP1 : yP0 267 = some (y, cc, maxL, ret, tab, na, sp) := hP
  have e : ym_X12_operand = (y, cc, maxL, ret, tab, na, sp) := Option.some.inj ((show yP0 267 = some ym_X12_operand from rfl).symm.trans hP1)
  have hmL : maxL = 5 := (congrArg (fun M : yM => M.2.2.1) e).symm
  have hstep : ∀ a, ho_D a → y_go1 kc yP0 yTYV zTF yGR hs_RC hs_I yCTabV ad (y, cc, maxL, ret, tab, na, sp) 400 5 5 ho_D ho_hd ho_E ho_r ho_eff ho_F ho_P a ∨ y_goR2 kc yTYV hs_I ad maxL ho_D ho_hd ho_r ho_F a := by
    rw [← e, hmL]
    rintro ⟨k, v⟩ ha
    rcases ha with h0 | h0 | ⟨h0, hc⟩ | h0 | ⟨h0, hc⟩
    · dsimp only at h0; subst h0; exact Or.inl ho_go0
    · dsimp only at h0; subst h0; exact Or.inr (ho_go2 (Or.inl rfl))
    · dsimp only at h0 hc; subst h0; exact Or.inl (ho_goT hc)
    · dsimp only at h0; subst h0; exact Or.inr (ho_go2 (Or.inr rfl))
    · dsimp only at h0 hc; subst h0; exact Or.inl (ho_goC hc)
  have hfs : ∀ f ∈ ([((209, 44), (0, 0), none), ((209, 41), (0, 20), none)] : List yF), y_fv2 [] ws f := by
    intro f hf
    rcases List.mem_cons.mp hf with rfl | hf
    · obtain ⟨x, x1, x2, x3, _⟩ := hpre _ List.mem_cons_self
      exact ⟨x, x1, x2, x3, fun _ _ e => by cases e⟩
    · have := List.mem_singleton.mp hf
      subst this
      obtain ⟨x, x1, x2, x3⟩ := y_ty_ok (r := 209) (k := 41) hwt (q := (0, 20)) (by decide +kernel)
      exact ⟨x, x1, x2, x3, fun _ _ e => by cases e⟩
  have hW := y_walkR (l := l) (D := D) (xb := xb) (sz := sz) (d := d) (w0 := ws) (av := av) (TB := zTB) (NT := zNT) (cl := vwCl) (n := 5) (d0 := 5) (RC := hs_RC) (RI := hs_I) hE hs_RI y_prog (fun j K' hK' => ⟨yCT_jV hK', fun _ => y_consV hE hK'⟩) hP1 hstep (a0 := (0, 0)) (Or.inl rfl) rfl rfl (fun _ => hri rfl) rfl (show 1 ≤ maxL by omega) hd hav hfs (fun _ => ⟨fun _ => rfl, fun h => absurd rfl h⟩) hGo hwt had
  refine y_Met_conv hW (fun rv u ⟨⟨x, hx1, hx⟩, g1, g2, g3, g4⟩ => ?_)
  rcases hx with hx | ⟨hx, hI, ho⟩
  · refine ⟨_, List.mem_cons_self, ?_, (fun _ h => by cases h), (fun h => by cases h), g1, g2, g3, g4⟩
    rw [hx1]
    exact ⟨⟨x, rfl, by omega, by omega⟩, trivial⟩
  · refine ⟨_, List.mem_cons_of_mem _ List.mem_cons_self, ?_, (fun f hf => ?_), (fun _ => hI), g1, g2, g3, g4⟩
    · rw [hx1]
      exact ⟨⟨x, rfl, by omega, by omega⟩, trivial⟩
    · have := List.mem_singleton.mp hf
      subst this
      obtain ⟨o0, o1, o2⟩ := hs_nat (r := 209) (k := 41) hwt (q := (0, 20)) (by decide +kernel) (by decide)
      obtain ⟨v, v1, v2⟩ := ho o0 o1
      obtain ⟨v', w1, w2, w3⟩ := y_ty_ok (r := 209) (k := 41) g2 (q := (0, 20)) (by decide +kernel)
      rw [v1] at w1
      cases w1
      refine ⟨v, v1, w2, w3, fun j c e => ?_⟩
      cases e
      cases env0 with
      | nil => exact hnam.elim
      | cons n0 r0 =>
        obtain ⟨⟨x0, m1, m2⟩, _⟩ := hnam
        have := hs_cell_eq o1 m1
        exact ⟨n0, rfl, by omega⟩
end HO
