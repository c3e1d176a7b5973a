section HN
variable {EX : (Nat → Prop) → State → Heap → Prop} {l : Launch} {kc : Nat → ClassId} {D : va_G} {xb : Nat} {ad : Nat → Option Nat}
def hn_D (a : Nat × Nat × Nat) : Prop := a.1 = 0 ∨ (a.1 = 1 ∧ a.2.1 ≤ 40) ∨ a.1 = 2 ∨ a.1 = 9
def hn_r (a : Nat × Nat × Nat) : Nat := match a.1 with
  | 0 => 3 * a.2.2 + 3
  | 1 => 3 * a.2.2 + 2
  | 2 => 3 * a.2.2 + 4
  | _ => 0
def hn_F (_ : va_W) (a : Nat × Nat × Nat) (_ : Array Slot) (ws : va_W) : Prop := (a.1 = 9 → False) ∧ (a.1 = 2 → hs_I ws) ∧ ∀ t, hs_cell ws 209 42 t → t ≤ a.2.2
def hn_P (_ : va_W) (rv : Option Value) (u : va_W) : Prop := rv = none ∧ hs_I u
theorem hs_nat {kc : Nat → ClassId} {ad : Nat → Option Nat} {ws : va_W} (hw : y_w kc ad yTYV ws) {r k : Nat} {q : Int × Int} (h : y_ty yTYV r k = some q) (h0 : 0 ≤ q.1) : ∃ n : Nat, hs_cell ws r k n ∧ (n : Int) ≤ q.2 := by
  obtain ⟨x, x1, x2, x3⟩ := y_ty_ok hw h
  exact ⟨x.toInt.toNat, ⟨x, x1, by omega⟩, by omega⟩
theorem hs_one {ws : va_W} {r k n m : Nat} (h1 : hs_cell ws r k n) (h2 : hs_cell ws r k m) : n = m := by
  obtain ⟨x, x1, x2⟩ := h1
  have := hs_cell_eq h2 x1
  omega
theorem hn_go2a {xl : List (Nat × yP)} {nL R c0 : Nat} : y_goR2 kc yTYV hs_I ad nL hn_D (hn_hd xl) hn_r hn_F (0, c0, R) := by
  intro w0 ws ls vs hF hri hw hv hlv hfs
  obtain ⟨c, t, o, w, d, h1, h2, h3, h4, h5, h6, h7, h8⟩ := hri rfl
  refine ⟨(1, c, R), Or.inr (Or.inl ⟨rfl, by dsimp only; omega⟩), (show 3 * R + 2 < 3 * R + 3 by omega), rfl, hri, ⟨fun h => absurd (show (1 : Nat) = 9 from h) (by decide), fun h => absurd (show (1 : Nat) = 2 from h) (by decide), hF.2.2⟩, ⟨vs, hv, hlv⟩, ?_⟩
  intro f hf
  rcases List.mem_cons.mp hf with rfl | hf
  · exact hfs _ List.mem_cons_self
  · rcases List.mem_cons.mp hf with rfl | hf
    · obtain ⟨x, x1, x2⟩ := h1
      exact ⟨x, x1, by dsimp only; rw [x2]; exact Int.le_refl _, by dsimp only; rw [x2]; exact Int.le_refl _, fun _ _ e => by cases e⟩
    · have := List.mem_singleton.mp hf
      subst this
      obtain ⟨x, x1, x2⟩ := h2
      exact ⟨x, x1, by dsimp only; omega, by dsimp only; omega, fun _ _ e => by cases e⟩
theorem hn_go2b {xl : List (Nat × yP)} {nL R c0 : Nat} : y_goR2 kc yTYV hs_I ad nL hn_D (hn_hd xl) hn_r hn_F (2, c0, R) := by
  intro w0 ws ls vs hF hri hw hv hlv hfs
  exact ⟨(0, 0, R), Or.inl rfl, (show 3 * R + 3 < 3 * R + 4 by omega), rfl, fun _ => hF.2.1 rfl, ⟨fun h => absurd (show (0 : Nat) = 9 from h) (by decide), fun h => absurd (show (0 : Nat) = 2 from h) (by decide), hF.2.2⟩, ⟨vs, hv, hlv⟩, hfs⟩
theorem hn_go2c {xl : List (Nat × yP)} {nL R c0 : Nat} : y_goR2 kc yTYV hs_I ad nL hn_D (hn_hd xl) hn_r hn_F (9, c0, R) := fun w0 ws ls vs hF => (hF.1 rfl).elim
/-- what one round of either does -/
theorem hn_sem {ws ws' : va_W} {c t o d : Nat} {lo hi : Int} (hlo : (lo = 20 ∧ hi = 20) ∨ (lo = 21 ∧ hi = 22)) (h : hs_V ws c t o 1 d) (hfr : y_fr [(209, 40, 40), (209, 42, 43), (213, 3 * c, 3 * c + 2)] ws ws') (hc : hs_cell ws' 209 40 (c + 1)) {t' : Nat} (ht : t = t' + 1) (ht' : hs_cell ws' 209 42 t') {x y : Int32} (hx : y_at ws' 213 (3 * c) = some x) (hx1 : lo ≤ x.toInt) (hx2 : x.toInt ≤ hi) (hy : y_at ws' 220 t' = some y) (hy1 : lo ≤ y.toInt) (hy2 : y.toInt ≤ hi) : ∃ d', hs_V ws' (c + 1) t' o 1 d' := by
  obtain ⟨h1, h2, h3, h4, h5, h6, h7, h8⟩ := h
  have hno : ∀ r k, r ≠ 209 → (r = 213 → k < 3 * c) → y_at ws' r k = y_at ws r k := fun r k g1 g2 => hfr r k (y_in_no (fun q hq e => by
    rcases List.mem_cons.mp hq with rfl | hq
    · exact absurd (show (209 : Nat) = r from e).symm g1
    · rcases List.mem_cons.mp hq with rfl | hq
      · exact absurd (show (209 : Nat) = r from e).symm g1
      · have := List.mem_singleton.mp hq
        subst this
        have := g2 (show (213 : Nat) = r from e).symm
        dsimp only
        omega))
  have h9 : ∀ k, k = 41 ∨ k = 44 → y_at ws' 209 k = y_at ws 209 k := fun k hk => hfr 209 k (y_in_no (fun q hq e => by
    rcases List.mem_cons.mp hq with rfl | hq
    · dsimp only; omega
    · rcases List.mem_cons.mp hq with rfl | hq
      · dsimp only; omega
      · have := List.mem_singleton.mp hq
        subst this
        exact absurd (show (213 : Nat) = 209 from e) (by decide)))
  have hs : ∀ j, j < c → hs_rd ws' j = hs_rd ws j := fun j hj => hno 213 _ (by decide) (fun _ => by omega)
  have hk : ∀ j, hs_sk ws' j = hs_sk ws j := fun j => hno 220 _ (by decide) (fun h => absurd h (by decide))
  have hyk : hs_sk ws t' = some y := (hk t').symm.trans hy
  have hA : hs_A (hs_sk ws') t' = hs_A (hs_sk ws) t' := hs_A_same (fun j _ => hk j)
  have hA2 : hs_A (hs_sk ws) t = hs_A (hs_sk ws) t' + hs_b (some y) := by rw [ht]; show hs_A (hs_sk ws) t' + hs_b (hs_sk ws t') = _; rw [hyk]
  rcases hlo with ⟨rfl, rfl⟩ | ⟨rfl, rfl⟩
  · have hb : hs_b (some y) = 0 := by unfold hs_b; dsimp only; rw [if_neg (by omega)]
    refine ⟨d, hc, ht', hs_cell_fr (h9 41 (Or.inl rfl)) h3, hs_cell_fr (h9 44 (Or.inr rfl)) h4, hs_D20 hs h5 hx (by omega) (by omega), by omega, by omega, h8⟩
  · have hb : hs_b (some y) = 1 := by unfold hs_b; dsimp only; rw [if_pos (by omega)]
    refine ⟨d - 1, hc, ht', hs_cell_fr (h9 41 (Or.inl rfl)) h3, hs_cell_fr (h9 44 (Or.inr rfl)) h4, hs_D21 hs h5 hx (by omega) (by omega), by omega, by omega, h8⟩
theorem hn_k044 {xl : List (Nat × yP)} {c R : Nat} (hxl : xl = [] ∨ xl = [(1, .inl (21, 22))]) : hq_k0 (hn_hd xl (1, c, R)) 209 44 = some (.inl 1) := by
  rcases hxl with rfl | rfl <;> (unfold hq_k0 y_cst hn_hd; simp [y_mkf, y_f1, y_kget, y_mks, y_mk, y_eqI])
theorem hn_go1 {jm : Nat} {M : yM} (hM : yP0 jm = some M) {xl : List (Nat × yP)} (hxl : xl = [] ∨ xl = [(1, .inl (21, 22))]) {lo hi : Int} (hlo : (lo = 20 ∧ hi = 20) ∨ (lo = 21 ∧ hi = 22)) {c R : Nat} (hcR : c ≤ 40) (hck : hn_ck jm xl lo hi c = true) : y_go1 kc yP0 yTYV zTF yGR hs_RC hs_I yCTabV ad M 300 5 5 hn_D (hn_hd xl) hn_E hn_r hn_eff hn_F hn_P (1, c, R) := by
  unfold hn_ck hq_runV at hck
  rw [hM] at hck
  dsimp only at hck
  unfold y_go1
  split at hck
  next M' es hM' hes =>
    cases hM'
    refine ⟨_, es, hes, ?_, fun q hq => ?_⟩
    · unfold y_sub y_ina hn_E hn_eff
      simp
      omega
    · have h9 := List.all_eq_true.mp hck q hq
      split at h9
      next hhit =>
        simp only [Bool.and_eq_true] at h9
        obtain ⟨q1, q2, q3, q4⟩ := h9
        -- the next round
        have hcell : ∀ (w0 ws ws' : va_W) (ls ls' : Array Slot) (e0 env : List Int), hn_F w0 (1, c, R) ls ws → hs_I ws → y_k e0 ws (y_cst (0, []) (hn_hd xl (1, c, R))).2.2.2.1 → e0 <+: env → y_w kc ad yTYV ws' → y_fr (hn_E (1, c, R)) ws ws' → y_B q.1 env → y_k env ws' q.2.2.2.2.1 → hs_I ws' ∧ ∃ t', hs_cell ws' 209 42 t' ∧ t' + 1 ≤ R := by
          intro w0 ws ws' ls ls' e0 env hF hI hk0 he hw' hfr hB hk
          obtain ⟨c0, t, o, w, d, hV⟩ := hI
          have hq1 : hq_ad (hq_k0 (hn_hd xl (1, c, R)) 209 42) (hq_k q 209 42) (-1) = true := q1
          obtain ⟨x, x', a1, a2, a3⟩ := hq_ad_cell hq1 hk0 hk he
          obtain ⟨z, z1, z2, z3⟩ := hq_in_cell q2 hk hB
          obtain ⟨v, v1, v2, v3⟩ := hq_in_cell q3 hk hB
          obtain ⟨x1, b1, b2⟩ := hq_k0_cell (hn_k044 (c := c) (R := R) hxl) hk0
          have hw1 := hs_cell_eq hV.2.2.2.1 b1
          have hc40 : hq_k0 (hn_hd xl (1, c, R)) 209 40 = some (.inl (Int.ofNat c)) := by rcases hxl with rfl | rfl <;> (unfold hq_k0 y_cst hn_hd; simp [y_mkf, y_f1, y_kget, y_mks, y_mk, y_eqI])
          obtain ⟨x2, d1, d2⟩ := hq_k0_cell hc40 hk0
          have hc1 := hs_cell_eq hV.1 d1
          have hc9 : c0 = c := by have : (Int.ofNat c) = (c : Int) := rfl; omega
          have hw9 : w = 1 := by omega
          subst hc9 hw9
          have hx := hs_cell_eq hV.2.1 a1
          obtain ⟨t', t1, t2⟩ := hs_nat (r := 209) (k := 42) hw' (q := (0, 44)) (by decide +kernel) (by decide)
          have hx' := hs_cell_eq t1 a2
          have htt : t = t' + 1 := by omega
          have hq4 : ∃ y : Int32, y_at ws' 220 t' = some y ∧ lo ≤ y.toInt ∧ y.toInt ≤ hi := by
            obtain ⟨u, u1, u2⟩ := hq_in_ok q4
            unfold hn_top at u1
            split at u1
            next τ hτ =>
              obtain ⟨j, y, g0, g1, g2⟩ := hk _ (y_kget_in u1)
              dsimp only at g0 g1 g2
              obtain ⟨x9, e1, e2⟩ := y_kcell hk hτ
              rw [a2] at e1
              cases e1
              rw [e2] at g0
              have : j = t' := by have := Option.some.inj g0; omega
              subst this
              exact ⟨y, g1, u2 env _ hB g2⟩
            next => cases u1
          obtain ⟨y, y1, y2, y3⟩ := hq4
          obtain ⟨d', hV'⟩ := hn_sem hlo hV hfr ⟨z, z1, by have : (Int.ofNat c0) = (c0 : Int) := rfl; omega⟩ htt t1 v1 v2 v3 y1 y2 y3
          refine ⟨⟨_, _, _, _, _, hV'⟩, t', t1, ?_⟩
          have := hF.2.2 t hV.2.1
          dsimp only at this
          omega
        cases R with
        | zero =>
          refine Or.inl ⟨(9, 0, 0), Or.inr (Or.inr (Or.inr rfl)), (show 0 < 2 by decide), hhit, ?_⟩
          intro w0 ws ws' ls ls' e0 env hF hri _ _ hk0 he _ hw' hfr hB _ hk
          obtain ⟨_, t', _, h0⟩ := hcell w0 ws ws' ls ls' e0 env hF (hri rfl) hk0 he hw' hfr hB hk
          omega
        | succ R =>
          refine Or.inl ⟨(2, 0, R), Or.inr (Or.inr (Or.inl rfl)), (show 3 * R + 4 < 3 * (R + 1) + 2 by omega), hhit, ?_⟩
          intro w0 ws ws' ls ls' e0 env hF hri _ _ hk0 he _ hw' hfr hB _ hk
          obtain ⟨hI, t', ht, h0⟩ := hcell w0 ws ws' ls ls' e0 env hF (hri rfl) hk0 he hw' hfr hB hk
          exact ⟨fun h => absurd (show (2 : Nat) = 9 from h) (by decide), fun _ => hI, fun t9 h9 => by have := hs_one h9 ht; dsimp only; omega⟩
      next =>
        simp only [Bool.and_eq_true] at h9
        obtain ⟨q0, q1, q2, q3⟩ := h9
        split at q3
        next hz =>
          refine Or.inr ⟨none, hz, List.isEmpty_iff.mp q1, List.isEmpty_iff.mp q2, ?_⟩
          intro w0 ws ws' ls rv e0 env _ _ hri' _ _ _ _ _ _ _ _ _ _ hrv
          cases rv with
          | none => exact ⟨rfl, hri' q0⟩
          | some v => exact hrv.elim
        next => cases q3
  next => cases hck
def hn_K (jm : Nat) (ps : List yP) : yCon := (jm, .inr (some 210) :: ps, [((209, 44), (1, 1), none)], [(none, [], true)], hn_eff, 5, true, [])
theorem hn_ok (hE : z_EX EX) {jm mL : Nat} {M : yM} (hM : yP0 jm = some M) (hL : M.2.2.1 = mL) {xl : List (Nat × yP)} {ps : List yP} (hxl : (xl = [] ∧ ps = []) ∨ (xl = [(1, .inl (21, 22))] ∧ ps = [.inl (21, 22)])) (hmL : xl.length < mL) {lo hi : Int} (hlo : (lo = 20 ∧ hi = 20) ∨ (lo = 21 ∧ hi = 22)) (hck : ((List.range 41).all (hn_ck jm xl lo hi)) = true) : y_ConOk EX l zTB zNT kc D vwCl xb yTYV yGR hs_I ad yP0 (hn_K jm ps) := by
  intro y cc maxL ret tab na sp hP d hd av ws sz env0 hav hpre hri hGo hwt had hnam
  have hP1 : yP0 jm = some (y, cc, maxL, ret, tab, na, sp) := hP
  have e := Option.some.inj (hM.symm.trans hP1)
  subst e
  have hmL2 : maxL = mL := hL
  subst hmL2
  have hx1 : xl = [] ∨ xl = [(1, .inl (21, 22))] := hxl.imp (fun h => h.1) (fun h => h.1)
  have hstep : ∀ a, hn_D a → y_go1 kc yP0 yTYV zTF yGR hs_RC hs_I yCTabV ad (y, cc, maxL, ret, tab, na, sp) 300 5 5 hn_D (hn_hd xl) hn_E hn_r hn_eff hn_F hn_P a ∨ y_goR2 kc yTYV hs_I ad maxL hn_D (hn_hd xl) hn_r hn_F a := by
    rintro ⟨k, c, R⟩ ha
    rcases ha with h0 | ⟨h0, hc⟩ | h0 | h0
    · dsimp only at h0; subst h0; exact Or.inr hn_go2a
    · dsimp only at h0 hc; subst h0; exact Or.inl (hn_go1 hP1 hx1 hlo hc (List.all_eq_true.mp hck c (List.mem_range.mpr (by omega))))
    · dsimp only at h0; subst h0; exact Or.inr hn_go2b
    · dsimp only at h0; subst h0; exact Or.inr hn_go2c
  obtain ⟨t0, t1, t2⟩ := hs_nat (r := 209) (k := 42) hwt (q := (0, 44)) (by decide +kernel) (by decide)
  have hfs : ∀ f ∈ ([((209, 44), (1, 1), none)] : List yF), y_fv2 [] ws f := by
    intro f hf
    obtain ⟨x, x1, x2, x3, _⟩ := hpre f hf
    have := List.mem_singleton.mp hf
    subst this
    exact ⟨x, x1, x2, x3, fun _ _ e => by cases e⟩
  have hav2 : z_L (y_pv ad) ((hn_hd xl (0, 0, t0)).2.1.map (fun a => a.2)) av := by
    rcases hxl with ⟨rfl, rfl⟩ | ⟨rfl, rfl⟩ <;> exact hav
  have hW := y_walkR (l := l) (D := D) (xb := xb) (sz := sz) (d := d) (w0 := ws) (av := av) (TB := zTB) (NT := zNT) (cl := vwCl) (n := 5) (d0 := 5) (RC := hs_RC) (RI := hs_I) hE hs_RI y_prog (fun j K' hK' => ⟨yCT_jV hK', fun _ => y_consV hE hK'⟩) hP1 hstep (a0 := (0, 0, t0)) (Or.inl rfl) rfl (by rcases hx1 with rfl | rfl <;> rfl) (fun _ => hri rfl) (by rcases hx1 with rfl | rfl <;> rfl) (show xl.length + 1 ≤ maxL by omega) hd hav2 hfs (fun _ => ⟨fun h => absurd (show (0 : Nat) = 9 from h) (by decide), fun h => absurd (show (0 : Nat) = 2 from h) (by decide), fun t h => by have := hs_one h t1; dsimp only; omega⟩) hGo hwt had
  exact y_Met_conv hW (fun rv u ⟨⟨h1, h2⟩, g1, g2, g3, g4⟩ => ⟨_, List.mem_cons_self, (by rw [h1]; trivial), (fun _ h => by cases h), (fun _ => h2), g1, g2, g3, g4⟩)
def hn_Kn : yCon := hn_K 265 []
def hn_Kj : yCon := hn_K 264 [.inl (21, 22)]
theorem hn_nots (hE : z_EX EX) : y_ConOk EX l zTB zNT kc D vwCl xb yTYV yGR hs_I ad yP0 hn_Kn := hn_ok (mL := ym_X12_nots.2.2.1) hE (show yP0 265 = some ym_X12_nots from rfl) rfl (Or.inl ⟨rfl, rfl⟩) (by decide) (Or.inl ⟨rfl, rfl⟩) hn_cn
theorem hn_joins (hE : z_EX EX) : y_ConOk EX l zTB zNT kc D vwCl xb yTYV yGR hs_I ad yP0 hn_Kj := hn_ok (mL := ym_X12_joins.2.2.1) hE (show yP0 264 = some ym_X12_joins from rfl) rfl (Or.inr ⟨rfl, rfl⟩) (by decide) (Or.inr ⟨rfl, rfl⟩) hn_cj
end HN
