/-! ===== the class reads a CAPITAL's text ===== -/
def p_loop (b : Nat → Int) (n : Int) : Nat → Int → pS → pT → (Int × Int) ⊕ (Int × pS)
  | 0, _, _, _ => .inl (0, 0)
  | f + 1, q, σ, T => if T.1 = 0 then .inr (q, σ) else match p_line b n σ T with
    | .inl e => .inl e
    | .inr (σ', T') => if T'.1 = 5 ∧ T'.2.2.2 = 59 then p_loop b n f (q + 1) σ' (t_tok b n 900 T'.2.2.1) else .inl (T'.2.1, 1)
def p_s0 : pS := ([], [], [], [], (fun _ => false), (fun j => if j = 0 then 0 else if j = 1 then 9 else if j = 2 then 1 else 200))
def p_text (b : Nat → Int) (n : Int) : (Int × Int) ⊕ (Int × pS) := p_loop b n 1000 0 p_s0 (t_tok b n 900 0)
theorem p_num_inv {b : Nat → Int} {n lo hi : Int} {T : pT} {k : Int → pT → pR} {r : pS × pT} (h : p_num b n lo hi T k = .inr r) : T.1 = 4 ∧ k T.2.2.2 (t_tok b n 900 T.2.2.1) = .inr r := by
  unfold p_num at h
  split at h
  · cases h
  next h1 =>
    split at h
    · cases h
    · exact ⟨by omega, h⟩
theorem p_new_inv {b : Nat → Int} {n : Int} {σ : pS} {T : pT} {k : pT → pR} {r : pS × pT} (h : p_new b n σ T k = .inr r) : T.1 = 2 ∧ k (t_tok b n 900 T.2.2.1) = .inr r := by
  unfold p_new at h
  split at h
  · cases h
  next h1 =>
    split at h
    · cases h
    · exact ⟨(Classical.not_not.mp h1).1, h⟩
theorem p_ref_inv {b : Nat → Int} {n : Int} {N : List Int} {T : pT} {k : pT → pR} {r : pS × pT} (h : p_ref b n N T k = .inr r) : T.1 = 2 ∧ k (t_tok b n 900 T.2.2.1) = .inr r := by
  unfold p_ref at h
  split at h
  · cases h
  next h1 =>
    split at h
    · cases h
    · exact ⟨(Classical.not_not.mp h1).1, h⟩
/-- where the TOKEN behind a LINE was looked for -/
def p_beh (b : Nat → Int) (n p : Int) (r : pS × pT) : Prop := ∃ x, p ≤ x ∧ x ≤ n ∧ r.2 = t_tok b n 900 x
theorem p_beh_num {b : Nat → Int} {n lo hi p : Int} {k : Int → pT → pR} {r : pS × pT} (h0 : 0 ≤ p) (h1 : p ≤ n) (h : p_num b n lo hi (t_tok b n 900 p) k = .inr r) (hk : ∀ v p', p < p' → p' ≤ n → k v (t_tok b n 900 p') = .inr r → p_beh b n p r) : p_beh b n p r := by
  obtain ⟨e1, e2⟩ := p_num_inv h
  have := t_tok_pos (b := b) (most := 900) h0 h1 (by omega)
  exact hk _ _ this.1 this.2 e2
theorem p_line_beh {b : Nat → Int} {n : Int} {σ : pS} {T : pT} {r : pS × pT} (h0 : 0 ≤ T.2.2.1) (h1 : T.2.2.1 ≤ n) (h : p_line b n σ T = .inr r) : T.1 = 2 ∧ p_beh b n T.2.2.1 r := by
  have hw : ∀ p p', p ≤ p' → p_beh b n p' r → p_beh b n p r := fun p p' hp ⟨x, x1, x2, x3⟩ => ⟨x, by omega, x2, x3⟩
  unfold p_line at h
  split at h
  · cases h
  next ht =>
    refine ⟨by omega, ?_⟩
    split at h
    · unfold p_seat at h
      split at h
      · cases h
      · obtain ⟨e1, e2⟩ := p_new_inv h
        have g := t_tok_pos (b := b) (most := 900) h0 h1 (by omega)
        refine hw _ _ (by omega) (p_beh_num (by omega) g.2 e2 (fun v p' g1 g2 hk => ?_))
        cases hk
        exact ⟨p', by omega, g2, rfl⟩
    split at h
    · unfold p_man at h
      split at h
      · cases h
      · obtain ⟨e1, e2⟩ := p_new_inv h
        have g := t_tok_pos (b := b) (most := 900) h0 h1 (by omega)
        refine hw _ _ (by omega) (p_beh_num (by omega) g.2 e2 (fun v p' g1 g2 hk => ?_))
        cases hk
        exact ⟨p', by omega, g2, rfl⟩
    split at h
    · unfold p_coat at h
      split at h
      · cases h
      · obtain ⟨e1, e2⟩ := p_new_inv h
        have g := t_tok_pos (b := b) (most := 900) h0 h1 (by omega)
        obtain ⟨e3, e4⟩ := p_ref_inv e2
        have g' := t_tok_pos (b := b) (most := 900) (by omega) g.2 (by omega)
        refine hw _ _ (by omega) (p_beh_num (by omega) g'.2 e4 (fun v p' g1 g2 hk => ?_))
        refine hw _ _ (by omega) (p_beh_num (by omega) g2 hk (fun v p'' g3 g4 hk2 => ?_))
        cases hk2
        exact ⟨p'', by omega, g4, rfl⟩
    split at h
    · unfold p_cold at h
      split at h
      · cases h
      · refine p_beh_num h0 h1 h (fun v p' g1 g2 hk => ?_)
        split at hk
        · cases hk
        · refine hw _ _ (by omega) (p_beh_num (by omega) g2 hk (fun v p'' g3 g4 hk2 => ?_))
          cases hk2
          exact ⟨p'', by omega, g4, rfl⟩
    split at h
    · unfold p_once at h
      split at h
      · cases h
      · refine p_beh_num h0 h1 h (fun v p' g1 g2 hk => ?_)
        cases hk
        exact ⟨p', by omega, g2, rfl⟩
    split at h
    · unfold p_once at h
      split at h
      · cases h
      · refine p_beh_num h0 h1 h (fun v p' g1 g2 hk => ?_)
        cases hk
        exact ⟨p', by omega, g2, rfl⟩
    split at h
    · unfold p_once at h
      split at h
      · cases h
      · refine p_beh_num h0 h1 h (fun v p' g1 g2 hk => ?_)
        cases hk
        exact ⟨p', by omega, g2, rfl⟩
    split at h
    · unfold p_once at h
      split at h
      · cases h
      · refine p_beh_num h0 h1 h (fun v p' g1 g2 hk => ?_)
        cases hk
        exact ⟨p', by omega, g2, rfl⟩
    · cases h
/-- one round of the text: what both sides owe -/
def p_inv (b : Nat → Int) (n : Int) (f : Nat) (q : Int) (σ : pS) (T : pT) (pos : Int) : Prop := T = t_tok b n 900 pos ∧ (0 ≤ pos ∧ pos ≤ n ∧ n ≤ 940) ∧ (0 ≤ q ∧ 2 * q ≤ pos) ∧ n - pos + 1 ≤ (f : Int) ∧ p_loop b n f q σ T = p_text b n
theorem p_inv_0 {b : Nat → Int} {n : Int} (h0 : 0 ≤ n) (h1 : n ≤ 940) : p_inv b n 1000 0 p_s0 (t_tok b n 900 0) 0 := ⟨rfl, ⟨by omega, h0, h1⟩, ⟨by omega, by omega⟩, by omega, rfl⟩
theorem p_inv_end {b : Nat → Int} {n : Int} {f : Nat} {q : Int} {σ : pS} {T : pT} {pos : Int} (h : p_inv b n f q σ T pos) (hT : T.1 = 0) : p_text b n = .inr (q, σ) := by
  obtain ⟨e1, e2, e3, e4, e5⟩ := h
  obtain ⟨f', rfl⟩ : ∃ f', f = f' + 1 := ⟨f - 1, by omega⟩
  rw [← e5]
  unfold p_loop
  rw [if_pos hT]
theorem p_inv_bad {b : Nat → Int} {n : Int} {f : Nat} {q : Int} {σ : pS} {T : pT} {pos : Int} (h : p_inv b n f q σ T pos) (hT : T.1 ≠ 0) {e : Int × Int} (hl : p_line b n σ T = .inl e) : p_text b n = .inl e := by
  obtain ⟨e1, e2, e3, e4, e5⟩ := h
  obtain ⟨f', rfl⟩ : ∃ f', f = f' + 1 := ⟨f - 1, by omega⟩
  rw [← e5]
  unfold p_loop
  rw [if_neg hT, hl]
theorem p_inv_bad2 {b : Nat → Int} {n : Int} {f : Nat} {q : Int} {σ : pS} {T : pT} {pos : Int} (h : p_inv b n f q σ T pos) (hT : T.1 ≠ 0) {σ' : pS} {T' : pT} (hl : p_line b n σ T = .inr (σ', T')) (h5 : ¬ (T'.1 = 5 ∧ T'.2.2.2 = 59)) : p_text b n = .inl (T'.2.1, 1) := by
  obtain ⟨e1, e2, e3, e4, e5⟩ := h
  obtain ⟨f', rfl⟩ : ∃ f', f = f' + 1 := ⟨f - 1, by omega⟩
  rw [← e5]
  unfold p_loop
  rw [if_neg hT, hl]
  dsimp only
  rw [if_neg h5]
theorem p_inv_go {b : Nat → Int} {n : Int} {f : Nat} {q : Int} {σ : pS} {T : pT} {pos : Int} (h : p_inv b n f q σ T pos) (hT : T.1 ≠ 0) {σ' : pS} {T' : pT} (hl : p_line b n σ T = .inr (σ', T')) (h5 : T'.1 = 5 ∧ T'.2.2.2 = 59) : ∃ f', f = f' + 1 ∧ p_inv b n f' (q + 1) σ' (t_tok b n 900 T'.2.2.1) T'.2.2.1 := by
  obtain ⟨e1, e2, e3, e4, e5⟩ := h
  obtain ⟨f', rfl⟩ : ∃ f', f = f' + 1 := ⟨f - 1, by omega⟩
  have hT2 : T.1 = 2 := by
    unfold p_line at hl
    split at hl
    · cases hl
    · omega
  have hpos := t_tok_pos (b := b) (most := 900) (pos := pos) e2.1 e2.2.1 (by rw [← e1]; omega)
  rw [← e1] at hpos
  obtain ⟨_, x, x1, x2, x3⟩ := p_line_beh (by omega) hpos.2 hl
  dsimp only at x3
  have hp2 := t_tok_pos (b := b) (most := 900) (pos := x) (by omega) x2 (by rw [← x3]; omega)
  rw [← x3] at hp2
  refine ⟨f', rfl, rfl, ⟨by omega, hp2.2, e2.2.2⟩, ⟨by omega, by omega⟩, by omega, ?_⟩
  rw [← e5]
  conv => rhs; unfold p_loop
  rw [if_neg hT, hl]
  dsimp only
  rw [if_pos h5]
section XL4
variable {EX : (Nat → Prop) → State → Heap → Prop} {l : Launch} {kc : Nat → ClassId} {D : va_G} {xb : Nat} {ad : Nat → Option Nat}
def xr_nc : xPre := fun za _ _ => za = [xR 26]
def xo_nc : xPost := fun _ I L rv I' L' => rv = none ∧ L' = L ∧ I' = x_u I 25 3 0
theorem xk_nc (hE : z_EX EX) : x_Ok EX l zTB zNT kc D vwCl xb yTY ad yP0 46 0 xr_nc xo_nc := by
  refine x_meth (M := ym_X5_clear) hE y_prog 20 rfl (by decide) x_none_ok (fun za I L h => by subst h; exact (by decide : 1 ≤ 1)) (fun za I L h => ?_)
  subst h
  refine And.intro (by decide) ?_
  exact ⟨rfl, rfl, rfl⟩
def xr_lc : xPre := fun za _ _ => za = [xR 18]
def x_clr (I : xF) : xF := x_u (x_u (x_u (x_u (x_u (x_u (x_u (x_u (x_u I 17 0 0) 17 1 0) 17 2 0) 17 3 0) 17 4 0) 17 5 9) 17 6 1) 17 7 200) 25 3 0
def xo_lc : xPost := fun _ I L rv I' L' => rv = none ∧ L' = L ∧ I' = x_clr I
theorem xk_lc (hE : z_EX EX) : x_Ok EX l zTB zNT kc D vwCl xb yTY ad yP0 31 1 xr_lc xo_lc := by
  refine x_meth (ct := x_ctl [(46, 0, xr_nc, xo_nc)]) (M := ym_X3_clear) hE y_prog 60 rfl (by decide) (x_ctl_cons (xk_nc hE) x_ctl_nil) (fun za I L h => by subst h; exact (by decide : 1 ≤ 1)) (fun za I L h => ?_)
  subst h
  refine And.intro (by decide) ?_
  refine And.intro (by decide) ?_
  refine And.intro (by decide) ?_
  refine And.intro (by decide) ?_
  refine And.intro (by decide) ?_
  refine And.intro (by decide) ?_
  refine And.intro (by decide) ?_
  refine And.intro (by decide) ?_
  refine And.intro rfl ?_
  rintro rv I1 L1 ⟨rfl, rfl, rfl⟩
  exact ⟨rfl, rfl, rfl⟩
def xr_op : xPre := fun za I _ => ∃ m : Int, za = [xR 2, .inl m] ∧ (0 ≤ m ∧ m ≤ 900) ∧ 0 ≤ I 1 2 ∧ I 1 2 ≤ 940
def x_opI (I : xF) (m : Int) : xF := x_u (x_u (x_u (x_u I 1 3 m) 1 5 0) 1 9 0) 1 10 0
def xo_op : xPost := fun za I L rv I' L' => ∃ m : Int, za = [xR 2, .inl m] ∧ rv = none ∧ xo_adv [xR 2] (x_opI I m) L none I' L'
theorem xk_op (hE : z_EX EX) : x_Ok EX l zTB zNT kc D vwCl xb yTY ad yP0 99 2 xr_op xo_op := by
  refine x_meth (ct := x_ctl [(100, 1, xr_adv, xo_adv)]) (M := ym_X10_open) hE y_prog 40 rfl (by decide) (x_ctl_cons (xk_adv hE) x_ctl_nil) (fun za I L ⟨m, h, _⟩ => by subst h; exact (by decide : 2 ≤ 2)) (fun za I L ⟨m, h, hm, h0, h1⟩ => ?_)
  subst h
  refine And.intro hm ?_
  refine And.intro (by decide) ?_
  refine And.intro (by decide) ?_
  refine And.intro (by decide) ?_
  refine And.intro ⟨rfl, show (0 : Int) ≤ 0 by decide, show (0 : Int) ≤ I 1 2 from h0, show I 1 2 ≤ 940 from h1⟩ ?_
  intro rv I1 L1 h
  have h9 := h.1
  subst h9
  exact ⟨m, rfl, rfl, h⟩
def xo_ov : xPost := fun _ I L rv I' L' => L' = L ∧ ((I 1 6 = 0 ∧ rv = some (.inl 1) ∧ I' = I) ∨ (I 1 6 ≠ 0 ∧ rv = some (.inl 0) ∧ I' = x_bad I 1))
theorem xk_ov (hE : z_EX EX) : x_Ok EX l zTB zNT kc D vwCl xb yTY ad yP0 107 1 xr_t xo_ov := by
  refine x_meth (ct := x_ctl [(106, 0, xr_ref, xo_ref)]) (M := ym_X10_isOver) hE y_prog 30 rfl (by decide) (x_ctl_cons (xk_ref hE) x_ctl_nil) (fun za I L h => by subst h; exact (by decide : 1 ≤ 1)) (fun za I L h => ?_)
  subst h
  intro k (hk : k = I 1 6) _
  refine And.intro ?_ ?_
  · intro t1
    exact ⟨by decide, rfl, Or.inl ⟨by omega, rfl, rfl⟩⟩
  · intro t1
    refine And.intro ⟨1, rfl, by decide, by decide⟩ ?_
    rintro rv I3 L3 ⟨f, hf, rfl, rfl, rfl⟩
    cases hf
    refine And.intro (fun _ => ?_) (fun q => absurd rfl q)
    exact ⟨by decide, rfl, Or.inr ⟨by omega, rfl, rfl⟩⟩
theorem c_tok_end {T : pT} {I L : xF} (h : c_tok T I L) : I 1 6 = 0 ↔ T.1 = 0 := by
  obtain ⟨_, _, h⟩ := h
  rcases h with ⟨h1, h2⟩ | ⟨h1, h2⟩ | ⟨h1, h2, h3⟩ | ⟨h1, h2, h3⟩ | ⟨h1, h2, h3⟩
  · omega
  · omega
  · rcases h3 with ⟨w, _, h4, _⟩ | ⟨_, h4⟩ <;> omega
  · omega
  · omega
def xr_rt : xPre := fun za I _ => za = [xR 17] ∧ 0 ≤ I 1 2 ∧ I 1 2 ≤ 940
/-- the text is read: as the function says -/
def c_text (r : (Int × Int) ⊕ (Int × pS)) (rv : Option xV) (I' L' : xF) : Prop := match r with
  | .inl (at0, f) => rv = some (.inl 0) ∧ I' 1 9 = f ∧ I' 1 10 = at0
  | .inr (q, σ) => rv = some (.inl 1) ∧ I' 1 9 = 0 ∧ I' 16 2 = q ∧ c_hf σ.1 σ.2.1 σ.2.2.1 σ I' L'
def xo_rt : xPost := fun _ I L rv I' L' => c_text (p_text (I 2) (I 1 2)) rv I' L'
def ct_rt : List (Nat × Nat × xPre × xPost) := [(31, 1, xr_lc, xo_lc), (99, 2, xr_op, xo_op), (40, 4, c_pre0, c_post0 p_line), (110, 2, xr_ts, xo_ts), (107, 1, xr_t, xo_ov)]
theorem ct_rt_ok (hE : z_EX EX) : x_ctok EX l zTB zNT kc D vwCl xb yTY ad yP0 (x_ctl ct_rt) := x_ctl_cons (xk_lc hE) (x_ctl_cons (xk_op hE) (x_ctl_cons (xk_line hE) (x_ctl_cons (xk_ts hE) (x_ctl_cons (xk_ov hE) x_ctl_nil))))
set_option maxHeartbeats 4000000 in
theorem xk_rt (hE : z_EX EX) : x_Ok EX l zTB zNT kc D vwCl xb yTY ad yP0 39 5 xr_rt xo_rt := by
  refine x_loop (M := ym_X4_readText) hE y_prog 60 rfl (by decide) (ct_rt_ok hE) (fun za I L ⟨h, _⟩ => by subst h; exact (by decide : 1 ≤ 1)) (x_cut1 27) (fun za I L m pc lv sv I' L' => sv = [] ∧ lv = [(0, xR 17)] ∧ ∃ q σ T pos, c_all (I 2) (I 1 2) q σ T I' L' ∧ p_inv (I 2) (I 1 2) m q σ T pos) (fun za I L ⟨h, h0, h1⟩ => ?_) (fun za I L _ m pc lv sv I' L' hc hi => ?_)
  · subst h
    refine And.intro rfl ?_
    rintro rv I1 L1 ⟨rfl, rfl, rfl⟩
    refine And.intro (by decide) ?_
    refine And.intro (by decide) ?_
    refine And.intro ⟨900, rfl, by decide, show 0 ≤ I 1 2 from h0, show I 1 2 ≤ 940 from h1⟩ ?_
    rintro rv I2 L2 ⟨m, hm, rfl, _, f1, f2, f3⟩
    cases hm
    have f3 : c_tok (t_tok (I 2) (I 1 2) 900 0) I2 L2 := f3
    have e2 : ∀ r k, x_s4567 r k = false → I2 r k = x_opI (x_u (x_u (x_clr I) 16 2 0) 16 3 0) 900 r k := f1
    have hv : ∀ j : Nat, j < 4 → I2 17 (4 + j) = p_s0.2.2.2.2.2 j := fun j hj => by
      match j, hj with
      | 0, _ => exact e2 17 4 rfl
      | 1, _ => exact e2 17 5 rfl
      | 2, _ => exact e2 17 6 rfl
      | 3, _ => exact e2 17 7 rfl
      | j + 4, hj => omega
    have h253 : I2 25 3 = 0 := e2 25 3 rfl
    have hne : ∀ x u, ¬ c_ex I2 L2 x u := fun x u ⟨k, k1, _⟩ => by omega
    have h163 : I2 16 3 = 0 := e2 16 3 rfl
    refine ⟨1000, [(0, xR 17)], ⟨rfl, trivial⟩, rfl, rfl, 0, p_s0, _, 0, ⟨⟨funext (fun j => e2 2 j rfl), e2 1 2 rfl, e2 1 3 rfl, ⟨h0, h1⟩, e2 1 9 rfl, e2 16 2 rfl⟩, f3, fun hq => ?_, ⟨e2 17 0 rfl, e2 17 1 rfl, e2 17 2 rfl, e2 17 3 rfl⟩, ⟨by decide, by decide, by decide, by decide⟩, ⟨h253, fun x => ⟨fun q => absurd q (hne _ _), fun q => by cases q⟩, fun x => ⟨fun q => absurd q (hne _ _), fun q => by cases q⟩, fun x => ⟨fun q => absurd q (hne _ _), fun q => by cases q⟩, fun k hk => absurd hk (by omega)⟩, fun i hi => absurd hi (Nat.not_lt_zero i), ⟨by omega, by omega, fun j hj => by rw [h163]; exact Nat.zero_testBit _⟩, hv, fun c hc => absurd hc (Nat.not_lt_zero c)⟩, p_inv_0 h0 h1⟩
    have := t_tok_pos (b := I 2) (most := 900) (Int.le_refl 0) h0 hq
    omega
  · obtain rfl := x_cut1_ok hc
    obtain ⟨rfl, rfl, q, σ, T, pos, h, hinv⟩ := hi
    obtain ⟨i1, i2, i3, i4, i5⟩ := id hinv
    have e9 : I' 1 9 = 0 := h.1.2.2.2.2.1
    have e16 : I' 16 2 = q := h.1.2.2.2.2.2
    intro z (hz : z = I' 16 2) _
    refine And.intro ?_ ?_
    · intro t1
      exact absurd t1 (by omega)
    · intro t1 k (hk : k = I' 1 6) _
      refine And.intro ?_ ?_
      · intro t2
        have hT := (c_tok_end h.2.1).mp (by omega)
        refine And.intro rfl ?_
        rintro rv I1 L1 ⟨rfl, ⟨g1, rfl, rfl⟩ | ⟨g1, _⟩⟩
        · refine And.intro (by decide) ?_
          unfold xo_rt
          rw [p_inv_end hinv hT]
          exact ⟨rfl, e9, e16, h.2.2.2⟩
        · exact absurd g1 (by omega)
      · intro t2
        have hT : T.1 ≠ 0 := fun q => t2 (by have := (c_tok_end h.2.1).mpr q; omega)
        refine And.intro ⟨rfl, _, _, _, _, _, h⟩ ?_
        intro rv I1 L1 hp
        have hp1 := hp _ _ _ _ _ h
        rcases hr : p_line (I 2) (I 1 2) σ T with ⟨at0, f0⟩ | ⟨σ1, T1⟩
        · rw [hr] at hp1
          obtain ⟨rfl, l1, l2, l3⟩ := hp1
          refine And.intro (fun _ => ?_) (fun q => absurd rfl q)
          refine And.intro (by decide) ?_
          unfold xo_rt
          rw [p_inv_bad hinv hT hr]
          exact ⟨rfl, l1, l2⟩
        · rw [hr] at hp1
          obtain ⟨rfl, hc1⟩ := hp1
          refine And.intro (fun q => absurd q (by decide)) (fun _ => ?_)
          refine And.intro ⟨59, rfl, fun hk5 => c_ah_bh hc1 (by have := (c_tok_sign hc1.2.1).1.mp hk5; omega)⟩ ?_
          rintro rv I2 L2 ⟨x, hx, ⟨g1, g2, rfl, hadv⟩ | ⟨g1, rfl, g3, g4⟩⟩
          · cases hx
            have h5 := (c_tok_sign hc1.2.1).1.mp g1
            have h59 := (c_tok_sign hc1.2.1).2 g1
            have hc2 := c_ah_adv (by omega) hc1 hadv
            obtain ⟨f', rfl, hinv'⟩ := p_inv_go hinv hT hr ⟨h5, by omega⟩
            refine And.intro (fun _ => ?_) (fun q => absurd q (by decide))
            intro z2 (hz2 : z2 = I2 16 2) _
            have hz3 : z2 = q := by rw [hz2]; exact hc2.1.2.2.2.2.2
            refine Or.inl ⟨by omega, ?_⟩
            refine And.intro (show 0 ≤ z2 + 1 ∧ z2 + 1 ≤ 900 by omega) ?_
            obtain ⟨⟨a1, a2, a3, a4, a5, a6⟩, c2, c3, c4⟩ := hc2
            exact ⟨f', [(0, xR 17)], by omega, ⟨rfl, trivial⟩, rfl, rfl, q + 1, σ1, _, T1.2.2.1, ⟨⟨a1, a2, a3, a4, a5, (show z2 + 1 = q + 1 by omega)⟩, c2, c3, c4⟩, hinv'⟩
          · cases hx
            subst g3
            subst g4
            refine And.intro (fun q => absurd rfl q) (fun _ => ?_)
            refine And.intro (by decide) ?_
            unfold xo_rt
            rw [p_inv_bad2 hinv hT hr (fun q => g1 ⟨(c_tok_sign hc1.2.1).1.mpr q.1, by rw [(c_tok_sign hc1.2.1).2 ((c_tok_sign hc1.2.1).1.mpr q.1)]; exact q.2⟩)]
            exact ⟨rfl, rfl, hc1.2.1.1⟩
end XL4
