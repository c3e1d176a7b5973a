/-! ===== the reference reads a CAPITAL's text ===== -/
def x_sgS : List (Nat × Int × Int) := [(1, 0, 8), (1, 0, 6), (1, 0, 8), (1, 0, 40), (1, 0, 30), (1, 0, 9), (1, 0, 999), (1, 0, 8), (8, 0, 99), (6, 0, 20), (8, 0, 5), (8, 0, 20), (8, 0, 99), (8, -2147483648, 2147483647), (8, 0, 40), (3, -2147483648, 2147483647), (8, 0, 30), (8, 0, 5), (28, -2147483648, 2147483647), (8, 0, 7), (1, 0, 8), (1, 0, 44), (1, 0, 22), (1, 0, 62), (1, -2147483648, 2147483647), (1, 0, 22), (1, 0, 62), (1, -2147483648, 2147483647), (1, 0, 22), (1, 0, 62), (1, -2147483648, 2147483647), (1, 0, 22), (1, 0, 62), (1, -2147483648, 2147483647), (1, 0, 22), (1, 0, 62), (1, -2147483648, 2147483647), (1, 0, 22), (1, 0, 62), (1, -2147483648, 2147483647), (1, 0, 22), (1, 0, 62), (1, -2147483648, 2147483647), (1, 0, 22), (1, 0, 62), (1, -2147483648, 2147483647), (1, 0, 22), (1, 0, 62), (1, -2147483648, 2147483647), (1, 0, 22), (1, 0, 62), (1, -2147483648, 2147483647), (1, 0, 22), (1, 0, 62), (1, -2147483648, 2147483647), (1, 0, 22), (1, 0, 62), (1, -2147483648, 2147483647), (1, 0, 22), (1, 0, 62), (1, -2147483648, 2147483647), (1, 0, 22), (1, 0, 62), (1, -2147483648, 2147483647), (1, 0, 22), (1, 0, 62), (1, -2147483648, 2147483647), (1, 0, 22), (1, 0, 62), (1, -2147483648, 2147483647), (1, 0, 22), (1, 0, 62), (1, -2147483648, 2147483647), (1, 0, 22), (1, 0, 62), (1, -2147483648, 2147483647), (1, 0, 22), (1, 0, 62), (1, -2147483648, 2147483647), (1, 0, 22), (1, 0, 62), (1, -2147483648, 2147483647), (1, 0, 22), (1, 0, 62), (1, -2147483648, 2147483647), (1, 0, 22), (1, 0, 62), (1, -2147483648, 2147483647), (1, 0, 22), (1, 0, 62), (1, -2147483648, 2147483647), (1, 0, 22), (1, 0, 62), (1, -2147483648, 2147483647), (1, 0, 22), (1, 0, 62), (1, -2147483648, 2147483647), (1, 0, 22), (1, 0, 62), (1, -2147483648, 2147483647), (1, 0, 22), (1, 0, 62), (1, -2147483648, 2147483647), (1, 0, 22), (1, 0, 62), (1, -2147483648, 2147483647), (1, 0, 22), (1, 0, 62), (1, -2147483648, 2147483647), (1, 0, 22), (1, 0, 62), (1, -2147483648, 2147483647), (1, 0, 22), (1, 0, 62), (1, -2147483648, 2147483647), (1, 0, 22), (1, 0, 62), (1, -2147483648, 2147483647), (1, 0, 22), (1, 0, 62), (1, -2147483648, 2147483647), (1, 0, 22), (1, 0, 62), (1, -2147483648, 2147483647), (1, 0, 22), (1, 0, 62), (1, -2147483648, 2147483647), (1, 0, 22), (1, 0, 62), (1, -2147483648, 2147483647), (1, 0, 22), (1, 0, 62), (1, -2147483648, 2147483647), (1, 0, 22), (1, 0, 62), (1, -2147483648, 2147483647), (1, 0, 22), (1, 0, 62), (1, -2147483648, 2147483647), (1, 0, 22), (1, 0, 62), (1, -2147483648, 2147483647), (1, 0, 22), (1, 0, 62), (1, -2147483648, 2147483647), (1, 0, 22), (1, 0, 62), (1, -2147483648, 2147483647), (1, 0, 22), (1, 0, 62), (1, -2147483648, 2147483647), (1, 0, 22), (1, 0, 62), (1, -2147483648, 2147483647), (1, 0, 22), (1, 0, 62), (1, -2147483648, 2147483647), (1, 0, 22), (1, 0, 62), (1, -2147483648, 2147483647), (1, 0, 22), (1, 0, 62), (1, -2147483648, 2147483647), (1, 0, 22), (1, 0, 62), (1, -2147483648, 2147483647), (1, 0, 22), (1, 0, 62), (1, -2147483648, 2147483647), (1, 0, 22), (1, 0, 62), (1, -2147483648, 2147483647), (1, 0, 22), (1, 0, 62), (1, -2147483648, 2147483647), (1, 0, 22), (1, 0, 62), (1, -2147483648, 2147483647), (1, 0, 22), (1, 0, 62), (1, -2147483648, 2147483647), (1, 0, 22), (1, 0, 62), (1, -2147483648, 2147483647), (1, 0, 22), (1, 0, 62), (1, -2147483648, 2147483647), (1, 0, 22), (1, 0, 62), (1, -2147483648, 2147483647), (1, 0, 22), (1, 0, 62), (1, -2147483648, 2147483647), (1, 0, 22), (1, 0, 62), (1, -2147483648, 2147483647), (1, 0, 22), (1, 0, 62), (1, -2147483648, 2147483647), (1, 0, 22), (1, 0, 62), (1, -2147483648, 2147483647)]
def x_bnd (sg : List (Nat × Int × Int)) (k : Nat) (lo hi : Int) : Bool := match y_seg sg k with
  | some q => decide (q.1 ≤ lo) && decide (hi ≤ q.2)
  | none => true
theorem x_bnd_ok {sg : List (Nat × Int × Int)} {k : Nat} {lo hi : Int} (h : x_bnd sg k lo hi = true) (q : Int × Int) (hq : y_seg sg k = some q) : q.1 ≤ lo ∧ hi ≤ q.2 := by
  unfold x_bnd at h
  rw [hq, Bool.and_eq_true] at h
  exact ⟨of_decide_eq_true h.1, of_decide_eq_true h.2⟩
theorem x_sgH0 : ∀ k : Fin 62, x_bnd x_sgH k.val 0 0 = true := by decide
theorem x_sgS0 : ∀ k : Fin 237, x_bnd x_sgS (62 + k.val) 0 0 = true := by decide +kernel
theorem x_sgSH : ∀ k : Fin 62, y_seg x_sgS k.val = y_seg x_sgH k.val := by decide +kernel
theorem x_sgS8 : ∀ k : Fin 8, y_seg x_sgS (22 + k.val) = some (0, 5) ∧ y_seg x_sgS (38 + k.val) = some (0, 99) ∧ x_bnd x_sgS (65 + k.val) 0 5 = true ∧ x_bnd x_sgS (73 + k.val) 0 5 = true ∧ x_bnd x_sgS (81 + k.val) 0 99 = true := by decide +kernel
section XN5
variable {EX : (Nat → Prop) → State → Heap → Prop} {l : Launch} {kc : Nat → ClassId} {D : va_G} {xb : Nat} {ad : Nat → Option Nat}
def xr_tn2 : xPre := fun za I _ => ∃ m : Int, za = [xR 210, .inl m] ∧ 0 ≤ m ∧ m ≤ 940
def xo_tn2 : xPost := fun za I L rv I' L' => ∃ m : Int, za = [xR 210, .inl m] ∧ rv = none ∧ L' = L ∧ I' = x_u (x_u (x_u (x_u I 209 3 (I 209 2)) 209 2 0) 209 4 0) 209 5 m
theorem xk_tn2 (hE : z_EX EX) : x_Ok EX l zTB zNT kc D vwCl xb yTY ad yP0 165 0 xr_tn2 xo_tn2 := by
  refine x_meth (M := ym_X12_taken) hE y_prog 40 rfl (by decide) x_none_ok (fun za I L ⟨m, h, _⟩ => by subst h; exact (by decide : 2 ≤ 2)) (fun za I L ⟨m, h, hm⟩ => ?_)
  subst h
  intro n (hn : n = I 209 2) (bn : 0 ≤ n ∧ n ≤ 940)
  refine And.intro bn ?_
  refine And.intro (by decide) ?_
  refine And.intro (by decide) ?_
  refine And.intro hm ?_
  exact ⟨m, rfl, rfl, rfl, by rw [hn]⟩
def x_s212 (r k : Nat) : Bool := Nat.beq r 212
def xo_cl : xPost := fun _ I L rv I' L' => rv = none ∧ L' = L ∧ x_fi x_s212 I I' ∧ ∀ k : Nat, k < 62 → I' 212 k = (if k = 4 then 9 else if k = 5 then 1 else if k = 6 then 200 else 0)
theorem xk_cl (hE : z_EX EX) : x_Ok EX l zTB zNT kc D vwCl xb yTY ad yP0 171 0 xr_m xo_cl := by
  refine x_loop (M := ym_X12_clears) hE y_prog 60 rfl (by decide) x_none_ok (fun za I L h => by subst h; exact (by decide : 1 ≤ 2)) (x_cut1 2) (fun za I L n pc lv sv I' L' => L' = L ∧ sv = [] ∧ x_fi x_s212 I I' ∧ ∃ i : Nat, i ≤ 62 ∧ n = 62 - i ∧ lv = [(0, xR 210), (1, .inl (i : Int))] ∧ ∀ k : Nat, k < i → I' 212 k = 0) (fun za I L h => ?_) (fun za I L _ n pc lv sv I' L' hc hi => ?_)
  · subst h
    exact ⟨62, [(0, xR 210), (1, .inl ((0 : Nat) : Int))], ⟨rfl, rfl, trivial⟩, rfl, rfl, x_fi_refl, 0, by omega, rfl, rfl, fun k hk => absurd hk (Nat.not_lt_zero k)⟩
  · obtain rfl := x_cut1_ok hc
    obtain ⟨rfl, rfl, hfi, i, hi, rfl, rfl, hz⟩ := hi
    refine And.intro ?_ ?_
    · intro t1
      refine And.intro (by decide) ?_
      refine And.intro (fun q hq => by cases hq; decide) ?_
      refine And.intro (by decide) ?_
      refine And.intro (fun q hq => by cases hq; decide) ?_
      refine And.intro (by decide) ?_
      refine And.intro (fun q hq => by cases hq; decide) ?_
      refine ⟨rfl, rfl, x_fi_u (x_fi_u (x_fi_u hfi rfl) rfl) rfl, fun k hk => ?_⟩
      show x_u (x_u (x_u I' 212 4 9) 212 5 1) 212 6 200 212 k = _
      rw [x_u_if, x_u_if, x_u_if, hz k (by omega)]
      by_cases h4 : k = 4
      · subst h4; rfl
      · by_cases h5 : k = 5
        · subst h5; rfl
        · by_cases h6 : k = 6
          · subst h6; rfl
          · simp [h4, h5, h6]
    · intro t1
      have hti : ((i : Int)).toNat = i := by omega
      refine And.intro (show 0 ≤ (i : Int) ∧ (i : Int) < 62 by omega) ?_
      refine And.intro (fun q hq => ?_) ?_
      · have hq : y_seg x_sgH ((i : Int)).toNat = some q := hq
        rw [hti] at hq
        exact x_bnd_ok (x_sgH0 ⟨i, by omega⟩) q hq
      rw [hti]
      refine Or.inl ⟨by omega, 62 - (i + 1), [(0, xR 210), (1, .inl ((i + 1 : Nat) : Int))], by omega, ⟨rfl, rfl, trivial⟩, rfl, rfl, x_fi_u hfi rfl, i + 1, by omega, rfl, rfl, fun k hk => ?_⟩
      rw [x_u_if]
      by_cases hk2 : k = i
      · rw [if_pos ⟨rfl, hk2⟩]
      · rw [if_neg (fun q => hk2 q.2)]
        exact hz k (by omega)
def xr_cap : xPre := fun za I _ => za = [xR 210] ∧ 0 ≤ I 209 2 ∧ I 209 2 ≤ 940
/-- what capital() answers -/
def p_ans (r : (Int × Int) ⊕ (Int × pS)) : Int := match r with
  | .inl (at0, _) => -1 - at0
  | .inr (q, _) => q
def xo_cap : xPost := fun _ I L rv I' L' => rv = some (.inl (p_ans (p_text (r_b I) (I 209 2))))
def ct_cap : List (Nat × Nat × xPre × xPost) := [(165, 0, xr_tn2, xo_tn2), (171, 0, xr_m, xo_cl), (175, 1, xr_next, xo_next), (188, 5, r_pre0, r_post0 p_line), (179, 2, xr_sg, xo_sg)]
theorem ct_cap_ok (hE : z_EX EX) : x_ctok EX l zTB zNT kc D vwCl xb yTY ad yP0 (x_ctl ct_cap) := x_ctl_cons (xk_tn2 hE) (x_ctl_cons (xk_cl hE) (x_ctl_cons (xk_next hE) (x_ctl_cons (xk_ln hE) (x_ctl_cons (xk_sg hE) x_ctl_nil))))
def x_cpI (za : List xV) (I L : xF) (m pc : Nat) (lv : List (Nat × xV)) (sv : List xV) (I' L' : xF) : Prop := sv = [] ∧ za = [xR 210] ∧
  ((pc = 35 ∧ lv = [(0, xR 210)] ∧ ∃ f q σ T pos, r_all (r_b I) (I 209 2) q σ T I' L' ∧ p_inv (r_b I) (I 209 2) f q σ T pos ∧ m = 2000 + f) ∨
   (∃ (q : Int) (σ : pS) (i : Nat), p_text (r_b I) (I 209 2) = .inr (q, σ) ∧ I' 209 19 = q ∧ lv = [(0, xR 210), (1, .inl (i : Int))] ∧ ((pc = 80 ∧ i ≤ 299 ∧ m = 1000 + (299 - i)) ∨ (pc = 117 ∧ i ≤ 22 ∧ m = 500 + (22 - i)) ∨ (pc = 146 ∧ i ≤ 8 ∧ m = 8 - i))))
def x_cutC : Nat → Bool := fun pc => Nat.beq pc 35 || (Nat.beq pc 80 || (Nat.beq pc 117 || Nat.beq pc 146))
set_option maxRecDepth 20000 in
set_option maxHeartbeats 4000000 in
theorem xk_cap (hE : z_EX EX) : x_Ok EX l zTB zNT kc D vwCl xb yTY ad yP0 190 6 xr_cap xo_cap := by
  refine x_loop (M := ym_X12_capital) hE y_prog 90 rfl (by decide) (ct_cap_ok hE) (fun za I L ⟨h, _⟩ => by subst h; exact (by decide : 1 ≤ 2)) x_cutC x_cpI (fun za I L ⟨h, h0, h1⟩ => ?_) (fun za I L _ m pc lv sv I' L' hc hi => ?_)
  · subst h
    refine And.intro (by decide) ?_
    refine And.intro ⟨900, rfl, by decide, by decide⟩ ?_
    rintro rv I1 L1 ⟨m, hm, rfl, rfl, rfl⟩
    cases hm
    refine And.intro (by decide) ?_
    refine And.intro (by decide) ?_
    refine And.intro (by decide) ?_
    refine And.intro rfl ?_
    rintro rv I2 L2 ⟨rfl, rfl, hfi, hz⟩
    have e : ∀ k, I2 209 k = x_u (x_u (x_u (x_u (x_u (x_u (x_u (x_u I 209 0 0) 209 3 (I 209 2)) 209 2 0) 209 4 0) 209 5 900) 209 15 0) 209 19 0) 209 20 0 209 k := fun k => hfi 209 k rfl
    have e3 : I2 209 3 = I 209 2 := e 3
    have e4 : I2 209 4 = 0 := e 4
    have e5 : I2 209 5 = 900 := e 5
    have e19 : I2 209 19 = 0 := e 19
    have e20 : I2 209 20 = 0 := e 20
    have eb : r_b I2 = r_b I := funext (fun j => by unfold r_b; rw [hfi 210 j rfl]; rfl)
    refine And.intro ⟨rfl, by omega, by omega, by omega, by omega, by omega⟩ ?_
    rintro rv I3 L3 ⟨rfl, f1, f2, f3⟩
    rw [eb, e3, e4, e5] at f3
    have f12 : ∀ k, I3 212 k = I2 212 k := fun k => f1 212 k rfl
    refine ⟨3000, [(0, xR 210)], ⟨rfl, trivial⟩, rfl, rfl, Or.inl ⟨rfl, rfl, 1000, 0, p_s0, _, 0, ⟨⟨(r_b_fi f1).trans eb, (f1 209 3 rfl).trans e3, (f1 209 5 rfl).trans e5, ⟨h0, h1⟩, (f1 209 19 rfl).trans e19, (f1 209 15 rfl).trans (e 15)⟩, f3, fun hq => ?_, ⟨(f12 0).trans (hz 0 (by decide)), (f12 1).trans (hz 1 (by decide)), (f12 2).trans (hz 2 (by decide)), (f12 7).trans (hz 7 (by decide))⟩, ⟨by decide, by decide, by decide, by decide⟩, ⟨fun i hi => absurd hi (Nat.not_lt_zero i), fun i hi => absurd hi (Nat.not_lt_zero i), fun i hi => absurd hi (Nat.not_lt_zero i)⟩, fun i hi => absurd hi (Nat.not_lt_zero i), ⟨by rw [f1 209 20 rfl]; omega, by rw [f1 209 20 rfl]; omega, fun j hj => by rw [f1 209 20 rfl, e20]; exact Nat.zero_testBit _⟩, fun j hj => ?_, fun c hc9 => absurd hc9 (Nat.not_lt_zero c)⟩, p_inv_0 h0 h1, rfl⟩⟩
    · have := t_tok_pos (b := r_b I) (most := 900) (Int.le_refl 0) h0 hq
      omega
    · rw [f12]
      match j, hj with
      | 0, _ => exact hz 3 (by decide)
      | 1, _ => exact hz 4 (by decide)
      | 2, _ => exact hz 5 (by decide)
      | 3, _ => exact hz 6 (by decide)
      | j + 4, hj => omega
  · obtain ⟨rfl, rfl, h35 | ⟨q, σ, i, htx, h19, rfl, h80 | h117 | h146⟩⟩ := hi
    · obtain ⟨rfl, rfl, f, q, σ, T, pos, h, hinv, rfl⟩ := h35
      intro k (hk : k = I' 209 11) _
      refine And.intro ?_ ?_
      · intro t1
        have hT := (r_tok_end h.2.1).mp (by omega)
        exact ⟨1299, [(0, xR 210), (1, .inl ((0 : Nat) : Int))], by omega, ⟨rfl, rfl, trivial⟩, rfl, rfl, Or.inr ⟨q, σ, 0, p_inv_end hinv hT, h.1.2.2.2.2.1, rfl, Or.inl ⟨rfl, by omega, rfl⟩⟩⟩
      · intro t1
        have hT : T.1 ≠ 0 := fun q => t1 (by have := (r_tok_end h.2.1).mpr q; omega)
        refine And.intro ⟨rfl, _, _, _, _, _, h⟩ ?_
        intro rv I1 L1 hp
        have hp1 := hp _ _ _ _ _ h
        rcases hr : p_line (r_b I) (I 209 2) σ T with ⟨at0, f0⟩ | ⟨σ1, T1⟩
        · rw [hr] at hp1
          obtain ⟨rfl, l1, l2⟩ := hp1
          refine And.intro (fun _ => ?_) (fun q => absurd rfl q)
          intro z (hz : z = I1 209 16) (bz : 0 ≤ z ∧ z ≤ 940)
          refine Or.inl ⟨by omega, ?_⟩
          unfold xo_cap
          rw [p_inv_bad hinv hT hr, hz, l2]
          rfl
        · rw [hr] at hp1
          obtain ⟨rfl, hc1⟩ := hp1
          refine And.intro (fun q => absurd q (by decide)) (fun _ => ?_)
          refine And.intro ⟨59, rfl, fun hk5 => r_all_bh hc1 (by have := (r_tok_sign hc1.2.1).1.mp hk5; omega)⟩ ?_
          rintro rv I2 L2 ⟨x, hx, ⟨g1, g2, rfl, hadv⟩ | ⟨g1, rfl, g3, g4⟩⟩
          · cases hx
            have h5 := (r_tok_sign hc1.2.1).1.mp g1
            have h59 := (r_tok_sign hc1.2.1).2 g1
            have hc2 := r_all_next (by omega) hc1 hadv
            obtain ⟨f', rfl, hinv'⟩ := p_inv_go hinv hT hr ⟨h5, by omega⟩
            obtain ⟨⟨a1, a2, a3, a4, a5⟩, c2, c3, c4⟩ := hc2
            have hq := hinv.2.2.1
            have hpo := hinv.2.1
            refine And.intro (fun _ => ?_) (fun q => absurd q (by decide))
            intro z2 (hz2 : z2 = I2 209 19) _
            refine Or.inl ⟨by omega, ?_⟩
            refine And.intro (show -2147483648 ≤ z2 + 1 ∧ z2 + 1 ≤ 2147483647 by omega) ?_
            exact ⟨2000 + f', [(0, xR 210)], by omega, ⟨rfl, trivial⟩, rfl, rfl, Or.inl ⟨rfl, rfl, f', q + 1, σ1, _, T1.2.2.1, ⟨⟨a1, a2, a3, a4, (show z2 + 1 = q + 1 by omega), a5.2⟩, c2, c3, c4⟩, hinv', rfl⟩⟩
          · cases hx
            subst g3
            subst g4
            refine And.intro (fun q => absurd rfl q) (fun _ => ?_)
            intro z (hz : z = I1 209 12) (bz : 0 ≤ z ∧ z ≤ 940)
            refine Or.inl ⟨by omega, ?_⟩
            unfold xo_cap
            rw [p_inv_bad2 hinv hT hr (fun q => g1 ⟨(r_tok_sign hc1.2.1).1.mpr q.1, by rw [(r_tok_sign hc1.2.1).2 ((r_tok_sign hc1.2.1).1.mpr q.1)]; exact q.2⟩), hz, hc1.2.1.1]
            rfl
    · obtain ⟨rfl, hi, rfl⟩ := h80
      have hti : ((i : Int)).toNat = i := by omega
      refine And.intro ?_ ?_
      · intro t1
        exact ⟨522, [(0, xR 210), (1, .inl ((0 : Nat) : Int))], by omega, ⟨rfl, rfl, trivial⟩, rfl, rfl, Or.inr ⟨q, σ, 0, htx, h19, rfl, Or.inr (Or.inl ⟨rfl, by omega, rfl⟩)⟩⟩
      · intro t1
        refine And.intro ?_ ?_
        · intro t2
          refine And.intro (show 0 ≤ (i : Int) ∧ (i : Int) < 299 by omega) ?_
          refine And.intro (fun w hw => ?_) ?_
          · have hw : y_seg x_sgS ((i : Int)).toNat = some w := hw
            rw [hti, show i = 62 + (i - 62) by omega] at hw
            exact x_bnd_ok (x_sgS0 ⟨i - 62, by omega⟩) w hw
          exact Or.inl ⟨by omega, 1000 + (299 - (i + 1)), [(0, xR 210), (1, .inl ((i + 1 : Nat) : Int))], by omega, ⟨rfl, rfl, trivial⟩, rfl, rfl, Or.inr ⟨q, σ, i + 1, htx, h19, rfl, Or.inl ⟨rfl, by omega, rfl⟩⟩⟩
        · intro t2
          refine And.intro (show 0 ≤ (i : Int) ∧ (i : Int) < 62 by omega) ?_
          intro z _ hsz
          refine And.intro (show 0 ≤ (i : Int) ∧ (i : Int) < 299 by omega) ?_
          refine And.intro (fun w hw => ?_) ?_
          · have hw : y_seg x_sgS ((i : Int)).toNat = some w := hw
            have h9 : y_seg x_sgS ((i : Int)).toNat = y_seg x_sgH ((i : Int)).toNat := by rw [hti]; exact x_sgSH ⟨i, by omega⟩
            rw [h9] at hw
            exact hsz w hw
          exact Or.inl ⟨by omega, 1000 + (299 - (i + 1)), [(0, xR 210), (1, .inl ((i + 1 : Nat) : Int))], by omega, ⟨rfl, rfl, trivial⟩, rfl, rfl, Or.inr ⟨q, σ, i + 1, htx, h19, rfl, Or.inl ⟨rfl, by omega, rfl⟩⟩⟩
    · obtain ⟨rfl, hi, rfl⟩ := h117
      refine And.intro ?_ ?_
      · intro t1
        exact ⟨8, [(0, xR 210), (1, .inl ((0 : Nat) : Int))], by omega, ⟨rfl, rfl, trivial⟩, rfl, rfl, Or.inr ⟨q, σ, 0, htx, h19, rfl, Or.inr (Or.inr ⟨rfl, by omega, rfl⟩)⟩⟩
      · intro t1
        refine Or.inl ⟨by omega, ?_⟩
        refine And.intro (show 0 ≤ 22 + (i : Int) ∧ 22 + (i : Int) < 44 by omega) ?_
        intro z _ _
        refine And.intro (show 0 ≤ (i : Int) ∧ (i : Int) < 44 by omega) ?_
        exact Or.inl ⟨by omega, 500 + (22 - (i + 1)), [(0, xR 210), (1, .inl ((i + 1 : Nat) : Int))], by omega, ⟨rfl, rfl, trivial⟩, rfl, rfl, Or.inr ⟨q, σ, i + 1, htx, h19, rfl, Or.inr (Or.inl ⟨rfl, by omega, rfl⟩)⟩⟩
    · obtain ⟨rfl, hi, rfl⟩ := h146
      refine And.intro ?_ ?_
      · intro t1
        refine And.intro (by decide) ?_
        intro z (hz : z = I' 209 19) _
        unfold xo_cap
        rw [htx, hz, h19]
        rfl
      · intro t1
        have hk := x_sgS8 ⟨i, by omega⟩
        refine Or.inl ⟨by omega, ?_⟩
        refine Or.inl ⟨by omega, ?_⟩
        refine And.intro (show 0 ≤ 22 + (i : Int) ∧ 22 + (i : Int) < 299 by omega) ?_
        intro z1 _ hs1
        have b1 : 0 ≤ z1 ∧ z1 ≤ 5 := hs1 (0, 5) (by show y_seg x_sgS (22 + (i : Int)).toNat = _; rw [show (22 + (i : Int)).toNat = 22 + i by omega]; exact hk.1)
        refine And.intro (show 0 ≤ 65 + (i : Int) ∧ 65 + (i : Int) < 299 by omega) ?_
        refine And.intro (fun w hw => ?_) ?_
        · have hw : y_seg x_sgS (65 + (i : Int)).toNat = some w := hw
          rw [show (65 + (i : Int)).toNat = 65 + i by omega] at hw
          have := x_bnd_ok hk.2.2.1 w hw
          omega
        refine Or.inl ⟨by omega, ?_⟩
        refine Or.inl ⟨by omega, ?_⟩
        refine And.intro (show 0 ≤ 22 + (i : Int) ∧ 22 + (i : Int) < 299 by omega) ?_
        intro z2 _ hs2
        have b2 : 0 ≤ z2 ∧ z2 ≤ 5 := hs2 (0, 5) (by show y_seg x_sgS (22 + (i : Int)).toNat = _; rw [show (22 + (i : Int)).toNat = 22 + i by omega]; exact hk.1)
        refine And.intro (show 0 ≤ 73 + (i : Int) ∧ 73 + (i : Int) < 299 by omega) ?_
        refine And.intro (fun w hw => ?_) ?_
        · have hw : y_seg x_sgS (73 + (i : Int)).toNat = some w := hw
          rw [show (73 + (i : Int)).toNat = 73 + i by omega] at hw
          have := x_bnd_ok hk.2.2.2.1 w hw
          omega
        refine Or.inl ⟨by omega, ?_⟩
        refine Or.inl ⟨by omega, ?_⟩
        refine And.intro (show 0 ≤ 38 + (i : Int) ∧ 38 + (i : Int) < 299 by omega) ?_
        intro z3 _ hs3
        have b3 : 0 ≤ z3 ∧ z3 ≤ 99 := hs3 (0, 99) (by show y_seg x_sgS (38 + (i : Int)).toNat = _; rw [show (38 + (i : Int)).toNat = 38 + i by omega]; exact hk.2.1)
        refine And.intro (show 0 ≤ 81 + (i : Int) ∧ 81 + (i : Int) < 299 by omega) ?_
        refine And.intro (fun w hw => ?_) ?_
        · have hw : y_seg x_sgS (81 + (i : Int)).toNat = some w := hw
          rw [show (81 + (i : Int)).toNat = 81 + i by omega] at hw
          have := x_bnd_ok hk.2.2.2.2 w hw
          omega
        exact Or.inl ⟨by omega, 8 - (i + 1), [(0, xR 210), (1, .inl ((i + 1 : Nat) : Int))], by omega, ⟨rfl, rfl, trivial⟩, rfl, rfl, Or.inr ⟨q, σ, i + 1, htx, h19, rfl, Or.inr (Or.inr ⟨rfl, by omega, rfl⟩)⟩⟩
end XN5
