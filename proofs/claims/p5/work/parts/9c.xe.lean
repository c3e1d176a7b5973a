/-! ===== the class: what is taken from the tape, NAMES ===== -/
def x_bh (I : xF) : Prop := 0 ≤ I 1 5 ∧ I 1 5 ≤ I 1 2 ∧ I 1 2 ≤ 940
/-- refused: why, and where -/
def x_bad (I : xF) (f : Int) : xF := x_u (x_u I 1 9 f) 1 10 (I 1 4)
section XT5
variable {EX : (Nat → Prop) → State → Heap → Prop} {l : Launch} {kc : Nat → ClassId} {D : va_G} {xb : Nat} {ad : Nat → Option Nat}
def xr_ts : xPre := fun za I _ => ∃ x : Int, za = [xR 2, .inl x] ∧ (I 1 6 = 5 → x_bh I)
def xo_ts : xPost := fun za I L rv I' L' => ∃ x : Int, za = [xR 2, .inl x] ∧ ((I 1 6 = 5 ∧ I 1 7 = x ∧ rv = some (.inl 1) ∧ xo_adv [xR 2] I L none I' L') ∨ (¬ (I 1 6 = 5 ∧ I 1 7 = x) ∧ rv = some (.inl 0) ∧ L' = L ∧ I' = x_bad I 1))
def ct_ts : List (Nat × Nat × xPre × xPost) := [(109, 0, xr_sign, xo_isSign), (106, 0, xr_ref, xo_ref), (100, 1, xr_adv, xo_adv)]
theorem ct_ts_ok (hE : z_EX EX) : x_ctok EX l zTB zNT kc D vwCl xb yTY ad yP0 (x_ctl ct_ts) := x_ctl_cons (xk_isSign hE) (x_ctl_cons (xk_ref hE) (x_ctl_cons (xk_adv hE) x_ctl_nil))
theorem xk_ts (hE : z_EX EX) : x_Ok EX l zTB zNT kc D vwCl xb yTY ad yP0 110 2 xr_ts xo_ts := by
  refine x_meth (M := ym_X10_takeSign) hE y_prog 30 rfl (by decide) (ct_ts_ok hE) (fun za I L ⟨x, h, _⟩ => by subst h; exact (by decide : 2 ≤ 2)) (fun za I L ⟨x, h, hb⟩ => ?_)
  subst h
  refine And.intro ⟨x, rfl⟩ ?_
  rintro rv I2 L2 ⟨g1, g2, x', hx', ⟨h1, h2, rfl⟩ | ⟨h1, rfl⟩⟩
  · subst g1
    subst g2
    cases hx'
    refine And.intro (fun _ => ?_) (fun q => absurd q (by decide))
    refine And.intro ⟨rfl, hb h1⟩ ?_
    intro rv I3 L3 h
    have h9 := h.1
    subst h9
    exact ⟨by decide, x, rfl, Or.inl ⟨h1, h2, rfl, h⟩⟩
  · subst g1
    subst g2
    cases hx'
    refine And.intro (fun q => absurd rfl q) (fun _ => ?_)
    refine And.intro ⟨1, rfl, by decide, by decide⟩ ?_
    rintro rv I3 L3 ⟨f, hf, rfl, rfl, rfl⟩
    cases hf
    exact ⟨by decide, x, rfl, Or.inr ⟨h1, rfl, rfl, rfl⟩⟩
def xr_tn : xPre := fun za I _ => ∃ lo hi : Int, za = [xR 2, .inl lo, .inl hi] ∧ (I 1 6 = 4 → x_bh I)
def xo_tn : xPost := fun za I L rv I' L' => ∃ lo hi : Int, za = [xR 2, .inl lo, .inl hi] ∧ ((I 1 6 = 4 ∧ lo ≤ I 1 7 ∧ I 1 7 ≤ hi ∧ rv = some (.inl (I 1 7)) ∧ xo_adv [xR 2] I L none I' L') ∨ (I 1 6 ≠ 4 ∧ rv = some (.inl (-1)) ∧ L' = L ∧ I' = x_bad I 1) ∨ (I 1 6 = 4 ∧ (I 1 7 < lo ∨ hi < I 1 7) ∧ rv = some (.inl (-1)) ∧ L' = L ∧ I' = x_bad I 2))
theorem xk_tn (hE : z_EX EX) : x_Ok EX l zTB zNT kc D vwCl xb yTY ad yP0 111 2 xr_tn xo_tn := by
  refine x_loop (M := ym_X10_takeNumber) hE y_prog 40 rfl (by decide) (ct_ts_ok hE) (fun za I L ⟨lo, hi, h, _⟩ => by subst h; exact (by decide : 3 ≤ 4)) (x_cut1 32) (fun za I L n pc lv sv I' L' => I' = I ∧ L' = L ∧ sv = [] ∧ ∃ lo hi : Int, za = [xR 2, .inl lo, .inl hi] ∧ lv = [(0, xR 2)] ∧ I 1 6 = 4 ∧ (I 1 7 < lo ∨ hi < I 1 7)) (fun za I L ⟨lo, hi, h, hb⟩ => ?_) (fun za I L _ n pc lv sv I' L' hc hi => ?_)
  · subst h
    intro k (hk : k = I 1 6) _
    refine And.intro ?_ ?_
    · intro t1 v (hv : v = I 1 7) _
      refine And.intro ?_ ?_
      · intro t2
        exact ⟨0, [(0, xR 2)], ⟨rfl, trivial⟩, rfl, rfl, rfl, lo, hi, rfl, rfl, by omega, by omega⟩
      · intro t2 v2 (hv2 : v2 = I 1 7) _
        refine And.intro ?_ ?_
        · intro t3 v3 (hv3 : v3 = I 1 7) _
          refine And.intro ⟨rfl, hb (by omega)⟩ ?_
          intro rv I3 L3 h
          have h9 := h.1
          subst h9
          exact ⟨lo, hi, rfl, Or.inl ⟨by omega, by omega, by omega, by rw [hv3], h⟩⟩
        · intro t3
          exact ⟨0, [(0, xR 2)], ⟨rfl, trivial⟩, rfl, rfl, rfl, lo, hi, rfl, rfl, by omega, by omega⟩
    · intro t1
      refine And.intro ⟨1, rfl, by decide, by decide⟩ ?_
      rintro rv I3 L3 ⟨f, hf, rfl, rfl, rfl⟩
      cases hf
      exact ⟨lo, hi, rfl, Or.inr (Or.inl ⟨by omega, rfl, rfl, rfl⟩)⟩
  · obtain rfl := x_cut1_ok hc
    obtain ⟨rfl, rfl, rfl, lo, hi, rfl, rfl, h4, h7⟩ := hi
    refine And.intro ⟨2, rfl, by decide, by decide⟩ ?_
    rintro rv I3 L3 ⟨f, hf, rfl, rfl, rfl⟩
    cases hf
    exact ⟨lo, hi, rfl, Or.inr (Or.inr ⟨h4, h7, rfl, rfl, rfl⟩)⟩
/-! NAMES of the draft: the cell 25, its rows 26 (letters), 27 (sort), 28 (number) -/
def xr_no : xPre := fun za _ _ => ∃ s t : Int, za = [xR 26, .inr (.inl s), .inl t]
def xo_no : xPost := fun za I L rv I' L' => I' = I ∧ L' = L ∧ ∃ s t : Int, za = [xR 26, .inr (.inl s), .inl t] ∧ ((∃ k : Nat, (k : Int) < I 25 3 ∧ L 26 k = s ∧ I 27 k = t ∧ rv = some (.inl (I 28 k)) ∧ 0 ≤ I 28 k ∧ I 28 k ≤ 7) ∨ ((∀ k : Nat, (k : Int) < I 25 3 → ¬ (L 26 k = s ∧ I 27 k = t)) ∧ rv = some (.inl (-1))))
theorem xk_no (hE : z_EX EX) : x_Ok EX l zTB zNT kc D vwCl xb yTY ad yP0 48 0 xr_no xo_no := by
  refine x_loop (M := ym_X5_numberOf) hE y_prog 50 rfl (by decide) x_none_ok (fun za I L ⟨s, t, h⟩ => by subst h; exact (by decide : 4 ≤ 5)) (x_cut1 3) (fun za I L n pc lv sv I' L' => I' = I ∧ L' = L ∧ sv = [] ∧ ∃ (s t : Int) (i : Nat), za = [xR 26, .inr (.inl s), .inl t] ∧ lv = [(0, xR 26), (1, .inr (.inl s)), (3, .inl t), (4, .inl (i : Int))] ∧ i ≤ 22 ∧ n = 22 - i ∧ ∀ k : Nat, k < i → ¬ (L 26 k = s ∧ I 27 k = t)) (fun za I L ⟨s, t, h⟩ => ?_) (fun za I L _ n pc lv sv I' L' hc hi => ?_)
  · subst h
    exact ⟨22, [(0, xR 26), (1, .inr (.inl s)), (3, .inl t), (4, .inl ((0 : Nat) : Int))], ⟨rfl, rfl, rfl, rfl, trivial⟩, rfl, rfl, rfl, s, t, 0, rfl, rfl, by omega, rfl, fun k hk => absurd hk (Nat.not_lt_zero k)⟩
  · obtain rfl := x_cut1_ok hc
    obtain ⟨rfl, rfl, rfl, s, t, i, rfl, rfl, hi, rfl, hno⟩ := hi
    intro z (hz : z = I' 25 3) (bz : 0 ≤ z ∧ z ≤ 22)
    refine And.intro ?_ ?_
    · intro t1
      exact ⟨rfl, rfl, s, t, rfl, Or.inr ⟨fun k hk => hno k (by omega), rfl⟩⟩
    · intro t1
      have hin : 0 ≤ (i : Int) ∧ (i : Int) < 22 := by omega
      have hti : ((i : Int)).toNat = i := by omega
      have hgo : ¬ (L' 26 i = s ∧ I' 27 i = t) → ∀ k : Nat, k < i + 1 → ¬ (L' 26 k = s ∧ I' 27 k = t) := fun hq k hk => by
        rcases Nat.lt_or_ge k i with g | g
        · exact hno k g
        · obtain rfl : k = i := by omega
          exact hq
      refine And.intro hin ?_
      intro w (hw : w = L' 26 ((i : Int)).toNat) _ c (hc : c = 0 ↔ w = s)
      rw [hti] at hw
      refine And.intro ?_ ?_
      · intro t2
        refine Or.inl ⟨by omega, 22 - (i + 1), [(0, xR 26), (1, .inr (.inl s)), (3, .inl t), (4, .inl ((i + 1 : Nat) : Int))], by omega, ⟨rfl, rfl, rfl, rfl, trivial⟩, rfl, rfl, rfl, s, t, i + 1, rfl, rfl, by omega, rfl, hgo (fun q => t2 (hc.mpr (hw.trans q.1)))⟩
      · intro t2
        refine And.intro hin ?_
        intro so (hso : so = I' 27 ((i : Int)).toNat) _
        rw [hti] at hso
        refine And.intro ?_ ?_
        · intro t3
          refine Or.inl ⟨by omega, 22 - (i + 1), [(0, xR 26), (1, .inr (.inl s)), (3, .inl t), (4, .inl ((i + 1 : Nat) : Int))], by omega, ⟨rfl, rfl, rfl, rfl, trivial⟩, rfl, rfl, rfl, s, t, i + 1, rfl, rfl, by omega, rfl, hgo (fun q => t3 (hso.trans q.2))⟩
        · intro t3
          refine And.intro hin ?_
          intro nu (hnu : nu = I' 28 ((i : Int)).toNat) hsg
          have bnu : 0 ≤ nu ∧ nu ≤ 7 := hsg _ (x_seg1 (by omega))
          rw [hti] at hnu
          subst hnu
          exact ⟨rfl, rfl, s, t, rfl, Or.inl ⟨i, by omega, hw.symm.trans (hc.mp t2), hso.symm.trans t3, rfl, bnu⟩⟩
def xr_an : xPre := fun za _ _ => ∃ s t q : Int, za = [xR 26, .inr (.inl s), .inl t, .inl q] ∧ (0 ≤ t ∧ t ≤ 2) ∧ (0 ≤ q ∧ q ≤ 7)
def xo_an : xPost := fun za I L rv I' L' => ∃ s t q : Int, za = [xR 26, .inr (.inl s), .inl t, .inl q] ∧ (((∃ k : Nat, (k : Int) < I 25 3 ∧ L 26 k = s) ∧ rv = some (.inl 0) ∧ I' = I ∧ L' = L) ∨ ((∀ k : Nat, (k : Int) < I 25 3 → L 26 k ≠ s) ∧ 22 ≤ I 25 3 ∧ rv = some (.inl 0) ∧ I' = I ∧ L' = L) ∨ ((∀ k : Nat, (k : Int) < I 25 3 → L 26 k ≠ s) ∧ 0 ≤ I 25 3 ∧ I 25 3 < 22 ∧ rv = some (.inl 1) ∧ L' = x_u L 26 (I 25 3).toNat s ∧ I' = x_u (x_u (x_u I 27 (I 25 3).toNat t) 28 (I 25 3).toNat q) 25 3 (I 25 3 + 1)))
theorem xk_an (hE : z_EX EX) : x_Ok EX l zTB zNT kc D vwCl xb yTY ad yP0 49 0 xr_an xo_an := by
  refine x_loop (M := ym_X5_addNew) hE y_prog 60 rfl (by decide) x_none_ok (fun za I L ⟨s, t, q, h, _⟩ => by subst h; exact (by decide : 5 ≤ 6)) (x_cut1 3) (fun za I L n pc lv sv I' L' => I' = I ∧ L' = L ∧ sv = [] ∧ ∃ (s t q : Int) (i : Nat), za = [xR 26, .inr (.inl s), .inl t, .inl q] ∧ ((0 ≤ t ∧ t ≤ 2) ∧ (0 ≤ q ∧ q ≤ 7)) ∧ lv = [(0, xR 26), (1, .inr (.inl s)), (3, .inl t), (4, .inl q), (5, .inl (i : Int))] ∧ i ≤ 22 ∧ n = 22 - i ∧ ∀ k : Nat, k < i → L 26 k ≠ s) (fun za I L ⟨s, t, q, h, hb⟩ => ?_) (fun za I L _ n pc lv sv I' L' hc hi => ?_)
  · subst h
    exact ⟨22, [(0, xR 26), (1, .inr (.inl s)), (3, .inl t), (4, .inl q), (5, .inl ((0 : Nat) : Int))], ⟨rfl, rfl, rfl, rfl, rfl, trivial⟩, rfl, rfl, rfl, s, t, q, 0, rfl, hb, rfl, by omega, rfl, fun k hk => absurd hk (Nat.not_lt_zero k)⟩
  · obtain rfl := x_cut1_ok hc
    obtain ⟨rfl, rfl, rfl, s, t, q, i, rfl, hb, rfl, hi, rfl, hno⟩ := hi
    intro z (hz : z = I' 25 3) (bz : 0 ≤ z ∧ z ≤ 22)
    refine And.intro ?_ ?_
    · intro t1 z2 (hz2 : z2 = I' 25 3) _
      refine And.intro ?_ ?_
      · intro t2 z3 (hz3 : z3 = I' 25 3) _
        have hin : 0 ≤ z3 ∧ z3 < 22 := by omega
        refine And.intro hin ?_
        intro z4 (hz4 : z4 = I' 25 3) _
        refine And.intro (show 0 ≤ z4 ∧ z4 < 22 by omega) ?_
        refine And.intro (fun w hw => ?_) ?_
        · rw [x_seg1 (by omega)] at hw
          cases hw
          exact hb.1
        intro z5 (hz5 : z5 = x_u I' 27 z4.toNat t 25 3) _
        have hz5 : z5 = I' 25 3 := hz5
        refine And.intro (show 0 ≤ z5 ∧ z5 < 22 by omega) ?_
        refine And.intro (fun w hw => ?_) ?_
        · rw [x_seg1 (by omega)] at hw
          cases hw
          exact hb.2
        intro z6 (hz6 : z6 = x_u (x_u I' 27 z4.toNat t) 28 z5.toNat q 25 3) _
        have hz6 : z6 = I' 25 3 := hz6
        refine Or.inl ⟨by omega, ?_⟩
        refine And.intro (show 0 ≤ z6 + 1 ∧ z6 + 1 ≤ 22 by omega) ?_
        refine ⟨by decide, s, t, q, rfl, Or.inr (Or.inr ⟨fun k hk => hno k (by omega), by omega, by omega, rfl, ?_, ?_⟩)⟩
        · rw [hz3]
        · rw [hz4, hz5, hz6]
      · intro t2
        exact ⟨by decide, s, t, q, rfl, Or.inr (Or.inl ⟨fun k hk => hno k (by omega), by omega, rfl, rfl, rfl⟩)⟩
    · intro t1
      have hti : ((i : Int)).toNat = i := by omega
      refine And.intro (show 0 ≤ (i : Int) ∧ (i : Int) < 22 by omega) ?_
      intro w (hw : w = L' 26 ((i : Int)).toNat) _ c (hc : c = 0 ↔ w = s)
      rw [hti] at hw
      refine And.intro ?_ ?_
      · intro t2
        refine Or.inl ⟨by omega, 22 - (i + 1), [(0, xR 26), (1, .inr (.inl s)), (3, .inl t), (4, .inl q), (5, .inl ((i + 1 : Nat) : Int))], by omega, ⟨rfl, rfl, rfl, rfl, rfl, trivial⟩, rfl, rfl, rfl, s, t, q, i + 1, rfl, hb, rfl, by omega, rfl, fun k hk => ?_⟩
        rcases Nat.lt_or_ge k i with g | g
        · exact hno k g
        · obtain rfl : k = i := by omega
          exact fun q => t2 (hc.mpr (hw.trans q))
      · intro t2
        exact ⟨by decide, s, t, q, rfl, Or.inl ⟨⟨i, by omega, hw.symm.trans (hc.mp t2)⟩, rfl, rfl, rfl⟩⟩
def xr_tm : xPre := fun za I _ => ∃ t : Int, za = [xR 2, xR 26, .inl t] ∧ (I 1 6 = 3 → x_bh I)
def xo_tm : xPost := fun za I L rv I' L' => ∃ t : Int, za = [xR 2, xR 26, .inl t] ∧ ((I 1 6 ≠ 3 ∧ rv = some (.inl (-1)) ∧ L' = L ∧ I' = x_bad I 1) ∨ (I 1 6 = 3 ∧ (∀ k : Nat, (k : Int) < I 25 3 → ¬ (L 26 k = L 1 8 ∧ I 27 k = t)) ∧ rv = some (.inl (-1)) ∧ L' = L ∧ I' = x_bad I 3) ∨ (I 1 6 = 3 ∧ ∃ k : Nat, (k : Int) < I 25 3 ∧ L 26 k = L 1 8 ∧ I 27 k = t ∧ rv = some (.inl (I 28 k)) ∧ 0 ≤ I 28 k ∧ xo_adv [xR 2] I L none I' L'))
def ct_tm : List (Nat × Nat × xPre × xPost) := [(48, 0, xr_no, xo_no), (49, 0, xr_an, xo_an), (106, 0, xr_ref, xo_ref), (100, 1, xr_adv, xo_adv)]
theorem ct_tm_ok (hE : z_EX EX) : x_ctok EX l zTB zNT kc D vwCl xb yTY ad yP0 (x_ctl ct_tm) := x_ctl_cons (xk_no hE) (x_ctl_cons (xk_an hE) (x_ctl_cons (xk_ref hE) (x_ctl_cons (xk_adv hE) x_ctl_nil)))
theorem xk_tm (hE : z_EX EX) : x_Ok EX l zTB zNT kc D vwCl xb yTY ad yP0 112 2 xr_tm xo_tm := by
  refine x_meth (M := ym_X10_takeName) hE y_prog 40 rfl (by decide) (ct_tm_ok hE) (fun za I L ⟨t, h, _⟩ => by subst h; exact (by decide : 3 ≤ 4)) (fun za I L ⟨t, h, hb⟩ => ?_)
  subst h
  intro k (hk : k = I 1 6) _
  refine And.intro ?_ ?_
  · intro t1 s (hs : s = L 1 8)
    subst hs
    refine And.intro ⟨_, t, rfl⟩ ?_
    rintro rv I2 L2 ⟨g1, g2, s', t', hst, ⟨k, k1, k2, k3, rfl, k4, k5⟩ | ⟨k1, rfl⟩⟩
    · subst g1
      subst g2
      cases hst
      refine And.intro (fun _ => ?_) (fun q => absurd q (by omega))
      refine And.intro ⟨rfl, hb (by omega)⟩ ?_
      intro rv I3 L3 h
      have h9 := h.1
      subst h9
      exact ⟨t, rfl, Or.inr (Or.inr ⟨by omega, k, k1, k2, k3, rfl, k4, h⟩)⟩
    · subst g1
      subst g2
      cases hst
      refine And.intro (fun q => absurd rfl q) (fun _ => ?_)
      refine And.intro ⟨3, rfl, by decide, by decide⟩ ?_
      rintro rv I3 L3 ⟨f, hf, rfl, rfl, rfl⟩
      cases hf
      exact ⟨t, rfl, Or.inr (Or.inl ⟨by omega, k1, rfl, rfl, rfl⟩)⟩
  · intro t1
    refine And.intro ⟨1, rfl, by decide, by decide⟩ ?_
    rintro rv I3 L3 ⟨f, hf, rfl, rfl, rfl⟩
    cases hf
    exact ⟨t, rfl, Or.inl ⟨by omega, rfl, rfl, rfl⟩⟩
def xr_tw : xPre := fun za I _ => ∃ t q : Int, za = [xR 2, xR 26, .inl t, .inl q] ∧ (0 ≤ t ∧ t ≤ 2) ∧ (0 ≤ q ∧ q ≤ 7) ∧ I 25 3 < 22 ∧ (I 1 6 = 3 → x_bh I)
def x_addI (I : xF) (t q : Int) : xF := x_u (x_u (x_u I 27 (I 25 3).toNat t) 28 (I 25 3).toNat q) 25 3 (I 25 3 + 1)
def x_addL (I L : xF) : xF := x_u L 26 (I 25 3).toNat (L 1 8)
def xo_tw : xPost := fun za I L rv I' L' => ∃ t q : Int, za = [xR 2, xR 26, .inl t, .inl q] ∧ ((I 1 6 ≠ 3 ∧ rv = some (.inl 0) ∧ L' = L ∧ I' = x_bad I 1) ∨ (I 1 6 = 3 ∧ (∃ k : Nat, (k : Int) < I 25 3 ∧ L 26 k = L 1 8) ∧ rv = some (.inl 0) ∧ L' = L ∧ I' = x_bad I 3) ∨ (I 1 6 = 3 ∧ 0 ≤ I 25 3 ∧ (∀ k : Nat, (k : Int) < I 25 3 → L 26 k ≠ L 1 8) ∧ rv = some (.inl 1) ∧ xo_adv [xR 2] (x_addI I t q) (x_addL I L) none I' L'))
theorem xk_tw (hE : z_EX EX) : x_Ok EX l zTB zNT kc D vwCl xb yTY ad yP0 113 2 xr_tw xo_tw := by
  refine x_meth (M := ym_X10_takeNewName) hE y_prog 40 rfl (by decide) (ct_tm_ok hE) (fun za I L ⟨t, q, h, _⟩ => by subst h; exact (by decide : 4 ≤ 4)) (fun za I L ⟨t, q, h, ht, hq, h22, hb⟩ => ?_)
  subst h
  intro k (hk : k = I 1 6) _
  refine And.intro ?_ ?_
  · intro t1 s (hs : s = L 1 8)
    subst hs
    refine And.intro ⟨_, t, q, rfl, ht, hq⟩ ?_
    rintro rv I2 L2 ⟨s', t', q', hst, ⟨k1, rfl, g1, g2⟩ | ⟨k1, k2, rfl, g1, g2⟩ | ⟨k1, k0, k2, rfl, g1, g2⟩⟩
    · subst g1
      subst g2
      cases hst
      refine And.intro (fun q => absurd rfl q) (fun _ => ?_)
      refine And.intro ⟨3, rfl, by decide, by decide⟩ ?_
      rintro rv I3 L3 ⟨f, hf, rfl, rfl, rfl⟩
      cases hf
      exact ⟨by decide, t, q, rfl, Or.inr (Or.inl ⟨by omega, k1, rfl, rfl, rfl⟩)⟩
    · exact absurd h22 (by omega)
    · cases hst
      subst g1
      subst g2
      refine And.intro (fun _ => ?_) (fun q => absurd q (by decide))
      refine And.intro ⟨rfl, hb (by omega)⟩ ?_
      intro rv I3 L3 h
      have h9 := h.1
      subst h9
      exact ⟨by decide, t, q, rfl, Or.inr (Or.inr ⟨by omega, k0, k1, rfl, h⟩)⟩
  · intro t1
    refine And.intro ⟨1, rfl, by decide, by decide⟩ ?_
    rintro rv I3 L3 ⟨f, hf, rfl, rfl, rfl⟩
    cases hf
    exact ⟨by decide, t, q, rfl, Or.inl ⟨by omega, rfl, rfl, rfl⟩⟩
end XT5
