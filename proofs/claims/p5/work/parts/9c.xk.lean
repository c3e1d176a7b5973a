/-! ===== the reference: what is taken ===== -/
def x_W256 : List Int := [1936023924, 7168366, 1668243828, 1668246628, 126948184253810, 448545973363, 470021335155, 465625246068, 1818846579, 1818586740, 1801810036, 512801993331, 6578553, 28530, 6385252, 7237492, 1650553445, 1751477348, 28518, 504363246962, 512970880104, 1684109683, 427021005928, 121450625394034]
def x_sgH : List (Nat × Int × Int) := [(1, 0, 8), (1, 0, 6), (1, 0, 8), (1, 0, 40), (1, 0, 30), (1, 0, 9), (1, 0, 999), (1, 0, 8), (8, 0, 99), (6, 0, 20), (8, 0, 5), (8, 0, 20), (8, 0, 99), (8, -2147483648, 2147483647), (8, 0, 40)]
def r_bh (I : xF) : Prop := 0 ≤ I 209 4 ∧ I 209 4 ≤ I 209 3 ∧ I 209 3 ≤ 940 ∧ 0 ≤ I 209 5 ∧ I 209 5 ≤ 940
def r_bad (I : xF) (f : Int) : xF := x_u (x_u I 209 15 f) 209 16 (I 209 12)
section XN1
variable {EX : (Nat → Prop) → State → Heap → Prop} {l : Launch} {kc : Nat → ClassId} {D : va_G} {xb : Nat} {ad : Nat → Option Nat}
def xr_bad : xPre := fun za _ _ => ∃ f : Int, za = [xR 210, .inl f] ∧ 0 ≤ f ∧ f ≤ 4
def xo_bad : xPost := fun za I L rv I' L' => ∃ f : Int, za = [xR 210, .inl f] ∧ rv = some (.inl 0) ∧ L' = L ∧ I' = r_bad I f
theorem xk_bad (hE : z_EX EX) : x_Ok EX l zTB zNT kc D vwCl xb yTY ad yP0 176 0 xr_bad xo_bad := by
  refine x_meth (M := ym_X12_bad) hE y_prog 30 rfl (by decide) x_none_ok (fun za I L ⟨f, h, _⟩ => by subst h; exact (by decide : 2 ≤ 2)) (fun za I L ⟨f, h, hf⟩ => ?_)
  subst h
  refine And.intro hf ?_
  intro p (hp : p = I 209 12) (bp : 0 ≤ p ∧ p ≤ 940)
  refine And.intro bp ?_
  exact ⟨by decide, f, rfl, rfl, rfl, by rw [hp]; rfl⟩
def xr_mw : xPre := fun za _ _ => ∃ w : Int, za = [xR 210, .inr (.inl w)]
def xo_mw : xPost := fun za I L rv I' L' => I' = I ∧ L' = L ∧ ∃ w : Int, za = [xR 210, .inr (.inl w)] ∧ ((I 209 11 = 1 ∧ L 209 17 = w ∧ rv = some (.inl 1)) ∨ (¬ (I 209 11 = 1 ∧ L 209 17 = w) ∧ rv = some (.inl 0)))
theorem xk_mw (hE : z_EX EX) : x_Ok EX l zTB zNT kc D vwCl xb yTY ad yP0 177 0 xr_mw xo_mw := by
  refine x_meth (M := ym_X12_isWord) hE y_prog 30 rfl (by decide) x_none_ok (fun za I L ⟨w, h⟩ => by subst h; exact (by decide : 3 ≤ 3)) (fun za I L ⟨w, h⟩ => ?_)
  subst h
  intro k (hk : k = I 209 11) _
  refine And.intro ?_ ?_
  · intro t1
    exact ⟨by decide, rfl, rfl, w, rfl, Or.inr ⟨fun q => t1 (hk.trans q.1), rfl⟩⟩
  · intro t1 v (hv : v = L 209 17) c (hc : c = 0 ↔ v = w)
    refine And.intro ?_ ?_
    · intro t2
      exact ⟨by decide, rfl, rfl, w, rfl, Or.inr ⟨fun q => t2 (hc.mpr (hv.trans q.2)), rfl⟩⟩
    · intro t2
      exact ⟨by decide, rfl, rfl, w, rfl, Or.inl ⟨hk.symm.trans t1, hv.symm.trans (hc.mp t2), rfl⟩⟩
def xr_ms : xPre := fun za _ _ => ∃ x : Int, za = [xR 210, .inl x]
def xo_ms : xPost := fun za I L rv I' L' => I' = I ∧ L' = L ∧ ∃ x : Int, za = [xR 210, .inl x] ∧ ((I 209 11 = 3 ∧ I 209 14 = x ∧ rv = some (.inl 1)) ∨ (¬ (I 209 11 = 3 ∧ I 209 14 = x) ∧ rv = some (.inl 0)))
theorem xk_ms (hE : z_EX EX) : x_Ok EX l zTB zNT kc D vwCl xb yTY ad yP0 178 0 xr_ms xo_ms := by
  refine x_meth (M := ym_X12_isSign) hE y_prog 30 rfl (by decide) x_none_ok (fun za I L ⟨w, h⟩ => by subst h; exact (by decide : 2 ≤ 2)) (fun za I L ⟨x, h⟩ => ?_)
  subst h
  intro k (hk : k = I 209 11) _
  refine And.intro ?_ ?_
  · intro t1
    exact ⟨by decide, rfl, rfl, x, rfl, Or.inr ⟨fun q => t1 (hk.trans q.1), rfl⟩⟩
  · intro t1 v (hv : v = I 209 14) _
    refine And.intro ?_ ?_
    · intro t2
      exact ⟨by decide, rfl, rfl, x, rfl, Or.inr ⟨fun q => t2 (hv.trans q.2), rfl⟩⟩
    · intro t2
      exact ⟨by decide, rfl, rfl, x, rfl, Or.inl ⟨hk.symm.trans t1, hv.symm.trans t2, rfl⟩⟩
def xr_sg : xPre := fun za I _ => ∃ x : Int, za = [xR 210, .inl x] ∧ (I 209 11 = 3 → r_bh I)
def xo_sg : xPost := fun za I L rv I' L' => ∃ x : Int, za = [xR 210, .inl x] ∧ ((I 209 11 = 3 ∧ I 209 14 = x ∧ rv = some (.inl 1) ∧ xo_next [xR 210] I L none I' L') ∨ (¬ (I 209 11 = 3 ∧ I 209 14 = x) ∧ rv = some (.inl 0) ∧ L' = L ∧ I' = r_bad I 1))
def ct_sg : List (Nat × Nat × xPre × xPost) := [(178, 0, xr_ms, xo_ms), (176, 0, xr_bad, xo_bad), (175, 1, xr_next, xo_next)]
theorem ct_sg_ok (hE : z_EX EX) : x_ctok EX l zTB zNT kc D vwCl xb yTY ad yP0 (x_ctl ct_sg) := x_ctl_cons (xk_ms hE) (x_ctl_cons (xk_bad hE) (x_ctl_cons (xk_next hE) x_ctl_nil))
theorem xk_sg (hE : z_EX EX) : x_Ok EX l zTB zNT kc D vwCl xb yTY ad yP0 179 2 xr_sg xo_sg := by
  refine x_meth (M := ym_X12_sign) hE y_prog 30 rfl (by decide) (ct_sg_ok hE) (fun za I L ⟨x, h, _⟩ => by subst h; exact (by decide : 2 ≤ 2)) (fun za I L ⟨x, h, hb⟩ => ?_)
  subst h
  refine And.intro ⟨x, rfl⟩ ?_
  rintro rv I2 L2 ⟨g1, g2, x', hx', ⟨h1, h2, rfl⟩ | ⟨h1, rfl⟩⟩
  · subst g1
    subst g2
    cases hx'
    refine And.intro (fun _ => ?_) (fun q => absurd q (by decide))
    refine And.intro ⟨rfl, hb h1⟩ ?_
    intro rv I3 L3 h
    have h9 := h.1
    subst h9
    exact ⟨by decide, x, rfl, Or.inl ⟨h1, h2, rfl, h⟩⟩
  · subst g1
    subst g2
    cases hx'
    refine And.intro (fun q => absurd rfl q) (fun _ => ?_)
    refine And.intro ⟨1, rfl, by decide, by decide⟩ ?_
    rintro rv I3 L3 ⟨f, hf, rfl, rfl, rfl⟩
    cases hf
    exact ⟨by decide, x, rfl, Or.inr ⟨h1, rfl, rfl, rfl⟩⟩
def xr_m : xPre := fun za _ _ => za = [xR 210]
def r_isn (I L : xF) : Prop := I 209 11 = 1 ∧ ∀ w : Nat, x_W256[w]? ≠ some (L 209 17)
def xo_mn : xPost := fun _ I L rv I' L' => I' = I ∧ L' = L ∧ ((r_isn I L ∧ rv = some (.inl 1)) ∨ (¬ r_isn I L ∧ rv = some (.inl 0)))
theorem xk_mn (hE : z_EX EX) : x_Ok EX l zTB zNT kc D vwCl xb yTY ad yP0 180 0 xr_m xo_mn := by
  refine x_loop (M := ym_X12_isName) hE y_prog 60 rfl (by decide) x_none_ok (fun za I L h => by subst h; exact (by decide : 1 ≤ 3)) (x_cut2 16 46) (fun za I L n pc lv sv I' L' => I' = I ∧ L' = L ∧ sv = [] ∧ ∃ (i : Nat) (v : Int), i ≤ 24 ∧ lv = [(0, xR 210), (1, .inl v), (2, .inl (i : Int))] ∧ (v = 0 ∨ v = 1) ∧ ((pc = 16 ∧ n = 2 * (24 - i) + 1 ∧ (v = 1 ↔ (I 209 11 = 1 ∧ ∀ w : Nat, w < i → x_W256[w]? ≠ some (L 209 17)))) ∨ (pc = 46 ∧ i < 24 ∧ n = 2 * (24 - i) ∧ (v = 1 ↔ (I 209 11 = 1 ∧ ∀ w : Nat, w < i + 1 → x_W256[w]? ≠ some (L 209 17)))))) (fun za I L h => ?_) (fun za I L _ n pc lv sv I' L' hc hi => ?_)
  · subst h
    intro k (hk : k = I 209 11) _
    refine And.intro ?_ ?_
    · intro t1
      exact ⟨49, [(0, xR 210), (1, .inl 0), (2, .inl ((0 : Nat) : Int))], ⟨rfl, rfl, rfl, trivial⟩, rfl, rfl, rfl, 0, 0, by omega, rfl, Or.inl rfl, Or.inl ⟨rfl, rfl, ⟨fun q => absurd q (by decide), fun q => absurd (hk.trans q.1) t1⟩⟩⟩
    · intro t1
      exact ⟨49, [(0, xR 210), (1, .inl 1), (2, .inl ((0 : Nat) : Int))], ⟨rfl, rfl, rfl, trivial⟩, rfl, rfl, rfl, 0, 1, by omega, rfl, Or.inr rfl, Or.inl ⟨rfl, rfl, ⟨fun _ => ⟨hk.symm.trans t1, fun w hw => absurd hw (Nat.not_lt_zero w)⟩, fun _ => rfl⟩⟩⟩
  · obtain ⟨rfl, rfl, rfl, i, v, hi, rfl, hv, h16 | h46⟩ := hi
    · obtain ⟨rfl, rfl, hiff⟩ := h16
      have hlen : x_W256.length = 24 := rfl
      refine And.intro ?_ ?_
      · intro t1
        rcases hv with rfl | rfl
        · refine ⟨by decide, rfl, rfl, Or.inr ⟨fun q => ?_, rfl⟩⟩
          exact absurd (hiff.mpr ⟨q.1, fun w _ => q.2 w⟩) (by decide)
        · refine ⟨by decide, rfl, rfl, Or.inl ⟨⟨(hiff.mp rfl).1, fun w hw => ?_⟩, rfl⟩⟩
          have := (List.getElem?_eq_some_iff.mp hw).1
          exact (hiff.mp rfl).2 w (by omega) hw
      · intro t1
        have hlt : i < x_W256.length := by omega
        refine And.intro ?_ ?_
        · intro t2
          refine ⟨2 * (24 - i), [(0, xR 210), (1, .inl 0), (2, .inl (i : Int))], by omega, ⟨rfl, rfl, rfl, trivial⟩, rfl, rfl, rfl, i, 0, hi, rfl, Or.inl rfl, Or.inr ⟨rfl, by omega, rfl, ⟨fun q => absurd q (by decide), fun q => ?_⟩⟩⟩
          have := hiff.mpr ⟨q.1, fun w hw => q.2 w (by omega)⟩
          omega
        · intro t2 s (hs : s = L' 209 17)
          have hv1 : v = 1 := by omega
          refine And.intro (show 0 ≤ (i : Int) ∧ (i : Int) < 24 by omega) ?_
          intro z _ (hz : ∀ x, x_W256[(i : Int).toNat]? = some x → z = x) w (hw : w = 0 ↔ s = z)
          have hzi : x_W256[i]? = some z := by
            have h9 := hz _ (List.getElem?_eq_getElem hlt)
            rw [h9]
            exact List.getElem?_eq_getElem hlt
          refine And.intro ?_ ?_
          · intro t3
            refine ⟨2 * (24 - i), [(0, xR 210), (1, .inl 0), (2, .inl (i : Int))], by omega, ⟨rfl, rfl, rfl, trivial⟩, rfl, rfl, rfl, i, 0, hi, rfl, Or.inl rfl, Or.inr ⟨rfl, by omega, rfl, ⟨fun q => absurd q (by decide), fun q => ?_⟩⟩⟩
            have h9 := q.2 i (by omega)
            rw [hzi, ← hw.mp t3, hs] at h9
            exact absurd rfl h9
          · intro t3
            refine ⟨2 * (24 - i), [(0, xR 210), (1, .inl 1), (2, .inl (i : Int))], by omega, ⟨rfl, rfl, rfl, trivial⟩, rfl, rfl, rfl, i, 1, hi, rfl, Or.inr rfl, Or.inr ⟨rfl, by omega, rfl, ⟨fun _ => ⟨(hiff.mp hv1).1, fun w' hw' hq => ?_⟩, fun _ => rfl⟩⟩⟩
            rcases Nat.lt_or_ge w' i with g | g
            · exact (hiff.mp hv1).2 w' g hq
            · obtain rfl : w' = i := by omega
              rw [hzi] at hq
              exact t3 (hw.mpr (hs.trans (Option.some.inj hq).symm))
    · obtain ⟨rfl, hlt, rfl, hiff⟩ := h46
      refine Or.inl ⟨by omega, 2 * (24 - (i + 1)) + 1, [(0, xR 210), (1, .inl v), (2, .inl ((i + 1 : Nat) : Int))], by omega, ⟨rfl, rfl, rfl, trivial⟩, rfl, rfl, rfl, i + 1, v, by omega, rfl, hv, Or.inl ⟨rfl, rfl, hiff⟩⟩
def xr_ii : xPre := fun za _ _ => ∃ v a b : Int, za = [.inl v, .inl a, .inl b]
def xo_ii : xPost := fun za I L rv I' L' => I' = I ∧ L' = L ∧ ∃ v a b : Int, za = [.inl v, .inl a, .inl b] ∧ ((a ≤ v ∧ v ≤ b ∧ rv = some (.inl 1)) ∨ ((v < a ∨ b < v) ∧ rv = some (.inl 0)))
theorem xk_ii (hE : z_EX EX) : x_Ok EX l zTB zNT kc D vwCl xb yTY ad yP0 166 0 xr_ii xo_ii := by
  refine x_meth (M := ym_X12_isIn) hE y_prog 30 rfl (by decide) x_none_ok (fun za I L ⟨v, a, b, h⟩ => by subst h; exact (by decide : 3 ≤ 3)) (fun za I L ⟨v, a, b, h⟩ => ?_)
  subst h
  refine And.intro ?_ ?_
  · intro t
    exact ⟨by decide, rfl, rfl, v, a, b, rfl, Or.inr ⟨by omega, rfl⟩⟩
  · intro t
    refine And.intro ?_ ?_
    · intro t2
      exact ⟨by decide, rfl, rfl, v, a, b, rfl, Or.inr ⟨by omega, rfl⟩⟩
    · intro t2
      exact ⟨by decide, rfl, rfl, v, a, b, rfl, Or.inl ⟨by omega, by omega, rfl⟩⟩
def xr_tk : xPre := fun za I _ => ∃ lo hi : Int, za = [xR 210, .inl lo, .inl hi] ∧ -1 ≤ lo ∧ hi ≤ 999 ∧ (I 209 11 = 2 → r_bh I)
def xo_tk : xPost := fun za I L rv I' L' => ∃ lo hi : Int, za = [xR 210, .inl lo, .inl hi] ∧ ((I 209 11 ≠ 2 ∧ rv = some (.inl 0) ∧ L' = L ∧ I' = r_bad I 1) ∨ (I 209 11 = 2 ∧ (I 209 14 < lo ∨ hi < I 209 14) ∧ rv = some (.inl 0) ∧ L' = L ∧ I' = r_bad I 2) ∨ (I 209 11 = 2 ∧ lo ≤ I 209 14 ∧ I 209 14 ≤ hi ∧ rv = some (.inl 1) ∧ xo_next [xR 210] (x_u I 209 18 (I 209 14)) L none I' L'))
def ct_tk : List (Nat × Nat × xPre × xPost) := [(166, 0, xr_ii, xo_ii), (176, 0, xr_bad, xo_bad), (175, 1, xr_next, xo_next)]
theorem ct_tk_ok (hE : z_EX EX) : x_ctok EX l zTB zNT kc D vwCl xb yTY ad yP0 (x_ctl ct_tk) := x_ctl_cons (xk_ii hE) (x_ctl_cons (xk_bad hE) (x_ctl_cons (xk_next hE) x_ctl_nil))
theorem xk_tk (hE : z_EX EX) : x_Ok EX l zTB zNT kc D vwCl xb yTY ad yP0 181 2 xr_tk xo_tk := by
  refine x_meth (M := ym_X12_takes) hE y_prog 40 rfl (by decide) (ct_tk_ok hE) (fun za I L ⟨lo, hi, h, _⟩ => by subst h; exact (by decide : 3 ≤ 3)) (fun za I L ⟨lo, hi, h, hlo, hhi, hb⟩ => ?_)
  subst h
  intro k (hk : k = I 209 11) _
  refine And.intro ?_ ?_
  · intro t1 v (hv : v = I 209 14) _
    refine And.intro ⟨_, _, _, rfl⟩ ?_
    rintro rv I2 L2 ⟨g1, g2, v', a', b', hx', ⟨h1, h2, rfl⟩ | ⟨h1, rfl⟩⟩
    · subst g1
      subst g2
      cases hx'
      refine And.intro (fun _ => ?_) (fun q => absurd q (by decide))
      intro v2 (hv2 : v2 = I2 209 14) _
      refine And.intro (show -1 ≤ v2 ∧ v2 ≤ 999 by omega) ?_
      refine And.intro ⟨rfl, hb (by omega)⟩ ?_
      intro rv I3 L3 h
      have h9 := h.1
      subst h9
      subst hv2
      exact ⟨by decide, lo, hi, rfl, Or.inr (Or.inr ⟨by omega, by omega, by omega, rfl, h⟩)⟩
    · subst g1
      subst g2
      cases hx'
      refine And.intro (fun q => absurd rfl q) (fun _ => ?_)
      refine And.intro ⟨2, rfl, by decide, by decide⟩ ?_
      rintro rv I3 L3 ⟨f, hf, rfl, rfl, rfl⟩
      cases hf
      exact ⟨by decide, lo, hi, rfl, Or.inr (Or.inl ⟨by omega, by omega, rfl, rfl, rfl⟩)⟩
  · intro t1
    refine And.intro ⟨1, rfl, by decide, by decide⟩ ?_
    rintro rv I3 L3 ⟨f, hf, rfl, rfl, rfl⟩
    cases hf
    exact ⟨by decide, lo, hi, rfl, Or.inl ⟨by omega, rfl, rfl, rfl⟩⟩
def xr_pt : xPre := fun za I _ => ∃ to lo hi : Int, za = [xR 210, .inl to, .inl lo, .inl hi] ∧ -1 ≤ lo ∧ hi ≤ 999 ∧ (I 209 11 = 2 → r_bh I) ∧ (0 ≤ to ∧ to < 62) ∧ ∀ q, y_seg x_sgH to.toNat = some q → q.1 ≤ lo ∧ hi ≤ q.2
def xo_pt : xPost := fun za I L rv I' L' => ∃ to lo hi : Int, za = [xR 210, .inl to, .inl lo, .inl hi] ∧ ((I 209 11 ≠ 2 ∧ rv = some (.inl 0) ∧ L' = L ∧ I' = r_bad I 1) ∨ (I 209 11 = 2 ∧ (I 209 14 < lo ∨ hi < I 209 14) ∧ rv = some (.inl 0) ∧ L' = L ∧ I' = r_bad I 2) ∨ (I 209 11 = 2 ∧ lo ≤ I 209 14 ∧ I 209 14 ≤ hi ∧ rv = some (.inl 1) ∧ ∃ I1, xo_next [xR 210] (x_u I 209 18 (I 209 14)) L none I1 L' ∧ I' = x_u I1 212 to.toNat (I 209 14)))
theorem xk_pt (hE : z_EX EX) : x_Ok EX l zTB zNT kc D vwCl xb yTY ad yP0 182 3 xr_pt xo_pt := by
  refine x_meth (ct := x_ctl [(181, 2, xr_tk, xo_tk)]) (M := ym_X12_puts) hE y_prog 40 rfl (by decide) (x_ctl_cons (xk_tk hE) x_ctl_nil) (fun za I L ⟨to, lo, hi, h, _⟩ => by subst h; exact (by decide : 4 ≤ 4)) (fun za I L ⟨to, lo, hi, h, hlo, hhi, hb, hto, hq⟩ => ?_)
  subst h
  refine And.intro ⟨lo, hi, rfl, hlo, hhi, hb⟩ ?_
  rintro rv I2 L2 ⟨lo', hi', hx, ⟨h1, rfl, g1, g2⟩ | ⟨h1, h2, rfl, g1, g2⟩ | ⟨h1, h2, h3, rfl, hn⟩⟩
  · cases hx
    subst g1
    subst g2
    refine And.intro (fun q => absurd rfl q) (fun _ => ?_)
    exact ⟨by decide, to, lo, hi, rfl, Or.inl ⟨h1, rfl, rfl, rfl⟩⟩
  · cases hx
    subst g1
    subst g2
    refine And.intro (fun q => absurd rfl q) (fun _ => ?_)
    exact ⟨by decide, to, lo, hi, rfl, Or.inr (Or.inl ⟨h1, h2, rfl, rfl, rfl⟩)⟩
  · cases hx
    refine And.intro (fun _ => ?_) (fun q => absurd q (by decide))
    intro g (hg : g = I2 209 18) _
    have hgv : g = I 209 14 := by rw [hg]; exact hn.2.1 209 18 rfl
    refine And.intro (show 0 ≤ to ∧ to < 62 from hto) ?_
    refine And.intro (fun w hw => ?_) ?_
    · have := hq w hw
      omega
    exact ⟨by decide, to, lo, hi, rfl, Or.inr (Or.inr ⟨h1, h2, h3, rfl, I2, hn, by rw [hgv]⟩)⟩
def xr_fd : xPre := fun za _ _ => ∃ fr mn : Int, za = [xR 210, .inl fr, .inl mn] ∧ 0 ≤ fr ∧ 0 ≤ mn ∧ fr + mn ≤ 44
def xo_fd : xPost := fun za I L rv I' L' => I' = I ∧ L' = L ∧ ∃ fr mn : Int, za = [xR 210, .inl fr, .inl mn] ∧ ((∃ k : Nat, (k : Int) < mn ∧ L 214 (fr.toNat + k) = L 209 17 ∧ rv = some (.inl (k : Int))) ∨ ((∀ k : Nat, (k : Int) < mn → L 214 (fr.toNat + k) ≠ L 209 17) ∧ rv = some (.inl (-1))))
theorem xk_fd (hE : z_EX EX) : x_Ok EX l zTB zNT kc D vwCl xb yTY ad yP0 183 0 xr_fd xo_fd := by
  refine x_loop (M := ym_X12_find) hE y_prog 40 rfl (by decide) x_none_ok (fun za I L ⟨fr, mn, h, _⟩ => by subst h; exact (by decide : 3 ≤ 4)) (x_cut1 2) (fun za I L n pc lv sv I' L' => I' = I ∧ L' = L ∧ sv = [] ∧ ∃ (fr mn : Int) (i : Nat), za = [xR 210, .inl fr, .inl mn] ∧ (0 ≤ fr ∧ 0 ≤ mn ∧ fr + mn ≤ 44) ∧ lv = [(0, xR 210), (1, .inl fr), (2, .inl mn), (3, .inl (i : Int))] ∧ (i : Int) ≤ mn ∧ (n : Int) = mn - i ∧ ∀ k : Nat, k < i → L 214 (fr.toNat + k) ≠ L 209 17) (fun za I L ⟨fr, mn, h, hb⟩ => ?_) (fun za I L _ n pc lv sv I' L' hc hi => ?_)
  · subst h
    exact ⟨mn.toNat, [(0, xR 210), (1, .inl fr), (2, .inl mn), (3, .inl ((0 : Nat) : Int))], ⟨rfl, rfl, rfl, rfl, trivial⟩, rfl, rfl, rfl, fr, mn, 0, rfl, hb, rfl, by omega, by omega, fun k hk => absurd hk (Nat.not_lt_zero k)⟩
  · obtain rfl := x_cut1_ok hc
    obtain ⟨rfl, rfl, rfl, fr, mn, i, rfl, hb, rfl, hi, hn, hno⟩ := hi
    refine And.intro ?_ ?_
    · intro t1
      exact ⟨rfl, rfl, fr, mn, rfl, Or.inr ⟨fun k hk => hno k (by omega), rfl⟩⟩
    · intro t1
      have hti : (fr + (i : Int)).toNat = fr.toNat + i := by omega
      refine Or.inl ⟨by omega, ?_⟩
      refine And.intro (show 0 ≤ fr + (i : Int) ∧ fr + (i : Int) < 44 by omega) ?_
      intro z (hz : z = L' 214 (fr + (i : Int)).toNat) _ s (hs : s = L' 209 17) c (hc : c = 0 ↔ z = s)
      rw [hti] at hz
      refine And.intro ?_ ?_
      · intro t2
        refine Or.inl ⟨by omega, (mn - (i + 1)).toNat, [(0, xR 210), (1, .inl fr), (2, .inl mn), (3, .inl ((i + 1 : Nat) : Int))], by omega, ⟨rfl, rfl, rfl, rfl, trivial⟩, rfl, rfl, rfl, fr, mn, i + 1, rfl, hb, rfl, by omega, by omega, fun k hk => ?_⟩
        rcases Nat.lt_or_ge k i with g | g
        · exact hno k g
        · obtain rfl : k = i := by omega
          exact fun q => t2 (hc.mpr (hz.trans (q.trans hs.symm)))
      · intro t2
        exact ⟨rfl, rfl, fr, mn, rfl, Or.inl ⟨i, by omega, hz.symm.trans ((hc.mp t2).trans hs), rfl⟩⟩
/-- is the word among the first k from fr on -/
def r_in (I L : xF) (fr : Nat) (mn : Int) : Prop := ∃ k : Nat, (k : Int) < mn ∧ L 214 (fr + k) = L 209 17
def xr_fr : xPre := fun za I L => ∃ to : Int, za = [xR 210, .inl to] ∧ (0 ≤ to ∧ to < 44) ∧ (r_isn I L → r_bh I)
def xo_fr : xPost := fun za I L rv I' L' => ∃ to : Int, za = [xR 210, .inl to] ∧ ((¬ r_isn I L ∧ rv = some (.inl 0) ∧ L' = L ∧ I' = r_bad I 1) ∨ (r_isn I L ∧ (r_in I L 22 (I 212 0) ∨ r_in I L 30 (I 212 1) ∨ r_in I L 36 (I 212 2)) ∧ rv = some (.inl 0) ∧ L' = L ∧ I' = r_bad I 3) ∨ (r_isn I L ∧ ¬ (r_in I L 22 (I 212 0) ∨ r_in I L 30 (I 212 1) ∨ r_in I L 36 (I 212 2)) ∧ rv = some (.inl 1) ∧ xo_next [xR 210] I (x_u L 214 to.toNat (L 209 17)) none I' L'))
def ct_fr : List (Nat × Nat × xPre × xPost) := [(180, 0, xr_m, xo_mn), (183, 0, xr_fd, xo_fd), (176, 0, xr_bad, xo_bad), (175, 1, xr_next, xo_next)]
theorem ct_fr_ok (hE : z_EX EX) : x_ctok EX l zTB zNT kc D vwCl xb yTY ad yP0 (x_ctl ct_fr) := x_ctl_cons (xk_mn hE) (x_ctl_cons (xk_fd hE) (x_ctl_cons (xk_bad hE) (x_ctl_cons (xk_next hE) x_ctl_nil)))
theorem xk_fr (hE : z_EX EX) : x_Ok EX l zTB zNT kc D vwCl xb yTY ad yP0 184 2 xr_fr xo_fr := by
  refine x_loop (M := ym_X12_fresh) hE y_prog 60 rfl (by decide) (ct_fr_ok hE) (fun za I L ⟨to, h, _⟩ => by subst h; exact (by decide : 2 ≤ 2)) (x_cut1 58) (fun za I L n pc lv sv I' L' => I' = I ∧ L' = L ∧ sv = [] ∧ ∃ to : Int, za = [xR 210, .inl to] ∧ lv = [(0, xR 210)] ∧ r_isn I L ∧ (r_in I L 22 (I 212 0) ∨ r_in I L 30 (I 212 1) ∨ r_in I L 36 (I 212 2))) (fun za I L ⟨to, h, hto, hb⟩ => ?_) (fun za I L _ n pc lv sv I' L' hc hi => ?_)
  · subst h
    refine And.intro rfl ?_
    rintro rv I2 L2 ⟨g1, g2, ⟨hn, rfl⟩ | ⟨hn, rfl⟩⟩
    · subst g1
      subst g2
      refine And.intro (fun _ => ?_) (fun q => absurd q (by decide))
      refine And.intro (by decide) ?_
      intro c0 (hc0 : c0 = I2 212 0) hs0
      have b0 : 0 ≤ c0 ∧ c0 ≤ 8 := hs0 _ rfl
      refine And.intro ⟨22, c0, rfl, by omega, by omega, by omega⟩ ?_
      rintro rv I3 L3 ⟨g1, g2, fr, mn, hx, ⟨k, k1, k2, rfl⟩ | ⟨k1, rfl⟩⟩
      · subst g1
        subst g2
        cases hx
        refine And.intro (fun _ => ?_) (fun q => absurd q (by omega))
        exact ⟨0, [(0, xR 210)], ⟨rfl, trivial⟩, rfl, rfl, rfl, to, rfl, rfl, hn, Or.inl ⟨k, by omega, k2⟩⟩
      · subst g1
        subst g2
        cases hx
        have n0 : ¬ r_in I3 L3 22 (I3 212 0) := fun ⟨k, e1, e2⟩ => k1 k (by omega) e2
        refine And.intro (fun q => absurd q (by decide)) (fun _ => ?_)
        refine And.intro (by decide) ?_
        intro c1 (hc1 : c1 = I3 212 1) hs1
        have b1 : 0 ≤ c1 ∧ c1 ≤ 6 := hs1 _ rfl
        refine And.intro ⟨30, c1, rfl, by omega, by omega, by omega⟩ ?_
        rintro rv I4 L4 ⟨g1, g2, fr, mn, hx, ⟨k, k1, k2, rfl⟩ | ⟨k1, rfl⟩⟩
        · subst g1
          subst g2
          cases hx
          refine And.intro (fun _ => ?_) (fun q => absurd q (by omega))
          exact ⟨0, [(0, xR 210)], ⟨rfl, trivial⟩, rfl, rfl, rfl, to, rfl, rfl, hn, Or.inr (Or.inl ⟨k, by omega, k2⟩)⟩
        · subst g1
          subst g2
          cases hx
          have n1 : ¬ r_in I4 L4 30 (I4 212 1) := fun ⟨k, e1, e2⟩ => k1 k (by omega) e2
          refine And.intro (fun q => absurd q (by decide)) (fun _ => ?_)
          refine And.intro (by decide) ?_
          intro c2 (hc2 : c2 = I4 212 2) hs2
          have b2 : 0 ≤ c2 ∧ c2 ≤ 8 := hs2 _ rfl
          refine And.intro ⟨36, c2, rfl, by omega, by omega, by omega⟩ ?_
          rintro rv I5 L5 ⟨g1, g2, fr, mn, hx, ⟨k, k1, k2, rfl⟩ | ⟨k1, rfl⟩⟩
          · subst g1
            subst g2
            cases hx
            refine And.intro (fun q => absurd q (by omega)) (fun _ => ?_)
            exact ⟨0, [(0, xR 210)], ⟨rfl, trivial⟩, rfl, rfl, rfl, to, rfl, rfl, hn, Or.inr (Or.inr ⟨k, by omega, k2⟩)⟩
          · subst g1
            subst g2
            cases hx
            have n2 : ¬ r_in I5 L5 36 (I5 212 2) := fun ⟨k, e1, e2⟩ => k1 k (by omega) e2
            refine And.intro (fun _ => ?_) (fun q => absurd q (by decide))
            intro s (hs : s = L5 209 17)
            refine And.intro (show 0 ≤ to ∧ to < 44 from hto) ?_
            refine And.intro ⟨rfl, hb hn⟩ ?_
            intro rv I6 L6 h
            have h9 := h.1
            subst h9
            subst hs
            exact ⟨by decide, to, rfl, Or.inr (Or.inr ⟨hn, by rintro (q | q | q); exact n0 q; exact n1 q; exact n2 q, rfl, h⟩)⟩
    · subst g1
      subst g2
      refine And.intro (fun q => absurd rfl q) (fun _ => ?_)
      refine And.intro ⟨1, rfl, by decide, by decide⟩ ?_
      rintro rv I3 L3 ⟨f, hf, rfl, rfl, rfl⟩
      cases hf
      exact ⟨by decide, to, rfl, Or.inl ⟨hn, rfl, rfl, rfl⟩⟩
  · obtain rfl := x_cut1_ok hc
    obtain ⟨rfl, rfl, rfl, to, rfl, rfl, hn, hin⟩ := hi
    refine And.intro ⟨3, rfl, by decide, by decide⟩ ?_
    rintro rv I3 L3 ⟨f, hf, rfl, rfl, rfl⟩
    cases hf
    exact ⟨by decide, to, rfl, Or.inr (Or.inl ⟨hn, hin, rfl, rfl, rfl⟩)⟩
def xr_la : xPre := fun za I L => ∃ fr mn : Int, za = [xR 210, .inl fr, .inl mn] ∧ (0 ≤ fr ∧ 0 ≤ mn ∧ fr + mn ≤ 44)
def xo_la : xPost := fun za I L rv I' L' => L' = L ∧ ∃ fr mn : Int, za = [xR 210, .inl fr, .inl mn] ∧ ((¬ r_isn I L ∧ rv = some (.inl 0) ∧ I' = r_bad I 1) ∨ (r_isn I L ∧ ¬ r_in I L fr.toNat mn ∧ rv = some (.inl 0) ∧ I' = r_bad (x_u I 209 18 (-1)) 3) ∨ (r_isn I L ∧ ∃ k : Nat, (k : Int) < mn ∧ L 214 (fr.toNat + k) = L 209 17 ∧ rv = some (.inl 1) ∧ I' = x_u I 209 18 (k : Int)))
theorem xk_la (hE : z_EX EX) : x_Ok EX l zTB zNT kc D vwCl xb yTY ad yP0 185 2 xr_la xo_la := by
  refine x_meth (M := ym_X12_looksAt) hE y_prog 40 rfl (by decide) (ct_fr_ok hE) (fun za I L ⟨fr, mn, h, _⟩ => by subst h; exact (by decide : 3 ≤ 3)) (fun za I L ⟨fr, mn, h, hb⟩ => ?_)
  subst h
  refine And.intro rfl ?_
  rintro rv I2 L2 ⟨g1, g2, ⟨hn, rfl⟩ | ⟨hn, rfl⟩⟩
  · subst g1
    subst g2
    refine And.intro (fun _ => ?_) (fun q => absurd q (by decide))
    refine And.intro ⟨fr, mn, rfl, hb⟩ ?_
    rintro rv I3 L3 ⟨g1, g2, fr', mn', hx, ⟨k, k1, k2, rfl⟩ | ⟨k1, rfl⟩⟩
    · subst g1
      subst g2
      cases hx
      refine And.intro (show -1 ≤ (k : Int) ∧ (k : Int) ≤ 999 by omega) ?_
      intro g (hg : g = (k : Int)) _
      refine And.intro (fun _ => ?_) (fun q => absurd q (by omega))
      exact ⟨by decide, rfl, fr, mn, rfl, Or.inr (Or.inr ⟨hn, k, k1, k2, rfl, rfl⟩)⟩
    · subst g1
      subst g2
      cases hx
      refine And.intro (by decide) ?_
      intro g (hg : g = -1) _
      refine And.intro (fun q => absurd q (by omega)) (fun _ => ?_)
      refine And.intro ⟨3, rfl, by decide, by decide⟩ ?_
      rintro rv I4 L4 ⟨f, hf, rfl, rfl, rfl⟩
      cases hf
      refine And.intro (fun _ => ?_) (fun q => absurd rfl q)
      exact ⟨by decide, rfl, fr, mn, rfl, Or.inr (Or.inl ⟨hn, fun ⟨k, e1, e2⟩ => k1 k e1 e2, rfl, rfl⟩)⟩
  · subst g1
    subst g2
    refine And.intro (fun q => absurd rfl q) (fun _ => ?_)
    refine And.intro ⟨1, rfl, by decide, by decide⟩ ?_
    rintro rv I3 L3 ⟨f, hf, rfl, rfl, rfl⟩
    cases hf
    exact ⟨by decide, rfl, fr, mn, rfl, Or.inl ⟨hn, rfl, rfl⟩⟩
def xr_tN : xPre := fun za I L => ∃ fr mn : Int, za = [xR 210, .inl fr, .inl mn] ∧ (0 ≤ fr ∧ 0 ≤ mn ∧ fr + mn ≤ 44) ∧ (r_isn I L → r_bh I)
def xo_tN : xPost := fun za I L rv I' L' => ∃ fr mn : Int, za = [xR 210, .inl fr, .inl mn] ∧ ((¬ r_isn I L ∧ rv = some (.inl 0) ∧ L' = L ∧ I' = r_bad I 1) ∨ (r_isn I L ∧ ¬ r_in I L fr.toNat mn ∧ rv = some (.inl 0) ∧ L' = L ∧ I' = r_bad (x_u I 209 18 (-1)) 3) ∨ (r_isn I L ∧ r_in I L fr.toNat mn ∧ ∃ k : Nat, (k : Int) < mn ∧ L 214 (fr.toNat + k) = L 209 17 ∧ rv = some (.inl 1) ∧ xo_next [xR 210] (x_u I 209 18 (k : Int)) L none I' L'))
theorem xk_tN (hE : z_EX EX) : x_Ok EX l zTB zNT kc D vwCl xb yTY ad yP0 186 3 xr_tN xo_tN := by
  refine x_meth (ct := x_ctl [(185, 2, xr_la, xo_la), (175, 1, xr_next, xo_next)]) (M := ym_X12_takesName) hE y_prog 30 rfl (by decide) (x_ctl_cons (xk_la hE) (x_ctl_cons (xk_next hE) x_ctl_nil)) (fun za I L ⟨fr, mn, h, _⟩ => by subst h; exact (by decide : 3 ≤ 3)) (fun za I L ⟨fr, mn, h, hb, hbh⟩ => ?_)
  subst h
  refine And.intro ⟨fr, mn, rfl, hb⟩ ?_
  rintro rv I2 L2 ⟨g2, fr', mn', hx, ⟨hn, rfl, g1⟩ | ⟨hn, hi, rfl, g1⟩ | ⟨hn, k, k1, k2, rfl, g1⟩⟩
  · cases hx
    subst g1
    subst g2
    refine And.intro (fun q => absurd rfl q) (fun _ => ?_)
    exact ⟨by decide, fr, mn, rfl, Or.inl ⟨hn, rfl, rfl, rfl⟩⟩
  · cases hx
    subst g1
    subst g2
    refine And.intro (fun q => absurd rfl q) (fun _ => ?_)
    exact ⟨by decide, fr, mn, rfl, Or.inr (Or.inl ⟨hn, hi, rfl, rfl, rfl⟩)⟩
  · cases hx
    subst g1
    subst g2
    refine And.intro (fun _ => ?_) (fun q => absurd q (by decide))
    refine And.intro ⟨rfl, hbh hn⟩ ?_
    intro rv I3 L3 h
    have h9 := h.1
    subst h9
    exact ⟨by decide, fr, mn, rfl, Or.inr (Or.inr ⟨hn, ⟨k, k1, k2⟩, k, k1, k2, rfl, h⟩)⟩
end XN1
