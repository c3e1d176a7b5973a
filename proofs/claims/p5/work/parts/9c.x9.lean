/-! ===== the class's tape: runs, signs, WORDS ===== -/
def x_W32 : List Int := [627764, 13358, 113716, 114052, 659993778, 8892563, 14143763, 12891444, 402611, 398804, 366100, 24282707, 4153, 498, 1476, 14836, 67141, 267652, 486, 22483122, 24627848, 132915, 3554952, 492210354]
section XT2
variable {EX : (Nat → Prop) → State → Heap → Prop} {l : Launch} {kc : Nat → ClassId} {D : va_G} {xb : Nat} {ad : Nat → Option Nat}
def xr_t : xPre := fun za _ _ => za = [xR 2]
def xo_stop : xPost := fun _ I L rv I' L' => rv = none ∧ L' = L ∧ I' = x_u (x_u (x_u I 1 6 (if I 1 3 < I 1 2 then 1 else 0)) 1 4 (if I 1 3 < I 1 2 then I 1 3 else I 1 2)) 1 5 (if I 1 3 < I 1 2 then I 1 3 else I 1 2)
theorem xk_stop (hE : z_EX EX) : x_Ok EX l zTB zNT kc D vwCl xb yTY ad yP0 102 0 xr_t xo_stop := by
  refine x_meth (M := ym_X10_stopAtEnd) hE y_prog 60 rfl (by decide) x_none_ok (fun za I L h => by subst h; exact (by decide : 1 ≤ 1)) (fun za I L h => ?_)
  subst h
  intro a (ha : a = I 1 2) (ba : 0 ≤ a ∧ a ≤ 940) b (hb : b = I 1 3) (bb : 0 ≤ b ∧ b ≤ 900)
  refine And.intro ?_ ?_
  · intro t1
    refine And.intro (by decide) ?_
    intro a2 (ha2 : a2 = I 1 2) (ba2 : 0 ≤ a2 ∧ a2 ≤ 940) b2 (hb2 : b2 = I 1 3) (bb2 : 0 ≤ b2 ∧ b2 ≤ 900)
    refine And.intro ?_ ?_
    · intro t2 a3 (ha3 : a3 = I 1 2) (ba3 : 0 ≤ a3 ∧ a3 ≤ 940)
      refine And.intro ba3 ?_
      intro p (hp : p = a3) _
      refine And.intro (show 0 ≤ p ∧ p ≤ 941 by omega) ?_
      refine ⟨rfl, rfl, ?_⟩
      rw [if_neg (by omega), if_neg (by omega), hp, ha3]
    · intro t2
      exact absurd t2 (by omega)
  · intro t1
    refine And.intro (by decide) ?_
    intro a2 (ha2 : a2 = I 1 2) (ba2 : 0 ≤ a2 ∧ a2 ≤ 940) b2 (hb2 : b2 = I 1 3) (bb2 : 0 ≤ b2 ∧ b2 ≤ 900)
    refine And.intro ?_ ?_
    · intro t2
      exact absurd t2 (by omega)
    · intro t2 a3 (ha3 : a3 = I 1 3) (ba3 : 0 ≤ a3 ∧ a3 ≤ 900)
      refine And.intro (show 0 ≤ a3 ∧ a3 ≤ 940 by omega) ?_
      intro p (hp : p = a3) _
      refine And.intro (show 0 ≤ p ∧ p ≤ 941 by omega) ?_
      refine ⟨rfl, rfl, ?_⟩
      rw [if_pos (by omega), if_pos (by omega), hp, ha3]
def xr_ref : xPre := fun za _ _ => ∃ f : Int, za = [xR 2, .inl f] ∧ 0 ≤ f ∧ f ≤ 4
def xo_ref : xPost := fun za I L rv I' L' => ∃ f : Int, za = [xR 2, .inl f] ∧ rv = some (.inl 0) ∧ L' = L ∧ I' = x_u (x_u I 1 9 f) 1 10 (I 1 4)
theorem xk_ref (hE : z_EX EX) : x_Ok EX l zTB zNT kc D vwCl xb yTY ad yP0 106 0 xr_ref xo_ref := by
  refine x_meth (M := ym_X10_refuse) hE y_prog 30 rfl (by decide) x_none_ok (fun za I L ⟨f, h, _⟩ => by subst h; exact (by decide : 2 ≤ 2)) (fun za I L ⟨f, h, hf⟩ => ?_)
  subst h
  refine And.intro hf ?_
  intro p (hp : p = I 1 4) (bp : 0 ≤ p ∧ p ≤ 940)
  refine And.intro bp ?_
  exact ⟨by decide, f, rfl, rfl, rfl, by rw [hp]⟩
def xr_sgn : xPre := fun za _ _ => ∃ c : Int, za = [xR 2, .inl c] ∧ 0 ≤ c ∧ c ≤ 255
def xo_sgn : xPost := fun za I L rv I' L' => ∃ c : Int, za = [xR 2, .inl c] ∧ rv = none ∧ L' = L ∧ I' = x_u (x_u (x_u I 1 6 (if t_sg c then 5 else 1)) 1 7 c) 1 5 (I 1 4 + 1)
theorem xk_sgn (hE : z_EX EX) : x_Ok EX l zTB zNT kc D vwCl xb yTY ad yP0 105 0 xr_sgn xo_sgn := by
  refine x_loop (M := ym_X10_readSign) hE y_prog 60 rfl (by decide) x_none_ok (fun za I L ⟨f, h, _⟩ => by subst h; exact (by decide : 2 ≤ 3)) (x_cut1 41) (fun za I L n pc lv sv I' L' => I' = I ∧ L' = L ∧ ∃ c : Int, za = [xR 2, .inl c] ∧ (0 ≤ c ∧ c ≤ 255) ∧ lv = [(0, xR 2), (1, .inl c)] ∧ ((t_sg c ∧ sv = [.inl 1]) ∨ (¬ t_sg c ∧ sv = [.inl 0]))) (fun za I L ⟨c, h, hc⟩ => ?_) (fun za I L _ n pc lv sv I' L' hc hi => ?_)
  · subst h
    refine And.intro ?_ ?_
    · intro t
      exact ⟨0, [(0, xR 2), (1, .inl c)], ⟨rfl, rfl, trivial⟩, rfl, rfl, c, rfl, hc, rfl, Or.inl ⟨by unfold t_sg; omega, rfl⟩⟩
    intro t1
    refine And.intro ?_ ?_
    · intro t
      exact ⟨0, [(0, xR 2), (1, .inl c)], ⟨rfl, rfl, trivial⟩, rfl, rfl, c, rfl, hc, rfl, Or.inl ⟨by unfold t_sg; omega, rfl⟩⟩
    intro t2
    refine And.intro ?_ ?_
    · intro t
      exact ⟨0, [(0, xR 2), (1, .inl c)], ⟨rfl, rfl, trivial⟩, rfl, rfl, c, rfl, hc, rfl, Or.inl ⟨by unfold t_sg; omega, rfl⟩⟩
    intro t3
    refine And.intro ?_ ?_
    · intro t
      exact ⟨0, [(0, xR 2), (1, .inl c)], ⟨rfl, rfl, trivial⟩, rfl, rfl, c, rfl, hc, rfl, Or.inl ⟨by unfold t_sg; omega, rfl⟩⟩
    intro t4
    refine And.intro ?_ ?_
    · intro t
      exact ⟨0, [(0, xR 2), (1, .inl c)], ⟨rfl, rfl, trivial⟩, rfl, rfl, c, rfl, hc, rfl, Or.inl ⟨by unfold t_sg; omega, rfl⟩⟩
    intro t5
    refine And.intro ?_ ?_
    · intro t
      exact ⟨0, [(0, xR 2), (1, .inl c)], ⟨rfl, rfl, trivial⟩, rfl, rfl, c, rfl, hc, rfl, Or.inr ⟨by unfold t_sg; omega, rfl⟩⟩
    · intro t
      exact ⟨0, [(0, xR 2), (1, .inl c)], ⟨rfl, rfl, trivial⟩, rfl, rfl, c, rfl, hc, rfl, Or.inl ⟨by unfold t_sg; omega, rfl⟩⟩
  · obtain rfl := x_cut1_ok hc
    obtain ⟨rfl, rfl, c, rfl, hc, rfl, ⟨hs, rfl⟩ | ⟨hs, rfl⟩⟩ := hi
    · refine And.intro (fun t => absurd t (by decide)) (fun _ => ?_)
      refine And.intro (by decide) ?_
      refine And.intro (show -2147483648 ≤ c ∧ c ≤ 2147483647 by omega) ?_
      intro p (hp : p = I' 1 4) (bp : 0 ≤ p ∧ p ≤ 940)
      refine Or.inl ⟨by omega, ?_⟩
      refine And.intro (show 0 ≤ p + 1 ∧ p + 1 ≤ 941 by omega) ?_
      exact ⟨c, rfl, rfl, rfl, by rw [if_pos hs, hp]⟩
    · refine And.intro (fun _ => ?_) (fun t => absurd rfl t)
      refine And.intro (by decide) ?_
      refine And.intro (show -2147483648 ≤ c ∧ c ≤ 2147483647 by omega) ?_
      intro p (hp : p = I' 1 4) (bp : 0 ≤ p ∧ p ≤ 940)
      refine Or.inl ⟨by omega, ?_⟩
      refine And.intro (show 0 ≤ p + 1 ∧ p + 1 ≤ 941 by omega) ?_
      exact ⟨c, rfl, rfl, rfl, by rw [if_neg hs, hp]⟩
/-- cells 6 and 7 of the tape -/
def x_s67 (r k : Nat) : Bool := Nat.beq r 1 && (Nat.beq k 6 || Nat.beq k 7)
def xo_tell : xPost := fun _ I L rv I' L' => rv = none ∧ L' = L ∧ x_fi x_s67 I I' ∧ ((∃ w : Nat, x_W32[w]? = some (L 1 8) ∧ I' 1 6 = 2 ∧ I' 1 7 = w) ∨ ((∀ w : Nat, x_W32[w]? ≠ some (L 1 8)) ∧ I' 1 6 = 3))
theorem xk_tell (hE : z_EX EX) : x_Ok EX l zTB zNT kc D vwCl xb yTY ad yP0 104 0 xr_t xo_tell := by
  refine x_loop (M := ym_X10_tellNameFromWord) hE y_prog 60 rfl (by decide) x_none_ok (fun za I L h => by subst h; exact (by decide : 1 ≤ 2)) (x_cut1 7) (fun za I L n pc lv sv I' L' => L' = L ∧ sv = [] ∧ x_fi x_s67 I I' ∧ ∃ i : Nat, i ≤ 24 ∧ n = 24 - i ∧ lv = [(1, .inl (i : Int)), (0, xR 2)] ∧ ((∃ w : Nat, w < i ∧ x_W32[w]? = some (L 1 8) ∧ I' 1 6 = 2 ∧ I' 1 7 = w) ∨ ((∀ w : Nat, w < i → x_W32[w]? ≠ some (L 1 8)) ∧ I' 1 6 = 3))) (fun za I L h => ?_) (fun za I L _ n pc lv sv I' L' hc hi => ?_)
  · subst h
    refine And.intro (by decide) ?_
    exact ⟨24, [(1, .inl 0), (0, xR 2)], ⟨rfl, rfl, trivial⟩, rfl, rfl, x_fi_u x_fi_refl rfl, 0, by omega, rfl, rfl, Or.inr ⟨fun w hw => absurd hw (Nat.not_lt_zero w), rfl⟩⟩
  · obtain rfl := x_cut1_ok hc
    obtain ⟨rfl, rfl, hfi, i, hi, rfl, rfl, hs⟩ := hi
    refine And.intro ?_ ?_
    · intro t1
      refine ⟨rfl, rfl, hfi, ?_⟩
      have hlen : x_W32.length = 24 := rfl
      rcases hs with ⟨w, h1, h2, h3, h4⟩ | ⟨h1, h2⟩
      · exact Or.inl ⟨w, h2, h3, h4⟩
      · refine Or.inr ⟨fun w hw => ?_, h2⟩
        have := (List.getElem?_eq_some_iff.mp hw).1
        exact h1 w (by omega) hw
    · intro t1
      refine And.intro (show 0 ≤ (i : Int) ∧ (i : Int) < 24 by omega) ?_
      intro z _ (hz : ∀ x, x_W32[(i : Int).toNat]? = some x → z = x) s (hs8 : s = L' 1 8) w (hw : w = 0 ↔ z = s)
      have hlt : i < x_W32.length := by show i < 24; omega
      have hzi : x_W32[i]? = some z := by
        have h9 := hz _ (List.getElem?_eq_getElem hlt)
        rw [h9]
        exact List.getElem?_eq_getElem hlt
      refine And.intro ?_ ?_
      · intro t2
        refine Or.inl ⟨by omega, 24 - (i + 1), [(1, .inl ((i + 1 : Nat) : Int)), (0, xR 2)], by omega, ⟨rfl, rfl, trivial⟩, rfl, rfl, hfi, i + 1, by omega, rfl, rfl, ?_⟩
        rcases hs with ⟨w', h1, h2, h3, h4⟩ | ⟨h1, h2⟩
        · exact Or.inl ⟨w', by omega, h2, h3, h4⟩
        · refine Or.inr ⟨fun w' hw' hq => ?_, h2⟩
          rcases Nat.lt_or_ge w' i with g | g
          · exact h1 w' g hq
          · obtain rfl : w' = i := by omega
            rw [hzi] at hq
            exact t2 (hw.mpr ((Option.some.inj hq).trans hs8.symm))
      · intro t2
        refine And.intro (by decide) ?_
        refine And.intro (show -2147483648 ≤ (i : Int) ∧ (i : Int) ≤ 2147483647 by omega) ?_
        refine Or.inl ⟨by omega, 24 - (i + 1), [(1, .inl ((i + 1 : Nat) : Int)), (0, xR 2)], by omega, ⟨rfl, rfl, trivial⟩, rfl, rfl, x_fi_u (x_fi_u hfi rfl) rfl, i + 1, by omega, rfl, rfl, Or.inl ⟨i, by omega, ?_, rfl, rfl⟩⟩
        rw [hzi, hw.mp t2, hs8]
end XT2
