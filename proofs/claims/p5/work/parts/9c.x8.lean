/-! ===== the class's tape, exactly ===== -/
abbrev xR (i : Nat) : xV := .inr (.inr (some i))
/-- all but these cells is as it was -/
def x_fi (S : Nat → Nat → Bool) (I I' : xF) : Prop := ∀ r k, S r k = false → I' r k = I r k
theorem x_fi_refl {S : Nat → Nat → Bool} {I : xF} : x_fi S I I := fun _ _ _ => rfl
theorem x_fi_u {S : Nat → Nat → Bool} {I I' : xF} {r k : Nat} {z : Int} (h : x_fi S I I') (hs : S r k = true) : x_fi S I (x_u I' r k z) := fun r' k' hn => by
  rw [x_u_if, if_neg, h r' k' hn]
  rintro ⟨rfl, rfl⟩
  rw [hs] at hn
  cases hn
theorem x_fi_trans {S : Nat → Nat → Bool} {I I' I'' : xF} (h1 : x_fi S I I') (h2 : x_fi S I' I'') : x_fi S I I'' := fun r k hn => (h2 r k hn).trans (h1 r k hn)
theorem x_fi_w {S S' : Nat → Nat → Bool} {I I' : xF} (h : x_fi S I I') (hs : ∀ r k, S r k = true → S' r k = true) : x_fi S' I I' := fun r k hn => h r k (by
  cases hq : S r k with
  | false => rfl
  | true => rw [hs r k hq] at hn; cases hn)
section XT
variable {EX : (Nat → Prop) → State → Heap → Prop} {l : Launch} {kc : Nat → ClassId} {D : va_G} {xb : Nat} {ad : Nat → Option Nat}
abbrev x_none : xCT := fun _ => none
theorem x_none_ok : x_ctok EX l zTB zNT kc D vwCl xb yTY ad yP0 x_none := fun _ _ _ _ h => by cases h
abbrev x_cut1 (h : Nat) : Nat → Bool := fun pc => Nat.beq pc h
theorem x_cut1_ok {h pc : Nat} (e : x_cut1 h pc = true) : pc = h := Nat.eq_of_beq_eq_true e
def xr_sign : xPre := fun za _ _ => ∃ x : Int, za = [xR 2, .inl x]
def xo_isSign : xPost := fun za I L rv I' L' => I' = I ∧ L' = L ∧ ∃ x : Int, za = [xR 2, .inl x] ∧ ((I 1 6 = 5 ∧ I 1 7 = x ∧ rv = some (.inl 1)) ∨ (¬ (I 1 6 = 5 ∧ I 1 7 = x) ∧ rv = some (.inl 0)))
theorem xk_isSign (hE : z_EX EX) : x_Ok EX l zTB zNT kc D vwCl xb yTY ad yP0 109 0 xr_sign xo_isSign := by
  refine x_meth (M := ym_X10_isSign) hE y_prog 40 rfl (by decide) x_none_ok (fun za I L ⟨x, h⟩ => by subst h; exact Nat.le_refl 2) (fun za I L ⟨x, h⟩ => ?_)
  subst h
  intro k hk _
  refine And.intro ?_ ?_
  · intro t1
    exact ⟨by decide, rfl, rfl, x, rfl, Or.inr ⟨fun q => t1 (hk.trans q.1), rfl⟩⟩
  · intro t1 v hv _
    refine And.intro ?_ ?_
    · intro t2
      exact ⟨by decide, rfl, rfl, x, rfl, Or.inr ⟨fun q => t2 (hv.trans q.2), rfl⟩⟩
    · intro t2
      exact ⟨by decide, rfl, rfl, x, rfl, Or.inl ⟨hk.symm.trans t1, hv.symm.trans t2, rfl⟩⟩
def xr_unbl : xPre := fun za I _ => ∃ x : Int, za = [xR 2, .inl x] ∧ 0 ≤ x ∧ x ≤ I 1 2
def xo_unbl : xPost := fun za I L rv I' L' => I' = I ∧ L' = L ∧ ∃ x : Int, za = [xR 2, .inl x] ∧ rv = some (.inl (t_skip (I 2) (I 1 2) x))
theorem xk_unbl (hE : z_EX EX) : x_Ok EX l zTB zNT kc D vwCl xb yTY ad yP0 101 0 xr_unbl xo_unbl := by
  refine x_loop (M := ym_X10_firstUnblank) hE y_prog 40 rfl (by decide) x_none_ok (fun za I L ⟨x, h, _⟩ => by subst h; exact (by decide : 2 ≤ 3)) (x_cut1 2) (fun za I L n pc lv sv I' L' => I' = I ∧ L' = L ∧ sv = [] ∧ ∃ x i : Int, za = [xR 2, .inl x] ∧ lv = [(2, .inl i), (0, xR 2), (1, .inl x)] ∧ 0 ≤ i ∧ i ≤ I 1 2 ∧ t_skip (I 2) (I 1 2) i = t_skip (I 2) (I 1 2) x ∧ (n : Int) = I 1 2 - i) (fun za I L ⟨x, h, h0, h1⟩ => ?_) (fun za I L _ n pc lv sv I' L' hc hi => ?_)
  · subst h
    exact ⟨(I 1 2 - x).toNat, [(2, .inl x), (0, xR 2), (1, .inl x)], ⟨rfl, rfl, rfl, trivial⟩, rfl, rfl, rfl, x, x, rfl, rfl, h0, h1, rfl, by omega⟩
  · obtain rfl := x_cut1_ok hc
    obtain ⟨rfl, rfl, rfl, x, i, rfl, rfl, h0, h1, h2, h3⟩ := hi
    intro m (hm : m = I' 1 2) (bm : 0 ≤ m ∧ m ≤ 940)
    refine And.intro ?_ ?_
    · intro t1 z (hz : z = I' 1 2) _
      refine ⟨rfl, rfl, x, rfl, ?_⟩
      rw [← h2, t_skip_end (Or.inl (by omega))]
      exact congrArg (fun q => some (Sum.inl q)) (by omega)
    · intro t1
      have hin : 0 ≤ i ∧ i < 940 := by omega
      have hgo : t_bl (I' 2 i.toNat) → t_skip (I' 2) (I' 1 2) (i + 1) = t_skip (I' 2) (I' 1 2) x := fun hb => by
        rw [← h2]
        exact (t_skip_go (by omega) hb).symm
      refine And.intro hin ?_
      intro c (hc : c = I' 2 i.toNat) _
      refine And.intro ?_ ?_
      · intro t2
        exact Or.inl ⟨by omega, (I' 1 2 - (i + 1)).toNat, [(2, .inl (i + 1)), (0, xR 2), (1, .inl x)], by omega, ⟨rfl, rfl, rfl, trivial⟩, rfl, rfl, rfl, x, i + 1, rfl, rfl, by omega, by omega, hgo (Or.inl (by omega)), by omega⟩
      · intro t2
        refine And.intro hin ?_
        intro c2 (hc2 : c2 = I' 2 i.toNat) _
        refine And.intro ?_ ?_
        · intro t3
          exact Or.inl ⟨by omega, (I' 1 2 - (i + 1)).toNat, [(2, .inl (i + 1)), (0, xR 2), (1, .inl x)], by omega, ⟨rfl, rfl, rfl, trivial⟩, rfl, rfl, rfl, x, i + 1, rfl, rfl, by omega, by omega, hgo (Or.inr (by omega)), by omega⟩
        · intro t3
          refine ⟨rfl, rfl, x, rfl, ?_⟩
          rw [← h2, t_skip_end (Or.inr (by omega))]
end XT
