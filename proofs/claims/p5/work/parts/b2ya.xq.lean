/-! ===== the exact walk: rows of objects, copies of rows, rows of truths ===== -/
/-- a row's first n cells are another's -/
def x_cp (I : xF) (r0 r1 n : Nat) : xF := fun r k => match Nat.beq r r1 with
  | true => match Nat.blt k n with
    | true => I r0 k
    | false => I r k
  | false => I r k
theorem x_cp_if (I : xF) (r0 r1 n r k : Nat) : x_cp I r0 r1 n r k = if r = r1 ∧ k < n then I r0 k else I r k := by
  unfold x_cp
  split
  next h =>
    have := Nat.eq_of_beq_eq_true h
    split
    next h2 =>
      have := Nat.le_of_ble_eq_true h2
      rw [if_pos ⟨by assumption, this⟩]
    next h2 =>
      rw [if_neg (fun q => by
        have : Nat.blt k n = true := Nat.ble_eq.mpr q.2
        rw [this] at h2
        cases h2)]
  next h => rw [if_neg (fun q => by rw [q.1, Nat.beq_refl] at h; cases h)]
theorem x_seg_no : ∀ {sg : List (Nat × Int × Int)} {k : Nat}, y_len sg ≤ k → y_seg sg k = none
  | [], _, _ => rfl
  | (n, lo, hi) :: r, k, h => by
    unfold y_len at h
    unfold y_seg
    rw [if_neg (by omega)]
    exact x_seg_no (by omega)
section XQ0
variable {p : Program} {l : Launch} {e : Env} {R : Room} {s : State} {m : MethodId} {args : Array Value} {below : List Frame} {meth : Method} {c : Code} {Q : State → Prop}
variable {xb : Nat} {kc : Nat → ClassId} {D : va_G} {cl : List vw_C} {A : Nat → Prop} {H0 : Heap} {TY : List (List yC)} {ws0 : va_W} {nc ns : Nat}
variable {EX : (Nat → Prop) → State → Heap → Prop} {TB : List Cond} {NT : List (String × Nat × MethodName × String)} {TF : Nat → Nat → FieldType} {P : Nat → Option yM} {M : yM} {d : Nat}
variable {pc : Nat} {lv : List (Nat × xV)} {sv : List xV} {I L : xF} {inf : List Nat}
theorem x_aald (hC : x_C EX TB NT cl kc D xb TF P p R s m args meth c A H0 ws0 nc ns M d) {r k0 : Nat} {es : List (Option Nat)} {i : Int} {q : Nat} {T : String} (hT : (z_TY kc)[k0]? = some (kc k0, .object T)) (hf : y_find M.2.2.2.2.1 pc = some (.aaload, inf)) (hw : y_T TY r = some (.inr (.inr (.inr (k0, es))))) (hi : 0 ≤ i) (hq : es[i.toNat]? = some (some q)) (kk : (x_G p l e R s m args below meth c Q xb kc D cl A H0 M.2.2.1 TY ws0 nc ns (pc + 1) (lv) (.inr (.inr (some q)) :: sv) (I) (L))) : (x_G p l e R s m args below meth c Q xb kc D cl A H0 M.2.2.1 TY ws0 nc ns (pc) (lv) (.inl i :: .inr (.inr (some (r + 1))) :: sv) (I) (L)) := by
  intro ls stk ws H locs ⟨h1, h2, hY⟩
  have hd := (x_en hC hf).1
  obtain ⟨hx, hb, hml, hown, hname, hts, hK, hN, hA, hfr0, hlo, hC0, hS0, hH0, hEx, had0⟩ := hC.1
  obtain ⟨hag, hwt, had, hP, hD, hS⟩ := id hY
  obtain ⟨_, sv', rfl, ⟨x, rfl, rfl⟩, h4⟩ := x_st1 h2
  obtain ⟨_, sv'', rfl, ⟨a, ha, rfl⟩, h5⟩ := x_st1 h4
  obtain ⟨a', e', hws, f, rfl, hf9⟩ := hwt r _ hw
  obtain rfl := y_adr had hws ha
  have hlt : x.toInt.toNat < es.length := (List.getElem?_eq_some_iff.mp hq).1
  obtain ⟨i1, i2, i3⟩ := x_idx (n := es.length) hi (by omega)
  refine va_aldq hx hb hK hP r k0 hws hT i1 hd ?_
  obtain ⟨b, hb1, hb2⟩ := hf9 _ _ (show es[x.toNatClampNeg]? = some (some q) by rw [i3]; exact hq)
  rw [hb2]
  exact kk ls _ ws H locs ⟨h1, ⟨⟨b, hb1, rfl⟩, h5⟩, hY⟩
theorem x_zald (hC : x_C EX TB NT cl kc D xb TF P p R s m args meth c A H0 ws0 nc ns M d) {r : Nat} {sg : List (Nat × Int × Int)} {i : Int} (hf : y_find M.2.2.2.2.1 pc = some (.baload, inf)) (hw : y_T TY r = some (.inr (.inl (3, sg)))) (hi : 0 ≤ i ∧ i < (y_len sg : Int)) (kk : ∀ z, z = I r i.toNat → (∀ q, y_seg sg i.toNat = some q → q.1 ≤ z ∧ z ≤ q.2) → (x_G p l e R s m args below meth c Q xb kc D cl A H0 M.2.2.1 TY ws0 nc ns (pc + 1) (lv) (.inl z :: sv) (I) (L))) : (x_G p l e R s m args below meth c Q xb kc D cl A H0 M.2.2.1 TY ws0 nc ns (pc) (lv) (.inl i :: .inr (.inr (some (r + 1))) :: sv) (I) (L)) := by
  intro ls stk ws H locs ⟨h1, h2, hY⟩
  have hd := (x_en hC hf).1
  obtain ⟨hx, hb, hml, hown, hname, hts, hK, hN, hA, hfr0, hlo, hC0, hS0, hH0, hEx, had0⟩ := hC.1
  obtain ⟨hag, hwt, had, hP, hD, hS⟩ := id hY
  obtain ⟨_, sv', rfl, ⟨x, rfl, rfl⟩, h4⟩ := x_st1 h2
  obtain ⟨_, sv'', rfl, ⟨a, ha, rfl⟩, h5⟩ := x_st1 h4
  obtain ⟨a', e', hws, f, rfl, hf9⟩ := hwt r _ hw
  obtain rfl := y_adr had hws ha
  obtain ⟨i1, i2, i3⟩ := x_idx hi.1 hi.2
  have h9 : y_at ws r x.toInt.toNat = some (f x.toNatClampNeg) := by
    unfold y_at
    rw [hws]
    dsimp only
    rw [← i3, if_pos i2]
  exact va_zald hx hb hK hP r 3 hws rfl i1 hd (kk _ (hag.1 _ _ _ h9) (fun q hq => hf9 _ q.1 q.2 hq) ls _ ws H locs ⟨h1, ⟨⟨_, rfl, rfl⟩, h5⟩, hY⟩)
theorem x_zast (hC : x_C EX TB NT cl kc D xb TF P p R s m args meth c A H0 ws0 nc ns M d) {r : Nat} {sg : List (Nat × Int × Int)} {i z : Int} (hf : y_find M.2.2.2.2.1 pc = some (.bastore, inf)) (hw : y_T TY r = some (.inr (.inl (3, sg)))) (hi : 0 ≤ i ∧ i < (y_len sg : Int)) (hb8 : z = 0 ∨ z = 1) (hq : ∀ q, y_seg sg i.toNat = some q → q.1 ≤ z ∧ z ≤ q.2) (kk : (x_G p l e R s m args below meth c Q xb kc D cl A H0 M.2.2.1 TY ws0 nc ns (pc + 1) (lv) (sv) (x_u I r i.toNat z) (L))) : (x_G p l e R s m args below meth c Q xb kc D cl A H0 M.2.2.1 TY ws0 nc ns (pc) (lv) (.inl z :: .inl i :: .inr (.inr (some (r + 1))) :: sv) (I) (L)) := by
  intro ls stk ws H locs ⟨h1, h2, hY⟩
  have hd := (x_en hC hf).1
  obtain ⟨hx, hb, hml, hown, hname, hts, hK, hN, hA, hfr0, hlo, hC0, hS0, hH0, hEx, had0⟩ := hC.1
  obtain ⟨hag, hwt, had, hP, hD, hS⟩ := id hY
  obtain ⟨_, sv0, rfl, ⟨y, rfl, rfl⟩, h4⟩ := x_st1 h2
  obtain ⟨_, sv1, rfl, ⟨x, rfl, rfl⟩, h5⟩ := x_st1 h4
  obtain ⟨_, sv2, rfl, ⟨a, ha, rfl⟩, h6⟩ := x_st1 h5
  obtain ⟨a', e', hws, f, rfl, hf9⟩ := hwt r _ hw
  obtain rfl := y_adr had hws ha
  obtain ⟨i1, i2, i3⟩ := x_idx hi.1 hi.2
  refine va_zast hx hb hK hP hD hS r 3 hws rfl i1 hd (fun H1 locs1 hP1 hD1 hS1 => ?_)
  have hnar : vp_nar .boolean y = y := by
    rcases hb8 with h3 | h3
    · obtain rfl : y = 0 := Int32.toInt_inj.mp h3
      decide +kernel
    · obtain rfl : y = 1 := Int32.toInt_inj.mp h3
      decide +kernel
  rw [hnar] at hP1 hD1
  have e1 := y_at_seta (x := y) hws i2
  have e2 : ∀ r' k', x_at (ws.set r (a, .inl (kc 3, y_len sg, .inl (upd f x.toNatClampNeg y)))) r' k' = x_at ws r' k' := x_at_setn hws (fun k => by
    unfold x_at
    rw [List.getElem?_set_self (List.getElem?_eq_some_iff.mp hws).1, hws])
  refine kk ls _ _ H1 locs1 ⟨h1, h6, by rw [← i3]; exact x_ag_i hag e1 e2, y_w_set hwt hws hw ⟨_, rfl, fun j lo hi hj => ?_⟩, (z_ad_set hws).trans had, hP1, hD1, hS1⟩
  by_cases hjy : j = x.toNatClampNeg
  · subst hjy
    rw [pk_us]
    exact hq (lo, hi) (by rw [← i3]; exact hj)
  · rw [pk_un hjy]
    exact hf9 j lo hi hj
theorem x_ag_cp {ws ws' : va_W} {I L : xF} {r0 r1 n : Nat} (h : x_ag ws I L) (h1 : ∀ r' k' x, y_at ws' r' k' = some x → if r' = r1 ∧ k' < n then y_at ws r0 k' = some x else y_at ws r' k' = some x) (h2 : ∀ r' k', x_at ws' r' k' = x_at ws r' k') : x_ag ws' (x_cp I r0 r1 n) L := by
  refine ⟨fun r' k' y hy => ?_, fun r' k' y hy => h.2 r' k' y (by rw [← h2]; exact hy)⟩
  have := h1 _ _ _ hy
  rw [x_cp_if]
  split at this
  next hc => rw [if_pos hc]; exact h.1 r0 k' y this
  next hc => rw [if_neg hc]; exact h.1 r' k' y this
theorem x_ag_cpl {ws ws' : va_W} {I L : xF} {r0 r1 n : Nat} (h : x_ag ws I L) (h1 : ∀ r' k' x, x_at ws' r' k' = some x → if r' = r1 ∧ k' < n then x_at ws r0 k' = some x else x_at ws r' k' = some x) (h2 : ∀ r' k', y_at ws' r' k' = y_at ws r' k') : x_ag ws' I (x_cp L r0 r1 n) := by
  refine ⟨fun r' k' y hy => h.1 r' k' y (by rw [← h2]; exact hy), fun r' k' y hy => ?_⟩
  have := h1 _ _ _ hy
  rw [x_cp_if]
  split at this
  next hc => rw [if_pos hc]; exact h.2 r0 k' y this
  next hc => rw [if_neg hc]; exact h.2 r' k' y this
theorem x_copyi (hC : x_C EX TB NT cl kc D xb TF P p R s m args meth c A H0 ws0 nc ns M d) {idx r0 r1 : Nat} {sg : List (Nat × Int × Int)} {n : Int} (hf : y_find M.2.2.2.2.1 pc = some (.invokestatic idx, [0])) (hw0 : y_T TY r0 = some (.inr (.inl (0, sg)))) (hw1 : y_T TY r1 = some (.inr (.inl (0, sg)))) (hne : r0 ≠ r1) (hn : n = (y_len sg : Int)) (hst : (sv.map x_cat).sum ≤ 8) (kk : (x_G p l e R s m args below meth c Q xb kc D cl A H0 M.2.2.1 TY ws0 nc ns (pc + 3) (lv) (sv) (x_cp I r0 r1 (y_len sg)) (L))) : (x_G p l e R s m args below meth c Q xb kc D cl A H0 M.2.2.1 TY ws0 nc ns (pc) (lv) (.inl n :: .inl 0 :: .inr (.inr (some (r1 + 1))) :: .inl 0 :: .inr (.inr (some (r0 + 1))) :: sv) (I) (L)) := by
  intro ls stk ws H locs ⟨h1, h2, hY⟩
  obtain ⟨hd, hen⟩ := x_en hC hf
  rcases hen with hi | ⟨_, hlink, hnat, hstat, hini⟩ | ⟨hi, _⟩ | ⟨hi, _⟩ | ⟨_, _, _, _, _, _, _, _, hi, _⟩
  · exact absurd (show ([0] : List Nat) = [9999] from hi) (by decide)
  rotate_left
  · exact absurd (show ([0] : List Nat) = [2] from hi) (by decide)
  · exact absurd (show ([0] : List Nat) = [3] from hi) (by decide)
  · cases (List.cons.inj (show ([0] : List Nat) = [1, _] from hi)).2
  obtain ⟨hx, hb, hml, hown, hname, hts, hK, hN, hA, hfr0, hlo, hC0, hS0, hH0, hEx, had0⟩ := hC.1
  obtain ⟨hag, hwt, had, hP, hD, hS⟩ := id hY
  obtain ⟨_, sv1, rfl, ⟨x1, rfl, e1⟩, g1⟩ := x_st1 h2
  obtain ⟨_, sv2, rfl, ⟨x2, rfl, e2⟩, g2⟩ := x_st1 g1
  obtain ⟨_, sv3, rfl, ⟨a1, ha1, rfl⟩, g3⟩ := x_st1 g2
  obtain ⟨_, sv4, rfl, ⟨x4, rfl, e4⟩, g4⟩ := x_st1 g3
  obtain ⟨_, sv5, rfl, ⟨a0, ha0, rfl⟩, h5⟩ := x_st1 g4
  obtain rfl : x2 = 0 := Int32.toInt_inj.mp e2
  obtain rfl : x4 = 0 := Int32.toInt_inj.mp e4
  obtain ⟨b0, _, hws0, f, rfl, hf0⟩ := hwt r0 _ hw0
  obtain rfl := y_adr had hws0 ha0
  obtain ⟨b1, _, hws1, g, rfl, hf1⟩ := hwt r1 _ hw1
  obtain rfl := y_adr had hws1 ha1
  have hsum : (sv5.map fun v => v.category).sum ≤ 8 := by rw [← x_cats h5]; exact hst
  obtain ⟨lvv, hlv, hz⟩ := id h1
  have z0 : (0 : Int32).toNatClampNeg = 0 := by decide
  have hN' : x1.toNatClampNeg = y_len sg := by
    have : x1.toNatClampNeg = x1.toInt.toNat := rfl
    omega
  have hn' : ¬ x1 < 0 := fun h => by have := y_lti h; have z : (0 : Int32).toInt = 0 := rfl; omega
  refine va_copyi hx hb (by rw [hml]; exact hlv.1.symm) hown (hts _ hlink) (hts _ hnat) (hts _ hstat) (hts _ hini) hK hP hD hS r0 r1 0 0 hws0 hws1 (ty := .int) rfl rfl rfl (by decide) (by decide) hn' (by rw [z0, hN']; omega) (by rw [z0, hN']; omega) (fun _ _ => rfl) (by omega) (Nat.le_trans (Nat.add_le_add_right hsum _) (Nat.le_trans (by decide) (show 100 ≤ R.locals by omega))) hd (fun H1 locs1 hP1 hD1 hS1 => ?_)
  rw [z0, hN'] at hP1 hD1
  refine kk ls _ _ H1 locs1 ⟨h1, h5, x_ag_cp hag (fun r' k' x hx9 => ?_) (x_at_setn hws1 (fun k => by
    unfold x_at
    rw [List.getElem?_set_self (List.getElem?_eq_some_iff.mp hws1).1, hws1])), y_w_set hwt hws1 hw1 ⟨_, rfl, fun j lo hi hj => ?_⟩, (z_ad_set hws1).trans had, hP1, hD1, hS1⟩
  · by_cases hr : r' = r1
    · subst hr
      unfold y_at at hx9 ⊢
      rw [List.getElem?_set_self (List.getElem?_eq_some_iff.mp hws1).1] at hx9
      dsimp only at hx9
      split at hx9
      next hk =>
        rw [if_pos ⟨rfl, hk⟩, hws0]
        dsimp only
        rw [if_pos hk]
        rw [pk_cpy_in (Nat.zero_le k') (by omega), Nat.zero_add, Nat.sub_zero] at hx9
        exact hx9
      next hk => cases hx9
    · rw [if_neg (fun q => hr q.1)]
      unfold y_at at hx9 ⊢
      rw [List.getElem?_set_ne (fun q => hr q.symm)] at hx9
      exact hx9
  · rcases Nat.lt_or_ge j (y_len sg) with h9 | h9
    · rw [pk_cpy_in (Nat.zero_le j) (by omega), Nat.zero_add, Nat.sub_zero]
      exact hf0 j lo hi hj
    · rw [show va_cpy f g 0 0 (y_len sg) j = g j by unfold va_cpy; rw [if_neg (by omega)]]
      exact hf1 j lo hi hj
theorem x_copyl (hC : x_C EX TB NT cl kc D xb TF P p R s m args meth c A H0 ws0 nc ns M d) {idx r0 r1 n0 n1 : Nat} {es0 : List Int} {n : Int} (hf : y_find M.2.2.2.2.1 pc = some (.invokestatic idx, [0])) (hw0 : y_T TY r0 = some (.inr (.inr (.inl (n0, es0))))) (hw1 : y_T TY r1 = some (.inr (.inr (.inl (n1, []))))) (hn : 0 ≤ n) (hN : n.toNat ≤ n0) (hN1 : n.toNat ≤ n1) (hst : (sv.map x_cat).sum ≤ 8) (kk : (x_G p l e R s m args below meth c Q xb kc D cl A H0 M.2.2.1 TY ws0 nc ns (pc + 3) (lv) (sv) (I) (x_cp L r0 r1 n.toNat))) : (x_G p l e R s m args below meth c Q xb kc D cl A H0 M.2.2.1 TY ws0 nc ns (pc) (lv) (.inl n :: .inl 0 :: .inr (.inr (some (r1 + 1))) :: .inl 0 :: .inr (.inr (some (r0 + 1))) :: sv) (I) (L)) := by
  intro ls stk ws H locs ⟨h1, h2, hY⟩
  obtain ⟨hd, hen⟩ := x_en hC hf
  rcases hen with hi | ⟨_, hlink, hnat, hstat, hini⟩ | ⟨hi, _⟩ | ⟨hi, _⟩ | ⟨_, _, _, _, _, _, _, _, hi, _⟩
  · exact absurd (show ([0] : List Nat) = [9999] from hi) (by decide)
  rotate_left
  · exact absurd (show ([0] : List Nat) = [2] from hi) (by decide)
  · exact absurd (show ([0] : List Nat) = [3] from hi) (by decide)
  · cases (List.cons.inj (show ([0] : List Nat) = [1, _] from hi)).2
  obtain ⟨hx, hb, hml, hown, hname, hts, hK, hN9, hA, hfr0, hlo, hC0, hS0, hH0, hEx, had0⟩ := hC.1
  obtain ⟨hag, hwt, had, hP, hD, hS⟩ := id hY
  obtain ⟨_, sv1, rfl, ⟨x1, rfl, e1⟩, g1⟩ := x_st1 h2
  obtain ⟨_, sv2, rfl, ⟨x2, rfl, e2⟩, g2⟩ := x_st1 g1
  obtain ⟨_, sv3, rfl, ⟨a1, ha1, rfl⟩, g3⟩ := x_st1 g2
  obtain ⟨_, sv4, rfl, ⟨x4, rfl, e4⟩, g4⟩ := x_st1 g3
  obtain ⟨_, sv5, rfl, ⟨a0, ha0, rfl⟩, h5⟩ := x_st1 g4
  obtain rfl : x2 = 0 := Int32.toInt_inj.mp e2
  obtain rfl : x4 = 0 := Int32.toInt_inj.mp e4
  obtain ⟨b0, _, hws0, f, rfl, hf0⟩ := hwt r0 _ hw0
  obtain rfl := y_adr had hws0 ha0
  obtain ⟨b1, _, hws1, g, rfl, hf1⟩ := hwt r1 _ hw1
  obtain rfl := y_adr had hws1 ha1
  have hsum : (sv5.map fun v => v.category).sum ≤ 8 := by rw [← x_cats h5]; exact hst
  obtain ⟨lvv, hlv, hz⟩ := id h1
  have z0 : (0 : Int32).toNatClampNeg = 0 := by decide
  have hN' : x1.toNatClampNeg = n.toNat := by rw [← e1]; rfl
  have hn' : ¬ x1 < 0 := fun h => by have := y_lti h; have z : (0 : Int32).toInt = 0 := rfl; omega
  refine va_copyl hx hb (by rw [hml]; exact hlv.1.symm) hown (hts _ hlink) (hts _ hnat) (hts _ hstat) (hts _ hini) hK hP hD hS r0 r1 1 1 hws0 hws1 (ty := .long) rfl rfl rfl (by decide) (by decide) hn' (by rw [z0]; omega) (by rw [z0]; omega) (fun _ _ => rfl) (by omega) (Nat.le_trans (Nat.add_le_add_right hsum _) (Nat.le_trans (by decide) (show 100 ≤ R.locals by omega))) hd (fun H1 locs1 hP1 hD1 hS1 => ?_)
  rw [z0, hN'] at hP1 hD1
  refine kk ls _ _ H1 locs1 ⟨h1, h5, x_ag_cpl hag (fun r' k' x hx9 => ?_) (y_at_setn hws1 (fun k => by
    unfold y_at
    rw [List.getElem?_set_self (List.getElem?_eq_some_iff.mp hws1).1, hws1])), y_w_set hwt hws1 hw1 ⟨_, rfl, fun j x hj => by cases hj⟩, (z_ad_set hws1).trans had, hP1, hD1, hS1⟩
  by_cases hr : r' = r1
  · subst hr
    by_cases hk : k' < n.toNat
    · rw [if_pos ⟨rfl, hk⟩]
      unfold x_at at hx9 ⊢
      rw [List.getElem?_set_self (List.getElem?_eq_some_iff.mp hws1).1] at hx9
      dsimp only at hx9
      rw [if_pos (by omega), pk_cpy_in (Nat.zero_le k') (by omega), Nat.zero_add, Nat.sub_zero] at hx9
      rw [hws0]
      dsimp only
      rw [if_pos (by omega)]
      exact hx9
    · rw [if_neg (fun q => hk q.2)]
      unfold x_at at hx9 ⊢
      rw [List.getElem?_set_self (List.getElem?_eq_some_iff.mp hws1).1] at hx9
      dsimp only at hx9
      rw [hws1]
      dsimp only
      rw [show va_cpy f g 0 0 n.toNat k' = g k' by unfold va_cpy; rw [if_neg (by omega)]] at hx9
      exact hx9
  · rw [if_neg (fun q => hr q.1)]
    unfold x_at at hx9 ⊢
    rw [List.getElem?_set_ne (fun q => hr q.symm)] at hx9
    exact hx9
theorem x_mmax (hC : x_C EX TB NT cl kc D xb TF P p R s m args meth c A H0 ws0 nc ns M d) {idx : Nat} {x y : Int} (hf : y_find M.2.2.2.2.1 pc = some (.invokestatic idx, [3])) (hst : (sv.map x_cat).sum ≤ 8) (kk : ∀ z, (x < y → z = y) → (¬ x < y → z = x) → (x_G p l e R s m args below meth c Q xb kc D cl A H0 M.2.2.1 TY ws0 nc ns (pc + 3) (lv) (.inl z :: sv) (I) (L))) : (x_G p l e R s m args below meth c Q xb kc D cl A H0 M.2.2.1 TY ws0 nc ns (pc) (lv) (.inl y :: .inl x :: sv) (I) (L)) := by
  intro ls stk ws H locs ⟨h1, h2, hY⟩
  obtain ⟨hd, hen⟩ := x_en hC hf
  rcases hen with hi | ⟨hi, _⟩ | ⟨hi, _⟩ | ⟨_, hlink, hstat, hini, hcode⟩ | ⟨_, _, _, _, _, _, _, _, hi, _⟩
  · exact absurd (show ([3] : List Nat) = [9999] from hi) (by decide)
  · exact absurd (show ([3] : List Nat) = [0] from hi) (by decide)
  · exact absurd (show ([3] : List Nat) = [2] from hi) (by decide)
  rotate_left
  · cases (List.cons.inj (show ([3] : List Nat) = [1, _] from hi)).2
  obtain ⟨hx, hb, hml, hown, hname, hts, hK, hN, hA, hfr0, hlo, hC0, hS0, hH0, hEx, had0⟩ := hC.1
  obtain ⟨_, sv1, rfl, ⟨v, rfl, e1⟩, g1⟩ := x_st1 h2
  obtain ⟨_, sv2, rfl, ⟨u, rfl, e2⟩, h5⟩ := x_st1 g1
  have hsum : (sv2.map fun v => v.category).sum ≤ 8 := by rw [← x_cats h5]; exact hst
  obtain ⟨lvv, hlv, hz⟩ := id h1
  refine va_mmax hx hb (by rw [hml]; exact hlv.1.symm) hown (hts _ hlink) (hts _ hstat) (hts _ hini) (hts _ hcode) (by omega) (by omega) hC0 hS0 hd ?_
  split
  next hlt =>
    have := y_lti hlt
    exact kk y (fun _ => rfl) (fun q => absurd (by omega) q) ls _ ws H locs ⟨h1, ⟨⟨v, rfl, e1⟩, h5⟩, hY⟩
  next hlt =>
    have := y_nlti hlt
    exact kk x (fun q => absurd q (by omega)) (fun _ => rfl) ls _ ws H locs ⟨h1, ⟨⟨u, rfl, e2⟩, h5⟩, hY⟩
theorem x_mmin (hC : x_C EX TB NT cl kc D xb TF P p R s m args meth c A H0 ws0 nc ns M d) {idx : Nat} {x y : Int} (hf : y_find M.2.2.2.2.1 pc = some (.invokestatic idx, [2])) (hst : (sv.map x_cat).sum ≤ 8) (kk : ∀ z, (y < x → z = y) → (¬ y < x → z = x) → (x_G p l e R s m args below meth c Q xb kc D cl A H0 M.2.2.1 TY ws0 nc ns (pc + 3) (lv) (.inl z :: sv) (I) (L))) : (x_G p l e R s m args below meth c Q xb kc D cl A H0 M.2.2.1 TY ws0 nc ns (pc) (lv) (.inl y :: .inl x :: sv) (I) (L)) := by
  intro ls stk ws H locs ⟨h1, h2, hY⟩
  obtain ⟨hd, hen⟩ := x_en hC hf
  rcases hen with hi | ⟨hi, _⟩ | ⟨_, hlink, hstat, hini, hcode⟩ | ⟨hi, _⟩ | ⟨_, _, _, _, _, _, _, _, hi, _⟩
  · exact absurd (show ([2] : List Nat) = [9999] from hi) (by decide)
  · exact absurd (show ([2] : List Nat) = [0] from hi) (by decide)
  rotate_left
  · exact absurd (show ([2] : List Nat) = [3] from hi) (by decide)
  · cases (List.cons.inj (show ([2] : List Nat) = [1, _] from hi)).2
  obtain ⟨hx, hb, hml, hown, hname, hts, hK, hN, hA, hfr0, hlo, hC0, hS0, hH0, hEx, had0⟩ := hC.1
  obtain ⟨_, sv1, rfl, ⟨v, rfl, e1⟩, g1⟩ := x_st1 h2
  obtain ⟨_, sv2, rfl, ⟨u, rfl, e2⟩, h5⟩ := x_st1 g1
  have hsum : (sv2.map fun v => v.category).sum ≤ 8 := by rw [← x_cats h5]; exact hst
  obtain ⟨lvv, hlv, hz⟩ := id h1
  refine va_mmin hx hb (by rw [hml]; exact hlv.1.symm) hown (hts _ hlink) (hts _ hstat) (hts _ hini) (hts _ hcode) (by omega) (by omega) hC0 hS0 hd ?_
  split
  next hlt =>
    have := y_lti hlt
    exact kk y (fun _ => rfl) (fun q => absurd (by omega) q) ls _ ws H locs ⟨h1, ⟨⟨v, rfl, e1⟩, h5⟩, hY⟩
  next hlt =>
    have := y_nlti hlt
    exact kk x (fun q => absurd q (by omega)) (fun _ => rfl) ls _ ws H locs ⟨h1, ⟨⟨u, rfl, e2⟩, h5⟩, hY⟩
theorem x_alen (hC : x_C EX TB NT cl kc D xb TF P p R s m args meth c A H0 ws0 nc ns M d) {r : Nat} {sg : List (Nat × Int × Int)} (hn : y_len sg ≤ 2147483647) (hf : y_find M.2.2.2.2.1 pc = some (.arraylength, inf)) (hw : y_T TY r = some (.inr (.inl (0, sg)))) (kk : (x_G p l e R s m args below meth c Q xb kc D cl A H0 M.2.2.1 TY ws0 nc ns (pc + 1) (lv) (.inl (y_len sg : Int) :: sv) (I) (L))) : (x_G p l e R s m args below meth c Q xb kc D cl A H0 M.2.2.1 TY ws0 nc ns (pc) (lv) (.inr (.inr (some (r + 1))) :: sv) (I) (L)) := by
  intro ls stk ws H locs ⟨h1, h2, hY⟩
  have hd := (x_en hC hf).1
  obtain ⟨hx, hb, hml, hown, hname, hts, hK, hN, hA, hfr0, hlo, hC0, hS0, hH0, hEx, had0⟩ := hC.1
  obtain ⟨hag, hwt, had, hP, hD, hS⟩ := id hY
  obtain ⟨_, sv', rfl, ⟨a, ha, rfl⟩, h4⟩ := x_st1 h2
  obtain ⟨a', e', hws, f, rfl, hf9⟩ := hwt r _ hw
  obtain rfl := y_adr had hws ha
  refine va_alen hx hb hK hP r 0 hws rfl rfl hd ?_
  exact kk ls _ ws H locs ⟨h1, ⟨⟨_, rfl, by rw [← Int32.ofInt_eq_ofNat, y_oi (by omega) (by omega)]⟩, h4⟩, hY⟩
end XQ0
/-! ===== what a run owes, with these ===== -/
def x_step2 (TB : List Cond) (TY : List (List yC)) (TF : Nat → Nat → FieldType) (P : Nat → Option yM) (ct : xCT) (dj : Nat) (M : yM) (Po : Option xV → xF → xF → Prop) (K : xK) (Ins : Instr) (inf : List Nat) (pc : Nat) (lv : List (Nat × xV)) (sv : List xV) (I L : xF) : Prop := match Ins with
  | .aaload => match sv with
    | .inl i :: .inr (.inr (some (r + 1))) :: rest => match y_T TY r with
      | some (.inr (.inr (.inr (k0, es)))) => x_gd (Nat.beq k0 4 || Nat.beq k0 5) (0 ≤ i ∧ ∃ q, es[i.toNat]? = some (some q) ∧ K (pc + 1) lv (.inr (.inr (some q)) :: rest) I L)
      | _ => False
    | _ => False
  | .baload => match sv with
    | .inl i :: .inr (.inr (some (r + 1))) :: rest => match y_T TY r with
      | some (.inr (.inl (3, sg))) => (0 ≤ i ∧ i < (y_len sg : Int)) ∧ ∀ z, z = I r i.toNat → (∀ q, y_seg sg i.toNat = some q → q.1 ≤ z ∧ z ≤ q.2) → K (pc + 1) lv (.inl z :: rest) I L
      | _ => x_step TB TY TF P ct dj M Po K .baload inf pc lv sv I L
    | _ => False
  | .bastore => match sv with
    | .inl z :: .inl i :: .inr (.inr (some (r + 1))) :: rest => match y_T TY r with
      | some (.inr (.inl (3, sg))) => ((0 ≤ i ∧ i < (y_len sg : Int)) ∧ (z = 0 ∨ z = 1)) ∧ (∀ q, y_seg sg i.toNat = some q → q.1 ≤ z ∧ z ≤ q.2) ∧ K (pc + 1) lv rest (x_u I r i.toNat z) L
      | _ => x_step TB TY TF P ct dj M Po K .bastore inf pc lv sv I L
    | _ => False
  | .invokestatic idx => match inf with
    | [0] => match sv with
      | .inl n :: .inl z1 :: .inr (.inr (some (r1 + 1))) :: .inl z0 :: .inr (.inr (some (r0 + 1))) :: rest => match y_T TY r0, y_T TY r1 with
        | some (.inr (.inl (0, sg0))), some (.inr (.inl (0, sg1))) => x_gd (y_sgs sg0 sg1 && (!Nat.beq r0 r1 && Nat.ble ((rest.map x_cat).sum) 8)) ((z1 = 0 ∧ z0 = 0 ∧ n = (y_len sg1 : Int)) ∧ K (pc + 3) lv rest (x_cp I r0 r1 (y_len sg1)) L)
        | some (.inr (.inr (.inl (n0, _)))), some (.inr (.inr (.inl (n1, [])))) => x_gd (Nat.ble ((rest.map x_cat).sum) 8) ((z1 = 0 ∧ z0 = 0 ∧ 0 ≤ n ∧ n.toNat ≤ n0 ∧ n.toNat ≤ n1) ∧ K (pc + 3) lv rest I (x_cp L r0 r1 n.toNat))
        | _, _ => False
      | _ => False
    | [2] => match sv with
      | .inl y :: .inl x :: rest => x_gd (Nat.ble ((rest.map x_cat).sum) 8) (∀ z, (y < x → z = y) → (¬ y < x → z = x) → K (pc + 3) lv (.inl z :: rest) I L)
      | _ => False
    | [3] => match sv with
      | .inl y :: .inl x :: rest => x_gd (Nat.ble ((rest.map x_cat).sum) 8) (∀ z, (x < y → z = y) → (¬ x < y → z = x) → K (pc + 3) lv (.inl z :: rest) I L)
      | _ => False
    | _ => x_step TB TY TF P ct dj M Po K (.invokestatic idx) inf pc lv sv I L
  | .arraylength => match sv with
    | .inr (.inr (some (r + 1))) :: rest => match y_T TY r with
      | some (.inr (.inl (0, sg))) => x_gd (Nat.ble (y_len sg) 2147483647) (K (pc + 1) lv (.inl (y_len sg : Int) :: rest) I L)
      | _ => False
    | _ => False
  | _ => x_step TB TY TF P ct dj M Po K Ins inf pc lv sv I L
def x_wp2 (TB : List Cond) (TY : List (List yC)) (TF : Nat → Nat → FieldType) (P : Nat → Option yM) (ct : xCT) (dj : Nat) (M : yM) (Po : Option xV → xF → xF → Prop) (cut : Nat → Bool) (Inv : xK) : Nat → Bool → xK
  | 0, _ => fun _ _ _ _ _ => False
  | f + 1, b => fun pc lv sv I L => match b && cut pc with
    | true => Inv pc lv sv I L
    | false => match y_find M.2.2.2.2.1 pc with
      | some (Ins, inf) => x_step2 TB TY TF P ct dj M Po (x_wp2 TB TY TF P ct dj M Po cut Inv f true) Ins inf pc lv sv I L
      | none => False
section XQQ
variable {p : Program} {l : Launch} {e : Env} {R : Room} {s : State} {m : MethodId} {args : Array Value} {below : List Frame} {meth : Method} {c : Code}
variable {xb : Nat} {kc : Nat → ClassId} {D : va_G} {cl : List vw_C} {TY : List (List yC)} {ws0 : va_W}
variable {EX : (Nat → Prop) → State → Heap → Prop} {TB : List Cond} {NT : List (String × Nat × MethodName × String)} {TF : Nat → Nat → FieldType} {P : Nat → Option yM} {M : yM} {d dj : Nat}
variable {pc : Nat} {lv : List (Nat × xV)} {sv : List xV} {I L : xF} {inf : List Nat} {ct : xCT} {Po : Option xV → xF → xF → Prop} {K : xK}
set_option maxHeartbeats 4000000 in
theorem x_step2_ok (hC : x_C EX TB NT cl kc D xb TF P p R s m args meth c (va_A ws0 s.heap.size) s.heap ws0 0 0 M d) (hni : M.1.name ≠ "<init>") (hdj : dj ≤ d) (hct : x_ctok EX l TB NT kc D cl xb TY (z_ad xb ws0) P ct) (hr : meth.sig.returnType = M.2.2.2.1) (hlk : meth.locks = false) {Ins : Instr} (hf : y_find M.2.2.2.2.1 pc = some (Ins, inf)) (hK : ∀ pc lv sv I L, K pc lv sv I L → x_GM p l e R s m args below meth c xb kc D cl TY ws0 M Po pc lv sv I L) (h : x_step2 TB TY TF P ct dj M Po K Ins inf pc lv sv I L) : x_GM p l e R s m args below meth c xb kc D cl TY ws0 M Po pc lv sv I L := by
  unfold x_step2 at h
  split at h
  next =>
    split at h
    next i r rest =>
      split at h
      next k0 es hT =>
        obtain ⟨h1, h2, q, h3, h4⟩ := x_gd_ok h
        rw [Bool.or_eq_true] at h1
        rcases h1 with h1 | h1
        · obtain rfl := x_beq h1
          exact x_aald (T := "HeldCoats$State") hC rfl hf hT h2 h3 (hK _ _ _ _ _ h4)
        · obtain rfl := x_beq h1
          exact x_aald (T := "HeldCoats$Image") hC rfl hf hT h2 h3 (hK _ _ _ _ _ h4)
      next => exact h.elim
    next => exact h.elim
  next =>
    split at h
    next =>
      split at h
      next hT => exact x_zald hC hf hT h.1 (fun z h3 h4 => hK _ _ _ _ _ (h.2 z h3 h4))
      next => exact x_step_ok hC hni hdj hct hr hlk hf hK h
    next => exact h.elim
  next =>
    split at h
    next =>
      split at h
      next hT => exact x_zast hC hf hT h.1.1 h.1.2 h.2.1 (hK _ _ _ _ _ h.2.2)
      next => exact x_step_ok hC hni hdj hct hr hlk hf hK h
    next => exact h.elim
  next idx =>
    split at h
    next =>
      split at h
      next n z1 r1 z0 r0 rest =>
        split at h
        next sg0 sg1 hT0 hT1 =>
          obtain ⟨h1, ⟨rfl, rfl, h2⟩, h3⟩ := x_gd_ok h
          simp only [Bool.and_eq_true, Bool.not_eq_true'] at h1
          obtain ⟨g1, g2, g3⟩ := h1
          have := y_sgs_ok g1
          subst this
          exact x_copyi hC hf hT0 hT1 (fun q => by rw [q, Nat.beq_refl] at g2; cases g2) h2 (x_ble g3) (hK _ _ _ _ _ h3)
        next n0 es0 n1 hT0 hT1 =>
          obtain ⟨h1, ⟨rfl, rfl, h2, h4, h5⟩, h3⟩ := x_gd_ok h
          exact x_copyl hC hf hT0 hT1 h2 h4 h5 (x_ble h1) (hK _ _ _ _ _ h3)
        next => exact h.elim
      next => exact h.elim
    next =>
      split at h
      next =>
        obtain ⟨h1, h2⟩ := x_gd_ok h
        exact x_mmin hC hf (x_ble h1) (fun z h3 h4 => hK _ _ _ _ _ (h2 z h3 h4))
      next => exact h.elim
    next =>
      split at h
      next =>
        obtain ⟨h1, h2⟩ := x_gd_ok h
        exact x_mmax hC hf (x_ble h1) (fun z h3 h4 => hK _ _ _ _ _ (h2 z h3 h4))
      next => exact h.elim
    next => exact x_step_ok hC hni hdj hct hr hlk hf hK h
  next =>
    split at h
    next r rest =>
      split at h
      next hT =>
        obtain ⟨h1, h2⟩ := x_gd_ok h
        exact x_alen hC (x_ble h1) hf hT (hK _ _ _ _ _ h2)
      next => exact h.elim
    next => exact h.elim
  next => exact x_step_ok hC hni hdj hct hr hlk hf hK h
theorem x_wp2_ok {cut : Nat → Bool} {Inv : xK} (hC : x_C EX TB NT cl kc D xb TF P p R s m args meth c (va_A ws0 s.heap.size) s.heap ws0 0 0 M d) (hni : M.1.name ≠ "<init>") (hdj : dj ≤ d) (hct : x_ctok EX l TB NT kc D cl xb TY (z_ad xb ws0) P ct) (hr : meth.sig.returnType = M.2.2.2.1) (hlk : meth.locks = false) (hI : ∀ pc lv sv I L, cut pc = true → Inv pc lv sv I L → x_GM p l e R s m args below meth c xb kc D cl TY ws0 M Po pc lv sv I L) : ∀ (f : Nat) (b : Bool) pc lv sv I L, x_wp2 TB TY TF P ct dj M Po cut Inv f b pc lv sv I L → x_GM p l e R s m args below meth c xb kc D cl TY ws0 M Po pc lv sv I L
  | 0, _, _, _, _, _, _, h => h.elim
  | f + 1, b, pc, lv, sv, I, L, h => by
    unfold x_wp2 at h
    split at h
    next hb =>
      rw [Bool.and_eq_true] at hb
      exact hI _ _ _ _ _ hb.2 h
    next =>
      split at h
      next Ins inf hf => exact x_step2_ok hC hni hdj hct hr hlk hf (x_wp2_ok hC hni hdj hct hr hlk hI f true) h
      next => exact h.elim
/-- a method without a loop -/
theorem x_meth2 {ad : Nat → Option Nat} (hE : z_EX EX) (hall : y_all TB NT cl TF P) {j : Nat} (f : Nat) (hP : P j = some M) (hni : M.1.name ≠ "<init>") {Pre : xPre} {Post : xPost} (hct : x_ctok EX l TB NT kc D cl xb TY ad P ct) (hlen : ∀ za I L, Pre za I L → (za.map x_cat).sum ≤ M.2.2.1) (h : ∀ za I L, Pre za I L → x_wp2 TB TY TF P ct dj M (Post za I L) (fun _ => false) (fun _ _ _ _ _ => False) f true 0 (x_ent 0 za) [] I L) : x_Ok EX l TB NT kc D cl xb TY ad P j dj Pre Post := by
  refine x_enter hE hall hP hlen (fun p e R s m args below meth c ws0 za I L d had hd hpre hag hwt hC hr hlk => ?_)
  subst had
  exact x_wp2_ok hC hni hd hct hr hlk (fun _ _ _ _ _ hc _ => by cases hc) f true 0 _ _ _ _ (h za I L hpre)
/-- a method with loops: at the heads lies something that shrinks -/
theorem x_loop2 {ad : Nat → Option Nat} (hE : z_EX EX) (hall : y_all TB NT cl TF P) {j : Nat} (f : Nat) (hP : P j = some M) (hni : M.1.name ≠ "<init>") {Pre : xPre} {Post : xPost} (hct : x_ctok EX l TB NT kc D cl xb TY ad P ct) (hlen : ∀ za I L, Pre za I L → (za.map x_cat).sum ≤ M.2.2.1) (cut : Nat → Bool) (Inv : List xV → xF → xF → Nat → xK) (h0 : ∀ za I L, Pre za I L → x_wp2 TB TY TF P ct dj M (Post za I L) cut (fun pc lv sv I' L' => ∃ n lv', x_subs lv' lv ∧ Inv za I L n pc lv' sv I' L') f true 0 (x_ent 0 za) [] I L) (h1 : ∀ za I L, Pre za I L → ∀ n pc lv sv I' L', cut pc = true → Inv za I L n pc lv sv I' L' → x_wp2 TB TY TF P ct dj M (Post za I L) cut (fun pc lv sv I' L' => ∃ k lv', k < n ∧ x_subs lv' lv ∧ Inv za I L k pc lv' sv I' L') f false pc lv sv I' L') : x_Ok EX l TB NT kc D cl xb TY ad P j dj Pre Post := by
  refine x_enter hE hall hP hlen (fun p e R s m args below meth c ws0 za I L d had hd hpre hag hwt hC hr hlk => ?_)
  subst had
  have key : ∀ N n, n < N → ∀ pc lv sv I' L', cut pc = true → Inv za I L n pc lv sv I' L' → x_GM p l e R s m args below meth c xb kc D cl TY ws0 M (Post za I L) pc lv sv I' L' := by
    intro N
    induction N with
    | zero => intro n hn; exact absurd hn (Nat.not_lt_zero n)
    | succ N ih =>
      intro n hn pc lv sv I' L' hc hi
      exact x_wp2_ok hC hni hd hct hr hlk (fun pc lv sv I' L' hc ⟨k, lv', hk, hs, hi⟩ => x_GM_sub hs (ih k (by omega) pc lv' sv I' L' hc hi)) f false pc lv sv I' L' (h1 za I L hpre n pc lv sv I' L' hc hi)
  exact x_wp2_ok hC hni hd hct hr hlk (fun pc lv sv I' L' hc ⟨n, lv', hs, hi⟩ => x_GM_sub hs (key (n + 1) n (Nat.lt_succ_self n) pc lv' sv I' L' hc hi)) f true 0 _ _ _ _ (h0 za I L hpre)
end XQQ
