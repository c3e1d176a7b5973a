/-! ===== the exact walk: cells and rows ===== -/
theorem x_idx {i : Int32} {n : Nat} (h1 : 0 ≤ i.toInt) (h2 : i.toInt < (n : Int)) : vp_in i n ∧ i.toNatClampNeg < n ∧ i.toNatClampNeg = i.toInt.toNat := by
  have : i.toNatClampNeg = i.toInt.toNat := rfl
  rw [this]
  exact ⟨vp_in_iff.mpr ⟨by omega, by omega⟩, by omega, rfl⟩
section XW
variable {p : Program} {l : Launch} {e : Env} {R : Room} {s : State} {m : MethodId} {args : Array Value} {below : List Frame} {meth : Method} {c : Code} {Q : State → Prop}
variable {xb : Nat} {kc : Nat → ClassId} {D : va_G} {cl : List vw_C} {A : Nat → Prop} {H0 : Heap} {TY : List (List yC)} {ws0 : va_W} {nc ns : Nat}
variable {EX : (Nat → Prop) → State → Heap → Prop} {TB : List Cond} {NT : List (String × Nat × MethodName × String)} {TF : Nat → Nat → FieldType} {P : Nat → Option yM} {M : yM} {d : Nat}
variable {pc : Nat} {lv : List (Nat × xV)} {sv : List xV} {I L : xF} {inf : List Nat}
theorem x_geti (hC : x_C EX TB NT cl kc D xb TF P p R s m args meth c A H0 ws0 nc ns M d) {idx ci k r : Nat} {ts : List yT} {q : Int × Int} (hf : y_find M.2.2.2.2.1 pc = some (.getfield idx, [ci, k])) (hw : y_T TY r = some (.inl (ci, ts))) (hv : ts[k]? = some (.inl q)) (kk : ∀ z, z = I r k → q.1 ≤ z ∧ z ≤ q.2 → (x_G p l e R s m args below meth c Q xb kc D cl A H0 M.2.2.1 TY ws0 nc ns (pc + 3) (lv) (.inl z :: sv) (I) (L))) : (x_G p l e R s m args below meth c Q xb kc D cl A H0 M.2.2.1 TY ws0 nc ns (pc) (lv) (.inr (.inr (some (r + 1))) :: sv) (I) (L)) := by
  intro ls stk ws H locs ⟨h1, h2, hY⟩
  obtain ⟨hd, ci', k', C, T, N, hi, hKc, hk, hlk⟩ := x_en hC hf
  cases hi
  obtain ⟨hx, hb, hml, hown, hname, hts, hK, hN, hA, hfr0, hlo, hC0, hS0, hH0, hEx, had0⟩ := hC.1
  obtain ⟨hag, hwt, had, hP, hD, hS⟩ := id hY
  obtain ⟨_, sv', rfl, ⟨a, ha, rfl⟩, h4⟩ := x_st1 h2
  obtain ⟨a', e', hws, vs, rfl, hvs⟩ := hwt r _ hw
  obtain rfl := y_adr had hws ha
  obtain ⟨v, hb1, ⟨x, rfl, hx1, hx2⟩, hat⟩ := y_fv hws hvs hv
  exact va_get hx hb hts hKc.2.1 hown hK hP r hws hKc.1 k hk (hts _ hlk) (fun _ h => h) hb1 hd (kk x.toInt (hag.1 r k x hat) ⟨hx1, hx2⟩ ls _ ws H locs ⟨h1, ⟨⟨x, rfl, rfl⟩, h4⟩, hY⟩)
theorem x_getr (hC : x_C EX TB NT cl kc D xb TF P p R s m args meth c A H0 ws0 nc ns M d) {idx ci k r r1 : Nat} {ts : List yT} (hf : y_find M.2.2.2.2.1 pc = some (.getfield idx, [ci, k])) (hw : y_T TY r = some (.inl (ci, ts))) (hv : ts[k]? = some (.inr (.inl [some r1]))) (kk : (x_G p l e R s m args below meth c Q xb kc D cl A H0 M.2.2.1 TY ws0 nc ns (pc + 3) (lv) (.inr (.inr (some r1)) :: sv) (I) (L))) : (x_G p l e R s m args below meth c Q xb kc D cl A H0 M.2.2.1 TY ws0 nc ns (pc) (lv) (.inr (.inr (some (r + 1))) :: sv) (I) (L)) := by
  intro ls stk ws H locs ⟨h1, h2, hY⟩
  obtain ⟨hd, ci', k', C, T, N, hi, hKc, hk, hlk⟩ := x_en hC hf
  cases hi
  obtain ⟨hx, hb, hml, hown, hname, hts, hK, hN, hA, hfr0, hlo, hC0, hS0, hH0, hEx, had0⟩ := hC.1
  obtain ⟨hag, hwt, had, hP, hD, hS⟩ := id hY
  obtain ⟨_, sv', rfl, ⟨a, ha, rfl⟩, h4⟩ := x_st1 h2
  obtain ⟨a', e', hws, vs, rfl, hvs⟩ := hwt r _ hw
  obtain rfl := y_adr had hws ha
  obtain ⟨v, hb1, ⟨o, ho, hvo⟩, hat⟩ := y_fv hws hvs hv
  have := List.mem_singleton.mp ho
  subst this
  obtain ⟨a1, g1, rfl⟩ := hvo
  exact va_get hx hb hts hKc.2.1 hown hK hP r hws hKc.1 k hk (hts _ hlk) (fun _ h => h) hb1 hd (kk ls _ ws H locs ⟨h1, ⟨⟨a1, g1, rfl⟩, h4⟩, hY⟩)
theorem x_getl (hC : x_C EX TB NT cl kc D xb TF P p R s m args meth c A H0 ws0 nc ns M d) {idx ci k r : Nat} {ts : List yT} {u : Unit} (hf : y_find M.2.2.2.2.1 pc = some (.getfield idx, [ci, k])) (hw : y_T TY r = some (.inl (ci, ts))) (hv : ts[k]? = some (.inr (.inr u))) (kk : ∀ z, z = L r k → (x_G p l e R s m args below meth c Q xb kc D cl A H0 M.2.2.1 TY ws0 nc ns (pc + 3) (lv) (.inr (.inl z) :: sv) (I) (L))) : (x_G p l e R s m args below meth c Q xb kc D cl A H0 M.2.2.1 TY ws0 nc ns (pc) (lv) (.inr (.inr (some (r + 1))) :: sv) (I) (L)) := by
  intro ls stk ws H locs ⟨h1, h2, hY⟩
  obtain ⟨hd, ci', k', C, T, N, hi, hKc, hk, hlk⟩ := x_en hC hf
  cases hi
  obtain ⟨hx, hb, hml, hown, hname, hts, hK, hN, hA, hfr0, hlo, hC0, hS0, hH0, hEx, had0⟩ := hC.1
  obtain ⟨hag, hwt, had, hP, hD, hS⟩ := id hY
  obtain ⟨_, sv', rfl, ⟨a, ha, rfl⟩, h4⟩ := x_st1 h2
  obtain ⟨a', e', hws, vs, rfl, hvs⟩ := hwt r _ hw
  obtain rfl := y_adr had hws ha
  obtain ⟨v, hb1, ⟨x, rfl⟩, hat⟩ := y_fv hws hvs hv
  have h9 : x_at ws r k = some x := by
    unfold x_at
    rw [hws]
    dsimp only
    rw [hb1]
    rfl
  exact va_get hx hb hts hKc.2.1 hown hK hP r hws hKc.1 k hk (hts _ hlk) (fun _ h => h) hb1 hd (kk x.toInt (hag.2 r k x h9) ls _ ws H locs ⟨h1, ⟨⟨x, rfl, rfl⟩, h4⟩, hY⟩)
theorem x_puti (hC : x_C EX TB NT cl kc D xb TF P p R s m args meth c A H0 ws0 nc ns M d) (hni : M.1.name ≠ "<init>") {idx ci k r : Nat} {ts : List yT} {q : Int × Int} {z : Int} (hf : y_find M.2.2.2.2.1 pc = some (.putfield idx, [ci, k])) (hw : y_T TY r = some (.inl (ci, ts))) (hv : ts[k]? = some (.inl q)) (hfit : y_fit (TF ci k) q = true) (hz : q.1 ≤ z ∧ z ≤ q.2) (kk : (x_G p l e R s m args below meth c Q xb kc D cl A H0 M.2.2.1 TY ws0 nc ns (pc + 3) (lv) (sv) (x_u I r k z) (L))) : (x_G p l e R s m args below meth c Q xb kc D cl A H0 M.2.2.1 TY ws0 nc ns (pc) (lv) (.inl z :: .inr (.inr (some (r + 1))) :: sv) (I) (L)) := by
  intro ls stk ws H locs ⟨h1, h2, hY⟩
  obtain ⟨hd, ci', k', C, T, N, hi, hKc, hk, hlk, hfin⟩ := x_en hC hf
  cases hi
  obtain ⟨hx, hb, hml, hown, hname, hts, hK, hN, hA, hfr0, hlo, hC0, hS0, hH0, hEx, had0⟩ := hC.1
  obtain ⟨hag, hwt, had, hP, hD, hS⟩ := id hY
  obtain ⟨_, sv', rfl, ⟨x, rfl, rfl⟩, h4⟩ := x_st1 h2
  obtain ⟨_, sv'', rfl, ⟨a, ha, rfl⟩, h5⟩ := x_st1 h4
  obtain ⟨a', e', hws, vs, rfl, hvs⟩ := hwt r _ hw
  obtain rfl := y_adr had hws ha
  obtain ⟨hn1, hn2⟩ := y_fit_ok hfit hz.1 hz.2
  have hl' : k < vs.length := by rw [← z_L_len hvs]; exact (List.getElem?_eq_some_iff.mp hv).1
  refine y_putc hx hb hts hKc.2.1 hKc.2.2.1 hKc.2.2.2 hown hK hKc.1 hk hlk (by rcases hfin with h | h; exact Or.inl h; exact absurd h.2.1 hni) hd hws hl' hn1 hn2 hP hD hS (fun H1 locs1 hP1 hD1 hS1 => ?_)
  obtain ⟨v0, hb1, ⟨x0, rfl, _, _⟩, hat0⟩ := y_fv hws hvs hv
  have e1 : ∀ r' k', y_at (ws.set r (a, .inr (ci, vs.set k (.int x)))) r' k' = if r' = r ∧ k' = k then some x else y_at ws r' k' := fun r' k' => y_at_seto (v := .int x) hws hl' r' k'
  have e2 : ∀ r' k', x_at (ws.set r (a, .inr (ci, vs.set k (.int x)))) r' k' = x_at ws r' k' := fun r' k' => by
    rw [x_at_seto hws hl']
    split
    next h9 =>
      obtain ⟨rfl, rfl⟩ := h9
      unfold x_at
      rw [hws]
      dsimp only
      rw [hb1]
      rfl
    next => rfl
  refine kk ls _ _ H1 locs1 ⟨h1, h5, x_ag_i hag e1 e2, y_w_set hwt hws hw ⟨_, rfl, ?_⟩, (z_ad_set hws).trans had, hP1, hD1, hS1⟩
  have h9 := z_L_set hvs k (a := .inl q) (b := .int x) ⟨x, rfl, hz.1, hz.2⟩
  rwa [y_setsame hv] at h9
theorem x_putl (hC : x_C EX TB NT cl kc D xb TF P p R s m args meth c A H0 ws0 nc ns M d) (hni : M.1.name ≠ "<init>") {idx ci k r : Nat} {ts : List yT} {u : Unit} {z : Int} (hf : y_find M.2.2.2.2.1 pc = some (.putfield idx, [ci, k])) (hw : y_T TY r = some (.inl (ci, ts))) (hv : ts[k]? = some (.inr (.inr u))) (hfit : TF ci k = .long) (kk : (x_G p l e R s m args below meth c Q xb kc D cl A H0 M.2.2.1 TY ws0 nc ns (pc + 3) (lv) (sv) (I) (x_u L r k z))) : (x_G p l e R s m args below meth c Q xb kc D cl A H0 M.2.2.1 TY ws0 nc ns (pc) (lv) (.inr (.inl z) :: .inr (.inr (some (r + 1))) :: sv) (I) (L)) := by
  intro ls stk ws H locs ⟨h1, h2, hY⟩
  obtain ⟨hd, ci', k', C, T, N, hi, hKc, hk, hlk, hfin⟩ := x_en hC hf
  cases hi
  obtain ⟨hx, hb, hml, hown, hname, hts, hK, hN, hA, hfr0, hlo, hC0, hS0, hH0, hEx, had0⟩ := hC.1
  obtain ⟨hag, hwt, had, hP, hD, hS⟩ := id hY
  obtain ⟨_, sv', rfl, ⟨x, rfl, rfl⟩, h4⟩ := x_st1 h2
  obtain ⟨_, sv'', rfl, ⟨a, ha, rfl⟩, h5⟩ := x_st1 h4
  obtain ⟨a', e', hws, vs, rfl, hvs⟩ := hwt r _ hw
  obtain rfl := y_adr had hws ha
  have hl' : k < vs.length := by rw [← z_L_len hvs]; exact (List.getElem?_eq_some_iff.mp hv).1
  refine y_putc hx hb hts hKc.2.1 hKc.2.2.1 hKc.2.2.2 hown hK hKc.1 hk hlk (by rcases hfin with h | h; exact Or.inl h; exact absurd h.2.1 hni) hd hws hl' (x := .long x) (by rw [hfit]; rfl) (by rw [hfit]; rfl) hP hD hS (fun H1 locs1 hP1 hD1 hS1 => ?_)
  obtain ⟨v0, hb1, ⟨x0, rfl⟩, hat0⟩ := y_fv hws hvs hv
  have e1 : ∀ r' k', x_at (ws.set r (a, .inr (ci, vs.set k (.long x)))) r' k' = if r' = r ∧ k' = k then some x else x_at ws r' k' := fun r' k' => x_at_seto (v := .long x) hws hl' r' k'
  have e2 : ∀ r' k', y_at (ws.set r (a, .inr (ci, vs.set k (.long x)))) r' k' = y_at ws r' k' := fun r' k' => by
    rw [y_at_seto hws hl']
    split
    next h9 =>
      obtain ⟨rfl, rfl⟩ := h9
      rw [hat0]
      rfl
    next => rfl
  refine kk ls _ _ H1 locs1 ⟨h1, h5, x_ag_l hag e1 e2, y_w_set hwt hws hw ⟨_, rfl, ?_⟩, (z_ad_set hws).trans had, hP1, hD1, hS1⟩
  have h9 := z_L_set hvs k (a := .inr (.inr u)) (b := .long x) ⟨x, rfl⟩
  rwa [y_setsame hv] at h9
theorem x_iald (hC : x_C EX TB NT cl kc D xb TF P p R s m args meth c A H0 ws0 nc ns M d) {r : Nat} {sg : List (Nat × Int × Int)} {i : Int} (hf : y_find M.2.2.2.2.1 pc = some (.iaload, inf)) (hw : y_T TY r = some (.inr (.inl (0, sg)))) (hi : 0 ≤ i ∧ i < (y_len sg : Int)) (kk : ∀ z, z = I r i.toNat → (∀ q, y_seg sg i.toNat = some q → q.1 ≤ z ∧ z ≤ q.2) → (x_G p l e R s m args below meth c Q xb kc D cl A H0 M.2.2.1 TY ws0 nc ns (pc + 1) (lv) (.inl z :: sv) (I) (L))) : (x_G p l e R s m args below meth c Q xb kc D cl A H0 M.2.2.1 TY ws0 nc ns (pc) (lv) (.inl i :: .inr (.inr (some (r + 1))) :: sv) (I) (L)) := by
  intro ls stk ws H locs ⟨h1, h2, hY⟩
  have hd := (x_en hC hf).1
  obtain ⟨hx, hb, hml, hown, hname, hts, hK, hN, hA, hfr0, hlo, hC0, hS0, hH0, hEx, had0⟩ := hC.1
  obtain ⟨hag, hwt, had, hP, hD, hS⟩ := id hY
  obtain ⟨_, sv', rfl, ⟨x, rfl, rfl⟩, h4⟩ := x_st1 h2
  obtain ⟨_, sv'', rfl, ⟨a, ha, rfl⟩, h5⟩ := x_st1 h4
  obtain ⟨a', e', hws, f, rfl, hf9⟩ := hwt r _ hw
  obtain rfl := y_adr had hws ha
  obtain ⟨i1, i2, i3⟩ := x_idx hi.1 hi.2
  have h9 : y_at ws r x.toInt.toNat = some (f x.toNatClampNeg) := by
    unfold y_at
    rw [hws]
    dsimp only
    rw [← i3, if_pos i2]
  exact va_iald hx hb hK hP r 0 hws rfl i1 hd (kk _ (hag.1 _ _ _ h9) (fun q hq => hf9 _ q.1 q.2 hq) ls _ ws H locs ⟨h1, ⟨⟨_, rfl, rfl⟩, h5⟩, hY⟩)
theorem x_bald (hC : x_C EX TB NT cl kc D xb TF P p R s m args meth c A H0 ws0 nc ns M d) {r : Nat} {sg : List (Nat × Int × Int)} {i : Int} (hf : y_find M.2.2.2.2.1 pc = some (.baload, inf)) (hw : y_T TY r = some (.inr (.inl (2, sg)))) (hi : 0 ≤ i ∧ i < (y_len sg : Int)) (kk : ∀ z, z = I r i.toNat → (∀ q, y_seg sg i.toNat = some q → q.1 ≤ z ∧ z ≤ q.2) → (x_G p l e R s m args below meth c Q xb kc D cl A H0 M.2.2.1 TY ws0 nc ns (pc + 1) (lv) (.inl z :: sv) (I) (L))) : (x_G p l e R s m args below meth c Q xb kc D cl A H0 M.2.2.1 TY ws0 nc ns (pc) (lv) (.inl i :: .inr (.inr (some (r + 1))) :: sv) (I) (L)) := by
  intro ls stk ws H locs ⟨h1, h2, hY⟩
  have hd := (x_en hC hf).1
  obtain ⟨hx, hb, hml, hown, hname, hts, hK, hN, hA, hfr0, hlo, hC0, hS0, hH0, hEx, had0⟩ := hC.1
  obtain ⟨hag, hwt, had, hP, hD, hS⟩ := id hY
  obtain ⟨_, sv', rfl, ⟨x, rfl, rfl⟩, h4⟩ := x_st1 h2
  obtain ⟨_, sv'', rfl, ⟨a, ha, rfl⟩, h5⟩ := x_st1 h4
  obtain ⟨a', e', hws, f, rfl, hf9⟩ := hwt r _ hw
  obtain rfl := y_adr had hws ha
  obtain ⟨i1, i2, i3⟩ := x_idx hi.1 hi.2
  have h9 : y_at ws r x.toInt.toNat = some (f x.toNatClampNeg) := by
    unfold y_at
    rw [hws]
    dsimp only
    rw [← i3, if_pos i2]
  exact va_bald hx hb hK hP r 2 hws rfl i1 hd (kk _ (hag.1 _ _ _ h9) (fun q hq => hf9 _ q.1 q.2 hq) ls _ ws H locs ⟨h1, ⟨⟨_, rfl, rfl⟩, h5⟩, hY⟩)
theorem x_lald (hC : x_C EX TB NT cl kc D xb TF P p R s m args meth c A H0 ws0 nc ns M d) {r n : Nat} {es : List Int} {i : Int} (hf : y_find M.2.2.2.2.1 pc = some (.laload, inf)) (hw : y_T TY r = some (.inr (.inr (.inl (n, es))))) (h0 : y_ok0 es = true) (hi : 0 ≤ i ∧ i < (n : Int)) (kk : ∀ z, z = L r i.toNat → (∀ x, es[i.toNat]? = some x → z = x) → (x_G p l e R s m args below meth c Q xb kc D cl A H0 M.2.2.1 TY ws0 nc ns (pc + 1) (lv) (.inr (.inl z) :: sv) (I) (L))) : (x_G p l e R s m args below meth c Q xb kc D cl A H0 M.2.2.1 TY ws0 nc ns (pc) (lv) (.inl i :: .inr (.inr (some (r + 1))) :: sv) (I) (L)) := by
  intro ls stk ws H locs ⟨h1, h2, hY⟩
  have hd := (x_en hC hf).1
  obtain ⟨hx, hb, hml, hown, hname, hts, hK, hN, hA, hfr0, hlo, hC0, hS0, hH0, hEx, had0⟩ := hC.1
  obtain ⟨hag, hwt, had, hP, hD, hS⟩ := id hY
  obtain ⟨_, sv', rfl, ⟨x, rfl, rfl⟩, h4⟩ := x_st1 h2
  obtain ⟨_, sv'', rfl, ⟨a, ha, rfl⟩, h5⟩ := x_st1 h4
  obtain ⟨a', e', hws, f, rfl, hf9⟩ := hwt r _ hw
  have hf9 : ∀ (j : Nat) (x : Int), es[j]? = some x → (f j).toInt = x := fun j x hj => hf9 j x ((y_lc_0 h0 j).trans hj)
  obtain rfl := y_adr had hws ha
  obtain ⟨i1, i2, i3⟩ := x_idx hi.1 hi.2
  have h9 : x_at ws r x.toInt.toNat = some (f x.toNatClampNeg) := by
    unfold x_at
    rw [hws]
    dsimp only
    rw [← i3, if_pos i2]
  exact va_lald hx hb hK hP r 1 hws rfl i1 hd (kk _ (hag.2 _ _ _ h9) (fun q hq => hf9 _ q hq) ls _ ws H locs ⟨h1, ⟨⟨_, rfl, rfl⟩, h5⟩, hY⟩)
theorem x_iast (hC : x_C EX TB NT cl kc D xb TF P p R s m args meth c A H0 ws0 nc ns M d) {r : Nat} {sg : List (Nat × Int × Int)} {i z : Int} (hf : y_find M.2.2.2.2.1 pc = some (.iastore, inf)) (hw : y_T TY r = some (.inr (.inl (0, sg)))) (hi : 0 ≤ i ∧ i < (y_len sg : Int)) (hq : ∀ q, y_seg sg i.toNat = some q → q.1 ≤ z ∧ z ≤ q.2) (kk : (x_G p l e R s m args below meth c Q xb kc D cl A H0 M.2.2.1 TY ws0 nc ns (pc + 1) (lv) (sv) (x_u I r i.toNat z) (L))) : (x_G p l e R s m args below meth c Q xb kc D cl A H0 M.2.2.1 TY ws0 nc ns (pc) (lv) (.inl z :: .inl i :: .inr (.inr (some (r + 1))) :: sv) (I) (L)) := by
  intro ls stk ws H locs ⟨h1, h2, hY⟩
  have hd := (x_en hC hf).1
  obtain ⟨hx, hb, hml, hown, hname, hts, hK, hN, hA, hfr0, hlo, hC0, hS0, hH0, hEx, had0⟩ := hC.1
  obtain ⟨hag, hwt, had, hP, hD, hS⟩ := id hY
  obtain ⟨_, sv0, rfl, ⟨y, rfl, rfl⟩, h4⟩ := x_st1 h2
  obtain ⟨_, sv1, rfl, ⟨x, rfl, rfl⟩, h5⟩ := x_st1 h4
  obtain ⟨_, sv2, rfl, ⟨a, ha, rfl⟩, h6⟩ := x_st1 h5
  obtain ⟨a', e', hws, f, rfl, hf9⟩ := hwt r _ hw
  obtain rfl := y_adr had hws ha
  obtain ⟨i1, i2, i3⟩ := x_idx hi.1 hi.2
  refine va_iast hx hb hK hP hD hS r 0 hws rfl i1 hd (fun H1 locs1 hP1 hD1 hS1 => ?_)
  have e1 := y_at_seta (x := y) hws i2
  have e2 : ∀ r' k', x_at (ws.set r (a, .inl (kc 0, y_len sg, .inl (upd f x.toNatClampNeg y)))) r' k' = x_at ws r' k' := x_at_setn hws (fun k => by
    unfold x_at
    rw [List.getElem?_set_self (List.getElem?_eq_some_iff.mp hws).1, hws])
  refine kk ls _ _ H1 locs1 ⟨h1, h6, by rw [← i3]; exact x_ag_i hag e1 e2, y_w_set hwt hws hw ⟨_, rfl, fun j lo hi hj => ?_⟩, (z_ad_set hws).trans had, hP1, hD1, hS1⟩
  by_cases hjy : j = x.toNatClampNeg
  · subst hjy
    rw [pk_us]
    exact hq (lo, hi) (by rw [← i3]; exact hj)
  · rw [pk_un hjy]
    exact hf9 j lo hi hj
theorem x_bast (hC : x_C EX TB NT cl kc D xb TF P p R s m args meth c A H0 ws0 nc ns M d) {r : Nat} {sg : List (Nat × Int × Int)} {i z : Int} (hf : y_find M.2.2.2.2.1 pc = some (.bastore, inf)) (hw : y_T TY r = some (.inr (.inl (2, sg)))) (hi : 0 ≤ i ∧ i < (y_len sg : Int)) (hb8 : -128 ≤ z ∧ z ≤ 127) (hq : ∀ q, y_seg sg i.toNat = some q → q.1 ≤ z ∧ z ≤ q.2) (kk : (x_G p l e R s m args below meth c Q xb kc D cl A H0 M.2.2.1 TY ws0 nc ns (pc + 1) (lv) (sv) (x_u I r i.toNat z) (L))) : (x_G p l e R s m args below meth c Q xb kc D cl A H0 M.2.2.1 TY ws0 nc ns (pc) (lv) (.inl z :: .inl i :: .inr (.inr (some (r + 1))) :: sv) (I) (L)) := by
  intro ls stk ws H locs ⟨h1, h2, hY⟩
  have hd := (x_en hC hf).1
  obtain ⟨hx, hb, hml, hown, hname, hts, hK, hN, hA, hfr0, hlo, hC0, hS0, hH0, hEx, had0⟩ := hC.1
  obtain ⟨hag, hwt, had, hP, hD, hS⟩ := id hY
  obtain ⟨_, sv0, rfl, ⟨y, rfl, rfl⟩, h4⟩ := x_st1 h2
  obtain ⟨_, sv1, rfl, ⟨x, rfl, rfl⟩, h5⟩ := x_st1 h4
  obtain ⟨_, sv2, rfl, ⟨a, ha, rfl⟩, h6⟩ := x_st1 h5
  obtain ⟨a', e', hws, f, rfl, hf9⟩ := hwt r _ hw
  obtain rfl := y_adr had hws ha
  obtain ⟨i1, i2, i3⟩ := x_idx hi.1 hi.2
  refine va_bast hx hb hK hP hD hS r 2 hws rfl i1 hd (fun H1 locs1 hP1 hD1 hS1 => ?_)
  have hnar : vp_nar .byte y = y := by
    refine Int32.toInt_inj.mp ?_
    show (y.toInt8.toInt32).toInt = y.toInt
    exact y_i2b_id hb8.1 hb8.2
  rw [hnar] at hP1 hD1
  have e1 := y_at_seta (x := y) hws i2
  have e2 : ∀ r' k', x_at (ws.set r (a, .inl (kc 2, y_len sg, .inl (upd f x.toNatClampNeg y)))) r' k' = x_at ws r' k' := x_at_setn hws (fun k => by
    unfold x_at
    rw [List.getElem?_set_self (List.getElem?_eq_some_iff.mp hws).1, hws])
  refine kk ls _ _ H1 locs1 ⟨h1, h6, by rw [← i3]; exact x_ag_i hag e1 e2, y_w_set hwt hws hw ⟨_, rfl, fun j lo hi hj => ?_⟩, (z_ad_set hws).trans had, hP1, hD1, hS1⟩
  by_cases hjy : j = x.toNatClampNeg
  · subst hjy
    rw [pk_us]
    exact hq (lo, hi) (by rw [← i3]; exact hj)
  · rw [pk_un hjy]
    exact hf9 j lo hi hj
theorem x_last (hC : x_C EX TB NT cl kc D xb TF P p R s m args meth c A H0 ws0 nc ns M d) {r n : Nat} {i z : Int} (hf : y_find M.2.2.2.2.1 pc = some (.lastore, inf)) (hw : y_T TY r = some (.inr (.inr (.inl (n, []))))) (hi : 0 ≤ i ∧ i < (n : Int)) (kk : (x_G p l e R s m args below meth c Q xb kc D cl A H0 M.2.2.1 TY ws0 nc ns (pc + 1) (lv) (sv) (I) (x_u L r i.toNat z))) : (x_G p l e R s m args below meth c Q xb kc D cl A H0 M.2.2.1 TY ws0 nc ns (pc) (lv) (.inr (.inl z) :: .inl i :: .inr (.inr (some (r + 1))) :: sv) (I) (L)) := by
  intro ls stk ws H locs ⟨h1, h2, hY⟩
  have hd := (x_en hC hf).1
  obtain ⟨hx, hb, hml, hown, hname, hts, hK, hN, hA, hfr0, hlo, hC0, hS0, hH0, hEx, had0⟩ := hC.1
  obtain ⟨hag, hwt, had, hP, hD, hS⟩ := id hY
  obtain ⟨_, sv0, rfl, ⟨y, rfl, rfl⟩, h4⟩ := x_st1 h2
  obtain ⟨_, sv1, rfl, ⟨x, rfl, rfl⟩, h5⟩ := x_st1 h4
  obtain ⟨_, sv2, rfl, ⟨a, ha, rfl⟩, h6⟩ := x_st1 h5
  obtain ⟨a', e', hws, f, rfl, hf9⟩ := hwt r _ hw
  obtain rfl := y_adr had hws ha
  obtain ⟨i1, i2, i3⟩ := x_idx hi.1 hi.2
  refine va_last hx hb hK hP hD hS r 1 hws rfl i1 hd (fun H1 locs1 hP1 hD1 hS1 => ?_)
  have e1 := x_at_setl (x := y) hws i2
  have e2 : ∀ r' k', y_at (ws.set r (a, .inl (kc 1, n, .inr (.inl (vp_updL f x.toNatClampNeg y))))) r' k' = y_at ws r' k' := y_at_setn hws (fun k => by
    unfold y_at
    rw [List.getElem?_set_self (List.getElem?_eq_some_iff.mp hws).1, hws])
  exact kk ls _ _ H1 locs1 ⟨h1, h6, by rw [← i3]; exact x_ag_l hag e1 e2, y_w_set hwt hws hw ⟨_, rfl, fun j x hj => by cases hj⟩, (z_ad_set hws).trans had, hP1, hD1, hS1⟩
end XW
