/-! ===== copies, the greater, the less ===== -/
/-- what is known of a row, of its copy too -/
def y_kcp (kn : yN) (r0 r1 : Nat) : yN := (kn.filterMap (fun q => if q.1.1 = r0 then some ((r1, q.1.2), q.2) else none)) ++ kn.filter (fun q => !(q.1.1 == r1))
theorem y_kcp_ok {env : List Int} {kn : yN} {r0 r1 : Nat} {ws ws' : va_W} (hk : y_k env ws kn) (hat : ∀ r' k', y_at ws' r' k' = if r' = r1 then y_at ws r0 k' else y_at ws r' k') : y_k env ws' (y_kcp kn r0 r1) := by
  intro q hq
  rcases List.mem_append.mp hq with hq | hq
  · obtain ⟨q0, hq0, hq1⟩ := List.mem_filterMap.mp hq
    split at hq1
    next hc =>
      cases hq1
      obtain ⟨j, x, e0, e1, e2⟩ := hk q0 hq0
      refine ⟨j, x, e0, ?_, e2⟩
      dsimp only
      rw [hat, if_pos rfl, ← hc]
      exact e1
    next => cases hq1
  · obtain ⟨hq0, hq1⟩ := List.mem_filter.mp hq
    obtain ⟨j, x, e0, e1, e2⟩ := hk q hq0
    refine ⟨j, x, e0, ?_, e2⟩
    rw [hat, if_neg (by simpa using hq1)]
    exact e1
def y_cpo (GR : List yGr) (r0 r1 : Nat) (ex : List (Nat × yI)) (cp : List (Nat × Nat)) : Option (List (Nat × yI) × List (Nat × Nat)) := match y_grp GR 0 r1 with
  | [] => some (ex, cp)
  | [g] => match y_grp GR 0 r0 with
    | [g0] => match GR[g]?, GR[g0]? with
      | some a, some b => if g = g0 then none else if ex.isEmpty = true then (if a.1 = r1 then (if b.1 = r0 ∧ cp.isEmpty = true then some ([], [(g, g0)]) else none)
          else match cp, a.2.2, b.2.2 with
            | [(c1, c2)], [(ra, la, ha)], [(rb, lb, hb)] => if c1 = g ∧ c2 = g0 ∧ ra = r1 ∧ rb = r0 ∧ la = lb ∧ ha = hb ∧ a.2.1.1 = b.2.1.1 ∧ a.2.1.2 = b.2.1.2 then some ([], []) else none
            | _, _, _ => none) else none
      | _, _ => none
    | _ => none
  | _ => none
theorem y_grp_only {GR : List yGr} {r g i : Nat} {a : yGr} (h : y_grp GR 0 r = [g]) (hi : GR[i]? = some a) (ha : y_gin a r = true) : i = g := by
  have := y_grp_in (i := 0) hi ha
  rw [h, Nat.zero_add] at this
  simpa using this
theorem y_cpo_ok {GR : List yGr} {env : List Int} {r0 r1 : Nat} {ex ex' : List (Nat × yI)} {cp cp' : List (Nat × Nat)} {ws ws' : va_W} (h : y_cpo GR r0 r1 ex cp = some (ex', cp')) (hG : y_Gs GR env ex cp ws) (hne : r0 ≠ r1) (hat : ∀ r' k', y_at ws' r' k' = if r' = r1 then y_at ws r0 k' else y_at ws r' k') : y_Gs GR env ex' cp' ws' := by
  have hsame : ∀ (i : Nat) (a : yGr) (j : Nat), y_gin a r1 = false → y_Rg ws a j → y_Rg ws' a j := fun i a j hn hr => y_Rg_same (fun r hr' => by
    rw [hat, if_neg (fun e => by rw [e, hn] at hr'; cases hr')]) hr
  unfold y_cpo at h
  split at h
  next hg =>
    cases h
    have hno : ∀ (i : Nat) (a : yGr), GR[i]? = some a → y_gin a r1 = false := fun i a hi => by
      cases hb : y_gin a r1 with
      | false => rfl
      | true =>
        have := y_grp_in (i := 0) hi hb
        rw [hg] at this
        cases this
    refine ⟨fun i a hi hc j hj => hsame i a j (hno i a hi) (hG.1 i a hi hc j hj), fun a b ga gb hab ha hb j => ?_⟩
    have n1 : ga.1 ≠ r1 := fun e => by have := hno a ga ha; unfold y_gin at this; simp [e] at this
    have n2 : gb.1 ≠ r1 := fun e => by have := hno b gb hb; unfold y_gin at this; simp [e] at this
    rw [hat, hat, if_neg n1, if_neg n2]
    exact hG.2 a b ga gb hab ha hb j
  next g hg =>
    have hno : ∀ (i : Nat) (a : yGr), GR[i]? = some a → i ≠ g → y_gin a r1 = false := fun i a hi hn => by
      cases hb : y_gin a r1 with
      | false => rfl
      | true => exact absurd (y_grp_only hg hi hb) hn
    split at h
    next g0 hg0 =>
      split at h
      next a b hA hB =>
        split at h
        next => cases h
        next hgg =>
          split at h
          next hex =>
            have hex := List.isEmpty_iff.mp hex
            subst hex
            split at h
            next ha1 =>
              split at h
              next hc =>
                cases h
                refine ⟨fun i c hi hcp j hj => ?_, fun x y gx gy hxy hx hy j => ?_⟩
                · have hi' : i ≠ g := fun e => hcp g0 (by rw [e]; exact List.mem_cons_self)
                  exact hsame i c j (hno i c hi hi') (hG.1 i c hi (fun b' hb' => by rw [List.isEmpty_iff.mp hc.2] at hb'; cases hb') j hj)
                · have e := List.mem_singleton.mp hxy
                  cases e
                  rw [hA] at hx
                  rw [hB] at hy
                  cases hx
                  cases hy
                  rw [hat, hat, if_pos ha1, if_neg (by rw [hc.1]; exact hne), hc.1]
              next => cases h
            next ha1 =>
              split at h
              next c1 c2 ra la ha rb lb hb h1 h2 =>
                split at h
                next hc =>
                  obtain ⟨rfl, rfl, rfl, rfl, rfl, rfl, m1, m2⟩ := hc
                  cases h
                  refine ⟨fun i c hi _ j hj => ?_, fun _ _ _ _ h9 => by cases h9⟩
                  by_cases hi' : i = c1
                  · subst hi'
                    rw [hA] at hi
                    cases hi
                    have nb : b.1 ≠ ra := fun e => by have := hno c2 b hB (fun e2 => hgg e2.symm); unfold y_gin at this; simp [e] at this
                    have hb0 := hG.1 c2 b hB (fun b' hb' => by
                      have := List.mem_singleton.mp hb'
                      cases this
                      exact hgg rfl) j (fun ⟨_, h9, _⟩ => by cases h9)
                    intro x hx k1 k2 q hq y hy
                    rw [h1] at hq
                    have := List.mem_singleton.mp hq
                    subst this
                    dsimp only at hy ⊢
                    rw [hat, if_neg ha1] at hx
                    rw [hG.2 i c2 a b List.mem_cons_self hA hB j] at hx
                    rw [hat, if_pos rfl] at hy
                    exact hb0 x hx (by omega) (by omega) (rb, la, ha) (by rw [h2]; exact List.mem_cons_self) y hy
                  · exact hsame i c j (hno i c hi hi') (hG.1 i c hi (fun b' hb' => by
                      have := List.mem_singleton.mp hb'
                      cases this
                      exact hi' rfl) j hj)
                next => cases h
              next => cases h
          next => cases h
      next => cases h
    next => cases h
  next => cases h
section YQ5
variable {p : Program} {l : Launch} {e : Env} {R : Room} {s : State} {m : MethodId} {args : Array Value} {below : List Frame} {meth : Method} {c : Code} {Q : State → Prop} {cc : ByteArray}
variable {xb : Nat} {kc : Nat → ClassId} {D : va_G} {cl : List vw_C} {A : Nat → Prop} {H0 : Heap} {nL : Nat} {TY : List (List yC)} {eff RC : yR} {GR : List yGr} {RI : va_W → Prop} {ws0 : va_W} {nc ns : Nat} {env : List Int}
variable {zl : List (Nat × yV)} {st : List yV} {kn : yN} {fl : yX} {pc : Nat} {tys : List (ClassId × FieldType)}
theorem y_copyi (hx : p.tables.exec = Jvm.exec) (hb : c.code = cc) (hRI : y_RI RC RI) {B : yB} (hB : y_B B env) {own : String} {index r0 r1 : Nat} {sg : List (Nat × Int × Int)} {n : Int} {ex' : List (Nat × yI)} {cp' : List (Nat × Nat)} (hown : s.vm.findClass own = some m.cls) (hml : c.maxLocals = nL) (hlink : (Cond.methodLink own index arraycopyName).before args s = true) (hnat : (Cond.native arraycopyName).before args s = true) (hstat : (Cond.static arraycopyName).before args s = true) (hini : (Cond.initialized "java/lang/System").before args s = true) (hK : va_K D cl tys s) (ht : tys[0]? = some (kc 0, .int))
    (hw0 : y_T TY r0 = some (.inr (.inl (0, sg)))) (hw1 : y_T TY r1 = some (.inr (.inl (0, sg)))) (hne : r0 ≠ r1) (hn : 0 ≤ n) (hN : n.toNat = y_len sg) (heff : y_ina eff r1 0 (y_len sg - 1) = true) (hcpo : y_cpo GR r0 r1 fl.2.1 fl.2.2 = some (ex', cp')) (hfr : 1 ≤ R.frames) (hlo : 100 ≤ R.locals) (hst : (st.map y_cat).sum ≤ 8) (hd : decode cc pc = .ok (.invokestatic index, 3)) (kk : y_K (y_G p l e R s m args below meth c Q xb kc D cl A H0 nL TY eff GR RI ws0 nc ns) env [(B, pc + 3, (zl, st, y_kcp kn r0 r1, (fl.1 && y_rcn RC r1 0 (y_len sg), ex', cp')))]) : y_G p l e R s m args below meth c Q xb kc D cl A H0 nL TY eff GR RI ws0 nc ns env pc (zl, .inl (.inl n) :: .inl (.inl 0) :: .inr (.inl (some (r1 + 1))) :: .inl (.inl 0) :: .inr (.inl (some (r0 + 1))) :: st, kn, fl) := by
  intro ls sv ws H locs ⟨h1, h2, hX⟩
  obtain ⟨hkn, hf, hGs, hwt, hfr0, had, hP, hD, hS⟩ := id hX
  obtain ⟨_, sv1, rfl, ⟨x1, rfl, e1⟩, g1⟩ := y_st1 h2
  obtain ⟨_, sv2, rfl, ⟨x2, rfl, e2⟩, g2⟩ := y_st1 g1
  obtain ⟨_, sv3, rfl, ⟨a1, ha1, rfl⟩, g3⟩ := y_st1 g2
  obtain ⟨_, sv4, rfl, ⟨x4, rfl, e4⟩, g4⟩ := y_st1 g3
  obtain ⟨_, sv5, rfl, ⟨a0, ha0, rfl⟩, h5⟩ := y_st1 g4
  have e1 : n = x1.toInt := Option.some.inj e1
  obtain rfl : x2 = 0 := Int32.toInt_inj.mp (Option.some.inj e2).symm
  obtain rfl : x4 = 0 := Int32.toInt_inj.mp (Option.some.inj e4).symm
  obtain ⟨b0, _, hws0, f, rfl, hf0⟩ := hwt r0 _ hw0
  obtain rfl := y_adr had hws0 ha0
  obtain ⟨b1, _, hws1, g, rfl, hf1⟩ := hwt r1 _ hw1
  obtain rfl := y_adr had hws1 ha1
  have hsum : (sv5.map fun v => v.category).sum ≤ 8 := by rw [← y_cats h5]; exact hst
  obtain ⟨lv, hlv, hz⟩ := id h1
  have z0 : (0 : Int32).toNatClampNeg = 0 := by decide
  have hN' : x1.toNatClampNeg = y_len sg := by rw [← hN, e1]; rfl
  have hn' : ¬ x1 < 0 := fun h => by have := y_lti h; have z : (0 : Int32).toInt = 0 := rfl; omega
  refine va_copyi hx hb (by rw [hml]; exact hlv.1.symm) hown hlink hnat hstat hini hK hP hD hS r0 r1 0 0 hws0 hws1 ht ht rfl (by decide) (by decide) hn' (by rw [z0, hN']; omega) (by rw [z0, hN']; omega) (fun _ _ => rfl) hfr (Nat.le_trans (Nat.add_le_add_right hsum _) (Nat.le_trans (by decide) hlo)) hd (fun H1 locs1 hP1 hD1 hS1 => ?_)
  rw [z0, hN'] at hP1 hD1
  have hat0 : ∀ k', y_at ws r0 k' = if k' < y_len sg then some (f k') else none := fun k' => by
    unfold y_at
    rw [hws0]
  have hat : ∀ r' k', y_at (ws.set r1 (a1, .inl (kc 0, y_len sg, .inl (va_cpy f g 0 0 (y_len sg))))) r' k' = if r' = r1 then y_at ws r0 k' else y_at ws r' k' := fun r' k' => by
    by_cases hr : r' = r1
    · subst hr
      rw [if_pos rfl, hat0]
      unfold y_at
      rw [List.getElem?_set_self (List.getElem?_eq_some_iff.mp hws1).1]
      dsimp only
      split
      next hk => rw [pk_cpy_in (Nat.zero_le k') (by omega), Nat.zero_add, Nat.sub_zero]
      next => rfl
    · rw [if_neg hr]
      unfold y_at
      rw [List.getElem?_set_ne (fun q => hr q.symm)]
  refine kk _ List.mem_cons_self env (List.prefix_refl _) hB ls _ _ H1 locs1 ⟨h1, h5, y_X_step hRI hX (fun r' k' => r' = r1 ∧ k' < y_len sg) (fun r' k' q => ?_) (fun r' k' q => ?_) (fun q => ?_) (y_kcp_ok hkn hat) (y_cpo_ok hcpo hGs hne hat) (y_w_set hwt hws1 hw1 ⟨_, rfl, fun j lo hi hj => ?_⟩) (z_ad_set hws1) hP1 hD1 hS1⟩
  · rw [hat]
    split
    next hr =>
      subst hr
      have hk : ¬ k' < y_len sg := fun h => q ⟨rfl, h⟩
      rw [hat0, if_neg hk]
      unfold y_at
      rw [hws1]
      dsimp only
      rw [if_neg hk]
    next => rfl
  · obtain ⟨rfl, q2⟩ := q
    exact y_ina_ok heff _ (Nat.zero_le _) (by omega)
  · dsimp only at q
    rw [Bool.and_eq_true] at q
    refine ⟨q.1, fun r' k' q1 => ?_⟩
    obtain ⟨rfl, q2⟩ := q1
    exact y_rcn_ok q.2 _ (Nat.zero_le _) (by omega)
  · rcases Nat.lt_or_ge j (y_len sg) with h9 | h9
    · rw [pk_cpy_in (Nat.zero_le j) (by omega), Nat.zero_add, Nat.sub_zero]
      exact hf0 j lo hi hj
    · rw [show va_cpy f g 0 0 (y_len sg) j = g j by unfold va_cpy; rw [if_neg (by omega)]]
      exact hf1 j lo hi hj
theorem y_copyl (hx : p.tables.exec = Jvm.exec) (hb : c.code = cc) (hRI : y_RI RC RI) {B : yB} (hB : y_B B env) {own : String} {index r0 r1 n0 n1 : Nat} {es0 : List Int} {n : Int} (hown : s.vm.findClass own = some m.cls) (hml : c.maxLocals = nL) (hlink : (Cond.methodLink own index arraycopyName).before args s = true) (hnat : (Cond.native arraycopyName).before args s = true) (hstat : (Cond.static arraycopyName).before args s = true) (hini : (Cond.initialized "java/lang/System").before args s = true) (hK : va_K D cl tys s) (ht : tys[1]? = some (kc 1, .long))
    (hw0 : y_T TY r0 = some (.inr (.inr (.inl (n0, es0))))) (hw1 : y_T TY r1 = some (.inr (.inr (.inl (n1, []))))) (hn : 0 ≤ n) (hN : n.toNat ≤ n0) (hN1 : n.toNat ≤ n1) (hfr : 1 ≤ R.frames) (hlo : 100 ≤ R.locals) (hst : (st.map y_cat).sum ≤ 8) (hd : decode cc pc = .ok (.invokestatic index, 3)) (kk : y_K (y_G p l e R s m args below meth c Q xb kc D cl A H0 nL TY eff GR RI ws0 nc ns) env [(B, pc + 3, (zl, st, kn, fl))]) : y_G p l e R s m args below meth c Q xb kc D cl A H0 nL TY eff GR RI ws0 nc ns env pc (zl, .inl (.inl n) :: .inl (.inl 0) :: .inr (.inl (some (r1 + 1))) :: .inl (.inl 0) :: .inr (.inl (some (r0 + 1))) :: st, kn, fl) := by
  intro ls sv ws H locs ⟨h1, h2, hX⟩
  obtain ⟨hkn, hf, hGs, hwt, hfr0, had, hP, hD, hS⟩ := id hX
  obtain ⟨_, sv1, rfl, ⟨x1, rfl, e1⟩, g1⟩ := y_st1 h2
  obtain ⟨_, sv2, rfl, ⟨x2, rfl, e2⟩, g2⟩ := y_st1 g1
  obtain ⟨_, sv3, rfl, ⟨a1, ha1, rfl⟩, g3⟩ := y_st1 g2
  obtain ⟨_, sv4, rfl, ⟨x4, rfl, e4⟩, g4⟩ := y_st1 g3
  obtain ⟨_, sv5, rfl, ⟨a0, ha0, rfl⟩, h5⟩ := y_st1 g4
  have e1 : n = x1.toInt := Option.some.inj e1
  obtain rfl : x2 = 0 := Int32.toInt_inj.mp (Option.some.inj e2).symm
  obtain rfl : x4 = 0 := Int32.toInt_inj.mp (Option.some.inj e4).symm
  obtain ⟨b0, _, hws0, f, rfl, _⟩ := hwt r0 _ hw0
  obtain rfl := y_adr had hws0 ha0
  obtain ⟨b1, _, hws1, g, rfl, _⟩ := hwt r1 _ hw1
  obtain rfl := y_adr had hws1 ha1
  have hsum : (sv5.map fun v => v.category).sum ≤ 8 := by rw [← y_cats h5]; exact hst
  obtain ⟨lv, hlv, hz⟩ := id h1
  have z0 : (0 : Int32).toNatClampNeg = 0 := by decide
  have hN' : x1.toNatClampNeg = n.toNat := by rw [e1]; rfl
  have hn' : ¬ x1 < 0 := fun h => by have := y_lti h; have z : (0 : Int32).toInt = 0 := rfl; omega
  refine va_copyl hx hb (by rw [hml]; exact hlv.1.symm) hown hlink hnat hstat hini hK hP hD hS r0 r1 1 1 hws0 hws1 ht ht rfl (by decide) (by decide) hn' (by rw [z0]; omega) (by rw [z0]; omega) (fun _ _ => rfl) hfr (Nat.le_trans (Nat.add_le_add_right hsum _) (Nat.le_trans (by decide) hlo)) hd (fun H1 locs1 hP1 hD1 hS1 => ?_)
  have hat := y_at_setn hws1 (e' := .inl (kc 1, n1, .inr (.inl (va_cpy f g (0 : Int32).toNatClampNeg (0 : Int32).toNatClampNeg x1.toNatClampNeg)))) (fun k => by
    unfold y_at
    rw [List.getElem?_set_self (List.getElem?_eq_some_iff.mp hws1).1, hws1])
  refine kk _ List.mem_cons_self env (List.prefix_refl _) hB ls _ _ H1 locs1 ⟨h1, h5, y_X_step hRI hX (fun _ _ => False) (fun r' k' _ => hat r' k') (fun _ _ q => q.elim) (fun q => ⟨q, fun _ _ q => q.elim⟩) (fun q hq => ?_) (y_Gs_same hGs hat) (y_w_set hwt hws1 hw1 ⟨_, rfl, fun j x hj => by cases hj⟩) (z_ad_set hws1) hP1 hD1 hS1⟩
  obtain ⟨j, x', k1, k2, k3⟩ := hkn q hq
  exact ⟨j, x', k1, by rw [hat]; exact k2, k3⟩
theorem y_mmin (hx : p.tables.exec = Jvm.exec) (hb : c.code = cc) {B : yB} (hB : y_B B env) {own : String} {index : Nat} {x y : yI} (hown : s.vm.findClass own = some m.cls) (hml : c.maxLocals = nL) (hlink : (Cond.methodLink own index Lib.Math.min.name).before args s = true) (hstat : (Cond.static Lib.Math.min.name).before args s = true) (hini : (Cond.initialized "java/lang/Math").before args s = true) (hcode : (Cond.code Lib.Math.min.name Lib.Math.min.code 2 (some .int)).before args s = true) (hfr : 1 ≤ R.frames) (hlo : 100 ≤ R.locals) (hc : nc ≤ R.cells) (hs : ns ≤ R.slots) (hst : (st.map y_cat).sum ≤ 8) (hd : decode cc pc = .ok (.invokestatic index, 3)) (kk : y_K (y_G p l e R s m args below meth c Q xb kc D cl A H0 nL TY eff GR RI ws0 nc ns) env (y_way (y_lt B y x) (pc + 3) (zl, .inl y :: st, kn, fl) ++ y_way (y_le B x y) (pc + 3) (zl, .inl x :: st, kn, fl))) : y_G p l e R s m args below meth c Q xb kc D cl A H0 nL TY eff GR RI ws0 nc ns env pc (zl, .inl y :: .inl x :: st, kn, fl) := by
  intro ls sv ws H locs ⟨h1, h2, h3⟩
  obtain ⟨_, sv', rfl, ⟨v, rfl, hv⟩, h4⟩ := y_st1 h2
  obtain ⟨_, sv'', rfl, ⟨u, rfl, hu⟩, h5⟩ := y_st1 h4
  have hsum : (sv''.map fun v => v.category).sum ≤ 8 := by rw [← y_cats h5]; exact hst
  obtain ⟨lv, hlv, hz⟩ := id h1
  refine va_mmin hx hb (by rw [hml]; exact hlv.1.symm) hown hlink hstat hini hcode hfr (by omega) hc hs hd ?_
  split
  next hlt =>
    obtain ⟨B', e1, hB'⟩ := y_lt_ok hB hv hu (y_lti hlt)
    exact kk (B', pc + 3, (zl, .inl y :: st, kn, fl)) (List.mem_append_left _ (by rw [e1]; exact List.mem_cons_self)) env (List.prefix_refl _) hB' ls _ ws H locs ⟨h1, ⟨⟨_, rfl, hv⟩, h5⟩, h3⟩
  next hlt =>
    obtain ⟨B', e1, hB'⟩ := y_le_ok hB hu hv (y_nlti hlt)
    exact kk (B', pc + 3, (zl, .inl x :: st, kn, fl)) (List.mem_append_right _ (by rw [e1]; exact List.mem_cons_self)) env (List.prefix_refl _) hB' ls _ ws H locs ⟨h1, ⟨⟨_, rfl, hu⟩, h5⟩, h3⟩
theorem y_mmax (hx : p.tables.exec = Jvm.exec) (hb : c.code = cc) {B : yB} (hB : y_B B env) {own : String} {index : Nat} {x y : yI} (hown : s.vm.findClass own = some m.cls) (hml : c.maxLocals = nL) (hlink : (Cond.methodLink own index Lib.Math.max.name).before args s = true) (hstat : (Cond.static Lib.Math.max.name).before args s = true) (hini : (Cond.initialized "java/lang/Math").before args s = true) (hcode : (Cond.code Lib.Math.max.name Lib.Math.max.code 2 (some .int)).before args s = true) (hfr : 1 ≤ R.frames) (hlo : 100 ≤ R.locals) (hc : nc ≤ R.cells) (hs : ns ≤ R.slots) (hst : (st.map y_cat).sum ≤ 8) (hd : decode cc pc = .ok (.invokestatic index, 3)) (kk : y_K (y_G p l e R s m args below meth c Q xb kc D cl A H0 nL TY eff GR RI ws0 nc ns) env (y_way (y_lt B x y) (pc + 3) (zl, .inl y :: st, kn, fl) ++ y_way (y_le B y x) (pc + 3) (zl, .inl x :: st, kn, fl))) : y_G p l e R s m args below meth c Q xb kc D cl A H0 nL TY eff GR RI ws0 nc ns env pc (zl, .inl y :: .inl x :: st, kn, fl) := by
  intro ls sv ws H locs ⟨h1, h2, h3⟩
  obtain ⟨_, sv', rfl, ⟨v, rfl, hv⟩, h4⟩ := y_st1 h2
  obtain ⟨_, sv'', rfl, ⟨u, rfl, hu⟩, h5⟩ := y_st1 h4
  have hsum : (sv''.map fun v => v.category).sum ≤ 8 := by rw [← y_cats h5]; exact hst
  obtain ⟨lv, hlv, hz⟩ := id h1
  refine va_mmax hx hb (by rw [hml]; exact hlv.1.symm) hown hlink hstat hini hcode hfr (by omega) hc hs hd ?_
  split
  next hlt =>
    obtain ⟨B', e1, hB'⟩ := y_lt_ok hB hu hv (y_lti hlt)
    exact kk (B', pc + 3, (zl, .inl y :: st, kn, fl)) (List.mem_append_left _ (by rw [e1]; exact List.mem_cons_self)) env (List.prefix_refl _) hB' ls _ ws H locs ⟨h1, ⟨⟨_, rfl, hv⟩, h5⟩, h3⟩
  next hlt =>
    obtain ⟨B', e1, hB'⟩ := y_le_ok hB hv hu (y_nlti hlt)
    exact kk (B', pc + 3, (zl, .inl x :: st, kn, fl)) (List.mem_append_right _ (by rw [e1]; exact List.mem_cons_self)) env (List.prefix_refl _) hB' ls _ ws H locs ⟨h1, ⟨⟨_, rfl, hu⟩, h5⟩, h3⟩
theorem y_irem (hx : p.tables.exec = Jvm.exec) (hb : c.code = cc) {B : yB} (hB : y_B B env) {x y : yI} (hd : decode cc pc = .ok (.irem, 1)) (hy1 : 1 ≤ (y_rng B y).1) (hx1 : 0 ≤ (y_rng B x).1) (kk : y_K (y_G p l e R s m args below meth c Q xb kc D cl A H0 nL TY eff GR RI ws0 nc ns) env [((y_mk B 0 ((y_rng B y).2 - 1)).1, pc + 1, (zl, .inl (y_mk B 0 ((y_rng B y).2 - 1)).2 :: st, kn, fl))]) : y_G p l e R s m args below meth c Q xb kc D cl A H0 nL TY eff GR RI ws0 nc ns env pc (zl, .inl y :: .inl x :: st, kn, fl) := by
  intro ls sv ws H locs ⟨h1, h2, h3⟩
  obtain ⟨_, sv', rfl, ⟨v, rfl, hv⟩, h4⟩ := y_st1 h2
  obtain ⟨_, sv'', rfl, ⟨u, rfl, hu⟩, h5⟩ := y_st1 h4
  have r1 := y_rng_ok hB hv
  have r2 := y_rng_ok hB hu
  refine lv_irem hx hb hd (fun q => by rw [q] at r1; have : (0 : Int32).toInt = 0 := (by decide); omega) ?_
  have r3 := y_rem_ok (a := u) (b := v) (by omega) (by omega)
  exact y_fresh (st' := st) hB r3.1 (by omega) ⟨h1, h5, h3⟩ kk
/-- & with 255 of a byte: itself, or 256 more -/
theorem y_and255 (hx : p.tables.exec = Jvm.exec) (hb : c.code = cc) {B : yB} (hB : y_B B env) {x y : yI} {i : Nat} {d : Int} (hxx : y_nm B x = .inr (i, d)) (hyy : y_nm B y = .inl 255) (hr : -128 ≤ (y_rng B (.inr (i, d))).1 ∧ (y_rng B (.inr (i, d))).2 ≤ 127) (hd : decode cc pc = .ok (.iand, 1)) (kk : y_K (y_G p l e R s m args below meth c Q xb kc D cl A H0 nL TY eff GR RI ws0 nc ns) env (y_way (y_le B (.inl 0) (.inr (i, d))) (pc + 1) (zl, .inl (.inr (i, d)) :: st, kn, fl) ++ y_way (y_lt B (.inr (i, d)) (.inl 0)) (pc + 1) (zl, .inl (.inr (i, d + 256)) :: st, kn, fl))) : y_G p l e R s m args below meth c Q xb kc D cl A H0 nL TY eff GR RI ws0 nc ns env pc (zl, .inl y :: .inl x :: st, kn, fl) := by
  intro ls sv ws H locs ⟨h1, h2, h3⟩
  obtain ⟨_, sv', rfl, ⟨b, rfl, hy⟩, h4⟩ := y_st1 h2
  obtain ⟨_, sv'', rfl, ⟨a, rfl, ha⟩, h5⟩ := y_st1 h4
  refine lv_iand hx hb hd ?_
  have hy2 := y_nm_ok hB hy
  have ha2 := y_nm_ok hB ha
  rw [hyy] at hy2
  rw [hxx] at ha2
  have rr := y_rng_ok hB ha2
  obtain rfl : b = 255 := Int32.toInt_inj.mp (Option.some.inj hy2).symm
  by_cases h0 : 0 ≤ a.toInt
  · obtain ⟨B', e1, hB'⟩ := y_le_ok (x := .inl 0) hB rfl ha2 h0
    refine kk (B', pc + 1, (zl, .inl (.inr (i, d)) :: st, kn, fl)) (List.mem_append_left _ (by rw [e1]; exact List.mem_cons_self)) env (List.prefix_refl _) hB' ls _ ws H locs ⟨h1, ⟨⟨_, rfl, ?_⟩, h5⟩, h3⟩
    rw [y_255c h0 (by omega)]
    exact ha2
  · obtain ⟨B', e1, hB'⟩ := y_lt_ok (y := .inl 0) hB ha2 rfl (by omega)
    refine kk (B', pc + 1, (zl, .inl (.inr (i, d + 256)) :: st, kn, fl)) (List.mem_append_right _ (by rw [e1]; exact List.mem_cons_self)) env (List.prefix_refl _) hB' ls _ ws H locs ⟨h1, ⟨⟨_, rfl, ?_⟩, h5⟩, h3⟩
    rw [y_255d (by omega) (by omega)]
    unfold y_e at ha2 ⊢
    dsimp only at ha2 ⊢
    obtain ⟨v, k1, k2⟩ := Option.map_eq_some_iff.mp ha2
    rw [k1]
    exact congrArg some (by dsimp only; omega)
end YQ5
