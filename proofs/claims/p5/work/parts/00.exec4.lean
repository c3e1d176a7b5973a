/-! ===== new cells, copies, switches ===== -/
def z_dv (v : zV) : Value := match v with
  | .inl (.inl (some c)) => .int c
  | .inr (.inr _) => .long 0
  | _ => .null
def z_dok (v : zV) : Bool := match v with
  | .inl (.inl (some _)) => true
  | .inr (.inr none) => true
  | .inr (.inl none) => true
  | _ => false
theorem z_dv_ok {env : Nat → Int32} {ad : Nat → Option Nat} : ∀ {v : zV}, z_dok v = true → z_v env ad v (z_dv v)
  | .inl (.inl (some c)), _ => ⟨c, rfl, rfl⟩
  | .inr (.inr none), _ => ⟨0, rfl, z_k0 _⟩
  | .inr (.inr (some _)), h => by cases h
  | .inr (.inl none), _ => rfl
  | .inl (.inl none), h => by cases h
  | .inl (.inr _), h => by cases h
  | .inr (.inl (some _)), h => by cases h
theorem z_dvs_ok {env : Nat → Int32} {ad : Nat → Option Nat} : ∀ {vs : List zV}, vs.all z_dok = true → z_L (z_v env ad) vs (vs.map z_dv)
  | [], _ => trivial
  | v :: vs, h => by
    rw [List.all_cons, Bool.and_eq_true] at h
    exact ⟨z_dv_ok h.1, z_dvs_ok h.2⟩
def z_tgt (pc : Nat) (off : Int) : Option Nat := if 0 ≤ (pc : Int) + off then some ((pc : Int) + off).toNat else none
theorem z_tgt_ok {pc tgt : Nat} {off : Int} (h : z_tgt pc off = some tgt) : (pc : Int) + off = (tgt : Int) := by
  unfold z_tgt at h
  split at h
  next h1 => have := Option.some.inj h; omega
  next => cases h
def z_sw (B : List (Int × Int)) (pc : Nat) (dflt lo hi : Int) (offs : Array Int) (t : zI) : Option Nat :=
  if (z_rng B t).2 < lo ∨ hi < (z_rng B t).1 then z_tgt pc dflt
  else if (z_rng B t).1 = (z_rng B t).2 ∧ lo ≤ (z_rng B t).1 ∧ (z_rng B t).1 ≤ hi then match offs[((z_rng B t).1 - lo).toNat]? with
    | some off => z_tgt pc off
    | none => none
  else none
theorem z_cats {env : Nat → Int32} {ad : Nat → Option Nat} : ∀ {st : List zV} {sv : List Value}, z_L (z_v env ad) st sv → (st.map z_cat).sum = (sv.map fun v => v.category).sum
  | [], [], _ => rfl
  | _ :: _, _ :: _, h => by
    rw [List.map_cons, List.map_cons, List.sum_cons, List.sum_cons, z_v_cat h.1, z_cats h.2]
  | [], _ :: _, h => h.elim
  | _ :: _, [], h => h.elim
section ZN
variable {p : Program} {l : Launch} {e : Env} {R : Room} {s : State} {m : MethodId} {args : Array Value} {below : List Frame} {meth : Method} {c : Code} {Q : State → Prop} {cc : ByteArray}
variable {xb : Nat} {env : Nat → Int32} {kc : Nat → ClassId} {D : va_G} {cl : List vw_C} {A : Nat → Prop} {H0 : Heap} {ad0 : Nat → Option Nat} {nL : Nat}
variable {zl : List (Nat × zV)} {st : List zV} {w : zW} {nc ns pc : Nat} {tys : List (ClassId × FieldType)}
theorem z_table (hx : p.tables.exec = Jvm.exec) (hb : c.code = cc) {B : List (Int × Int)} (hB : z_B B env) {dflt lo hi : Int} {offs : Array Int} {len tgt : Nat} {t : zI} (hd : decode cc pc = .ok (.tableswitch dflt lo hi offs, len)) (hs : z_sw B pc dflt lo hi offs t = some tgt) (kk : z_G p l e R s m args below meth c Q xb env kc D cl A H0 ad0 nL tgt (zl, st, w, nc, ns)) : z_G p l e R s m args below meth c Q xb env kc D cl A H0 ad0 nL pc (zl, .inl t :: st, w, nc, ns) := by
  intro ls sv ws H locs ⟨h1, h2, h3⟩
  obtain ⟨_, sv', rfl, ⟨x, rfl, hx1⟩, h4⟩ := z_st1 h2
  have kk := kk ls sv' ws H locs ⟨h1, h4, h3⟩
  have hr := z_rng_ok hB hx1
  unfold z_sw at hs
  split at hs
  next h5 => exact lv_tableOut hx hb hd (by omega) (z_tgt_ok hs) kk
  next =>
    split at hs
    next h6 =>
      have hxe : x.toInt = (z_rng B t).1 := by omega
      split at hs
      next off ho =>
        rw [← hxe] at ho
        exact lv_tableIn hx hb hd (by omega) (by omega) ho (z_tgt_ok hs) kk
      next => cases hs
    next => cases hs
theorem z_objInit (hx : p.tables.exec = Jvm.exec) (hb : c.code = cc) {own : String} {idx r : Nat} (hown : s.vm.findClass own = some m.cls) (hml : c.maxLocals = nL) (hlink : (Cond.methodLink own idx Lib.objectInit).before args s = true) (hinst : (Cond.instanceMethod Lib.objectInit).before args s = true) (hcode : (Cond.code Lib.objectInit ⟨#[0xb1]⟩ 1 none).before args s = true) (hd : decode cc pc = .ok (.invokespecial idx, 3)) (hfr : 1 ≤ R.frames) (hlo : 100 ≤ R.locals) (hst : (st.map z_cat).sum ≤ 8) (kk : z_G p l e R s m args below meth c Q xb env kc D cl A H0 ad0 nL (pc + 3) (zl, st, w, nc, ns)) : z_G p l e R s m args below meth c Q xb env kc D cl A H0 ad0 nL pc (zl, .inr (.inl (some r)) :: st, w, nc, ns) := by
  intro ls sv ws H locs ⟨h1, h2, h3⟩
  obtain ⟨_, sv', rfl, ⟨a, ha, rfl⟩, h4⟩ := z_st1 h2
  have hsum : (sv'.map fun v => v.category).sum ≤ 8 := by rw [← z_cats h4]; exact hst
  obtain ⟨lv, hl, hz⟩ := id h1
  refine W.objInit hx hb hown hlink hinst hcode rfl (by rw [hml]; exact hl.1) rfl hd hfr (by show 2 * 0 + _ + 12 ≤ _; omega) ?_
  exact kk ls sv' ws H locs ⟨h1, h4, h3⟩
theorem z_newo (hx : p.tables.exec = Jvm.exec) (hb : c.code = cc) {own C : String} {T : u_T} {N ci index : Nat} {Ts : List Cond} {df : List zV} {ty0 : Nat → FieldType} (hts : ∀ w ∈ Ts, w.before args s = true) (hin : ∀ w ∈ u_ws C T N, w ∈ Ts) (hty : ∀ k, k < N → parseFieldDescriptor (T k).2.2.1 = some (ty0 k)) (hown : s.vm.findClass own = some m.cls) (hcl : (Cond.classLink own index C) ∈ Ts) (hinst : (Cond.instantiable C N) ∈ Ts) (hini : (Cond.initialized C) ∈ Ts)
    (hK : va_K D cl tys s) (hA : ∀ q, H0.size ≤ q → A q) (hc : cl[ci]? = some (C, T, N)) (hdf : df.all z_dok = true) (hfs : ∀ j, j < N → defaultValue (ty0 j) = vp_V (df.map z_dv) j) (hcells : nc + 1 ≤ R.cells) (hslots : ns + N ≤ R.slots) (hd : decode cc pc = .ok (.new index, 3)) (kk : z_G p l e R s m args below meth c Q xb env kc D cl A H0 ad0 nL (pc + 3) (zl, .inr (.inl (some (w.length + 1))) :: st, w ++ [.inl (ci, df)], nc + 1, ns + N)) : z_G p l e R s m args below meth c Q xb env kc D cl A H0 ad0 nL pc (zl, st, w, nc, ns) := by
  intro ls sv ws H locs ⟨h1, h2, h3, h6, hP, hD, hS⟩
  refine va_new hx hb hts hin ty0 hty hown (hts _ hcl) (hts _ hinst) (hts _ hini) hK hP hD hS hA hc hfs hcells hslots hd (fun q H1 hP1 hD1 hS1 => ?_)
  have hm : ∀ i a, z_ad xb ws i = some a → z_ad xb (ws ++ [(q, .inr (ci, df.map z_dv))]) i = some a := fun i a h => z_ad_app h
  refine kk ls _ _ H1 locs ⟨z_l_mono hm h1, ⟨⟨q, ?_, rfl⟩, z_L_mono (z_v_mono hm) h2⟩, z_w_push h3 ⟨_, rfl, z_dvs_ok hdf⟩, fun i a h => hm i a (h6 i a h), hP1, hD1, hS1⟩
  rw [z_L_len h3]
  exact z_ad_new xb ws q _
theorem z_newi (hx : p.tables.exec = Jvm.exec) (hb : c.code = cc) {atype : ArrayType} {ty : FieldType} {kt n : Nat} {t : Int32} (harr : (Cond.arrayClass (newarray.typeOf atype)).before args s = true) (hty : newarray.typeOf atype = ty) (hk : tys[kt]? = some (kc kt, ty)) (hdv : defaultValue ty = .int 0) (hK : va_K D cl tys s) (hA : ∀ q, H0.size ≤ q → A q) (hn : ¬ t < 0) (hN : t.toNatClampNeg = n) (hby : n * componentBytes ty ≤ 536870912) (hcells : nc + 1 ≤ R.cells) (hslots : ns + n ≤ R.slots) (hd : decode cc pc = .ok (.newarray atype, 2)) (kk : z_G p l e R s m args below meth c Q xb env kc D cl A H0 ad0 nL (pc + 2) (zl, .inr (.inl (some (w.length + 1))) :: st, w ++ [.inr (.inl (kt, List.replicate n (.inl (some 0))))], nc + 1, ns + n)) : z_G p l e R s m args below meth c Q xb env kc D cl A H0 ad0 nL pc (zl, .inl (.inl (some t)) :: st, w, nc, ns) := by
  intro ls sv ws H locs ⟨h1, h2, h3, h6, hP, hD, hS⟩
  obtain ⟨_, sv', rfl, ⟨x, rfl, hx1⟩, h4⟩ := z_st1 h2
  obtain rfl : x = t := hx1
  refine va_newa hx hb harr hty hK hP hD hS hA (N' := n) (a0 := (n, .inl (fun _ => 0))) (fun cA => by show _ = _; rw [hdv]; rfl) hn hN hby hcells hslots hd (fun q cA H1 hK1 hP1 hD1 hS1 => ?_)
  obtain rfl : cA = kc kt := z_same hK1 hk
  have hm : ∀ i a, z_ad xb ws i = some a → z_ad xb (ws ++ [(q, .inl (kc kt, (n, .inl (fun _ => 0))))]) i = some a := fun i a h => z_ad_app h
  refine kk ls _ _ H1 locs ⟨z_l_mono hm h1, ⟨⟨q, ?_, rfl⟩, z_L_mono (z_v_mono hm) h4⟩, z_w_push h3 ⟨fun _ => 0, by rw [List.length_replicate], fun j y hj => ?_⟩, fun i a h => hm i a (h6 i a h), hP1, hD1, hS1⟩
  · rw [z_L_len h3]
    exact z_ad_new xb ws q _
  · have := List.eq_of_mem_replicate (List.mem_of_getElem? hj)
    subst this
    rfl
theorem z_newl (hx : p.tables.exec = Jvm.exec) (hb : c.code = cc) {n : Nat} {t : Int32} (harr : (Cond.arrayClass .long).before args s = true) (hk : tys[1]? = some (kc 1, .long)) (hK : va_K D cl tys s) (hA : ∀ q, H0.size ≤ q → A q) (hn : ¬ t < 0) (hN : t.toNatClampNeg = n) (hby : n * componentBytes .long ≤ 536870912) (hcells : nc + 1 ≤ R.cells) (hslots : ns + n ≤ R.slots) (hd : decode cc pc = .ok (.newarray .long, 2)) (kk : z_G p l e R s m args below meth c Q xb env kc D cl A H0 ad0 nL (pc + 2) (zl, .inr (.inl (some (w.length + 1))) :: st, w ++ [.inr (.inr (.inl (List.replicate n none)))], nc + 1, ns + n)) : z_G p l e R s m args below meth c Q xb env kc D cl A H0 ad0 nL pc (zl, .inl (.inl (some t)) :: st, w, nc, ns) := by
  intro ls sv ws H locs ⟨h1, h2, h3, h6, hP, hD, hS⟩
  obtain ⟨_, sv', rfl, ⟨x, rfl, hx1⟩, h4⟩ := z_st1 h2
  obtain rfl : x = t := hx1
  refine va_newa hx hb (atype := .long) harr rfl hK hP hD hS hA (N' := n) (a0 := (n, .inr (.inl (fun _ => 0)))) (fun cA => rfl) hn hN hby hcells hslots hd (fun q cA H1 hK1 hP1 hD1 hS1 => ?_)
  obtain rfl : cA = kc 1 := z_same hK1 hk
  have hm : ∀ i a, z_ad xb ws i = some a → z_ad xb (ws ++ [(q, .inl (kc 1, (n, .inr (.inl (fun _ => 0)))))]) i = some a := fun i a h => z_ad_app h
  refine kk ls _ _ H1 locs ⟨z_l_mono hm h1, ⟨⟨q, ?_, rfl⟩, z_L_mono (z_v_mono hm) h4⟩, z_w_push h3 ⟨fun _ => 0, by rw [List.length_replicate], fun j y hj => by rw [List.eq_of_mem_replicate (List.mem_of_getElem? hj)]; exact z_k0 _⟩, fun i a h => hm i a (h6 i a h), hP1, hD1, hS1⟩
  rw [z_L_len h3]
  exact z_ad_new xb ws q _
theorem z_newr (hx : p.tables.exec = Jvm.exec) (hb : c.code = cc) {own C : String} {index kt n : Nat} {t : Int32} (hown : s.vm.findClass own = some m.cls) (hclink : (Cond.classLink own index C).before args s = true) (hover : va_AO C s) (hk : tys[kt]? = some (kc kt, .object C)) (hK : va_K D cl tys s) (hA : ∀ q, H0.size ≤ q → A q) (hn : ¬ t < 0) (hN : t.toNatClampNeg = n) (hby : n * 4 ≤ 536870912) (hcells : nc + 1 ≤ R.cells) (hslots : ns + n ≤ R.slots) (hd : decode cc pc = .ok (.anewarray index, 3)) (kk : z_G p l e R s m args below meth c Q xb env kc D cl A H0 ad0 nL (pc + 3) (zl, .inr (.inl (some (w.length + 1))) :: st, w ++ [.inr (.inr (.inr (kt, List.replicate n none)))], nc + 1, ns + n)) : z_G p l e R s m args below meth c Q xb env kc D cl A H0 ad0 nL pc (zl, .inl (.inl (some t)) :: st, w, nc, ns) := by
  intro ls sv ws H locs ⟨h1, h2, h3, h6, hP, hD, hS⟩
  obtain ⟨_, sv', rfl, ⟨x, rfl, hx1⟩, h4⟩ := z_st1 h2
  obtain rfl : x = t := hx1
  refine va_newq hx hb hown hclink hover hK hP hD hS hA (N' := n) hn hN hby hcells hslots hd (fun q cA H1 hK1 hP1 hD1 hS1 => ?_)
  obtain rfl : cA = kc kt := z_same hK1 hk
  have hm : ∀ i a, z_ad xb ws i = some a → z_ad xb (ws ++ [(q, .inl (kc kt, n, .inr (.inr (.inr (.inr (fun _ => none))))))]) i = some a := fun i a h => z_ad_app h
  refine kk ls _ _ H1 locs ⟨z_l_mono hm h1, ⟨⟨q, ?_, rfl⟩, z_L_mono (z_v_mono hm) h4⟩, z_w_push h3 ⟨fun _ => none, by rw [List.length_replicate], fun j y hj => ?_⟩, fun i a h => hm i a (h6 i a h), hP1, hD1, hS1⟩
  · rw [z_L_len h3]
    exact z_ad_new xb ws q _
  · have := List.eq_of_mem_replicate (List.mem_of_getElem? hj)
    subst this
    rfl
theorem z_copyi (hx : p.tables.exec = Jvm.exec) (hb : c.code = cc) {own : String} {index r0 r1 : Nat} {es0 es1 : List zI} {n : Int32} (hown : s.vm.findClass own = some m.cls) (hml : c.maxLocals = nL) (hlink : (Cond.methodLink own index arraycopyName).before args s = true) (hnat : (Cond.native arraycopyName).before args s = true) (hstat : (Cond.static arraycopyName).before args s = true) (hini : (Cond.initialized "java/lang/System").before args s = true) (hK : va_K D cl tys s) (ht : tys[0]? = some (kc 0, .int))
    (hw0 : w[r0]? = some (.inr (.inl (0, es0)))) (hw1 : w[r1]? = some (.inr (.inl (0, es1)))) (hl : es0.length = es1.length) (hn : ¬ n < 0) (hN : n.toNatClampNeg = es0.length) (hfr : 1 ≤ R.frames) (hlo : 100 ≤ R.locals) (hst : (st.map z_cat).sum ≤ 8) (hd : decode cc pc = .ok (.invokestatic index, 3)) (kk : z_G p l e R s m args below meth c Q xb env kc D cl A H0 ad0 nL (pc + 3) (zl, st, w.set r1 (.inr (.inl (0, es0))), nc, ns)) : z_G p l e R s m args below meth c Q xb env kc D cl A H0 ad0 nL pc (zl, .inl (.inl (some n)) :: .inl (.inl (some 0)) :: .inr (.inl (some (r1 + 1))) :: .inl (.inl (some 0)) :: .inr (.inl (some (r0 + 1))) :: st, w, nc, ns) := by
  intro ls sv ws H locs ⟨h1, h2, h3, h6, hP, hD, hS⟩
  obtain ⟨_, sv1, rfl, ⟨x1, rfl, e1⟩, g1⟩ := z_st1 h2
  obtain ⟨_, sv2, rfl, ⟨x2, rfl, e2⟩, g2⟩ := z_st1 g1
  obtain ⟨_, sv3, rfl, ⟨a1, ha1, rfl⟩, g3⟩ := z_st1 g2
  obtain ⟨_, sv4, rfl, ⟨x4, rfl, e4⟩, g4⟩ := z_st1 g3
  obtain ⟨_, sv5, rfl, ⟨a0, ha0, rfl⟩, h5⟩ := z_st1 g4
  obtain rfl : x1 = n := e1
  obtain rfl : x2 = 0 := e2
  obtain rfl : x4 = 0 := e4
  obtain ⟨b0, _, hws0, hb0, f, rfl, hf⟩ := z_w_get h3 hw0
  obtain rfl : a0 = b0 := Option.some.inj (ha0.symm.trans hb0)
  obtain ⟨b1, _, hws1, hb1, g, rfl, hg⟩ := z_w_get h3 hw1
  obtain rfl : a1 = b1 := Option.some.inj (ha1.symm.trans hb1)
  have hsum : (sv5.map fun v => v.category).sum ≤ 8 := by rw [← z_cats h5]; exact hst
  obtain ⟨lv, hlv, hz⟩ := id h1
  have z0 : (0 : Int32).toNatClampNeg = 0 := by decide
  refine va_copyi hx hb (by rw [hml]; exact hlv.1.symm) hown hlink hnat hstat hini hK hP hD hS r0 r1 0 0 hws0 hws1 ht ht rfl (by decide) (by decide) hn (by rw [z0, hN]; omega) (by rw [z0, hN]; omega) (fun _ _ => rfl) hfr (Nat.le_trans (Nat.add_le_add_right hsum _) (Nat.le_trans (by decide) hlo)) hd (fun H1 locs1 hP1 hD1 hS1 => ?_)
  rw [z0, hN] at hP1 hD1
  have e9 := z_ad_set (xb := xb) (e := .inl (kc 0, es1.length, .inl (va_cpy f g 0 0 es0.length))) hws1
  refine kk ls _ _ H1 locs1 ⟨by rw [e9]; exact h1, by rw [e9]; exact h5, z_w_set h3 hws1 ⟨_, by rw [hl], fun j y hj => ?_⟩, by rw [e9]; exact h6, hP1, hD1, hS1⟩
  have hj2 : j < es0.length := (List.getElem?_eq_some_iff.mp hj).1
  rw [pk_cpy_in (Nat.zero_le j) (by omega), Nat.zero_add, Nat.sub_zero]
  exact hf j y hj
theorem z_copyl (hx : p.tables.exec = Jvm.exec) (hb : c.code = cc) {own : String} {index r0 r1 : Nat} {es0 es1 : List (Option Int)} {n : Int32} (hown : s.vm.findClass own = some m.cls) (hml : c.maxLocals = nL) (hlink : (Cond.methodLink own index arraycopyName).before args s = true) (hnat : (Cond.native arraycopyName).before args s = true) (hstat : (Cond.static arraycopyName).before args s = true) (hini : (Cond.initialized "java/lang/System").before args s = true) (hK : va_K D cl tys s) (ht : tys[1]? = some (kc 1, .long))
    (hw0 : w[r0]? = some (.inr (.inr (.inl es0)))) (hw1 : w[r1]? = some (.inr (.inr (.inl es1)))) (hn : ¬ n < 0) (hN : n.toNatClampNeg ≤ es0.length) (hN1 : n.toNatClampNeg ≤ es1.length) (hfr : 1 ≤ R.frames) (hlo : 100 ≤ R.locals) (hst : (st.map z_cat).sum ≤ 8) (hd : decode cc pc = .ok (.invokestatic index, 3)) (kk : z_G p l e R s m args below meth c Q xb env kc D cl A H0 ad0 nL (pc + 3) (zl, st, w.set r1 (.inr (.inr (.inl (List.replicate es1.length none)))), nc, ns)) : z_G p l e R s m args below meth c Q xb env kc D cl A H0 ad0 nL pc (zl, .inl (.inl (some n)) :: .inl (.inl (some 0)) :: .inr (.inl (some (r1 + 1))) :: .inl (.inl (some 0)) :: .inr (.inl (some (r0 + 1))) :: st, w, nc, ns) := by
  intro ls sv ws H locs ⟨h1, h2, h3, h6, hP, hD, hS⟩
  obtain ⟨_, sv1, rfl, ⟨x1, rfl, e1⟩, g1⟩ := z_st1 h2
  obtain ⟨_, sv2, rfl, ⟨x2, rfl, e2⟩, g2⟩ := z_st1 g1
  obtain ⟨_, sv3, rfl, ⟨a1, ha1, rfl⟩, g3⟩ := z_st1 g2
  obtain ⟨_, sv4, rfl, ⟨x4, rfl, e4⟩, g4⟩ := z_st1 g3
  obtain ⟨_, sv5, rfl, ⟨a0, ha0, rfl⟩, h5⟩ := z_st1 g4
  obtain rfl : x1 = n := e1
  obtain rfl : x2 = 0 := e2
  obtain rfl : x4 = 0 := e4
  obtain ⟨b0, _, hws0, hb0, f, rfl, _⟩ := z_w_get h3 hw0
  obtain rfl : a0 = b0 := Option.some.inj (ha0.symm.trans hb0)
  obtain ⟨b1, _, hws1, hb1, g, rfl, _⟩ := z_w_get h3 hw1
  obtain rfl : a1 = b1 := Option.some.inj (ha1.symm.trans hb1)
  have hsum : (sv5.map fun v => v.category).sum ≤ 8 := by rw [← z_cats h5]; exact hst
  obtain ⟨lv, hlv, hz⟩ := id h1
  have z0 : (0 : Int32).toNatClampNeg = 0 := by decide
  refine va_copyl hx hb (by rw [hml]; exact hlv.1.symm) hown hlink hnat hstat hini hK hP hD hS r0 r1 1 1 hws0 hws1 ht ht rfl (by decide) (by decide) hn (by rw [z0]; omega) (by rw [z0]; omega) (fun _ _ => rfl) hfr (Nat.le_trans (Nat.add_le_add_right hsum _) (Nat.le_trans (by decide) hlo)) hd (fun H1 locs1 hP1 hD1 hS1 => ?_)
  have e9 := z_ad_set (xb := xb) (e := .inl (kc 1, es1.length, .inr (.inl (va_cpy f g (0 : Int32).toNatClampNeg (0 : Int32).toNatClampNeg x1.toNatClampNeg)))) hws1
  exact kk ls _ _ H1 locs1 ⟨by rw [e9]; exact h1, by rw [e9]; exact h5, z_w_set h3 hws1 ⟨_, by rw [List.length_replicate], fun j y hj => by rw [List.eq_of_mem_replicate (List.mem_of_getElem? hj)]; exact z_k0 _⟩, by rw [e9]; exact h6, hP1, hD1, hS1⟩
theorem z_mmin (hx : p.tables.exec = Jvm.exec) (hb : c.code = cc) {B : List (Int × Int)} (hB : z_B B env) {own : String} {index : Nat} {x y : zI} {b : Bool} (hown : s.vm.findClass own = some m.cls) (hml : c.maxLocals = nL) (hlink : (Cond.methodLink own index Lib.Math.min.name).before args s = true) (hstat : (Cond.static Lib.Math.min.name).before args s = true) (hini : (Cond.initialized "java/lang/Math").before args s = true) (hcode : (Cond.code Lib.Math.min.name Lib.Math.min.code 2 (some .int)).before args s = true) (hfr : 1 ≤ R.frames) (hlo : 100 ≤ R.locals) (hc : nc ≤ R.cells) (hs : ns ≤ R.slots) (hst : (st.map z_cat).sum ≤ 8) (hlt : z_lt B y x = some b) (hd : decode cc pc = .ok (.invokestatic index, 3)) (kk : z_G p l e R s m args below meth c Q xb env kc D cl A H0 ad0 nL (pc + 3) (zl, .inl (if b then y else x) :: st, w, nc, ns)) : z_G p l e R s m args below meth c Q xb env kc D cl A H0 ad0 nL pc (zl, .inl y :: .inl x :: st, w, nc, ns) := by
  intro ls sv ws H locs ⟨h1, h2, h3⟩
  obtain ⟨_, sv', rfl, ⟨v, rfl, hv⟩, h4⟩ := z_st1 h2
  obtain ⟨_, sv'', rfl, ⟨u, rfl, hu⟩, h5⟩ := z_st1 h4
  have hsum : (sv''.map fun v => v.category).sum ≤ 8 := by rw [← z_cats h5]; exact hst
  obtain ⟨lv, hlv, hz⟩ := id h1
  refine va_mmin hx hb (by rw [hml]; exact hlv.1.symm) hown hlink hstat hini hcode hfr (by omega) hc hs hd ?_
  refine kk ls _ ws H locs ⟨h1, ⟨⟨_, rfl, ?_⟩, h5⟩, h3⟩
  have he := z_lt_ok hB hv hu hlt
  cases b with
  | true => rw [if_pos (he.mpr rfl)]; exact hv
  | false => rw [if_neg (show ¬ v < u from fun q => by have := he.mp q; cases this)]; exact hu
end ZN
