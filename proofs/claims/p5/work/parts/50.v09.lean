/-! ===== the run through methods, both ways of each test ===== -/
def y_ent : Nat → List yV → List (Nat × yV)
  | _, [] => []
  | i, v :: vs => (i, v) :: y_ent (if y_cat v = 2 then i + 2 else i + 1) vs
theorem y_ent_ok {env : List Int} {ad : Nat → Option Nat} : ∀ {za : List yV} {av : List Value} (i : Nat), z_L (y_v env ad) za av → z_L (fun (a : Nat × yV) (b : Nat × Value) => a.1 = b.1 ∧ y_v env ad a.2 b.2) (y_ent i za) (lv_args i av)
  | [], [], _, _ => trivial
  | v :: za, x :: av, i, h => by
    unfold y_ent lv_args
    rw [y_v_cat h.1]
    exact ⟨⟨rfl, h.1⟩, y_ent_ok _ h.2⟩
  | [], _ :: _, _, h => h.elim
  | _ :: _, [], _, h => h.elim
/-- the arguments (the receiver ahead), what stays on the stack -/
def y_arg (k n ci : Nat) (st : List yV) (TY : List (List yC)) : Option (List yV × List yV) :=
  if n ≤ st.length then
    if k = 3 then some ((st.take n).reverse, st.drop n)
    else match st.drop n with
      | .inr (.inl (some (r + 1))) :: rest => match y_T TY r with
          | some (.inl (cj, _)) => if k = 1 ∧ cj = ci then some (.inr (.inl (some (r + 1))) :: (st.take n).reverse, rest) else none
          | _ => none
      | _ => none
  else none
theorem y_arg_v {k n ci : Nat} {st : List yV} {TY : List (List yC)} {za rest : List yV} (h : y_arg k n ci st TY = some (za, rest)) (hk : k ≠ 3) : ∃ (r : Nat) (zb : List yV) (ts : List yT), za = .inr (.inl (some (r + 1))) :: zb ∧ st = zb.reverse ++ .inr (.inl (some (r + 1))) :: rest ∧ zb.length = n ∧ y_T TY r = some (.inl (ci, ts)) := by
  unfold y_arg at h
  split at h
  next hn =>
    split at h
    next r rest' hdr =>
      have hst : st = (st.take n).reverse.reverse ++ .inr (.inl (some (r + 1))) :: rest' := by rw [List.reverse_reverse, ← hdr, List.take_append_drop]
      have hlen : (st.take n).reverse.length = n := by rw [List.length_reverse, List.length_take]; omega
      split at h
      next cj ts hw =>
        split at h
        next hc =>
          cases h
          obtain ⟨_, rfl⟩ := hc
          exact ⟨r, _, ts, rfl, hst, hlen, hw⟩
        next => cases h
      next => cases h
    next => cases h
  next => cases h
theorem y_arg_s {n ci : Nat} {st : List yV} {TY : List (List yC)} {za rest : List yV} (h : y_arg 3 n ci st TY = some (za, rest)) : st = za.reverse ++ rest ∧ za.length = n := by
  unfold y_arg at h
  split at h
  next hn =>
    rw [if_pos rfl] at h
    cases h
    exact ⟨by rw [List.reverse_reverse, List.take_append_drop], by rw [List.length_reverse, List.length_take]; omega⟩
  next => cases h
def y_join {α β : Type} (f : α → Option (List β)) : List α → Option (List β)
  | [] => some []
  | a :: as => match f a, y_join f as with
    | some x, some y => some (x ++ y)
    | _, _ => none
theorem y_join_in {α β : Type} {f : α → Option (List β)} : ∀ {as : List α} {bs : List β}, y_join f as = some bs → ∀ a ∈ as, ∃ x, f a = some x ∧ ∀ b ∈ x, b ∈ bs
  | [], _, _, _, h => by cases h
  | a :: as, bs, h, a', ha => by
    unfold y_join at h
    split at h
    next x y h1 h2 =>
      cases h
      rcases List.mem_cons.mp ha with rfl | ha
      · exact ⟨x, h1, fun b hb => List.mem_append_left _ hb⟩
      · obtain ⟨x', g1, g2⟩ := y_join_in h2 a' ha
        exact ⟨x', g1, fun b hb => List.mem_append_right _ (g2 b hb)⟩
    next => cases h
/-- the ways in which a method ended -/
def y_rets (M : yM) : List (yB × Nat × yS) → Option (List (yB × Option yV × yN × yX))
  | [] => some []
  | (B, pc, z) :: r => match y_res M.2.2.2.2.1 M.2.2.2.1 B pc z.2.1, y_rets M r with
    | some rz, some o => some ((B, rz, z.2.2.1, z.2.2.2) :: o)
    | _, _ => none
theorem y_rets_in {M : yM} : ∀ {es : List (yB × Nat × yS)} {outs : List (yB × Option yV × yN × yX)}, y_rets M es = some outs → ∀ q ∈ es, ∃ rz, y_res M.2.2.2.2.1 M.2.2.2.1 q.1 q.2.1 q.2.2.2.1 = some rz ∧ (q.1, rz, q.2.2.2.2.1, q.2.2.2.2.2) ∈ outs
  | [], _, _, _, h => by cases h
  | (B, pc, z) :: r, outs, h, q, hq => by
    unfold y_rets at h
    split at h
    next rz o h1 h2 =>
      cases h
      rcases List.mem_cons.mp hq with rfl | hq
      · exact ⟨rz, h1, List.mem_cons_self⟩
      · obtain ⟨rz', g1, g2⟩ := y_rets_in h2 q hq
        exact ⟨rz', g1, List.mem_cons_of_mem _ g2⟩
    next => cases h
/-- the law's own script: the six places from the named one on are the named numbers behind it -/
def y_scr (sc : Bool) (I : Instr) (B : yB) (pc : Nat) (z : yS) : Option (List (yB × Nat × yS)) := match sc, I, z with
  | true, .iaload, (zl, .inl (.inr (i, c)) :: .inr (.inl (some 0)) :: rest, kn, fl) => if i = 0 ∧ 0 ≤ c ∧ c ≤ 5 ∧ 7 ≤ B.1 then some [(B, pc + 1, (zl, .inl (y_nm B (.inr (c.toNat + 1, 0))) :: rest, kn, fl))] else none
  | _, _, _ => none
theorem y_scr_in {sc : Bool} {I : Instr} {B : yB} {pc : Nat} {z : yS} {qs : List (yB × Nat × yS)} (h : y_scr sc I B pc z = some qs) : ∃ zl c rest kn fl, sc = true ∧ I = .iaload ∧ z = (zl, .inl (.inr (0, c)) :: .inr (.inl (some 0)) :: rest, kn, fl) ∧ 0 ≤ c ∧ c ≤ 5 ∧ 7 ≤ B.1 ∧ qs = [(B, pc + 1, (zl, .inl (y_nm B (.inr (c.toNat + 1, 0))) :: rest, kn, fl))] := by
  unfold y_scr at h
  split at h
  next =>
    split at h
    next hc =>
      cases h
      obtain ⟨rfl, h1, h2, h3⟩ := hc
      exact ⟨_, _, _, _, _, rfl, rfl, rfl, h1, h2, h3, rfl⟩
    next => cases h
  next => cases h
/-- what comes is split by its values -/
def y_spl (q : yB × Nat × yS) : List (yB × Nat × yS) := match q.2.2.2.1 with
  | .inl t :: _ => if (y_rng q.1 t).2 - (y_rng q.1 t).1 ≤ 64 then (List.range ((y_rng q.1 t).2 - (y_rng q.1 t).1 + 1).toNat).flatMap (fun (n : Nat) => y_way (y_eqb q.1 t (.inl ((y_rng q.1 t).1 + Int.ofNat n))) q.2.1 q.2.2) else [q]
  | _ => [q]
abbrev yCT : Type := Nat → Nat → List yV → yB → yN → yX → Option (List (yB × Option yV × yN × yX))
def y_run (P : Nat → Option yM) (TY : List (List yC)) (TF : Nat → Nat → FieldType) (eff RC : yR) (GR : List yGr) (ct : yCT) : Nat → Bool → Nat → yM → (Nat → yB → yS → Bool) → Bool → yB → Nat → yS → Option (List (yB × Nat × yS))
  | 0, _, _, _, _, _, _, _, _ => none
  | n + 1, sc, d, M, cuts, go, B, pc, z => if (!go && cuts pc B z) = true then some [(B, pc, z)] else match y_find M.2.2.2.2.1 pc with
    | none => none
    | some (I, inf) => if (z_isR I || inf.getLast? == some 9999) = true then some [(B, pc, z)] else match z_ck I inf with
      | some (k, j, ci) => match d, P j with
        | d' + 1, some M2 => match y_arg k M2.2.2.2.2.2.1 ci z.2.1 TY with
          | some (za, rest) => if (rest.map y_cat).sum ≤ 8 ∧ M2.2.2.1 ≤ 80 ∧ (za.map y_cat).sum ≤ M2.2.2.1 then match (match ct d' j za B z.2.2.1 z.2.2.2 with
              | some outs => some outs
              | none => match y_run P TY TF eff RC GR ct n false d' M2 (fun _ _ _ => false) true B 0 (y_ent 0 za, [], z.2.2.1, z.2.2.2) with
                | some es => y_rets M2 es
                | none => none) with
            | some outs => y_join (fun o => y_run P TY TF eff RC GR ct n sc (d' + 1) M cuts false o.1 (pc + 3) (z.1, o.2.1.toList ++ rest, o.2.2.1, o.2.2.2)) outs
            | none => none
            else none
          | none => none
        | _, _ => none
      | none => match y_scr sc I B pc z with
        | some qs => y_join (fun q => y_run P TY TF eff RC GR ct n sc d M cuts false q.1 q.2.1 q.2.2) qs
        | none => match y_x TY TF eff RC GR M.2.2.1 I inf B pc z with
          | some qs => y_join (fun q => y_run P TY TF eff RC GR ct n sc d M cuts false q.1 q.2.1 q.2.2) (if M.2.2.2.2.2.2.contains pc = true then qs.flatMap y_spl else qs)
          | none => none
def y_Mok (TB : List Cond) (NT : List (String × Nat × MethodName × String)) (cl : List vw_C) (TF : Nat → Nat → FieldType) (P : Nat → Option yM) (M : yM) : Prop := plainName M.1.cls = true ∧ ∀ row ∈ M.2.2.2.2.1, ∀ en ∈ row, y_en TB NT cl TF P M.1 M.2.1 en
def y_all (TB : List Cond) (NT : List (String × Nat × MethodName × String)) (cl : List vw_C) (TF : Nat → Nat → FieldType) (P : Nat → Option yM) : Prop := (∀ w ∈ TB, goodWord w = true) ∧ ∀ (j : Nat) (M : yM), P j = some M → y_Mok TB NT cl TF P M
/-- what a frame of a method stands on -/
def y_ctx (EX : (Nat → Prop) → State → Heap → Prop) (TB : List Cond) (NT : List (String × Nat × MethodName × String)) (cl : List vw_C) (kc : Nat → ClassId) (D : va_G) (p : Program) (R : Room) (s : State) (m : MethodId) (args : Array Value) (meth : Method) (c : Code) (A : Nat → Prop) (H0 : Heap) (xb : Nat) (ws0 : va_W) (ad : Nat → Option Nat) (nc ns : Nat) (sc : Bool) (d : Nat) (M : yM) : Prop :=
  p.tables.exec = Jvm.exec ∧ c.code = M.2.1 ∧ c.maxLocals = M.2.2.1 ∧ s.vm.findClass M.1.cls = some m.cls ∧ (M.1.name = "<init>" → meth.name = "<init>") ∧ (∀ w ∈ TB, w.before args s = true) ∧ va_K D cl (z_TY kc) s ∧ z_N NT s ∧ (∀ q, H0.size ≤ q → A q) ∧ d + 1 ≤ R.frames ∧ 100 * d + 100 ≤ R.locals ∧ nc ≤ R.cells ∧ ns ≤ R.slots ∧ H0 = s.heap ∧ EX A s s.heap ∧ z_ad xb ws0 = ad
/-- what a frame that reads the script owes -/
def y_SC (p : Program) (l : Launch) (e : Env) (R : Room) (s : State) (m : MethodId) (args : Array Value) (below : List Frame) (meth : Method) (c : Code) (Q : State → Prop) (xb : Nat) (kc : Nat → ClassId) (D : va_G) (cl : List vw_C) (A : Nat → Prop) (H0 : Heap) (nL : Nat) (TY : List (List yC)) (eff : yR) (GR : List yGr) (RI : va_W → Prop) (ws0 : va_W) (nc ns : Nat) (cc : ByteArray) (env0 : List Int) : Prop :=
  ∀ (env : List Int) (B : yB) (pc : Nat) (zl : List (Nat × yV)) (st : List yV) (kn : yN) (fl : yX) (c0 : Nat), env0 <+: env → y_B B env → 7 ≤ B.1 → c0 ≤ 5 → decode cc pc = .ok (.iaload, 1) → y_G p l e R s m args below meth c Q xb kc D cl A H0 nL TY eff GR RI ws0 nc ns env (pc + 1) (zl, .inl (y_nm B (.inr (c0 + 1, 0))) :: st, kn, fl) → y_G p l e R s m args below meth c Q xb kc D cl A H0 nL TY eff GR RI ws0 nc ns env pc (zl, .inl (.inr (0, (c0 : Int))) :: .inr (.inl (some 0)) :: st, kn, fl)
/-- the given contracts -/
def y_ctok (EX : (Nat → Prop) → State → Heap → Prop) (l : Launch) (TB : List Cond) (NT : List (String × Nat × MethodName × String)) (kc : Nat → ClassId) (D : va_G) (cl : List vw_C) (xb : Nat) (TY : List (List yC)) (eff : yR) (GR : List yGr) (RI : va_W → Prop) (ad : Nat → Option Nat) (ct : yCT) (P : Nat → Option yM) : Prop :=
  ∀ (d j : Nat) (za : List yV) (B : yB) (kn : yN) (fl : yX) (outs : List (yB × Option yV × yN × yX)) (y : MethodName) (cc : ByteArray) (maxL : Nat) (ret : Option FieldType) (tab : List (List zE)) (na : Nat) (sp : List Nat), ct d j za B kn fl = some outs → P j = some (y, cc, maxL, ret, tab, na, sp) → ∀ env, y_B B env → y_Call EX l TB NT kc D cl xb TY eff GR RI ad env y cc maxL ret (z_rm d 0 0) za kn fl outs
/-- what the run of n steps says -/
def y_H (EX : (Nat → Prop) → State → Heap → Prop) (l : Launch) (TB : List Cond) (NT : List (String × Nat × MethodName × String)) (cl : List vw_C) (kc : Nat → ClassId) (D : va_G) (xb : Nat) (TY : List (List yC)) (TF : Nat → Nat → FieldType) (eff RC : yR) (GR : List yGr) (RI : va_W → Prop) (ad : Nat → Option Nat) (ct : yCT) (P : Nat → Option yM) (n : Nat) : Prop :=
  ∀ (sc : Bool) (d : Nat) (M : yM) (cuts : Nat → yB → yS → Bool) (go : Bool) (B : yB) (pc : Nat) (z : yS) (es : List (yB × Nat × yS)), y_run P TY TF eff RC GR ct n sc d M cuts go B pc z = some es → y_Mok TB NT cl TF P M → ∀ (p : Program) (e : Env) (R : Room) (s : State) (m : MethodId) (args : Array Value) (below : List Frame) (meth : Method) (c : Code) (Q : State → Prop) (A : Nat → Prop) (H0 : Heap) (ws0 : va_W) (nc ns : Nat) (env : List Int), y_ctx EX TB NT cl kc D p R s m args meth c A H0 xb ws0 ad nc ns sc d M → (sc = true → y_SC p l e R s m args below meth c Q xb kc D cl A H0 M.2.2.1 TY eff GR RI ws0 nc ns M.2.1 env) → y_B B env →
    y_K (y_G p l e R s m args below meth c Q xb kc D cl A H0 M.2.2.1 TY eff GR RI ws0 nc ns) env es → y_G p l e R s m args below meth c Q xb kc D cl A H0 M.2.2.1 TY eff GR RI ws0 nc ns env pc z
theorem y_K_mono {G : List Int → Nat → yS → Prop} {env env' : List Int} (he : env <+: env') {qs rs : List (yB × Nat × yS)} (hs : ∀ q ∈ rs, q ∈ qs) (h : y_K G env qs) : y_K G env' rs := fun q hq env2 h2 hB => h q (hs q hq) env2 (List.IsPrefix.trans he h2) hB
theorem y_SC_mono {p : Program} {l : Launch} {e : Env} {R : Room} {s : State} {m : MethodId} {args : Array Value} {below : List Frame} {meth : Method} {c : Code} {Q : State → Prop} {xb : Nat} {kc : Nat → ClassId} {D : va_G} {cl : List vw_C} {A : Nat → Prop} {H0 : Heap} {nL : Nat} {TY : List (List yC)} {eff : yR} {GR : List yGr} {RI : va_W → Prop} {ws0 : va_W} {nc ns : Nat} {cc : ByteArray} {env env' : List Int} (he : env <+: env') (h : y_SC p l e R s m args below meth c Q xb kc D cl A H0 nL TY eff GR RI ws0 nc ns cc env) : y_SC p l e R s m args below meth c Q xb kc D cl A H0 nL TY eff GR RI ws0 nc ns cc env' := fun env2 B pc zl st kn fl c0 h1 => h env2 B pc zl st kn fl c0 (List.IsPrefix.trans he h1)
section YQ7
variable {EX : (Nat → Prop) → State → Heap → Prop} {l : Launch} {TB : List Cond} {NT : List (String × Nat × MethodName × String)} {cl : List vw_C} {kc : Nat → ClassId} {D : va_G} {xb : Nat} {TY : List (List yC)} {TF : Nat → Nat → FieldType} {eff RC : yR} {GR : List yGr} {RI : va_W → Prop} {ad : Nat → Option Nat} {ct : yCT} {P : Nat → Option yM}
theorem y_spls {p : Program} {e : Env} {R : Room} {s : State} {m : MethodId} {args : Array Value} {below : List Frame} {meth : Method} {c : Code} {Q : State → Prop} {A : Nat → Prop} {H0 : Heap} {nL : Nat} {ws0 : va_W} {nc ns : Nat} {env : List Int} {qs : List (yB × Nat × yS)} (kk : y_K (y_G p l e R s m args below meth c Q xb kc D cl A H0 nL TY eff GR RI ws0 nc ns) env (qs.flatMap y_spl)) : y_K (y_G p l e R s m args below meth c Q xb kc D cl A H0 nL TY eff GR RI ws0 nc ns) env qs := by
  intro q hq env' he hB ls sv ws H locs hS
  by_cases hc : ∃ t st, q.2.2.2.1 = .inl t :: st ∧ (y_rng q.1 t).2 - (y_rng q.1 t).1 ≤ 64
  · obtain ⟨t, st, h1, h2⟩ := hc
    obtain ⟨s1, s2, s3⟩ := id hS
    rw [h1] at s2
    obtain ⟨_, sv', rfl, ⟨x, rfl, hx⟩, _⟩ := y_st1 s2
    have r := y_rng_ok hB hx
    obtain ⟨B', e1, hB'⟩ := y_eqb_ok (y := .inl ((y_rng q.1 t).1 + Int.ofNat (x.toInt - (y_rng q.1 t).1).toNat)) hB hx rfl (by show x.toInt = _ + ((x.toInt - (y_rng q.1 t).1).toNat : Int); omega)
    refine kk (B', q.2.1, q.2.2) (List.mem_flatMap.mpr ⟨q, hq, ?_⟩) env' he hB' ls _ ws H locs hS
    unfold y_spl
    rw [h1]
    dsimp only
    rw [if_pos h2]
    refine List.mem_flatMap.mpr ⟨(x.toInt - (y_rng q.1 t).1).toNat, List.mem_range.mpr (by omega), ?_⟩
    rw [e1]
    exact List.mem_cons_self
  · refine kk q (List.mem_flatMap.mpr ⟨q, hq, ?_⟩) env' he hB ls _ ws H locs hS
    unfold y_spl
    split
    next t st h1 =>
      rw [if_neg (fun h2 => hc ⟨t, _, h1, h2⟩)]
      exact List.mem_cons_self
    next => exact List.mem_cons_self
/-- a method that is run through keeps what its ends say -/
theorem y_meets {n d na : Nat} {sp : List Nat} {y : MethodName} {cc : ByteArray} {maxL : Nat} {ret : Option FieldType} {tab : List (List zE)} {za : List yV} {B : yB} {kn : yN} {fl : yX} {es : List (yB × Nat × yS)} {outs : List (yB × Option yV × yN × yX)} {env : List Int}
    (hH : y_H EX l TB NT cl kc D xb TY TF eff RC GR RI ad ct P n) (hM : y_Mok TB NT cl TF P (y, cc, maxL, ret, tab, na, sp)) (hrun : y_run P TY TF eff RC GR ct n false d (y, cc, maxL, ret, tab, na, sp) (fun _ _ _ => false) true B 0 (y_ent 0 za, [], kn, fl) = some es) (hres : y_rets (y, cc, maxL, ret, tab, na, sp) es = some outs) (hL : (za.map y_cat).sum ≤ maxL) (hB : y_B B env) : y_Call EX l TB NT kc D cl xb TY eff GR RI ad env y cc maxL ret (z_rm d 0 0) za kn fl outs := by
  intro av ws0 sz hav hkn hfl hGs hwt had
  subst had
  refine Met.ofW (cc := cc) (maxL := maxL) (ret := ret) hM.1 rfl ?_
  intro p e s m args below meth c s₁ Bd hml hv
  obtain ⟨rfl, hsz, hP, hK, hD0, hN, hEx⟩ := hv
  subst hsz
  have hts0 := atoms_spec (ws := Cond.code y cc maxL ret :: TB) Bd.pre
  have hts : ∀ w ∈ TB, w.before av.toArray s = true := fun w hw => hts0 w (List.mem_cons_of_mem _ hw)
  have hown : s.vm.findClass y.cls = some m.cls := findClass_of_methodNamed Bd.named
  have hname : y.name = "<init>" → meth.name = "<init>" := fun h => (name_of_methodNamed Bd.named Bd.method).1.trans h
  have hsum : (lg_sl av).length ≤ maxL := by rw [z_sl_len, ← y_cats hav]; exact hL
  rw [lg_entry_eq]
  refine hH false d (y, cc, maxL, ret, tab, na, sp) (fun _ _ _ => false) true B 0 _ es hrun hM p e _ s m av.toArray below meth c _ (va_A ws0 s.heap.size) s.heap ws0 0 0 env ⟨Bd.exec, Bd.bytes, hml, hown, hname, hts, hK, hN, fun q h => Or.inr h, Nat.le_refl _, Nat.le_refl _, Nat.zero_le _, Nat.zero_le _, rfl, hEx, rfl⟩ (fun h => by cases h) hB ?_ _ [] ws0 s.heap [] ⟨⟨_, lv_entry av hsum, y_ent_ok 0 hav⟩, trivial, hkn, hfl, hGs, hwt, fun _ _ _ => rfl, rfl, hP, hD0.self, va_S.rf⟩
  intro q hq env' he hB'
  obtain ⟨rz, h1, h2⟩ := y_rets_in hres q hq
  obtain ⟨B', pc', zl', st', kn', fl'⟩ := q
  exact y_ret Bd.exec Bd.bytes hB' Bd.returns Bd.notSynchronized (fun I inf hf => by obtain ⟨row, h8, h9⟩ := y_find_in hf; exact (hM.2 row h8 _ h9).1) h1 (fun rv u g1 g2 g3 gG g4 g5 g6 => ⟨_, h2, env', he, hB', g1, g2, g3, gG, g4, g5, g6⟩)
set_option maxHeartbeats 4000000 in
theorem y_run_ok (hE : z_EX EX) (hRI : y_RI RC RI) (hall : y_all TB NT cl TF P) (hct : y_ctok EX l TB NT kc D cl xb TY eff GR RI ad ct P) : ∀ n, y_H EX l TB NT cl kc D xb TY TF eff RC GR RI ad ct P n := by
  intro n
  induction n with
  | zero =>
    intro sc d M cuts go B pc z es h
    simp only [y_run] at h
    cases h
  | succ n ih =>
    intro sc d M cuts go B pc z es h hM p e R s m args below meth c Q A H0 ws0 nc ns env hctx hsc hB kk
    obtain ⟨hx, hb, hml, hown, hname, hts, hK, hN, hA, hfr, hlo, hC, hS, hH0, hEx, had⟩ := id hctx
    subst had
    unfold y_run at h
    split at h
    next =>
      cases h
      exact kk _ List.mem_cons_self env (List.prefix_refl _) hB
    next =>
     split at h
     next => cases h
     next I inf hf =>
      obtain ⟨row, hrow, hen⟩ := y_find_in hf
      have hen := hM.2 row hrow _ hen
      split at h
      next =>
        cases h
        exact kk _ List.mem_cons_self env (List.prefix_refl _) hB
      next =>
        have hgo : ∀ (qs : List (yB × Nat × yS)), y_join (fun q => y_run P TY TF eff RC GR ct n sc d M cuts false q.1 q.2.1 q.2.2) qs = some es → y_K (y_G p l e R s m args below meth c Q xb kc D cl A H0 M.2.2.1 TY eff GR RI ws0 nc ns) env qs := by
          intro qs hj q hq env' he hB'
          obtain ⟨es', g1, g2⟩ := y_join_in hj q hq
          exact ih _ _ _ _ _ _ _ _ _ g1 hM p e R s m args below meth c Q A H0 ws0 nc ns env' hctx (fun h9 => y_SC_mono he (hsc h9)) hB' (y_K_mono he g2 kk)
        split at h
        next k j ci hck =>
          split at h
          next d' M2 hj =>
            split at h
            next za rest harg =>
             split at h
             next hrm =>
              obtain ⟨g5, g7, g6⟩ := hrm
              obtain ⟨y2, c2, L2, r2, t2, na, sp⟩ := M2
              obtain ⟨zl, st, kn, fl⟩ := z
              dsimp only at h harg hf g5 g6 g7
              split at h
              next outs hout =>
                have hcall : y_Call EX l TB NT kc D cl xb TY eff GR RI (z_ad xb ws0) env y2 c2 L2 r2 (z_rm d' 0 0) za kn fl outs := by
                  split at hout
                  next outs' hc9 =>
                    cases hout
                    exact hct _ _ _ _ _ _ _ _ _ _ _ _ _ _ hc9 hj env hB
                  next =>
                    split at hout
                    next es' hr9 => exact y_meets ih (hall.2 j _ hj) hr9 hout g6 hB
                    next => cases hout
                have kk2 : y_K (y_G p l e R s m args below meth c Q xb kc D cl A H0 M.2.2.1 TY eff GR RI ws0 nc ns) env (outs.map (fun o => (o.1, pc + 3, (zl, o.2.1.toList ++ rest, o.2.2.1, o.2.2.2)))) := by
                  intro q hq env' he hB'
                  obtain ⟨o, ho, rfl⟩ := List.mem_map.mp hq
                  obtain ⟨es', q1, q2⟩ := y_join_in h o ho
                  exact ih _ _ _ _ _ _ _ _ _ q1 hM p e R s m args below meth c Q A H0 ws0 nc ns env' hctx (fun h9 => y_SC_mono he (hsc h9)) hB' (y_K_mono he q2 kk)
                have hR : (z_rm d' 0 0).frames + 1 ≤ R.frames ∧ 8 + (L2 + 11) + (z_rm d' 0 0).locals ≤ R.locals := by
                  unfold z_rm
                  dsimp only
                  omega
                rcases z_ck_k hck with rfl | rfl | rfl
                · obtain ⟨idx, k0, rfl, rfl⟩ := z_ck_1 hck
                  obtain ⟨hd, hen⟩ := hen
                  rcases hen with hi | ⟨j', ci', y2', c2', L2', r2', t2', na', sp', T, N, hi, hj', hY, hl, hin, hsel, hcl⟩
                  · cases hi
                  cases hi
                  rw [hj] at hj'
                  cases hj'
                  obtain ⟨r, zb, ts, rfl, rfl, hzb, hw⟩ := y_arg_v harg (by decide)
                  exact y_callV hx hb hall.1 hts hown hml hK hN (hH0 ▸ hA) hE hEx hH0 hY hl hin hsel hcl hw hcall rfl rfl hR hzb g5 hd ⟨hC, hS⟩ kk2
                · obtain ⟨idx, k0, rfl, rfl⟩ := z_ck_2 hck
                  obtain ⟨hd, hen⟩ := hen
                  cases hen
                · obtain ⟨idx, k0, rfl, rfl⟩ := z_ck_3 hck
                  obtain ⟨hd, hen⟩ := hen
                  rcases hen with hi | ⟨hi, _⟩ | ⟨hi, _⟩ | ⟨hi, _⟩ | ⟨j', y2', c2', L2', r2', t2', na', sp', hi, hj', hY, hl, hsta⟩
                  · cases hi
                  · cases hi
                  · cases hi
                  · cases hi
                  cases hi
                  rw [hj] at hj'
                  cases hj'
                  obtain ⟨rfl, hzb⟩ := y_arg_s harg
                  exact y_callS hx hb hall.1 hts hown hml hK hN (hH0 ▸ hA) hE hEx hH0 hY hl hsta hcall rfl rfl hR hzb g5 hd ⟨hC, hS⟩ kk2
              next => cases h
             next => cases h
            next => cases h
          next => cases h
        next =>
          split at h
          next qs hx2 =>
            have kk2 := hgo qs h
            obtain ⟨zl, c0, rest, kn, fl, rfl, rfl, rfl, hc1, hc2, hc3, rfl⟩ := y_scr_in hx2
            have e9 : c0 = ((c0.toNat : Nat) : Int) := by omega
            rw [e9]
            exact hsc rfl env B pc zl rest kn fl c0.toNat (List.prefix_refl _) hB hc3 (by omega) hen.1 (kk2 _ List.mem_cons_self env (List.prefix_refl _) hB)
          next =>
           split at h
           next qs hx2 =>
             refine y_x_ok hx hb hRI hB hml hown hname hts hK (by omega) (by omega) hC hS hen hx2 ?_
             have kk2 := hgo _ h
             split at kk2
             next => exact y_spls kk2
             next => exact kk2
           next => cases h
end YQ7
