/-! ===== the run through methods ===== -/
def z_ent : Nat → List zV → List (Nat × zV)
  | _, [] => []
  | i, v :: vs => (i, v) :: z_ent (if z_cat v = 2 then i + 2 else i + 1) vs
theorem z_ent_ok {env : Nat → Int32} {ad : Nat → Option Nat} : ∀ {za : List zV} {av : List Value} (i : Nat), z_L (z_v env ad) za av → z_L (fun (a : Nat × zV) (b : Nat × Value) => a.1 = b.1 ∧ z_v env ad a.2 b.2) (z_ent i za) (lv_args i av)
  | [], [], _, _ => trivial
  | v :: za, x :: av, i, h => by
    unfold z_ent lv_args
    rw [z_v_cat h.1]
    exact ⟨⟨rfl, h.1⟩, z_ent_ok _ h.2⟩
  | [], _ :: _, _, h => h.elim
  | _ :: _, [], _, h => h.elim
theorem z_sl_len : ∀ (vs : List Value), (lg_sl vs).length = (vs.map fun v => v.category).sum
  | [] => rfl
  | v :: vs => by
    have ih := z_sl_len vs
    unfold lg_sl at ih ⊢
    rw [List.flatMap_cons, List.length_append, List.map_cons, List.sum_cons, ih]
    rcases lv_cat v with h | h <;> simp [h]
def z_res (tab : List zE) (ret : Option FieldType) (pc : Nat) (st : List zV) : Option (Option zV) := match z_find tab pc with
  | some (.ireturn, _) => match ret, st with
    | some ty, [.inl t] => if z_fit ty (.inl t) = true then some (some (.inl t)) else none
    | _, _ => none
  | some (.return_, _) => match ret, st with
    | none, [] => some none
    | _, _ => none
  | some (.areturn, _) => match ret, st with
    | some (.object _), [.inr (.inl (some i))] => some (some (.inr (.inl (some i))))
    | _, _ => none
  | _ => none
def z_isR (I : Instr) : Bool := match I with
  | .ireturn => true
  | .return_ => true
  | .areturn => true
  | .athrow => true
  | _ => false
/-- a call: how (1 of an object, 2 a constructor, 3 static), of whom, the receiver's class -/
def z_ck (I : Instr) (inf : List Nat) : Option (Nat × Nat × Nat) := match I, inf with
  | .invokevirtual _, [_, j, ci] => some (1, j, ci)
  | .invokespecial _, [_, j] => some (2, j, 0)
  | .invokestatic _, [_, j] => some (3, j, 0)
  | _, _ => none
/-- the arguments (the receiver ahead), what stays on the stack -/
def z_arg (k n ci : Nat) (st : List zV) (w : zW) : Option (List zV × List zV) :=
  if n ≤ st.length then
    if k = 3 then some ((st.take n).reverse, st.drop n)
    else match st.drop n with
      | .inr (.inl (some (r + 1))) :: rest => if k = 2 then some (.inr (.inl (some (r + 1))) :: (st.take n).reverse, rest) else match w[r]? with
          | some (.inl (cj, _)) => if cj = ci then some (.inr (.inl (some (r + 1))) :: (st.take n).reverse, rest) else none
          | _ => none
      | _ => none
  else none
def z_fin (C S nc ns : Nat) (M2 : zM) (za rest : List zV) (pcr : Nat) (zr : zS) : Option (Option zV) :=
  if zr.2.2.2.1 ≤ M2.2.2.2.2.2.1 ∧ zr.2.2.2.2 ≤ M2.2.2.2.2.2.2.1 ∧ nc + M2.2.2.2.2.2.1 ≤ C ∧ ns + M2.2.2.2.2.2.2.1 ≤ S ∧ (rest.map z_cat).sum ≤ 8 ∧ (za.map z_cat).sum ≤ M2.2.2.1 ∧ M2.2.2.1 ≤ 80 then z_res M2.2.2.2.2.1 M2.2.2.2.1 pcr zr.2.1 else none
/-- a call whose contract is given -/
def z_sp (sp : Nat → List zV → zW → Option (Option zV × zW)) (C S nc ns d j : Nat) (M2 : zM) (za rest : List zV) (w : zW) : Option (Option zV × zW) := if 10 ≤ d ∧ nc + M2.2.2.2.2.2.1 ≤ C ∧ ns + M2.2.2.2.2.2.2.1 ≤ S ∧ (rest.map z_cat).sum ≤ 8 ∧ M2.2.2.1 ≤ 80 then match sp j za w with
    | some (rz, w2) => match M2.2.2.2.1, rz with
      | none, some _ => none
      | _, _ => some (rz, w2)
    | none => none
  else none
theorem z_sp_ok {sp : Nat → List zV → zW → Option (Option zV × zW)} {C S nc ns d j : Nat} {M2 : zM} {za rest : List zV} {w w2 : zW} {rz : Option zV} (h : z_sp sp C S nc ns d j M2 za rest w = some (rz, w2)) : 10 ≤ d ∧ nc + M2.2.2.2.2.2.1 ≤ C ∧ ns + M2.2.2.2.2.2.2.1 ≤ S ∧ (rest.map z_cat).sum ≤ 8 ∧ M2.2.2.1 ≤ 80 ∧ sp j za w = some (rz, w2) ∧ (M2.2.2.2.1 = none → rz = none) := by
  unfold z_sp at h
  split at h
  next hc =>
    obtain ⟨h1, h2, h3, h4, h5⟩ := hc
    split at h
    next rz' w2' hsp =>
      split at h
      next => cases h
      next hne =>
        cases h
        refine ⟨h1, h2, h3, h4, h5, hsp, fun hr => ?_⟩
        cases rz with
        | none => rfl
        | some v => exact absurd rfl (hne v hr)
    next => cases h
  next => cases h
/-- the law's own script (its length, its ints, which are the named numbers), or a text that lies outside -/
def z_scr (B : List (Int × Int)) (Ls : Option (Nat ⊕ List Int32)) (I : Instr) (inf : List Nat) (pc : Nat) (z : zS) : Option (Nat × zS) := match Ls, I, z with
  | some (.inl L), .arraylength, (zl, .inr (.inl (some 0)) :: rest, w, nc, ns) => some (pc + 1, (zl, .inl (.inl (some (Int32.ofNat L))) :: rest, w, nc, ns))
  | some (.inl L), .iaload, (zl, .inl t :: .inr (.inl (some 0)) :: rest, w, nc, ns) => match z_ix B t L with
    | some k => some (pc + 1, (zl, .inl (if (z_rng B (.inr (k, 0))).1 = (z_rng B (.inr (k, 0))).2 then .inl (some (Int32.ofInt (z_rng B (.inr (k, 0))).1)) else .inr (k, 0)) :: rest, w, nc, ns))
    | none => none
  | some (.inr _), .ldc _, (zl, st, w, nc, ns) => some (pc + 2, (zl, .inr (.inl (some 0)) :: st, w, nc, ns))
  | some (.inr bs), .invokevirtual _, (zl, .inr (.inl (some 0)) :: rest, w, nc, ns) => if inf = [77] ∧ (rest.map z_cat).sum ≤ 8 ∧ nc ≤ 2 ∧ ns ≤ 964 then some (pc + 3, (zl, .inl (.inl (some (Int32.ofNat bs.length))) :: rest, w, nc, ns)) else none
  | some (.inr bs), .invokevirtual _, (zl, .inl t :: .inr (.inl (some 0)) :: rest, w, nc, ns) => if inf = [78] ∧ (rest.map z_cat).sum ≤ 8 ∧ nc ≤ 2 ∧ ns ≤ 964 then match z_ix B t bs.length with
      | some k => match bs[k]? with
        | some v => some (pc + 3, (zl, .inl (.inl (some v)) :: rest, w, nc, ns))
        | none => none
      | none => none
    else none
  | _, _, _ => none
/-- what a frame that reads a text owes: the text's place on the stack, its length, its letters -/
def z_STR (p : Program) (l : Launch) (e : Env) (R : Room) (s : State) (m : MethodId) (args : Array Value) (below : List Frame) (meth : Method) (c : Code) (Q : State → Prop) (xb : Nat) (env : Nat → Int32) (kc : Nat → ClassId) (D : va_G) (cl : List vw_C) (A : Nat → Prop) (H0 : Heap) (ad0 : Nat → Option Nat) (nL : Nat) (cc : ByteArray) (bs : List Int32) : Prop :=
  ∀ (pc : Nat) (zl : List (Nat × zV)) (st : List zV) (w : zW) (nc ns : Nat),
    (decode cc pc = .ok (.ldc 19, 2) → z_G p l e R s m args below meth c Q xb env kc D cl A H0 ad0 nL (pc + 2) (zl, .inr (.inl (some 0)) :: st, w, nc, ns) → z_G p l e R s m args below meth c Q xb env kc D cl A H0 ad0 nL pc (zl, st, w, nc, ns)) ∧
    (decode cc pc = .ok (.invokevirtual 21, 3) → ((st.map z_cat).sum ≤ 8 ∧ nc ≤ 2 ∧ ns ≤ 964) → z_G p l e R s m args below meth c Q xb env kc D cl A H0 ad0 nL (pc + 3) (zl, .inl (.inl (some (Int32.ofNat bs.length))) :: st, w, nc, ns) → z_G p l e R s m args below meth c Q xb env kc D cl A H0 ad0 nL pc (zl, .inr (.inl (some 0)) :: st, w, nc, ns)) ∧
    ∀ (t : zI) (k : Nat) (v : Int32), decode cc pc = .ok (.invokevirtual 27, 3) → ((st.map z_cat).sum ≤ 8 ∧ nc ≤ 2 ∧ ns ≤ 964) → bs[k]? = some v → (∀ x, z_i env t x → vp_in x bs.length ∧ x.toNatClampNeg = k) → z_G p l e R s m args below meth c Q xb env kc D cl A H0 ad0 nL (pc + 3) (zl, .inl (.inl (some v)) :: st, w, nc, ns) → z_G p l e R s m args below meth c Q xb env kc D cl A H0 ad0 nL pc (zl, .inl t :: .inr (.inl (some 0)) :: st, w, nc, ns)
def z_run (P : List zM) (B : List (Int × Int)) (TF : Nat → Nat → FieldType) (DF : Nat → List zV) (sp : Nat → List zV → zW → Option (Option zV × zW)) : Nat → Option (Nat ⊕ List Int32) → Nat → Nat → Nat → zM → Nat → zS → Option (Nat × zS)
  | 0, _, _, _, _, _, pc, z => some (pc, z)
  | n + 1, Ls, d, C, S, M, pc, z => match z_find M.2.2.2.2.1 pc with
    | none => none
    | some (I, inf) => if (z_isR I || inf.getLast? == some 9999) = true then some (pc, z) else match z_ck I inf with
      | some (k, j, ci) => match d, P[j]? with
        | d' + 1, some M2 => match z_arg k M2.2.2.2.2.2.2.2 ci z.2.1 z.2.2.1 with
          | some (za, rest) => match z_sp sp C S z.2.2.2.1 z.2.2.2.2 d' j M2 za rest z.2.2.1 with
            | some (rz, w2) => z_run P B TF DF sp n Ls (d' + 1) C S M (pc + 3) (z.1, rz.toList ++ rest, w2, z.2.2.2.1 + M2.2.2.2.2.2.1, z.2.2.2.2 + M2.2.2.2.2.2.2.1)
            | none => match z_run P B TF DF sp n none d' M2.2.2.2.2.2.1 M2.2.2.2.2.2.2.1 M2 0 (z_ent 0 za, [], z.2.2.1, 0, 0) with
              | some (pcr, zr) => match z_fin C S z.2.2.2.1 z.2.2.2.2 M2 za rest pcr zr with
                | some rz => z_run P B TF DF sp n Ls (d' + 1) C S M (pc + 3) (z.1, rz.toList ++ rest, zr.2.2.1, z.2.2.2.1 + M2.2.2.2.2.2.1, z.2.2.2.2 + M2.2.2.2.2.2.2.1)
                | none => none
              | none => none
          | none => none
        | _, _ => none
      | none => match z_scr B Ls I inf pc z with
        | some (pc', z') => z_run P B TF DF sp n Ls d C S M pc' z'
        | none => match z_x B TF DF C S M.2.2.1 I inf pc z with
          | some (pc', z') => z_run P B TF DF sp n Ls d C S M pc' z'
          | none => none
def z_Mok (TB : List Cond) (NT : List (String × Nat × MethodName × String)) (cl : List vw_C) (TF : Nat → Nat → FieldType) (DF : Nat → List zV) (P : List zM) (M : zM) : Prop := plainName M.1.cls = true ∧ ∀ en ∈ M.2.2.2.2.1, z_en TB NT cl TF DF P M.1 M.2.1 en
/-- what a frame of a method stands on -/
def z_ctx (EX : (Nat → Prop) → State → Heap → Prop) (TB : List Cond) (NT : List (String × Nat × MethodName × String)) (cl : List vw_C) (kc : Nat → ClassId) (D : va_G) (p : Program) (R : Room) (s : State) (m : MethodId) (args : Array Value) (meth : Method) (c : Code) (A : Nat → Prop) (H0 : Heap) (xb : Nat) (env : Nat → Int32) (Ls : Option (Nat ⊕ List Int32)) (d C S : Nat) (M : zM) : Prop :=
  p.tables.exec = Jvm.exec ∧ c.code = M.2.1 ∧ c.maxLocals = M.2.2.1 ∧ s.vm.findClass M.1.cls = some m.cls ∧ (M.1.name = "<init>" → meth.name = "<init>") ∧ (∀ w ∈ TB, w.before args s = true) ∧ va_K D cl (z_TY kc) s ∧ z_N NT s ∧ (∀ q, H0.size ≤ q → A q) ∧ d + 1 ≤ R.frames ∧ 100 * d + 100 ≤ R.locals ∧ C ≤ R.cells ∧ S ≤ R.slots ∧ H0 = s.heap ∧ EX A s s.heap ∧ ∀ L, Ls = some (.inl L) → va_X xb L env s s.heap ∧ xb < s.heap.size ∧ ¬ A xb ∧ H0 = s.heap
/-- the whole program's tables -/
def z_all (TB : List Cond) (NT : List (String × Nat × MethodName × String)) (cl : List vw_C) (TF : Nat → Nat → FieldType) (DF : Nat → List zV) (P : List zM) : Prop :=
  (∀ w ∈ TB, goodWord w = true) ∧ (∃ T N, cl[9]? = some ("HeldCoats$State", T, N)) ∧ (∃ T N, cl[2]? = some ("HeldCoats$Image", T, N)) ∧ ∀ (j : Nat) (M : zM), P[j]? = some M → z_Mok TB NT cl TF DF P M
/-- what the run of n steps says -/
def z_H (EX : (Nat → Prop) → State → Heap → Prop) (l : Launch) (TB : List Cond) (NT : List (String × Nat × MethodName × String)) (cl : List vw_C) (kc : Nat → ClassId) (D : va_G) (xb : Nat) (env : Nat → Int32) (B : List (Int × Int)) (TF : Nat → Nat → FieldType) (DF : Nat → List zV) (sp : Nat → List zV → zW → Option (Option zV × zW)) (P : List zM) (n : Nat) : Prop :=
  ∀ (Ls : Option (Nat ⊕ List Int32)) (d C S : Nat) (M : zM) (pc : Nat) (z : zS) (pc' : Nat) (z' : zS), z_run P B TF DF sp n Ls d C S M pc z = some (pc', z') → z_Mok TB NT cl TF DF P M → ∀ (p : Program) (e : Env) (R : Room) (s : State) (m : MethodId) (args : Array Value) (below : List Frame) (meth : Method) (c : Code) (Q : State → Prop) (A : Nat → Prop) (H0 : Heap) (ad0 : Nat → Option Nat), z_ctx EX TB NT cl kc D p R s m args meth c A H0 xb env Ls d C S M → (∀ bs, Ls = some (.inr bs) → z_STR p l e R s m args below meth c Q xb env kc D cl A H0 ad0 M.2.2.1 M.2.1 bs) →
    z_G p l e R s m args below meth c Q xb env kc D cl A H0 ad0 M.2.2.1 pc' z' → z_G p l e R s m args below meth c Q xb env kc D cl A H0 ad0 M.2.2.1 pc z
def z_rm (d mc ms : Nat) : Room := { frames := d + 1, cells := mc, slots := ms, locals := 100 * d + 100 }
/-- the given contracts -/
def z_spok (EX : (Nat → Prop) → State → Heap → Prop) (l : Launch) (TB : List Cond) (NT : List (String × Nat × MethodName × String)) (kc : Nat → ClassId) (D : va_G) (cl : List vw_C) (xb : Nat) (env : Nat → Int32) (sp : Nat → List zV → zW → Option (Option zV × zW)) (P : List zM) : Prop :=
  ∀ (j : Nat) (za : List zV) (w : zW) (rz : Option zV) (w2 : zW) (y : MethodName) (cc : ByteArray) (maxL : Nat) (ret : Option FieldType) (tab : List zE) (mc ms na d : Nat), 10 ≤ d → sp j za w = some (rz, w2) → P[j]? = some (y, cc, maxL, ret, tab, mc, ms, na) → z_Met EX l TB NT kc D cl xb env y cc maxL ret (z_rm d mc ms) za w rz w2 mc ms
theorem z_meets {EX : (Nat → Prop) → State → Heap → Prop} {l : Launch} {TB : List Cond} {NT : List (String × Nat × MethodName × String)} {cl : List vw_C} {kc : Nat → ClassId} {D : va_G} {xb : Nat} {env : Nat → Int32} {B : List (Int × Int)} {TF : Nat → Nat → FieldType} {DF : Nat → List zV} {sp : Nat → List zV → zW → Option (Option zV × zW)} {P : List zM} {n d pcr mc ms na : Nat} {y : MethodName} {cc : ByteArray} {maxL : Nat} {ret : Option FieldType} {tab : List zE} {za : List zV} {w : zW} {zr : zS} {rz : Option zV}
    (hH : z_H EX l TB NT cl kc D xb env B TF DF sp P n) (hM : z_Mok TB NT cl TF DF P (y, cc, maxL, ret, tab, mc, ms, na)) (hrun : z_run P B TF DF sp n none d mc ms (y, cc, maxL, ret, tab, mc, ms, na) 0 (z_ent 0 za, [], w, 0, 0) = some (pcr, zr)) (hres : z_res tab ret pcr zr.2.1 = some rz) (h1 : zr.2.2.2.1 ≤ mc) (h2 : zr.2.2.2.2 ≤ ms) (hL : (za.map z_cat).sum ≤ maxL) : z_Met EX l TB NT kc D cl xb env y cc maxL ret (z_rm d mc ms) za w rz zr.2.2.1 mc ms := by
  intro av ws0 sz hav hws
  refine Met.ofW (cc := cc) (maxL := maxL) (ret := ret) hM.1 rfl ?_
  intro p e s m args below meth c s₁ Bd hml hv
  obtain ⟨rfl, hsz, hP, hK, hD0, hN, hEx⟩ := hv
  subst hsz
  have hts0 := atoms_spec (ws := Cond.code y cc maxL ret :: TB) Bd.pre
  have hts : ∀ w ∈ TB, w.before av.toArray s = true := fun w hw => hts0 w (List.mem_cons_of_mem _ hw)
  have hown : s.vm.findClass y.cls = some m.cls := findClass_of_methodNamed Bd.named
  have hname : y.name = "<init>" → meth.name = "<init>" := fun h => (name_of_methodNamed Bd.named Bd.method).1.trans h
  have hsum : (lg_sl av).length ≤ maxL := by rw [z_sl_len, ← z_cats hav]; exact hL
  rw [lg_entry_eq]
  refine hH none d mc ms (y, cc, maxL, ret, tab, mc, ms, na) 0 _ pcr zr hrun hM p e _ s m av.toArray below meth c _ (va_A ws0 s.heap.size) s.heap (z_ad xb ws0) ⟨Bd.exec, Bd.bytes, hml, hown, hname, hts, hK, hN, fun q h => Or.inr h, Nat.le_refl _, Nat.le_refl _, Nat.le_refl _, Nat.le_refl _, rfl, hEx, fun _ h => by cases h⟩ (fun _ h => by cases h) ?_ _ [] ws0 s.heap [] ⟨⟨_, lv_entry av hsum, z_ent_ok 0 hav⟩, trivial, hws, fun _ _ h => h, hP, hD0.self, va_S.rf⟩
  obtain ⟨zl, st, w', nc, ns⟩ := zr
  dsimp only at hres h1 h2 ⊢
  unfold z_res at hres
  split at hres
  next hf =>
    split at hres
    next ty t =>
      split at hres
      next hfit =>
        cases hres
        exact z_iret Bd.exec Bd.bytes Bd.returns Bd.notSynchronized hfit h1 h2 (hM.2 _ (z_find_in hf)).1
      next => cases hres
    next => cases hres
  next hf =>
    split at hres
    next =>
      cases hres
      exact z_vret Bd.exec Bd.bytes Bd.returns Bd.notSynchronized h1 h2 (hM.2 _ (z_find_in hf)).1
    next => cases hres
  next hf =>
    split at hres
    next =>
      cases hres
      exact z_aret Bd.exec Bd.bytes Bd.returns Bd.notSynchronized h1 h2 (hM.2 _ (z_find_in hf)).1
    next => cases hres
  next => cases hres
theorem z_arg_st {k n ci : Nat} {st : List zV} {w : zW} {za rest : List zV} (h : z_arg k n ci st w = some (za, rest)) (hk : k ≠ 3) : ∃ (r : Nat) (zb : List zV), za = .inr (.inl (some (r + 1))) :: zb ∧ st = zb.reverse ++ .inr (.inl (some (r + 1))) :: rest ∧ zb.length = n ∧ (k ≠ 2 → ∃ fs, w[r]? = some (.inl (ci, fs))) := by
  unfold z_arg at h
  split at h
  next hn =>
    split at h
    next r rest' hdr =>
      have hst : st = (st.take n).reverse.reverse ++ .inr (.inl (some (r + 1))) :: rest' := by rw [List.reverse_reverse, ← hdr, List.take_append_drop]
      have hlen : (st.take n).reverse.length = n := by rw [List.length_reverse, List.length_take]; omega
      split at h
      next h2 =>
        cases h
        exact ⟨r, _, rfl, hst, hlen, fun q => absurd h2 q⟩
      next =>
        split at h
        next cj fs hw =>
          split at h
          next hc =>
            cases h
            subst hc
            exact ⟨r, _, rfl, hst, hlen, fun _ => ⟨fs, hw⟩⟩
          next => cases h
        next => cases h
    next => cases h
  next => cases h
theorem z_arg_s {n ci : Nat} {st : List zV} {w : zW} {za rest : List zV} (h : z_arg 3 n ci st w = some (za, rest)) : st = za.reverse ++ rest ∧ za.length = n := by
  unfold z_arg at h
  split at h
  next hn =>
    rw [if_pos rfl] at h
    cases h
    exact ⟨by rw [List.reverse_reverse, List.take_append_drop], by rw [List.length_reverse, List.length_take]; omega⟩
  next => cases h
theorem z_ck_1 {I : Instr} {inf : List Nat} {j ci : Nat} (h : z_ck I inf = some (1, j, ci)) : ∃ idx k, I = .invokevirtual idx ∧ inf = [k, j, ci] := by
  unfold z_ck at h
  split at h <;> cases h
  exact ⟨_, _, rfl, rfl⟩
theorem z_ck_2 {I : Instr} {inf : List Nat} {j ci : Nat} (h : z_ck I inf = some (2, j, ci)) : ∃ idx k, I = .invokespecial idx ∧ inf = [k, j] := by
  unfold z_ck at h
  split at h <;> cases h
  exact ⟨_, _, rfl, rfl⟩
theorem z_ck_3 {I : Instr} {inf : List Nat} {j ci : Nat} (h : z_ck I inf = some (3, j, ci)) : ∃ idx k, I = .invokestatic idx ∧ inf = [k, j] := by
  unfold z_ck at h
  split at h <;> cases h
  exact ⟨_, _, rfl, rfl⟩
theorem z_ck_k {I : Instr} {inf : List Nat} {k j ci : Nat} (h : z_ck I inf = some (k, j, ci)) : k = 1 ∨ k = 2 ∨ k = 3 := by
  unfold z_ck at h
  split at h <;> cases h
  · exact Or.inl rfl
  · exact Or.inr (Or.inl rfl)
  · exact Or.inr (Or.inr rfl)
section ZQ
variable {p : Program} {l : Launch} {e : Env} {R : Room} {s : State} {m : MethodId} {args : Array Value} {below : List Frame} {meth : Method} {c : Code} {Q : State → Prop} {cc : ByteArray}
variable {xb : Nat} {env : Nat → Int32} {kc : Nat → ClassId} {D : va_G} {cl : List vw_C} {A : Nat → Prop} {H0 : Heap} {ad0 : Nat → Option Nat} {nL : Nat} {B : List (Int × Int)}
theorem z_scr_ok (hx : p.tables.exec = Jvm.exec) (hb : c.code = cc) {TB : List Cond} {NT : List (String × Nat × MethodName × String)} {TF : Nat → Nat → FieldType} {DF : Nat → List zV} {P : List zM} {y : MethodName} {Ls : Option (Nat ⊕ List Int32)} {I : Instr} {inf : List Nat} {pc pc' : Nat} {z z' : zS} (hB : z_B B env) (hLs : ∀ L, Ls = some (.inl L) → va_X xb L env s s.heap ∧ xb < s.heap.size ∧ ¬ A xb ∧ H0 = s.heap) (hstr : ∀ bs, Ls = some (.inr bs) → z_STR p l e R s m args below meth c Q xb env kc D cl A H0 ad0 nL cc bs) (hen : z_en TB NT cl TF DF P y cc (pc, I, inf)) (h : z_scr B Ls I inf pc z = some (pc', z')) (kk : z_G p l e R s m args below meth c Q xb env kc D cl A H0 ad0 nL pc' z') : z_G p l e R s m args below meth c Q xb env kc D cl A H0 ad0 nL pc z := by
  obtain ⟨hd, hen⟩ := hen
  dsimp only at hd hen
  unfold z_scr at h
  split at h
  next L zl rest w nc ns =>
    cases h
    obtain ⟨hX, hbl, hbA, rfl⟩ := hLs L rfl
    intro ls sv ws H locs ⟨h1, h2, h3, h6, hP, hD, hS⟩
    obtain ⟨_, sv', rfl, ⟨a, ha, rfl⟩, h4⟩ := z_st1 h2
    obtain rfl : a = xb := (Option.some.inj ha).symm
    refine va_slen hx hb hX hbl hbA hS hd ?_
    exact kk ls _ ws H locs ⟨h1, ⟨⟨_, rfl, rfl⟩, h4⟩, h3, h6, hP, hD, hS⟩
  next L zl t rest w nc ns =>
    split at h
    next k hk =>
      cases h
      obtain ⟨hX, hbl, hbA, rfl⟩ := hLs L rfl
      intro ls sv ws H locs ⟨h1, h2, h3, h6, hP, hD, hS⟩
      obtain ⟨_, sv', rfl, ⟨y, rfl, hy⟩, h4⟩ := z_st1 h2
      obtain ⟨_, sv'', rfl, ⟨a, ha, rfl⟩, h5⟩ := z_st1 h4
      obtain rfl : a = xb := (Option.some.inj ha).symm
      obtain ⟨hi1, hi2, hi3⟩ := z_ix_ok hB hy hk
      refine va_sld hx hb hX hbl hbA hS hi1 hd ?_
      rw [hi2]
      have hk0 : z_i env (.inr (k, 0)) (env k) := (Int32.add_zero _).symm
      have hr := z_rng_ok hB hk0
      refine kk ls _ ws H locs ⟨h1, ⟨⟨_, rfl, ?_⟩, h5⟩, h3, h6, hP, hD, hS⟩
      split
      next heq =>
        show env k = Int32.ofInt _
        rw [← Int32.ofInt_toInt (env k), show (env k).toInt = (z_rng B (.inr (k, 0))).1 by omega]
      next => exact hk0
    next => cases h
  next bs idx zl st w nc ns =>
    cases h
    obtain rfl : idx = 19 := hen
    exact (hstr bs rfl pc zl st w nc ns).1 hd kk
  next bs idx zl rest w nc ns =>
    split at h
    next hc =>
      cases h
      obtain ⟨rfl, hs⟩ := hc
      rcases hen with (hi | ⟨_, rfl⟩ | ⟨hi, _⟩) | ⟨_, _, _, _, _, _, _, _, _, _, _, _, hi, _⟩
      · cases hi
      · exact (hstr bs rfl pc zl rest w nc ns).2.1 hd hs kk
      · cases hi
      · cases hi
    next => cases h
  next bs idx zl t rest w nc ns =>
    split at h
    next hc =>
      obtain ⟨rfl, hs⟩ := hc
      split at h
      next k hk =>
        split at h
        next v hv =>
          cases h
          rcases hen with (hi | ⟨hi, _⟩ | ⟨_, rfl⟩) | ⟨_, _, _, _, _, _, _, _, _, _, _, _, hi, _⟩
          · cases hi
          · cases hi
          · exact (hstr bs rfl pc zl rest w nc ns).2.2 t k v hd hs hv (fun x hx1 => ⟨(z_ix_ok hB hx1 hk).1, (z_ix_ok hB hx1 hk).2.1⟩) kk
          · cases hi
        next => cases h
      next => cases h
    next => cases h
  next => cases h
end ZQ
set_option maxHeartbeats 4000000 in
theorem z_run_ok {EX : (Nat → Prop) → State → Heap → Prop} (hE : z_EX EX) {l : Launch} {TB : List Cond} {NT : List (String × Nat × MethodName × String)} {cl : List vw_C} {kc : Nat → ClassId} {D : va_G} {xb : Nat} {env : Nat → Int32} {B : List (Int × Int)} {TF : Nat → Nat → FieldType} {DF : Nat → List zV} {sp : Nat → List zV → zW → Option (Option zV × zW)} {P : List zM} (hB : z_B B env) (hall : z_all TB NT cl TF DF P) (hsp : z_spok EX l TB NT kc D cl xb env sp P) : ∀ n, z_H EX l TB NT cl kc D xb env B TF DF sp P n := by
  intro n
  induction n with
  | zero =>
    intro Ls d C S M pc z pc' z' h hM p e R s m args below meth c Q A H0 ad0 hctx hstr kk
    simp only [z_run] at h
    cases h
    exact kk
  | succ n ih =>
    intro Ls d C S M pc z pc' z' h hM p e R s m args below meth c Q A H0 ad0 hctx hstr kk
    obtain ⟨hx, hb, hml, hown, hname, hts, hK, hN, hA, hfr, hlo, hC, hS, hH0, hEx, hLs⟩ := id hctx
    unfold z_run at h
    split at h
    next => cases h
    next I inf hf =>
      have hen := hM.2 _ (z_find_in hf)
      split at h
      next =>
        cases h
        exact kk
      next =>
        split at h
        next k j ci hck =>
          split at h
          next d' M2 hj =>
            split at h
            next za rest harg =>
              obtain ⟨y2, c2, L2, r2, t2, mc, ms, na⟩ := M2
              obtain ⟨zl, st, w, nc, ns⟩ := z
              dsimp only at h harg hf
              have hgo : ∀ (rz : Option zV) (w2 : zW), z_Met EX l TB NT kc D cl xb env y2 c2 L2 r2 (z_rm d' mc ms) za w rz w2 mc ms → (r2 = none → rz = none) → nc + mc ≤ C → ns + ms ≤ S → (rest.map z_cat).sum ≤ 8 → L2 ≤ 80 → z_run P B TF DF sp n Ls (d' + 1) C S M (pc + 3) (zl, rz.toList ++ rest, w2, nc + mc, ns + ms) = some (pc', z') → z_G p l e R s m args below meth c Q xb env kc D cl A H0 ad0 M.2.2.1 pc (zl, st, w, nc, ns) := by
                intro rz w2 hmet hrn g3 g4 g5 g7 h
                have kk2 := ih _ _ _ _ _ _ _ _ _ h hM p e R s m args below meth c Q A H0 ad0 hctx hstr kk
                have hR : (z_rm d' mc ms).frames + 1 ≤ R.frames ∧ 8 + (L2 + 11) + (z_rm d' mc ms).locals ≤ R.locals := by
                  unfold z_rm
                  dsimp only
                  omega
                rcases z_ck_k hck with rfl | rfl | rfl
                · obtain ⟨idx, k0, rfl, rfl⟩ := z_ck_1 hck
                  obtain ⟨hd, hen⟩ := hen
                  rcases hen with (hi | ⟨hi, _⟩ | ⟨hi, _⟩) | ⟨j', ci', y2', c2', L2', r2', t2', mc', ms', na', T, N, hi, hj', hY, hl, hin, hsel, hcl⟩
                  · cases hi
                  · cases hi
                  · cases hi
                  cases hi
                  rw [hj] at hj'
                  cases hj'
                  obtain ⟨r, zb, rfl, rfl, hzb, hw⟩ := z_arg_st harg (by decide)
                  obtain ⟨fs, hw⟩ := hw (by decide)
                  exact z_callV hx hb hall.1 hts hown hml hK hN (hH0 ▸ hA) hE hEx hH0 hY hl hin hsel hcl hw hmet rfl rfl hR hzb g5 hd ⟨by omega, by omega⟩ kk2
                · obtain ⟨idx, k0, rfl, rfl⟩ := z_ck_2 hck
                  obtain ⟨hd, hen⟩ := hen
                  rcases hen with hi | ⟨hi, _⟩ | ⟨j', y2', c2', L2', t2', mc', ms', na', hi, hj', hY, hl, hin, hni⟩
                  · cases hi
                  · cases hi
                  cases hi
                  rw [hj] at hj'
                  cases hj'
                  obtain ⟨r, zb, rfl, rfl, hzb, _⟩ := z_arg_st harg (by decide)
                  obtain rfl : rz = none := hrn rfl
                  exact z_callI hx hb hall.1 hts hown hml hK hN (hH0 ▸ hA) hE hEx hH0 hY hl hin hni hmet rfl rfl hR hzb g5 hd ⟨by omega, by omega⟩ kk2
                · obtain ⟨idx, k0, rfl, rfl⟩ := z_ck_3 hck
                  obtain ⟨hd, hen⟩ := hen
                  rcases hen with hi | ⟨hi, _⟩ | ⟨hi, _⟩ | ⟨j', y2', c2', L2', r2', t2', mc', ms', na', hi, hj', hY, hl, hsta⟩
                  · cases hi
                  · cases hi
                  · cases hi
                  cases hi
                  rw [hj] at hj'
                  cases hj'
                  obtain ⟨rfl, hzb⟩ := z_arg_s harg
                  exact z_callS hx hb hall.1 hts hown hml hK hN (hH0 ▸ hA) hE hEx hH0 hY hl hsta hmet rfl rfl hR hzb g5 hd ⟨by omega, by omega⟩ kk2
              split at h
              next rz w2 hz =>
                obtain ⟨s1, s2, s3, s4, s5, s6, s7⟩ := z_sp_ok hz
                exact hgo rz w2 (hsp j za w rz w2 y2 c2 L2 r2 t2 mc ms na d' s1 s6 hj) s7 s2 s3 s4 s5 h
              next =>
                split at h
                next pcr zr hrun =>
                  split at h
                  next rz hfin =>
                    unfold z_fin at hfin
                    split at hfin
                    next hcs =>
                      dsimp only at hcs hfin
                      obtain ⟨g1, g2, g3, g4, g5, g6, g7⟩ := hcs
                      refine hgo rz zr.2.2.1 (z_meets ih (hall.2.2.2 j _ hj) hrun hfin g1 g2 g6) (fun hr => ?_) g3 g4 g5 g7 h
                      subst hr
                      unfold z_res at hfin
                      split at hfin
                      · split at hfin <;> first | contradiction | cases hfin
                      · split at hfin
                        next => cases hfin; rfl
                        next => cases hfin
                      · split at hfin <;> first | contradiction | cases hfin
                      · cases hfin
                    next => cases hfin
                  next => cases h
                next => cases h
            next => cases h
          next => cases h
        next =>
          split at h
          next pc2 z2 hx2 =>
            have kk2 := ih _ _ _ _ _ _ _ _ _ h hM p e R s m args below meth c Q A H0 ad0 hctx hstr kk
            exact z_scr_ok hx hb hB hLs hstr hen hx2 kk2
          next =>
           split at h
           next pc2 z2 hx2 =>
            have kk2 := ih _ _ _ _ _ _ _ _ _ h hM p e R s m args below meth c Q A H0 ad0 hctx hstr kk
            exact z_x_ok hx hb hB hml hown hname hts hK hN hA (by omega) (by omega) hC hS hall.2.1 hall.2.2.1 hen hx2 kk2
           next => cases h

/-! ===== rows of the tables ===== -/
def z_simple (I : Instr) : Bool := match I with
  | .ldc _ => false
  | .ldc2_w _ => false
  | .getfield _ => false
  | .putfield _ => false
  | .new _ => false
  | .newarray _ => false
  | .anewarray _ => false
  | .invokespecial _ => false
  | .invokestatic _ => false
  | .invokevirtual _ => false
  | _ => true
section ZE
variable {TB : List Cond} {NT : List (String × Nat × MethodName × String)} {cl : List vw_C} {TF : Nat → Nat → FieldType} {DF : Nat → List zV} {P : List zM} {y : MethodName} {cc : ByteArray} {pc : Nat}
theorem ze_s {I : Instr} {inf : List Nat} (hd : decode cc pc = .ok (I, z_len I inf)) (hs : z_simple I = true) : z_en TB NT cl TF DF P y cc (pc, I, inf) := by
  refine ⟨hd, ?_⟩
  cases I <;> first | trivial | (cases hs; done)
theorem ze_ldc (hd : decode cc pc = .ok (.ldc 19, 2)) : z_en TB NT cl TF DF P y cc (pc, .ldc 19, []) := ⟨hd, rfl⟩
theorem ze_len (hd : decode cc pc = .ok (.invokevirtual 21, 3)) : z_en TB NT cl TF DF P y cc (pc, .invokevirtual 21, [77]) := ⟨hd, Or.inl (Or.inr (Or.inl ⟨rfl, rfl⟩))⟩
theorem ze_cha (hd : decode cc pc = .ok (.invokevirtual 27, 3)) : z_en TB NT cl TF DF P y cc (pc, .invokevirtual 27, [78]) := ⟨hd, Or.inl (Or.inr (Or.inr ⟨rfl, rfl⟩))⟩
theorem ze_ldc2 {idx : Nat} {v : Int64} (hd : decode cc pc = .ok (.ldc2_w idx, 3)) (h : Cond.constantLong y.cls idx v ∈ TB) : z_en TB NT cl TF DF P y cc (pc, .ldc2_w idx, []) := ⟨hd, v, h, z_k0 _⟩
theorem ze_ldc2k {idx n : Nat} {v : Int64} (hd : decode cc pc = .ok (.ldc2_w idx, 3)) (h : Cond.constantLong y.cls idx v ∈ TB) (hn : v.toInt = (n : Int)) : z_en TB NT cl TF DF P y cc (pc, .ldc2_w idx, [n]) := ⟨hd, v, h, fun c hc => by cases hc; exact hn⟩
theorem ze_get {idx ci k N : Nat} {C : String} {T : u_T} (hd : decode cc pc = .ok (.getfield idx, 3)) (hK : z_K TB cl TF ci C T N) (hk : k < N) (hl : Cond.fieldLink y.cls idx (T k).1 (T k).2.1 (T k).2.2.1 ∈ TB) : z_en TB NT cl TF DF P y cc (pc, .getfield idx, [ci, k]) := ⟨hd, ci, k, C, T, N, rfl, hK, hk, hl⟩
theorem ze_put {idx ci k N : Nat} {C : String} {T : u_T} (hd : decode cc pc = .ok (.putfield idx, 3)) (hK : z_K TB cl TF ci C T N) (hk : k < N) (hl : Cond.fieldLink y.cls idx (T k).1 (T k).2.1 (T k).2.2.1 ∈ TB) (hf : (T k).2.2.2 = false ∨ ((T k).2.2.2 = true ∧ y.name = "<init>" ∧ (T k).1 = y.cls)) : z_en TB NT cl TF DF P y cc (pc, .putfield idx, [ci, k]) := ⟨hd, ci, k, C, T, N, rfl, hK, hk, hl, hf⟩
theorem ze_new {idx ci N : Nat} {C : String} {T : u_T} (hd : decode cc pc = .ok (.new idx, 3)) (hK : z_K TB cl TF ci C T N) (h1 : Cond.classLink y.cls idx C ∈ TB) (h2 : Cond.instantiable C N ∈ TB) (h3 : Cond.initialized C ∈ TB) (h4 : (DF ci).all z_dok = true) (h5 : ∀ j, j < N → defaultValue (TF ci j) = vp_V ((DF ci).map z_dv) j) : z_en TB NT cl TF DF P y cc (pc, .new idx, [ci, N]) := ⟨hd, ci, C, T, N, rfl, hK, h1, h2, h3, h4, h5⟩
theorem ze_newa {at0 : ArrayType} (hd : decode cc pc = .ok (.newarray at0, 2)) (h : Cond.arrayClass (newarray.typeOf at0) ∈ TB) : z_en TB NT cl TF DF P y cc (pc, .newarray at0, []) := ⟨hd, h⟩
theorem ze_newr {idx kt : Nat} {C : String} (hd : decode cc pc = .ok (.anewarray idx, 3)) (h : Cond.classLink y.cls idx C ∈ TB) (hk : (kt = 4 ∧ C = "HeldCoats$State") ∨ (kt = 5 ∧ C = "HeldCoats$Image")) : z_en TB NT cl TF DF P y cc (pc, .anewarray idx, [kt]) := ⟨hd, kt, C, rfl, h, hk⟩
theorem ze_oi {idx : Nat} (hd : decode cc pc = .ok (.invokespecial idx, 3)) (h1 : Cond.methodLink y.cls idx Lib.objectInit ∈ TB) (h2 : Cond.instanceMethod Lib.objectInit ∈ TB) (h3 : Cond.code Lib.objectInit ⟨#[0xb1]⟩ 1 none ∈ TB) : z_en TB NT cl TF DF P y cc (pc, .invokespecial idx, [0]) := ⟨hd, Or.inr (Or.inl ⟨rfl, h1, h2, h3⟩)⟩
theorem ze_ci {idx j L2 mc ms n : Nat} {y2 : MethodName} {c2 : ByteArray} {t2 : List zE} (hd : decode cc pc = .ok (.invokespecial idx, 3)) (hj : P[j]? = some (y2, c2, L2, none, t2, mc, ms, n)) (hY : z_Y TB y2 c2 L2 n none) (hl : Cond.methodLink y.cls idx y2 ∈ TB ∨ ∃ host, (y.cls, idx, y2, host) ∈ NT) (hi : Cond.instanceMethod y2 ∈ TB) (hn : y2.name = "<init>") : z_en TB NT cl TF DF P y cc (pc, .invokespecial idx, [1, j]) := ⟨hd, Or.inr (Or.inr ⟨j, y2, c2, L2, t2, mc, ms, n, rfl, hj, hY, hl, hi, hn⟩)⟩
theorem ze_cp {idx : Nat} (hd : decode cc pc = .ok (.invokestatic idx, 3)) (h1 : Cond.methodLink y.cls idx arraycopyName ∈ TB) (h2 : Cond.native arraycopyName ∈ TB) (h3 : Cond.static arraycopyName ∈ TB) (h4 : Cond.initialized "java/lang/System" ∈ TB) : z_en TB NT cl TF DF P y cc (pc, .invokestatic idx, [0]) := ⟨hd, Or.inr (Or.inr (Or.inl ⟨rfl, h1, h2, h3, h4⟩))⟩
theorem ze_cs {idx j L2 mc ms n : Nat} {y2 : MethodName} {c2 : ByteArray} {r2 : Option FieldType} {t2 : List zE} (hd : decode cc pc = .ok (.invokestatic idx, 3)) (hj : P[j]? = some (y2, c2, L2, r2, t2, mc, ms, n)) (hY : z_Y TB y2 c2 L2 n r2) (hl : Cond.methodLink y.cls idx y2 ∈ TB ∨ ∃ host, (y.cls, idx, y2, host) ∈ NT) (hs : Cond.static y2 ∈ TB) : z_en TB NT cl TF DF P y cc (pc, .invokestatic idx, [1, j]) := ⟨hd, Or.inr (Or.inr (Or.inr ⟨j, y2, c2, L2, r2, t2, mc, ms, n, rfl, hj, hY, hl, hs⟩))⟩
theorem ze_mn {idx : Nat} (hd : decode cc pc = .ok (.invokestatic idx, 3)) (h1 : Cond.methodLink y.cls idx Lib.Math.min.name ∈ TB) (h2 : Cond.static Lib.Math.min.name ∈ TB) (h3 : Cond.initialized "java/lang/Math" ∈ TB) (h4 : Cond.code Lib.Math.min.name Lib.Math.min.code 2 (some .int) ∈ TB) : z_en TB NT cl TF DF P y cc (pc, .invokestatic idx, [2]) := ⟨hd, Or.inr (Or.inl ⟨rfl, h1, h2, h3, h4⟩)⟩
theorem ze_cv {idx j ci L2 mc ms n N : Nat} {y2 : MethodName} {c2 : ByteArray} {r2 : Option FieldType} {t2 : List zE} {T : u_T} (hd : decode cc pc = .ok (.invokevirtual idx, 3)) (hj : P[j]? = some (y2, c2, L2, r2, t2, mc, ms, n)) (hY : z_Y TB y2 c2 L2 n r2) (hl : Cond.methodLink y.cls idx y2 ∈ TB ∨ ∃ host, (y.cls, idx, y2, host) ∈ NT) (hi : Cond.instanceMethod y2 ∈ TB) (hs : Cond.selects y2.cls y2 y2 ∈ TB) (hc : cl[ci]? = some (y2.cls, T, N)) : z_en TB NT cl TF DF P y cc (pc, .invokevirtual idx, [1, j, ci]) := ⟨hd, Or.inr ⟨j, ci, y2, c2, L2, r2, t2, mc, ms, n, T, N, rfl, hj, hY, hl, hi, hs, hc⟩⟩
theorem ze_xi {idx : Nat} (hd : decode cc pc = .ok (.invokespecial idx, 3)) : z_en TB NT cl TF DF P y cc (pc, .invokespecial idx, [9999]) := ⟨hd, Or.inl rfl⟩
theorem ze_xs {idx : Nat} (hd : decode cc pc = .ok (.invokestatic idx, 3)) : z_en TB NT cl TF DF P y cc (pc, .invokestatic idx, [9999]) := ⟨hd, Or.inl rfl⟩
end ZE
theorem z_fields {TB : List Cond} {C : String} {T : u_T} {N : Nat} (h : ∀ k, k < N → u_lay C T k ∈ TB) : ∀ w ∈ u_ws C T N, w ∈ TB := by
  intro w hw
  obtain ⟨k, hk, rfl⟩ := List.mem_map.mp hw
  exact h k (List.mem_range.mp hk)
