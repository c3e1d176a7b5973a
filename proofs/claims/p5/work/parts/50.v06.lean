/-! ===== calls ===== -/
def y_Q (D : va_G) (cl : List vw_C) (ws : va_W) (sz : Nat) (ret : Option FieldType) (Post : Option Value → va_W → Prop) : Array Value → State → Outcome → State → Prop := match ret with
  | none => va_Qv (fun u : va_W => Post none u) (z_post D cl ws sz) (va_A ws sz)
  | some (.object _) => va_Qr (fun _ : va_W => True) (fun u a t => Post (some (.ref a)) u ∧ z_post D cl ws sz u t) (va_A ws sz)
  | some _ => va_Qi (fun (r : Int32) (u : va_W) => Post (some (.int r)) u) (z_post D cl ws sz) (va_A ws sz)
/-- one of the ways in which a call ends -/
def y_out (xb : Nat) (kc : Nat → ClassId) (TY : List (List yC)) (eff : yR) (GR : List yGr) (RI : va_W → Prop) (ad : Nat → Option Nat) (env : List Int) (ws : va_W) (outs : List (yB × Option yV × yN × yX)) (rv : Option Value) (u : va_W) : Prop :=
  ∃ o ∈ outs, ∃ env', env <+: env' ∧ y_B o.1 env' ∧ z_L (y_v env' ad) o.2.1.toList rv.toList ∧ y_k env' u o.2.2.1 ∧ (o.2.2.2.1 = true → RI u) ∧ y_Gs GR env' o.2.2.2.2.1 o.2.2.2.2.2 u ∧ y_w kc ad TY u ∧ y_fr eff ws u ∧ z_ad xb u = ad
def y_Call (EX : (Nat → Prop) → State → Heap → Prop) (l : Launch) (TB : List Cond) (NT : List (String × Nat × MethodName × String)) (kc : Nat → ClassId) (D : va_G) (cl : List vw_C) (xb : Nat) (TY : List (List yC)) (eff : yR) (GR : List yGr) (RI : va_W → Prop) (ad : Nat → Option Nat) (env : List Int) (y : MethodName) (cy : ByteArray) (maxL : Nat) (ret : Option FieldType) (rm : Room) (za : List yV) (kn : yN) (fl : yX) (outs : List (yB × Option yV × yN × yX)) : Prop :=
  ∀ (av : List Value) (ws : va_W) (sz : Nat), z_L (y_v env ad) za av → y_k env ws kn → (fl.1 = true → RI ws) → y_Gs GR env fl.2.1 fl.2.2 ws → y_w kc ad TY ws → z_ad xb ws = ad → Met l y (.code y cy maxL ret :: TB) rm (va_Pc av (z_pre EX NT D cl kc ws sz)) (y_Q D cl ws sz ret (y_out xb kc TY eff GR RI ad env ws outs)) 0 0 (va_A ws sz)
theorem y_fr_trans {eff : yR} {a b c : va_W} (h1 : y_fr eff a b) (h2 : y_fr eff b c) : y_fr eff a c := fun r k h => (h2 r k h).trans (h1 r k h)
section YQ3
variable {p : Program} {l : Launch} {e : Env} {R : Room} {s : State} {m : MethodId} {args : Array Value} {below : List Frame} {meth : Method} {c : Code} {Q : State → Prop} {cc : ByteArray}
variable {xb : Nat} {kc : Nat → ClassId} {D : va_G} {cl : List vw_C} {A : Nat → Prop} {H0 : Heap} {nL : Nat} {TY : List (List yC)} {eff RC : yR} {GR : List yGr} {RI : va_W → Prop} {ws0 : va_W} {nc ns : Nat} {env : List Int}
variable {zl : List (Nat × yV)} {st : List yV} {kn : yN} {fl : yX} {pc : Nat} {tys : List (ClassId × FieldType)}
variable {NT : List (String × Nat × MethodName × String)} {TB : List Cond} {EX : (Nat → Prop) → State → Heap → Prop}
theorem y_after {ret : Option FieldType} {Post : Option Value → va_W → Prop} {ls : Array Slot} {st0 svr : List Value} {ws : va_W} {H : Heap} {locs : List Loc} {a : Array Value} (hr : va_Run p l e R s m args below meth c H locs nc ns 0 0 (F0 m pc ls st0) svr (y_Q D cl ws H.size ret Post a) (va_A ws H.size)) (hA : ∀ q, H0.size ≤ q → A q) (hD : va_D A ws) (hS : va_S A H0 H locs) (kk : ∀ (rv : Option Value) (u : va_W) (H1 : Heap) (locs1 : List Loc), Post rv u → va_P D cl u H1 → va_D A u → va_S A H0 H1 locs1 → W p l e R s m args below meth c H1 locs1 nc ns Q (F0 m (pc + 3) ls (rv.toList ++ svr))) : W p l e R s m args below meth c H locs nc ns Q (F0 m pc ls st0) := by
  have hAA : ∀ q, va_A ws H.size q → A q := by
    intro q hq
    rcases hq with ⟨k, e1, hk⟩ | hq
    · exact hD.2 k (q, e1) hk
    · exact hA q (Nat.le_trans hS.1 hq)
  have hint : va_Run p l e R s m args below meth c H locs nc ns 0 0 (F0 m pc ls st0) svr (va_Qi (fun (r : Int32) (u : va_W) => Post (some (.int r)) u) (z_post D cl ws H.size) (va_A ws H.size) a) (va_A ws H.size) → W p l e R s m args below meth c H locs nc ns Q (F0 m pc ls st0) := fun hr => by
    refine va_calli (a := a) hr hS (fun q _ h => hAA q h) hAA (fun r u t H1 locs1 ht hvm hw hB hz1 hk1 hS1 => ?_)
    exact kk (some (.int r)) u H1 locs1 hw (by rw [← ht]; exact hB.1) (hB.2.weaken (fun _ _ _ h => hAA _ h)) hS1
  match ret, hr with
  | none, hr =>
    refine va_callv (a := a) hr hS (fun q _ h => hAA q h) hAA (fun u t H1 locs1 ht hvm hw hB hz1 hk1 hS1 => ?_)
    exact kk none u H1 locs1 hw (by rw [← ht]; exact hB.1) (hB.2.weaken (fun _ _ _ h => hAA _ h)) hS1
  | some (.object _), hr =>
    refine va_callr (a := a) hr hS (fun q _ h => hAA q h) hAA (fun u ra t H1 locs1 ht hvm hw hB hz1 hk1 hS1 => ?_)
    exact kk (some (.ref ra)) u H1 locs1 hB.1 (by rw [← ht]; exact hB.2.1) (hB.2.2.weaken (fun _ _ _ h => hAA _ h)) hS1
  | some .int, hr => exact hint hr
  | some .boolean, hr => exact hint hr
  | some .byte, hr => exact hint hr
  | some .char, hr => exact hint hr
  | some .short, hr => exact hint hr
  | some .long, hr => exact hint hr
  | some .float, hr => exact hint hr
  | some .double, hr => exact hint hr
  | some (.array _), hr => exact hint hr
theorem y_go {outs : List (yB × Option yV × yN × yX)} {rest : List yV} {svr : List Value} {ls : Array Slot} {ws : va_W} (h1 : y_l env (z_ad xb ws0) nL zl ls) (h5 : z_L (y_v env (z_ad xb ws0)) rest svr) (hfr : y_fr eff ws0 ws) (kk : y_K (y_G p l e R s m args below meth c Q xb kc D cl A H0 nL TY eff GR RI ws0 nc ns) env (outs.map (fun o => (o.1, pc + 3, (zl, o.2.1.toList ++ rest, o.2.2.1, o.2.2.2))))) (rv : Option Value) (u : va_W) (H1 : Heap) (locs1 : List Loc) (ho : y_out xb kc TY eff GR RI (z_ad xb ws0) env ws outs rv u) (hP1 : va_P D cl u H1) (hD1 : va_D A u) (hS1 : va_S A H0 H1 locs1) : W p l e R s m args below meth c H1 locs1 nc ns Q (F0 m (pc + 3) ls (rv.toList ++ svr)) := by
  obtain ⟨o, ho1, env', g1, g2, g3, g4, g5, gG, g6, g7, g8⟩ := ho
  exact kk _ (List.mem_map.mpr ⟨o, ho1, rfl⟩) env' g1 g2 ls _ u H1 locs1 ⟨y_l_mono g1 h1, z_L_app g3 (z_L_mono (y_v_mono g1) h5), g4, g5, gG, g6, y_fr_trans hfr g7, g8, hP1, hD1, hS1⟩
theorem y_callV (hx : p.tables.exec = Jvm.exec) (hb : c.code = cc) {own : String} {index maxL n r ci : Nat} {y : MethodName} {cy : ByteArray} {ret : Option FieldType} {rm : Room} {za rest : List yV} {outs : List (yB × Option yV × yN × yX)} {T : u_T} {N : Nat} {ts : List yT} (hg : ∀ w ∈ TB, goodWord w = true) (hts : ∀ w ∈ TB, w.before args s = true) (hown : s.vm.findClass own = some m.cls) (hml : c.maxLocals = nL) (hK : va_K D cl (z_TY kc) s) (hN : z_N NT s) (hA : ∀ q, s.heap.size ≤ q → A q) (hE : z_EX EX) (hE0 : EX A s s.heap) (hH0 : H0 = s.heap)
    (hy : z_Y TB y cy maxL n ret) (hl : Cond.methodLink own index y ∈ TB ∨ ∃ host, (own, index, y, host) ∈ NT) (hin : Cond.instanceMethod y ∈ TB) (hsel : Cond.selects y.cls y y ∈ TB) (hcl : cl[ci]? = some (y.cls, T, N)) (hw : y_T TY r = some (.inl (ci, ts))) (hM : y_Call EX l TB NT kc D cl xb TY eff GR RI (z_ad xb ws0) env y cy maxL ret rm (.inr (.inl (some (r + 1))) :: za) kn fl outs) (hrc : rm.cells = 0) (hrs : rm.slots = 0) (hR : rm.frames + 1 ≤ R.frames ∧ 8 + (maxL + 11) + rm.locals ≤ R.locals) (hn : za.length = n) (hst : (rest.map y_cat).sum ≤ 8) (hd : decode cc pc = .ok (.invokevirtual index, 3)) (hf : nc ≤ R.cells ∧ ns ≤ R.slots) (kk : y_K (y_G p l e R s m args below meth c Q xb kc D cl A H0 nL TY eff GR RI ws0 nc ns) env (outs.map (fun o => (o.1, pc + 3, (zl, o.2.1.toList ++ rest, o.2.2.1, o.2.2.2))))) : y_G p l e R s m args below meth c Q xb kc D cl A H0 nL TY eff GR RI ws0 nc ns env pc (zl, za.reverse ++ .inr (.inl (some (r + 1))) :: rest, kn, fl) := by
  subst hH0
  intro ls sv ws H locs ⟨h1, h2, hkn, hfl, hGs, hwt, hfr, had, hP, hD, hS⟩
  obtain ⟨sa, sb, rfl, ha, hb2⟩ := z_L_un h2
  obtain ⟨_, svr, rfl, ⟨b, hb1, rfl⟩, h5⟩ := y_st1 hb2
  have ha2 : z_L (y_v env (z_ad xb ws0)) za sa.reverse := by rw [← List.reverse_reverse za]; exact z_L_rev ha
  obtain ⟨b', _, hws, vs, rfl, hvs⟩ := hwt r _ hw
  obtain rfl := y_adr had hws hb1
  have hsum : (svr.map fun v => v.category).sum ≤ 8 := by rw [← y_cats h5]; exact hst
  obtain ⟨lv, hlv, hz⟩ := id h1
  have hM' := hM (.ref b :: sa.reverse) ws H.size ⟨⟨b, hb1, rfl⟩, ha2⟩ hkn hfl hGs hwt had
  have hp : PreV s H y.cls b (va_Pc (.ref b :: sa.reverse) (z_pre EX NT D cl kc ws H.size)) sa.reverse := ⟨z_blind hE, va_recv (q := (y.cls, T, N)) hK hP hcl hws, fun U hU hW => ⟨rfl, by rw [hU], by rw [hU]; exact hP, va_K.moved hW.alike hK, hD.weaken (fun _ _ _ _ => trivial), z_N_moved hW hN, z_exin hE hE0 hA hD hS hU hW⟩⟩
  have hlen : sa.reverse.length = n := by rw [← z_L_len ha2]; exact hn
  have hstk : (F0 m pc ls (sa ++ Value.ref b :: svr)).stack = sa.reverse.reverse ++ .ref b :: svr := by rw [List.reverse_reverse]
  have hrun : va_Run p l e R s m args below meth c H locs nc ns 0 0 (F0 m pc ls (sa ++ Value.ref b :: svr)) svr (y_Q D cl ws H.size ret (y_out xb kc TY eff GR RI (z_ad xb ws0) env ws outs) (Value.ref b :: sa.reverse).toArray) (va_A ws H.size) := by
    rcases hl with hl | ⟨host, hl⟩
    · exact va_runV ⟨hx, hb, hml, hown, hts⟩ hM' ⟨callB_of n hts (z_good hg hy.1) rfl hrc hrs (hts _ hy.2.1) (hts _ hl) hy.2.2 hR, hts _ hin, hts _ hsel⟩ hp rfl hlen hlv.1 hstk (lv_room hsum) hd hf
    · exact va_runVN ⟨hx, hb, hml, hown, hts⟩ hM' ⟨va_cnB n hts (z_good hg hy.1) rfl hrc hrs (hN.1 _ hl) (hts _ hy.2.1) hy.2.2 hR, hts _ hin, hts _ hsel⟩ hp rfl hlen hlv.1 hstk (lv_room hsum) hd hf
  exact y_after hrun hA hD hS (y_go h1 h5 hfr kk)
theorem y_callS (hx : p.tables.exec = Jvm.exec) (hb : c.code = cc) {own : String} {index maxL n : Nat} {y : MethodName} {cy : ByteArray} {ret : Option FieldType} {rm : Room} {za rest : List yV} {outs : List (yB × Option yV × yN × yX)} (hg : ∀ w ∈ TB, goodWord w = true) (hts : ∀ w ∈ TB, w.before args s = true) (hown : s.vm.findClass own = some m.cls) (hml : c.maxLocals = nL) (hK : va_K D cl (z_TY kc) s) (hN : z_N NT s) (hA : ∀ q, s.heap.size ≤ q → A q) (hE : z_EX EX) (hE0 : EX A s s.heap) (hH0 : H0 = s.heap)
    (hy : z_Y TB y cy maxL n ret) (hl : Cond.methodLink own index y ∈ TB ∨ ∃ host, (own, index, y, host) ∈ NT) (hsta : Cond.static y ∈ TB) (hM : y_Call EX l TB NT kc D cl xb TY eff GR RI (z_ad xb ws0) env y cy maxL ret rm za kn fl outs) (hrc : rm.cells = 0) (hrs : rm.slots = 0) (hR : rm.frames + 1 ≤ R.frames ∧ 8 + (maxL + 11) + rm.locals ≤ R.locals) (hn : za.length = n) (hst : (rest.map y_cat).sum ≤ 8) (hd : decode cc pc = .ok (.invokestatic index, 3)) (hf : nc ≤ R.cells ∧ ns ≤ R.slots) (kk : y_K (y_G p l e R s m args below meth c Q xb kc D cl A H0 nL TY eff GR RI ws0 nc ns) env (outs.map (fun o => (o.1, pc + 3, (zl, o.2.1.toList ++ rest, o.2.2.1, o.2.2.2))))) : y_G p l e R s m args below meth c Q xb kc D cl A H0 nL TY eff GR RI ws0 nc ns env pc (zl, za.reverse ++ rest, kn, fl) := by
  subst hH0
  intro ls sv ws H locs ⟨h1, h2, hkn, hfl, hGs, hwt, hfr, had, hP, hD, hS⟩
  obtain ⟨sa, svr, rfl, ha, h5⟩ := z_L_un h2
  have ha2 : z_L (y_v env (z_ad xb ws0)) za sa.reverse := by rw [← List.reverse_reverse za]; exact z_L_rev ha
  have hsum : (svr.map fun v => v.category).sum ≤ 8 := by rw [← y_cats h5]; exact hst
  obtain ⟨lv, hlv, hz⟩ := id h1
  have hM' := hM sa.reverse ws H.size ha2 hkn hfl hGs hwt had
  have hp : PreS s H (va_Pc sa.reverse (z_pre EX NT D cl kc ws H.size)) sa.reverse := ⟨z_blind hE, fun U hU hW => ⟨rfl, by rw [hU], by rw [hU]; exact hP, va_K.moved hW.alike hK, hD.weaken (fun _ _ _ _ => trivial), z_N_moved hW hN, z_exin hE hE0 hA hD hS hU hW⟩⟩
  have hlen : sa.reverse.length = n := by rw [← z_L_len ha2]; exact hn
  have hstk : (F0 m pc ls (sa ++ svr)).stack = sa.reverse.reverse ++ svr := by rw [List.reverse_reverse]
  have hrun : va_Run p l e R s m args below meth c H locs nc ns 0 0 (F0 m pc ls (sa ++ svr)) svr (y_Q D cl ws H.size ret (y_out xb kc TY eff GR RI (z_ad xb ws0) env ws outs) sa.reverse.toArray) (va_A ws H.size) := by
    rcases hl with hl | ⟨host, hl⟩
    · exact va_runS ⟨hx, hb, hml, hown, hts⟩ hM' ⟨callB_of n hts (z_good hg hy.1) rfl hrc hrs (hts _ hy.2.1) (hts _ hl) hy.2.2 hR, hts _ hsta⟩ hp rfl hlen hlv.1 hstk (lv_room hsum) hd hf
    · exact va_runSN ⟨hx, hb, hml, hown, hts⟩ hM' ⟨va_cnB n hts (z_good hg hy.1) rfl hrc hrs (hN.1 _ hl) (hts _ hy.2.1) hy.2.2 hR, hts _ hsta, trivial⟩ hp rfl hlen hlv.1 hstk (lv_room hsum) hd hf
  exact y_after hrun hA hD hS (y_go h1 h5 hfr kk)
end YQ3
/-! answers -/
/-- a method: its name, code, locals, answer, rows (by thirty-two), arguments, where what comes is split -/
abbrev yM : Type := MethodName × ByteArray × Nat × Option FieldType × List (List zE) × Nat × List Nat
def y_find (tab : List (List zE)) (pc : Nat) : Option (Instr × List Nat) := match tab[pc / 32]? with
  | some row => z_find row pc
  | none => none
theorem y_find_in {tab : List (List zE)} {pc : Nat} {I : Instr} {inf : List Nat} (h : y_find tab pc = some (I, inf)) : ∃ row ∈ tab, (pc, I, inf) ∈ row := by
  unfold y_find at h
  split at h
  next row hr => exact ⟨row, List.mem_of_getElem? hr, z_find_in h⟩
  next => cases h
def y_ln (I : Instr) (inf : List Nat) : Nat := match I with
  | .ldc_w _ => 3
  | _ => z_len I inf
def y_res (tab : List (List zE)) (ret : Option FieldType) (B : yB) (pc : Nat) (st : List yV) : Option (Option yV) := match y_find tab pc with
  | some (.ireturn, _) => match ret, st with
    | some .int, [.inl t] => some (some (.inl (y_nm B t)))
    | some .boolean, [.inl t] => if 0 ≤ (y_rng B t).1 ∧ (y_rng B t).2 ≤ 1 then some (some (.inl (y_nm B t))) else none
    | _, _ => none
  | some (.return_, _) => match ret, st with
    | none, [] => some none
    | _, _ => none
  | some (.areturn, _) => match ret, st with
    | some (.object _), [.inr (.inl (some i))] => some (some (.inr (.inl (some i))))
    | _, _ => none
  | _ => none
section YQ4
variable {p : Program} {l : Launch} {e : Env} {R : Room} {s : State} {m : MethodId} {args : Array Value} {below : List Frame} {meth : Method} {c : Code} {Q : State → Prop} {cc : ByteArray}
variable {xb : Nat} {kc : Nat → ClassId} {D : va_G} {cl : List vw_C} {A : Nat → Prop} {H0 : Heap} {nL : Nat} {TY : List (List yC)} {eff RC : yR} {GR : List yGr} {RI : va_W → Prop} {ws0 : va_W} {nc ns : Nat} {env : List Int}
variable {zl : List (Nat × yV)} {st : List yV} {kn : yN} {fl : yX} {pc : Nat} {tys : List (ClassId × FieldType)}
variable {sz : Nat}
/-- at the answer: what is owed to the caller -/
theorem y_ret (hx : p.tables.exec = Jvm.exec) (hb : c.code = cc) {B : yB} (hB : y_B B env) {Post : Option Value → va_W → Prop} {tab : List (List zE)} {ret : Option FieldType} {st : List yV} {rz : Option yV} (hr : meth.sig.returnType = ret) (hlocks : meth.locks = false) (hd : ∀ I inf, y_find tab pc = some (I, inf) → decode cc pc = .ok (I, y_ln I inf)) (h : y_res tab ret B pc st = some rz) (hpost : ∀ rv u, z_L (y_v env (z_ad xb ws0)) rz.toList rv.toList → y_k env u kn → (fl.1 = true → RI u) → y_Gs GR env fl.2.1 fl.2.2 u → y_w kc (z_ad xb ws0) TY u → y_fr eff ws0 u → z_ad xb u = z_ad xb ws0 → Post rv u) : y_G p l e R s m args below meth c (MQ below (y_Q D cl ws0 sz ret Post) args s 0 0 (va_A ws0 sz)) xb kc D cl (va_A ws0 sz) s.heap nL TY eff GR RI ws0 0 0 env pc (zl, st, kn, fl) := by
  intro ls sv ws H locs ⟨_, g2, hkn, hfl, hGs, hwt, hfr, had, hP, hD, hS⟩
  unfold y_res at h
  split at h
  next inf hf =>
    have hd := hd _ _ hf
    split at h
    next t =>
      cases h
      obtain ⟨_, sv', rfl, ⟨x, rfl, hx1⟩, g4⟩ := y_st1 g2
      obtain rfl : sv' = [] := by
        cases sv' with
        | nil => rfl
        | cons _ _ => exact g4.elim
      exact W.zret hx hb hr rfl (fun t' ht hW => ⟨⟨x, ws, rfl, hpost (some (.int x)) ws ⟨⟨x, rfl, y_nm_ok hB hx1⟩, trivial⟩ hkn hfl hGs hwt hfr had, by rw [ht]; exact hP, hD⟩, hS.F ht⟩) hS.2.2 hd hlocks
    next t =>
      split at h
      next hc =>
        cases h
        obtain ⟨_, sv', rfl, ⟨x, rfl, hx1⟩, g4⟩ := y_st1 g2
        obtain rfl : sv' = [] := by
          cases sv' with
          | nil => rfl
          | cons _ _ => exact g4.elim
        have hrg := y_rng_ok hB hx1
        exact W.zret hx hb hr (y_fit_ok (ty := .boolean) (by unfold y_fit; simp only [Bool.and_eq_true, decide_eq_true_eq]; exact hc) hrg.1 hrg.2).1 (fun t' ht hW => ⟨⟨x, ws, rfl, hpost (some (.int x)) ws ⟨⟨x, rfl, y_nm_ok hB hx1⟩, trivial⟩ hkn hfl hGs hwt hfr had, by rw [ht]; exact hP, hD⟩, hS.F ht⟩) hS.2.2 hd hlocks
      next => cases h
    next => cases h
  next inf hf =>
    have hd := hd _ _ hf
    split at h
    next =>
      cases h
      obtain rfl : sv = [] := by
        cases sv with
        | nil => rfl
        | cons _ _ => exact g2.elim
      exact W.vret hx hb hr (fun t' ht hW => ⟨⟨ws, rfl, hpost none ws trivial hkn hfl hGs hwt hfr had, by rw [ht]; exact hP, hD⟩, hS.F ht⟩) hS.2.2 hd (hlocks := hlocks)
    next => cases h
  next inf hf =>
    have hd := hd _ _ hf
    split at h
    next n i =>
      cases h
      obtain ⟨_, sv', rfl, ⟨a, ha, rfl⟩, g4⟩ := y_st1 g2
      obtain rfl : sv' = [] := by
        cases sv' with
        | nil => rfl
        | cons _ _ => exact g4.elim
      exact W.aret hx hb hr (Or.inl ⟨_, rfl⟩) (Or.inr ⟨a, rfl⟩) (fun t' ht hW => ⟨⟨ws, a, rfl, trivial, hpost (some (.ref a)) ws ⟨⟨a, ha, rfl⟩, trivial⟩ hkn hfl hGs hwt hfr had, by rw [ht]; exact hP, hD⟩, hS.F ht⟩) hS.2.2 hd (hlocks := hlocks)
    next => cases h
  next => cases h
end YQ4
