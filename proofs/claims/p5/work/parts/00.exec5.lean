/-! ===== calls ===== -/
theorem z_L_un {α β : Type} {R : α → β → Prop} : ∀ {as cs : List α} {bs : List β}, z_L R (as ++ cs) bs → ∃ x y, bs = x ++ y ∧ z_L R as x ∧ z_L R cs y
  | [], _, bs, h => ⟨[], bs, rfl, trivial, h⟩
  | a :: as, cs, [], h => h.elim
  | a :: as, cs, b :: bs, h => by
    obtain ⟨x, y, rfl, h1, h2⟩ := z_L_un (as := as) h.2
    exact ⟨b :: x, y, rfl, ⟨h.1, h1⟩, h2⟩
theorem z_L_rev {α β : Type} {R : α → β → Prop} : ∀ {as : List α} {bs : List β}, z_L R as bs → z_L R as.reverse bs.reverse
  | [], [], _ => trivial
  | a :: as, b :: bs, h => by
    rw [List.reverse_cons, List.reverse_cons]
    exact z_L_app (z_L_rev h.2) ⟨h.1, trivial⟩
  | [], _ :: _, h => h.elim
  | _ :: _, [], h => h.elim
/-- what the machine's tables say beside the words -/
def z_N (NT : List (String × Nat × MethodName × String)) (U : State) : Prop := (∀ q ∈ NT, va_Nw (.methodLinkNest q.1 q.2.1 q.2.2.1 q.2.2.2) U) ∧ va_AO "HeldCoats$State" U ∧ va_AO "HeldCoats$Image" U
theorem z_N_moved {NT : List (String × Nat × MethodName × String)} {s U : State} (hW : s.WarmedH U.vm) (h : z_N NT s) : z_N NT U := ⟨fun q hq => va_Nw.warmM hW (h.1 q hq), va_AO.moved hW.alike h.2.1, va_AO.moved hW.alike h.2.2⟩
/-- what lies outside the world and is only read: it stays -/
def z_EX (EX : (Nat → Prop) → State → Heap → Prop) : Prop := (∀ (A : Nat → Prop) (u U : State) (H : Heap), u.WarmedH U.vm → EX A u H → EX A U H) ∧ (∀ (A : Nat → Prop) (U : State) (H H1 : Heap), (∀ q : Nat, q < H.size → ¬ A q → H1[q]? = H[q]?) → EX A U H → EX A U H1) ∧ ∀ (A B : Nat → Prop) (U : State) (H : Heap), (∀ q, B q → A q) → EX A U H → EX B U H
def z_pre (EX : (Nat → Prop) → State → Heap → Prop) (NT : List (String × Nat × MethodName × String)) (D : va_G) (cl : List vw_C) (kc : Nat → ClassId) (ws0 : va_W) (sz : Nat) (U : State) : Prop := U.heap.size = sz ∧ va_P D cl ws0 U.heap ∧ va_K D cl (z_TY kc) U ∧ va_D (fun _ => True) ws0 ∧ z_N NT U ∧ EX (va_A ws0 sz) U U.heap
def z_post (D : va_G) (cl : List vw_C) (ws0 : va_W) (sz : Nat) (u : va_W) (t : State) : Prop := va_P D cl u t.heap ∧ va_D (va_A ws0 sz) u
def z_ok (xb : Nat) (env : Nat → Int32) (kc : Nat → ClassId) (ws0 : va_W) (w' : zW) (u : va_W) : Prop := z_w xb env kc w' u ∧ ∀ i a, z_ad xb ws0 i = some a → z_ad xb u i = some a
def z_Qc (xb : Nat) (env : Nat → Int32) (kc : Nat → ClassId) (D : va_G) (cl : List vw_C) (ws0 : va_W) (sz : Nat) (w' : zW) (rz : Option zV) : Array Value → State → Outcome → State → Prop := match rz with
  | none => va_Qv (fun u : va_W => z_ok xb env kc ws0 w' u) (z_post D cl ws0 sz) (va_A ws0 sz)
  | some (.inl t) => va_Qi (fun (r : Int32) (u : va_W) => z_i env t r ∧ z_ok xb env kc ws0 w' u) (z_post D cl ws0 sz) (va_A ws0 sz)
  | some (.inr (.inl (some i))) => va_Qr (fun u : va_W => z_ok xb env kc ws0 w' u) (fun u a t => z_ad xb u i = some a ∧ z_post D cl ws0 sz u t) (va_A ws0 sz)
  | _ => fun _ _ _ _ => False
def z_Met (EX : (Nat → Prop) → State → Heap → Prop) (l : Launch) (TB : List Cond) (NT : List (String × Nat × MethodName × String)) (kc : Nat → ClassId) (D : va_G) (cl : List vw_C) (xb : Nat) (env : Nat → Int32) (y : MethodName) (cc : ByteArray) (maxL : Nat) (ret : Option FieldType) (rm : Room) (za : List zV) (w : zW) (rz : Option zV) (w' : zW) (mc ms : Nat) : Prop :=
  ∀ (av : List Value) (ws0 : va_W) (sz : Nat), z_L (z_v env (z_ad xb ws0)) za av → z_w xb env kc w ws0 → Met l y (.code y cc maxL ret :: TB) rm (va_Pc av (z_pre EX NT D cl kc ws0 sz)) (z_Qc xb env kc D cl ws0 sz w' rz) mc ms (va_A ws0 sz)
theorem z_blind {EX : (Nat → Prop) → State → Heap → Prop} (hE : z_EX EX) {NT : List (String × Nat × MethodName × String)} {D : va_G} {cl : List vw_C} {kc : Nat → ClassId} {ws0 : va_W} {sz : Nat} {av : List Value} : FrameBlind (va_Pc av (z_pre EX NT D cl kc ws0 sz)) := fun a U g mk q => by
  obtain ⟨q0, q1, qP, qK, qD, qN, qE⟩ := q
  exact ⟨q0, q1, qP, va_K.moved (u := U) (U := U.calling g mk a) (Vm.Alike.refl U.vm) qK, qD, ⟨fun x hx => va_Nw.same rfl rfl (qN.1 x hx), va_AO.moved (u := U) (U := U.calling g mk a) (Vm.Alike.refl U.vm) qN.2.1, va_AO.moved (u := U) (U := U.calling g mk a) (Vm.Alike.refl U.vm) qN.2.2⟩, hE.1 _ U (U.calling g mk a) _ (State.WarmedH.refl U) qE⟩
section ZC
variable {p : Program} {l : Launch} {e : Env} {R : Room} {s : State} {m : MethodId} {args : Array Value} {below : List Frame} {meth : Method} {c : Code} {Q : State → Prop} {cc : ByteArray}
variable {xb : Nat} {env : Nat → Int32} {kc : Nat → ClassId} {D : va_G} {cl : List vw_C} {A : Nat → Prop} {H0 : Heap} {ad0 : Nat → Option Nat} {nL : Nat}
variable {zl : List (Nat × zV)} {st : List zV} {w : zW} {nc ns pc : Nat} {NT : List (String × Nat × MethodName × String)} {TB : List Cond} {EX : (Nat → Prop) → State → Heap → Prop}
theorem z_exin (hE : z_EX EX) (hE0 : EX A s s.heap) (hA : ∀ q, s.heap.size ≤ q → A q) {ws : va_W} {H : Heap} {locs : List Loc} (hD : va_D A ws) (hS : va_S A s.heap H locs) {U : State} (hU : U.heap = H) (hW : s.WarmedH U.vm) : EX (va_A ws H.size) U U.heap := by
  rw [hU]
  refine hE.1 _ s U _ hW (hE.2.2 A _ s H (fun q hq => ?_) (hE.2.1 A s s.heap H hS.2.1 hE0))
  rcases hq with ⟨k, e1, hk⟩ | hq
  · exact hD.2 k (q, e1) hk
  · exact hA q (Nat.le_trans hS.1 hq)
theorem z_after {rz : Option zV} {w' : zW} {mc ms : Nat} {rest : List zV} {ls : Array Slot} {st0 svr : List Value} {ws : va_W} {H : Heap} {locs : List Loc} {a : Array Value} (hr : va_Run p l e R s m args below meth c H locs nc ns mc ms (F0 m pc ls st0) svr (z_Qc xb env kc D cl ws H.size w' rz a) (va_A ws H.size)) (hA : ∀ q, H0.size ≤ q → A q) (h1 : z_l env (z_ad xb ws) nL zl ls) (h2 : z_L (z_v env (z_ad xb ws)) rest svr) (h6 : ∀ i a, ad0 i = some a → z_ad xb ws i = some a) (hP : va_P D cl ws H) (hD : va_D A ws) (hS : va_S A H0 H locs) (kk : z_G p l e R s m args below meth c Q xb env kc D cl A H0 ad0 nL (pc + 3) (zl, rz.toList ++ rest, w', nc + mc, ns + ms)) : W p l e R s m args below meth c H locs nc ns Q (F0 m pc ls st0) := by
  have hAA : ∀ q, va_A ws H.size q → A q := by
    intro q hq
    rcases hq with ⟨k, e1, hk⟩ | hq
    · exact hD.2 k (q, e1) hk
    · exact hA q (Nat.le_trans hS.1 hq)
  have hgo : ∀ (u : va_W) (H1 : Heap) (locs1 : List Loc) (sr : List Value), z_ok xb env kc ws w' u → va_P D cl u H1 → va_D (va_A ws H.size) u → va_S A H0 H1 locs1 → z_L (z_v env (z_ad xb u)) rz.toList sr → W p l e R s m args below meth c H1 locs1 (nc + mc) (ns + ms) Q (F0 m (pc + 3) ls (sr ++ svr)) := by
    intro u H1 locs1 sr hu hP1 hD1 hS1 hsr
    exact kk ls _ u H1 locs1 ⟨z_l_mono hu.2 h1, z_L_app hsr (z_L_mono (z_v_mono hu.2) h2), hu.1, fun i b hi => hu.2 i b (h6 i b hi), hP1, hD1.weaken (fun _ _ _ h => hAA _ h), hS1⟩
  match rz, hr, hgo with
  | none, hr, hgo =>
    refine va_callv (a := a) hr hS (fun q _ h => hAA q h) hAA (fun u t H1 locs1 ht hvm hw hB hz1 hk1 hS1 => ?_)
    exact hgo u H1 locs1 [] hw (by rw [← ht]; exact hB.1) hB.2 hS1 trivial
  | some (.inl t0), hr, hgo =>
    refine va_calli (a := a) hr hS (fun q _ h => hAA q h) hAA (fun r u t H1 locs1 ht hvm hw hB hz1 hk1 hS1 => ?_)
    exact hgo u H1 locs1 [.int r] hw.2 (by rw [← ht]; exact hB.1) hB.2 hS1 ⟨⟨r, rfl, hw.1⟩, trivial⟩
  | some (.inr (.inl (some i))), hr, hgo =>
    refine va_callr (a := a) hr hS (fun q _ h => hAA q h) hAA (fun u ra t H1 locs1 ht hvm hw hB hz1 hk1 hS1 => ?_)
    exact hgo u H1 locs1 [.ref ra] hw (by rw [← ht]; exact hB.2.1) hB.2.2 hS1 ⟨⟨ra, hB.1, rfl⟩, trivial⟩
  | some (.inr (.inl none)), hr, _ =>
    intro T hT X
    obtain ⟨v, st₀, t, T', L, _, _, _, _, _, hq, _⟩ := hr T hT X
    exact hq.elim
  | some (.inr (.inr _)), hr, _ =>
    intro T hT X
    obtain ⟨v, st₀, t, T', L, _, _, _, _, _, hq, _⟩ := hr T hT X
    exact hq.elim
theorem z_good {y : MethodName} {cy : ByteArray} {maxL : Nat} {ret : Option FieldType} (hg : ∀ w ∈ TB, goodWord w = true) (hc : Cond.code y cy maxL ret ∈ TB) : GoodIn TB (Cond.code y cy maxL ret :: TB) := by
  intro w hw
  rcases List.mem_cons.mp hw with rfl | hw
  · exact ⟨hc, good_of_word (hg _ hc)⟩
  · exact ⟨hw, good_of_word (hg _ hw)⟩
/-- what is said of a method that is called -/
def z_Y (TB : List Cond) (y : MethodName) (cy : ByteArray) (maxL n : Nat) (ret : Option FieldType) : Prop :=
  Cond.code y cy maxL ret ∈ TB ∧ Cond.initialized y.cls ∈ TB ∧ (y.cls ≠ "java/lang/invoke/MethodHandle" ∧ y.cls ≠ "java/lang/invoke/VarHandle" ∧ (parseMethodDescriptor y.desc).map (fun d => d.parameters.length) = some n)
theorem z_callV (hx : p.tables.exec = Jvm.exec) (hb : c.code = cc) {own : String} {index maxL n r ci : Nat} {y : MethodName} {cy : ByteArray} {ret : Option FieldType} {rm : Room} {za : List zV} {rest : List zV} {rz : Option zV} {w' : zW} {mc ms : Nat} {T : u_T} {N : Nat} {fs : List zV} (hg : ∀ w ∈ TB, goodWord w = true) (hts : ∀ w ∈ TB, w.before args s = true) (hown : s.vm.findClass own = some m.cls) (hml : c.maxLocals = nL) (hK : va_K D cl (z_TY kc) s) (hN : z_N NT s) (hA : ∀ q, s.heap.size ≤ q → A q) (hE : z_EX EX) (hE0 : EX A s s.heap) (hH0 : H0 = s.heap)
    (hy : z_Y TB y cy maxL n ret) (hl : Cond.methodLink own index y ∈ TB ∨ ∃ host, (own, index, y, host) ∈ NT) (hin : Cond.instanceMethod y ∈ TB) (hsel : Cond.selects y.cls y y ∈ TB) (hcl : cl[ci]? = some (y.cls, T, N)) (hw : w[r]? = some (.inl (ci, fs))) (hM : z_Met EX l TB NT kc D cl xb env y cy maxL ret rm (.inr (.inl (some (r + 1))) :: za) w rz w' mc ms) (hrc : rm.cells = mc) (hrs : rm.slots = ms) (hR : rm.frames + 1 ≤ R.frames ∧ 8 + (maxL + 11) + rm.locals ≤ R.locals) (hn : za.length = n) (hst : (rest.map z_cat).sum ≤ 8) (hd : decode cc pc = .ok (.invokevirtual index, 3)) (hf : nc + mc ≤ R.cells ∧ ns + ms ≤ R.slots) (kk : z_G p l e R s m args below meth c Q xb env kc D cl A H0 ad0 nL (pc + 3) (zl, rz.toList ++ rest, w', nc + mc, ns + ms)) : z_G p l e R s m args below meth c Q xb env kc D cl A H0 ad0 nL pc (zl, za.reverse ++ .inr (.inl (some (r + 1))) :: rest, w, nc, ns) := by
  subst hH0
  intro ls sv ws H locs ⟨h1, h2, h3, h6, hP, hD, hS⟩
  obtain ⟨sa, sb, rfl, ha, hb2⟩ := z_L_un h2
  obtain ⟨_, svr, rfl, ⟨b, hb1, rfl⟩, h5⟩ := z_st1 hb2
  have ha2 : z_L (z_v env (z_ad xb ws)) za sa.reverse := by rw [← List.reverse_reverse za]; exact z_L_rev ha
  obtain ⟨b', _, hws, hb', vs, rfl, hvs⟩ := z_w_get h3 hw
  obtain rfl : b = b' := Option.some.inj (hb1.symm.trans hb')
  have hsum : (svr.map fun v => v.category).sum ≤ 8 := by rw [← z_cats h5]; exact hst
  obtain ⟨lv, hlv, hz⟩ := id h1
  have hM' := hM (.ref b :: sa.reverse) ws H.size ⟨⟨b, hb1, rfl⟩, ha2⟩ h3
  have hp : PreV s H y.cls b (va_Pc (.ref b :: sa.reverse) (z_pre EX NT D cl kc ws H.size)) sa.reverse := ⟨z_blind hE, va_recv (q := (y.cls, T, N)) hK hP hcl hws, fun U hU hW => ⟨rfl, by rw [hU], by rw [hU]; exact hP, va_K.moved hW.alike hK, hD.weaken (fun _ _ _ _ => trivial), z_N_moved hW hN, z_exin hE hE0 hA hD hS hU hW⟩⟩
  have hlen : sa.reverse.length = n := by rw [← z_L_len ha2]; exact hn
  have hstk : (F0 m pc ls (sa ++ Value.ref b :: svr)).stack = sa.reverse.reverse ++ .ref b :: svr := by rw [List.reverse_reverse]
  have hrun : va_Run p l e R s m args below meth c H locs nc ns mc ms (F0 m pc ls (sa ++ Value.ref b :: svr)) svr (z_Qc xb env kc D cl ws H.size w' rz (Value.ref b :: sa.reverse).toArray) (va_A ws H.size) := by
    rcases hl with hl | ⟨host, hl⟩
    · exact va_runV ⟨hx, hb, hml, hown, hts⟩ hM' ⟨callB_of n hts (z_good hg hy.1) rfl hrc hrs (hts _ hy.2.1) (hts _ hl) hy.2.2 hR, hts _ hin, hts _ hsel⟩ hp rfl hlen hlv.1 hstk (lv_room hsum) hd hf
    · exact va_runVN ⟨hx, hb, hml, hown, hts⟩ hM' ⟨va_cnB n hts (z_good hg hy.1) rfl hrc hrs (hN.1 _ hl) (hts _ hy.2.1) hy.2.2 hR, hts _ hin, hts _ hsel⟩ hp rfl hlen hlv.1 hstk (lv_room hsum) hd hf
  exact z_after hrun hA h1 h5 h6 hP hD hS kk
theorem z_callI (hx : p.tables.exec = Jvm.exec) (hb : c.code = cc) {own : String} {index maxL n r : Nat} {y : MethodName} {cy : ByteArray} {rm : Room} {za : List zV} {rest : List zV} {w' : zW} {mc ms : Nat} (hg : ∀ w ∈ TB, goodWord w = true) (hts : ∀ w ∈ TB, w.before args s = true) (hown : s.vm.findClass own = some m.cls) (hml : c.maxLocals = nL) (hK : va_K D cl (z_TY kc) s) (hN : z_N NT s) (hA : ∀ q, s.heap.size ≤ q → A q) (hE : z_EX EX) (hE0 : EX A s s.heap) (hH0 : H0 = s.heap)
    (hy : z_Y TB y cy maxL n none) (hl : Cond.methodLink own index y ∈ TB ∨ ∃ host, (own, index, y, host) ∈ NT) (hin : Cond.instanceMethod y ∈ TB) (hni : y.name = "<init>") (hM : z_Met EX l TB NT kc D cl xb env y cy maxL none rm (.inr (.inl (some r)) :: za) w none w' mc ms) (hrc : rm.cells = mc) (hrs : rm.slots = ms) (hR : rm.frames + 1 ≤ R.frames ∧ 8 + (maxL + 11) + rm.locals ≤ R.locals) (hn : za.length = n) (hst : (rest.map z_cat).sum ≤ 8) (hd : decode cc pc = .ok (.invokespecial index, 3)) (hf : nc + mc ≤ R.cells ∧ ns + ms ≤ R.slots) (kk : z_G p l e R s m args below meth c Q xb env kc D cl A H0 ad0 nL (pc + 3) (zl, rest, w', nc + mc, ns + ms)) : z_G p l e R s m args below meth c Q xb env kc D cl A H0 ad0 nL pc (zl, za.reverse ++ .inr (.inl (some r)) :: rest, w, nc, ns) := by
  subst hH0
  intro ls sv ws H locs ⟨h1, h2, h3, h6, hP, hD, hS⟩
  obtain ⟨sa, sb, rfl, ha, hb2⟩ := z_L_un h2
  obtain ⟨_, svr, rfl, ⟨b, hb1, rfl⟩, h5⟩ := z_st1 hb2
  have ha2 : z_L (z_v env (z_ad xb ws)) za sa.reverse := by rw [← List.reverse_reverse za]; exact z_L_rev ha
  have hsum : (svr.map fun v => v.category).sum ≤ 8 := by rw [← z_cats h5]; exact hst
  obtain ⟨lv, hlv, hz⟩ := id h1
  have hM' := hM (.ref b :: sa.reverse) ws H.size ⟨⟨b, hb1, rfl⟩, ha2⟩ h3
  have hp : PreS s H (va_Pc (.ref b :: sa.reverse) (z_pre EX NT D cl kc ws H.size)) (.ref b :: sa.reverse) := ⟨z_blind hE, fun U hU hW => ⟨rfl, by rw [hU], by rw [hU]; exact hP, va_K.moved hW.alike hK, hD.weaken (fun _ _ _ _ => trivial), z_N_moved hW hN, z_exin hE hE0 hA hD hS hU hW⟩⟩
  have hlen : sa.reverse.length = n := by rw [← z_L_len ha2]; exact hn
  have hstk : (F0 m pc ls (sa ++ Value.ref b :: svr)).stack = sa.reverse.reverse ++ .ref b :: svr := by rw [List.reverse_reverse]
  have hrun : va_Run p l e R s m args below meth c H locs nc ns mc ms (F0 m pc ls (sa ++ Value.ref b :: svr)) svr (z_Qc xb env kc D cl ws H.size w' none (Value.ref b :: sa.reverse).toArray) (va_A ws H.size) := by
    rcases hl with hl | ⟨host, hl⟩
    · exact va_runI ⟨hx, hb, hml, hown, hts⟩ hM' ⟨callB_of n hts (z_good hg hy.1) rfl hrc hrs (hts _ hy.2.1) (hts _ hl) hy.2.2 hR, hni, hts _ hin⟩ hp rfl hlen hlv.1 hstk (lv_room hsum) hd hf
    · exact va_runIN ⟨hx, hb, hml, hown, hts⟩ hM' ⟨va_cnB n hts (z_good hg hy.1) rfl hrc hrs (hN.1 _ hl) (hts _ hy.2.1) hy.2.2 hR, hni, hts _ hin⟩ hp rfl hlen hlv.1 hstk (lv_room hsum) hd hf
  exact z_after hrun hA h1 h5 h6 hP hD hS kk
theorem z_callS (hx : p.tables.exec = Jvm.exec) (hb : c.code = cc) {own : String} {index maxL n : Nat} {y : MethodName} {cy : ByteArray} {ret : Option FieldType} {rm : Room} {za : List zV} {rest : List zV} {rz : Option zV} {w' : zW} {mc ms : Nat} (hg : ∀ w ∈ TB, goodWord w = true) (hts : ∀ w ∈ TB, w.before args s = true) (hown : s.vm.findClass own = some m.cls) (hml : c.maxLocals = nL) (hK : va_K D cl (z_TY kc) s) (hN : z_N NT s) (hA : ∀ q, s.heap.size ≤ q → A q) (hE : z_EX EX) (hE0 : EX A s s.heap) (hH0 : H0 = s.heap)
    (hy : z_Y TB y cy maxL n ret) (hl : Cond.methodLink own index y ∈ TB ∨ ∃ host, (own, index, y, host) ∈ NT) (hsta : Cond.static y ∈ TB) (hM : z_Met EX l TB NT kc D cl xb env y cy maxL ret rm za w rz w' mc ms) (hrc : rm.cells = mc) (hrs : rm.slots = ms) (hR : rm.frames + 1 ≤ R.frames ∧ 8 + (maxL + 11) + rm.locals ≤ R.locals) (hn : za.length = n) (hst : (rest.map z_cat).sum ≤ 8) (hd : decode cc pc = .ok (.invokestatic index, 3)) (hf : nc + mc ≤ R.cells ∧ ns + ms ≤ R.slots) (kk : z_G p l e R s m args below meth c Q xb env kc D cl A H0 ad0 nL (pc + 3) (zl, rz.toList ++ rest, w', nc + mc, ns + ms)) : z_G p l e R s m args below meth c Q xb env kc D cl A H0 ad0 nL pc (zl, za.reverse ++ rest, w, nc, ns) := by
  subst hH0
  intro ls sv ws H locs ⟨h1, h2, h3, h6, hP, hD, hS⟩
  obtain ⟨sa, svr, rfl, ha, h5⟩ := z_L_un h2
  have ha2 : z_L (z_v env (z_ad xb ws)) za sa.reverse := by rw [← List.reverse_reverse za]; exact z_L_rev ha
  have hsum : (svr.map fun v => v.category).sum ≤ 8 := by rw [← z_cats h5]; exact hst
  obtain ⟨lv, hlv, hz⟩ := id h1
  have hM' := hM sa.reverse ws H.size ha2 h3
  have hp : PreS s H (va_Pc sa.reverse (z_pre EX NT D cl kc ws H.size)) sa.reverse := ⟨z_blind hE, fun U hU hW => ⟨rfl, by rw [hU], by rw [hU]; exact hP, va_K.moved hW.alike hK, hD.weaken (fun _ _ _ _ => trivial), z_N_moved hW hN, z_exin hE hE0 hA hD hS hU hW⟩⟩
  have hlen : sa.reverse.length = n := by rw [← z_L_len ha2]; exact hn
  have hstk : (F0 m pc ls (sa ++ svr)).stack = sa.reverse.reverse ++ svr := by rw [List.reverse_reverse]
  have hrun : va_Run p l e R s m args below meth c H locs nc ns mc ms (F0 m pc ls (sa ++ svr)) svr (z_Qc xb env kc D cl ws H.size w' rz sa.reverse.toArray) (va_A ws H.size) := by
    rcases hl with hl | ⟨host, hl⟩
    · exact va_runS ⟨hx, hb, hml, hown, hts⟩ hM' ⟨callB_of n hts (z_good hg hy.1) rfl hrc hrs (hts _ hy.2.1) (hts _ hl) hy.2.2 hR, hts _ hsta⟩ hp rfl hlen hlv.1 hstk (lv_room hsum) hd hf
    · exact va_runSN ⟨hx, hb, hml, hown, hts⟩ hM' ⟨va_cnB n hts (z_good hg hy.1) rfl hrc hrs (hN.1 _ hl) (hts _ hy.2.1) hy.2.2 hR, hts _ hsta, trivial⟩ hp rfl hlen hlv.1 hstk (lv_room hsum) hd hf
  exact z_after hrun hA h1 h5 h6 hP hD hS kk
end ZC
section ZR
variable {p : Program} {l : Launch} {e : Env} {R : Room} {s : State} {m : MethodId} {args : Array Value} {below : List Frame} {meth : Method} {c : Code} {cc : ByteArray}
variable {xb : Nat} {env : Nat → Int32} {kc : Nat → ClassId} {D : va_G} {cl : List vw_C} {ws0 : va_W} {sz : Nat} {nL : Nat} {zl : List (Nat × zV)} {w : zW} {nc ns pc mc ms : Nat}
theorem z_iret (hx : p.tables.exec = Jvm.exec) (hb : c.code = cc) {ty : FieldType} {t : zI} (hr : meth.sig.returnType = some ty) (hlocks : meth.locks = false) (hfit : z_fit ty (.inl t) = true) (h1 : nc ≤ mc) (h2 : ns ≤ ms) (hd : decode cc pc = .ok (.ireturn, 1)) : z_G p l e R s m args below meth c (MQ below (z_Qc xb env kc D cl ws0 sz w (some (.inl t))) args s mc ms (va_A ws0 sz)) xb env kc D cl (va_A ws0 sz) s.heap (z_ad xb ws0) nL pc (zl, [.inl t], w, nc, ns) := by
  intro ls sv ws H locs ⟨_, g2, g3, g6, hP, hD, hS⟩
  obtain ⟨_, sv', rfl, ⟨x, rfl, hx1⟩, g4⟩ := z_st1 g2
  obtain rfl : sv' = [] := by
    cases sv' with
    | nil => rfl
    | cons _ _ => exact g4.elim
  refine W.widen (k := mc) (n := ms) h1 h2 ?_
  exact W.zret hx hb hr (z_fit_ok (ad := z_ad xb ws) hfit ⟨x, rfl, hx1⟩).1 (fun t' ht hW => ⟨⟨x, ws, rfl, ⟨hx1, g3, g6⟩, by rw [ht]; exact hP, hD⟩, hS.F ht⟩) hS.2.2 hd hlocks
theorem z_vret (hx : p.tables.exec = Jvm.exec) (hb : c.code = cc) (hr : meth.sig.returnType = none) (hlocks : meth.locks = false) (h1 : nc ≤ mc) (h2 : ns ≤ ms) (hd : decode cc pc = .ok (.return_, 1)) : z_G p l e R s m args below meth c (MQ below (z_Qc xb env kc D cl ws0 sz w none) args s mc ms (va_A ws0 sz)) xb env kc D cl (va_A ws0 sz) s.heap (z_ad xb ws0) nL pc (zl, [], w, nc, ns) := by
  intro ls sv ws H locs ⟨_, g2, g3, g6, hP, hD, hS⟩
  obtain rfl : sv = [] := by
    cases sv with
    | nil => rfl
    | cons _ _ => exact g2.elim
  refine W.widen (k := mc) (n := ms) h1 h2 ?_
  exact W.vret hx hb hr (fun t' ht hW => ⟨⟨ws, rfl, ⟨g3, g6⟩, by rw [ht]; exact hP, hD⟩, hS.F ht⟩) hS.2.2 hd (hlocks := hlocks)
theorem z_aret (hx : p.tables.exec = Jvm.exec) (hb : c.code = cc) {n : String} {i : Nat} (hr : meth.sig.returnType = some (.object n)) (hlocks : meth.locks = false) (h1 : nc ≤ mc) (h2 : ns ≤ ms) (hd : decode cc pc = .ok (.areturn, 1)) : z_G p l e R s m args below meth c (MQ below (z_Qc xb env kc D cl ws0 sz w (some (.inr (.inl (some i))))) args s mc ms (va_A ws0 sz)) xb env kc D cl (va_A ws0 sz) s.heap (z_ad xb ws0) nL pc (zl, [.inr (.inl (some i))], w, nc, ns) := by
  intro ls sv ws H locs ⟨_, g2, g3, g6, hP, hD, hS⟩
  obtain ⟨_, sv', rfl, ⟨a, ha, rfl⟩, g4⟩ := z_st1 g2
  obtain rfl : sv' = [] := by
    cases sv' with
    | nil => rfl
    | cons _ _ => exact g4.elim
  refine W.widen (k := mc) (n := ms) h1 h2 ?_
  exact W.aret hx hb hr (Or.inl ⟨n, rfl⟩) (Or.inr ⟨a, rfl⟩) (fun t' ht hW => ⟨⟨ws, a, rfl, ⟨g3, g6⟩, ha, by rw [ht]; exact hP, hD⟩, hS.F ht⟩) hS.2.2 hd (hlocks := hlocks)
end ZR
