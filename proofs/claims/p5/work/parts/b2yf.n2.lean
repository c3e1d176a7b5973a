/-! ===== contracts that change the types of a world ===== -/
def x_Ok2 (EX : (Nat → Prop) → State → Heap → Prop) (l : Launch) (TB : List Cond) (NT : List (String × Nat × MethodName × String)) (kc : Nat → ClassId) (D : va_G) (cl : List vw_C) (xb : Nat) (TY TY2 : List (List yC)) (ad : Nat → Option Nat) (P : Nat → Option yM) (j d0 : Nat) (Pre : xPre) (Post : xPost) : Prop :=
  ∀ (y : MethodName) (cc : ByteArray) (maxL : Nat) (ret : Option FieldType) (tab : List (List zE)) (na : Nat) (sp : List Nat), P j = some (y, cc, maxL, ret, tab, na, sp) → ∀ (d : Nat), d0 ≤ d → ∀ (za : List xV) (av : List Value) (ws : va_W) (sz : Nat) (I L : xF), z_L (x_v ad) za av → Pre za I L → x_ag ws I L → y_w kc ad TY ws → z_ad xb ws = ad → Met l y (.code y cc maxL ret :: TB) (z_rm d 0 0) (va_Pc av (z_pre EX NT D cl kc ws sz)) (y_Q D cl ws sz ret (x_po xb kc TY2 ad (Post za I L))) 0 0 (va_A ws sz)
theorem x_Ok2_ok {EX : (Nat → Prop) → State → Heap → Prop} {l : Launch} {TB : List Cond} {NT : List (String × Nat × MethodName × String)} {kc : Nat → ClassId} {D : va_G} {cl : List vw_C} {xb : Nat} {TY TY2 : List (List yC)} {ad : Nat → Option Nat} {P : Nat → Option yM} {j d0 : Nat} {Pre : xPre} {Post : xPost} (h : x_Ok2 EX l TB NT kc D cl xb TY TY2 ad P j d0 Pre Post) (hm : ∀ ws, y_w kc ad TY2 ws → y_w kc ad TY ws) : x_Ok EX l TB NT kc D cl xb TY ad P j d0 Pre Post := by
  intro y cc maxL ret tab na sp hP dd hd za av ws sz I L hav hpre hag hwt had
  exact y_Met_conv (h y cc maxL ret tab na sp hP dd hd za av ws sz I L hav hpre hag hwt had) (fun rv u ⟨zr, I', L', g1, g2, g3, g4, g5⟩ => ⟨zr, I', L', g1, g2, g3, hm _ g4, g5⟩)
section XC2
variable {p : Program} {l : Launch} {e : Env} {R : Room} {s : State} {m : MethodId} {args : Array Value} {below : List Frame} {meth : Method} {c : Code} {Q : State → Prop}
variable {xb : Nat} {kc : Nat → ClassId} {D : va_G} {cl : List vw_C} {A : Nat → Prop} {H0 : Heap} {TY : List (List yC)} {ws0 : va_W} {nc ns : Nat}
variable {EX : (Nat → Prop) → State → Heap → Prop} {TB : List Cond} {NT : List (String × Nat × MethodName × String)} {TF : Nat → Nat → FieldType} {P : Nat → Option yM} {M : yM} {d : Nat}
variable {pc : Nat} {lv : List (Nat × xV)} {sv : List xV} {I L : xF} {inf : List Nat}
variable {TY2 : List (List yC)}
set_option maxHeartbeats 1000000 in
theorem x_callV2 (hC : x_C EX TB NT cl kc D xb TF P p R s m args meth c A H0 ws0 nc ns M d) {idx j ci r d0 : Nat} {ts : List yT} {za : List xV} {Pre : xPre} {Post : xPost} (hf : y_find M.2.2.2.2.1 pc = some (.invokevirtual idx, [1, j, ci])) (hw : y_T TY r = some (.inl (ci, ts))) (hK9 : x_Ok2 EX l TB NT kc D cl xb TY TY2 (z_ad xb ws0) P j d0 Pre Post) (hd0 : d0 + 1 ≤ d) {y2 : MethodName} {c2 : ByteArray} {L2 : Nat} {r2 : Option FieldType} {t2 : List (List zE)} {na : Nat} {sp : List Nat} (hj : P j = some (y2, c2, L2, r2, t2, na, sp)) (hL2 : L2 ≤ 80) (hna : za.length = na) (hst : (sv.map x_cat).sum ≤ 8) (hpre : Pre (.inr (.inr (some (r + 1))) :: za) I L) (kk : ∀ (rv : Option xV) (I' L' : xF), Post (.inr (.inr (some (r + 1))) :: za) I L rv I' L' → (x_G p l e R s m args below meth c Q xb kc D cl A H0 M.2.2.1 TY2 ws0 nc ns (pc + 3) (lv) (rv.toList ++ sv) (I') (L'))) : (x_G p l e R s m args below meth c Q xb kc D cl A H0 M.2.2.1 TY ws0 nc ns (pc) (lv) (za.reverse ++ .inr (.inr (some (r + 1))) :: sv) (I) (L)) := by
  intro ls stk ws H locs ⟨h1, h2, hY⟩
  obtain ⟨hd, hen⟩ := x_en hC hf
  rcases hen with hi | ⟨j', ci', y2', c2', L2', r2', t2', na', sp', T, N, hi, hj', hYy, hlk, hin, hsel, hcl⟩
  · cases hi
  cases hi
  rw [hj] at hj'
  cases hj'
  obtain ⟨hx, hb, hml, hown, hname, hts, hK, hN, hA, hfr0, hlo, hC0, hS0, hH0, hEx, had0⟩ := hC.1
  have hg := hC.2.2.1.1
  have hE := hC.2.2.2
  subst hH0
  obtain ⟨hag, hwt, had, hP, hD, hS⟩ := id hY
  obtain ⟨sa, sb, rfl, ha, hb2⟩ := z_L_un h2
  obtain ⟨_, svr, rfl, ⟨a, ha1, rfl⟩, h5⟩ := x_st1 hb2
  have ha2 : z_L (x_v (z_ad xb ws0)) za sa.reverse := by rw [← List.reverse_reverse za]; exact z_L_rev ha
  obtain ⟨b', _, hws, vs, rfl, hvs⟩ := hwt r _ hw
  obtain rfl := y_adr had hws ha1
  obtain ⟨d', rfl⟩ : ∃ d', d = d' + 1 := ⟨d - 1, by omega⟩
  have hlen : sa.reverse.length = na := by rw [← z_L_len ha2]; exact hna
  have hsum : (svr.map fun v => v.category).sum ≤ 8 := by rw [← x_cats h5]; exact hst
  obtain ⟨lvv, hlv, hz⟩ := id h1
  have hM' := hK9 _ _ _ _ _ _ _ hj d' (by omega) (.inr (.inr (some (r + 1))) :: za) (.ref a :: sa.reverse) ws H.size I L ⟨⟨a, ha1, rfl⟩, ha2⟩ hpre hag hwt had
  have hp : PreV s H y2.cls a (va_Pc (.ref a :: sa.reverse) (z_pre EX NT D cl kc ws H.size)) sa.reverse := ⟨z_blind hE, va_recv (q := (y2.cls, T, N)) hK hP hcl hws, fun U hU hW => ⟨rfl, by rw [hU], by rw [hU]; exact hP, va_K.moved hW.alike hK, hD.weaken (fun _ _ _ _ => trivial), z_N_moved hW hN, z_exin hE hEx hA hD hS hU hW⟩⟩
  have hstk : (F0 m pc ls (sa ++ Value.ref a :: svr)).stack = sa.reverse.reverse ++ .ref a :: svr := by rw [List.reverse_reverse]
  have hR : (z_rm d' 0 0).frames + 1 ≤ R.frames ∧ 8 + (L2 + 11) + (z_rm d' 0 0).locals ≤ R.locals := by
    unfold z_rm
    dsimp only
    omega
  have hrun : va_Run p l e R s m args below meth c H locs nc ns 0 0 (F0 m pc ls (sa ++ Value.ref a :: svr)) svr (y_Q D cl ws H.size r2 (x_po xb kc TY2 (z_ad xb ws0) (Post (.inr (.inr (some (r + 1))) :: za) I L)) (Value.ref a :: sa.reverse).toArray) (va_A ws H.size) := by
    rcases hlk with hlk | ⟨host, hlk⟩
    · exact va_runV ⟨hx, hb, hml, hown, hts⟩ hM' ⟨callB_of na hts (z_good hg hYy.1) rfl rfl rfl (hts _ hYy.2.1) (hts _ hlk) hYy.2.2 hR, hts _ hin, hts _ hsel⟩ hp rfl hlen hlv.1 hstk (lv_room hsum) hd ⟨hC0, hS0⟩
    · exact va_runVN ⟨hx, hb, hml, hown, hts⟩ hM' ⟨va_cnB na hts (z_good hg hYy.1) rfl rfl rfl (hN.1 _ hlk) (hts _ hYy.2.1) hYy.2.2 hR, hts _ hin, hts _ hsel⟩ hp rfl hlen hlv.1 hstk (lv_room hsum) hd ⟨hC0, hS0⟩
  refine y_after hrun hA hD hS (fun rv u H1 locs1 hpo hP1 hD1 hS1 => ?_)
  obtain ⟨zr, I', L', o1, o2, o3, o4, o5⟩ := hpo
  exact kk zr I' L' o3 ls _ u H1 locs1 ⟨h1, x_L_app o1 h5, o2, o4, o5, hP1, hD1, hS1⟩
theorem x_putr2 (hC : x_C EX TB NT cl kc D xb TF P p R s m args meth c A H0 ws0 nc ns M d) (hni : M.1.name ≠ "<init>") {idx ci k r i : Nat} {ts : List yT} {rs : List (Option Nat)} (hf : y_find M.2.2.2.2.1 pc = some (.putfield idx, [ci, k])) (hw : y_T TY r = some (.inl (ci, ts))) (hv : ts[k]? = some (.inr (.inl rs))) (hfit : (∃ n, TF ci k = .object n) ∨ ∃ t, TF ci k = .array t) (hT : ∀ r', r' ≠ r → y_T TY2 r' = y_T TY r') (hw2 : y_T TY2 r = some (.inl (ci, ts.set k (.inr (.inl [some i]))))) (kk : x_G p l e R s m args below meth c Q xb kc D cl A H0 M.2.2.1 TY2 ws0 nc ns (pc + 3) lv (sv) I L) : x_G p l e R s m args below meth c Q xb kc D cl A H0 M.2.2.1 TY ws0 nc ns (pc) lv (.inr (.inr (some i)) :: .inr (.inr (some (r + 1))) :: sv) I L := by
  intro ls stk ws H locs ⟨h1, h2, hY⟩
  obtain ⟨hd, ci', k', C, T, N, hi, hKc, hk, hlk, hfin⟩ := x_en hC hf
  cases hi
  obtain ⟨hx, hb, hml, hown, hname, hts, hK, hN, hA, hfr0, hlo, hC0, hS0, hH0, hEx, had0⟩ := hC.1
  obtain ⟨hag, hwt, had, hP, hD, hS⟩ := id hY
  obtain ⟨_, sv', rfl, ⟨x, hxa, rfl⟩, h4⟩ := x_st1 h2
  obtain ⟨_, sv'', rfl, ⟨a, ha, rfl⟩, h5⟩ := x_st1 h4
  obtain ⟨a', e', hws, vs, rfl, hvs⟩ := hwt r _ hw
  obtain rfl := y_adr had hws ha
  obtain ⟨v0, hb1, hb2, hat0⟩ := y_fv hws hvs hv
  have hv0 : v0 = .null ∨ ∃ q, v0 = .ref q := by
    obtain ⟨o, _, ho⟩ := hb2
    cases o with
    | none => exact Or.inl ho
    | some i =>
      obtain ⟨q, _, rfl⟩ := ho
      exact Or.inr ⟨q, rfl⟩
  have hl' : k < vs.length := by rw [← z_L_len hvs]; exact (List.getElem?_eq_some_iff.mp hv).1
  refine y_putc hx hb hts hKc.2.1 hKc.2.2.1 hKc.2.2.2 hown hK hKc.1 hk hlk (by rcases hfin with h | h; exact Or.inl h; exact absurd h.2.1 hni) hd hws hl' (x := .ref x) (by rcases hfit with ⟨_, q⟩ | ⟨_, q⟩ <;> (rw [q]; rfl)) (by rcases hfit with ⟨_, q⟩ | ⟨_, q⟩ <;> (rw [q]; rfl)) hP hD hS (fun H1 locs1 hP1 hD1 hS1 => ?_)
  have e1 : ∀ r' k', y_at (ws.set r (a, .inr (ci, vs.set k (.ref x)))) r' k' = y_at ws r' k' := fun r' k' => by
    rw [y_at_seto hws hl']
    split
    next q =>
      obtain ⟨rfl, rfl⟩ := q
      rw [hat0]
      rcases hv0 with rfl | ⟨q, rfl⟩ <;> rfl
    next => rfl
  have e2 : ∀ r' k', x_at (ws.set r (a, .inr (ci, vs.set k (.ref x)))) r' k' = x_at ws r' k' := fun r' k' => by
    rw [x_at_seto hws hl']
    split
    next h9 =>
      obtain ⟨rfl, rfl⟩ := h9
      unfold x_at
      rw [hws]
      dsimp only
      rw [hb1]
      rcases hv0 with rfl | ⟨q, rfl⟩ <;> rfl
    next => rfl
  have h9 := z_L_set hvs k (a := .inr (.inl [some i])) (b := .ref x) ⟨some i, List.mem_cons_self, x, hxa, rfl⟩
  refine kk ls _ _ H1 locs1 ⟨h1, h5, ⟨fun r' k' y hy => hag.1 r' k' y (by rw [← e1]; exact hy), fun r' k' y hy => hag.2 r' k' y (by rw [← e2]; exact hy)⟩, fun r' cc hc => ?_, (z_ad_set hws).trans had, hP1, hD1, hS1⟩
  by_cases hr : r' = r
  · subst hr
    rw [hw2] at hc
    cases hc
    exact ⟨a, _, List.getElem?_set_self (List.getElem?_eq_some_iff.mp hws).1, _, rfl, h9⟩
  · rw [hT r' hr] at hc
    obtain ⟨a2, e2, g1, g2⟩ := hwt r' cc hc
    exact ⟨a2, e2, by rw [List.getElem?_set_ne (fun q => hr q.symm)]; exact g1, g2⟩
end XC2
section XN2
variable {xb : Nat} {kc : Nat → ClassId} {D : va_G} {cl : List vw_C} {TY : List (List yC)} {l : Launch}
variable {EX : (Nat → Prop) → State → Heap → Prop} {TB : List Cond} {NT : List (String × Nat × MethodName × String)} {TF : Nat → Nat → FieldType} {P : Nat → Option yM}
variable {TY2 : List (List yC)}
theorem x_enter2 (hE : z_EX EX) (hall : y_all TB NT cl TF P) {ad : Nat → Option Nat} {j d0 : Nat} {M : yM} (hP : P j = some M) {Pre : xPre} {Post : xPost}
    (hlen : ∀ za I L, Pre za I L → (za.map x_cat).sum ≤ M.2.2.1)
    (h : ∀ (p : Program) (e : Env) (R : Room) (s : State) (m : MethodId) (args : Array Value) (below : List Frame) (meth : Method) (c : Code) (ws0 : va_W) (za : List xV) (I L : xF) (d : Nat), ad = z_ad xb ws0 → d0 ≤ d → Pre za I L → x_ag ws0 I L → y_w kc (z_ad xb ws0) TY ws0 → x_C EX TB NT cl kc D xb TF P p R s m args meth c (va_A ws0 s.heap.size) s.heap ws0 0 0 M d → meth.sig.returnType = M.2.2.2.1 → meth.locks = false → x_G p l e R s m args below meth c (x_Z below D cl ws0 s args M.2.2.2.1 kc TY2 xb (Post za I L)) xb kc D cl (va_A ws0 s.heap.size) s.heap M.2.2.1 TY ws0 0 0 0 (x_ent 0 za) [] I L) : x_Ok2 EX l TB NT kc D cl xb TY TY2 ad P j d0 Pre Post := by
  intro y cc maxL ret tab na sp hP' d hd za av ws sz I L hav hpre hag hwt had
  rw [hP] at hP'
  cases hP'
  subst had
  have hM : y_Mok TB NT cl TF P (y, cc, maxL, ret, tab, na, sp) := hall.2 _ _ hP
  refine Met.ofW (cc := cc) (maxL := maxL) (ret := ret) hM.1 rfl ?_
  intro p e s m args below meth c s₁ Bd hml hv
  obtain ⟨rfl, hsz, hP0, hK, hD0, hN, hEx⟩ := hv
  subst hsz
  have hts0 := atoms_spec (ws := Cond.code y cc maxL ret :: TB) Bd.pre
  have hts : ∀ w ∈ TB, w.before av.toArray s = true := fun w hw => hts0 w (List.mem_cons_of_mem _ hw)
  have hown : s.vm.findClass y.cls = some m.cls := findClass_of_methodNamed Bd.named
  have hname : y.name = "<init>" → meth.name = "<init>" := fun h => (name_of_methodNamed Bd.named Bd.method).1.trans h
  have hsum : (lg_sl av).length ≤ maxL := by
    have := hlen za I L hpre
    rw [x_cats hav] at this
    rw [z_sl_len]
    exact this
  rw [lg_entry_eq]
  exact h p e (z_rm d 0 0) s m av.toArray below meth c ws za I L d rfl hd hpre hag hwt ⟨⟨Bd.exec, Bd.bytes, hml, hown, hname, hts, hK, hN, fun q h => Or.inr h, Nat.le_refl _, Nat.le_refl _, Nat.zero_le _, Nat.zero_le _, rfl, hEx, rfl⟩, hM, hall, hE⟩ Bd.returns Bd.notSynchronized _ [] ws s.heap [] ⟨⟨_, lv_entry av hsum, x_ent_ok 0 hav⟩, trivial, hag, hwt, rfl, hP0, hD0.self, va_S.rf⟩
end XN2
