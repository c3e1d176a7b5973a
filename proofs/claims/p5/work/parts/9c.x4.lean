/-! ===== the exact walk: contracts that say anything of the stores ===== -/
abbrev xPre : Type := List xV → xF → xF → Prop
abbrev xPost : Type := List xV → xF → xF → Option xV → xF → xF → Prop
def x_po (xb : Nat) (kc : Nat → ClassId) (TY : List (List yC)) (ad : Nat → Option Nat) (Po : Option xV → xF → xF → Prop) (rv : Option Value) (u : va_W) : Prop :=
  ∃ (zr : Option xV) (I' L' : xF), z_L (x_v ad) zr.toList rv.toList ∧ x_ag u I' L' ∧ Po zr I' L' ∧ y_w kc ad TY u ∧ z_ad xb u = ad
def x_Ok (EX : (Nat → Prop) → State → Heap → Prop) (l : Launch) (TB : List Cond) (NT : List (String × Nat × MethodName × String)) (kc : Nat → ClassId) (D : va_G) (cl : List vw_C) (xb : Nat) (TY : List (List yC)) (ad : Nat → Option Nat) (P : Nat → Option yM) (j d0 : Nat) (Pre : xPre) (Post : xPost) : Prop :=
  ∀ (y : MethodName) (cc : ByteArray) (maxL : Nat) (ret : Option FieldType) (tab : List (List zE)) (na : Nat) (sp : List Nat), P j = some (y, cc, maxL, ret, tab, na, sp) → ∀ (d : Nat), d0 ≤ d → ∀ (za : List xV) (av : List Value) (ws : va_W) (sz : Nat) (I L : xF), z_L (x_v ad) za av → Pre za I L → x_ag ws I L → y_w kc ad TY ws → z_ad xb ws = ad → Met l y (.code y cc maxL ret :: TB) (z_rm d 0 0) (va_Pc av (z_pre EX NT D cl kc ws sz)) (y_Q D cl ws sz ret (x_po xb kc TY ad (Post za I L))) 0 0 (va_A ws sz)
theorem x_L_app {α β : Type} {R0 : α → β → Prop} : ∀ {as : List α} {bs : List β} {as' : List α} {bs' : List β}, z_L R0 as bs → z_L R0 as' bs' → z_L R0 (as ++ as') (bs ++ bs')
  | [], [], _, _, _, h => h
  | _ :: _, _ :: _, _, _, h1, h2 => ⟨h1.1, x_L_app h1.2 h2⟩
  | [], _ :: _, _, _, h, _ => h.elim
  | _ :: _, [], _, _, h, _ => h.elim
section XC
variable {p : Program} {l : Launch} {e : Env} {R : Room} {s : State} {m : MethodId} {args : Array Value} {below : List Frame} {meth : Method} {c : Code} {Q : State → Prop}
variable {xb : Nat} {kc : Nat → ClassId} {D : va_G} {cl : List vw_C} {A : Nat → Prop} {H0 : Heap} {TY : List (List yC)} {ws0 : va_W} {nc ns : Nat}
variable {EX : (Nat → Prop) → State → Heap → Prop} {TB : List Cond} {NT : List (String × Nat × MethodName × String)} {TF : Nat → Nat → FieldType} {P : Nat → Option yM} {M : yM} {d : Nat}
variable {pc : Nat} {lv : List (Nat × xV)} {sv : List xV} {I L : xF} {inf : List Nat}
set_option maxHeartbeats 1000000 in
theorem x_callV (hC : x_C EX TB NT cl kc D xb TF P p R s m args meth c A H0 ws0 nc ns M d) {idx j ci r d0 : Nat} {ts : List yT} {za : List xV} {Pre : xPre} {Post : xPost} (hf : y_find M.2.2.2.2.1 pc = some (.invokevirtual idx, [1, j, ci])) (hw : y_T TY r = some (.inl (ci, ts))) (hK9 : x_Ok EX l TB NT kc D cl xb TY (z_ad xb ws0) P j d0 Pre Post) (hd0 : d0 + 1 ≤ d) {y2 : MethodName} {c2 : ByteArray} {L2 : Nat} {r2 : Option FieldType} {t2 : List (List zE)} {na : Nat} {sp : List Nat} (hj : P j = some (y2, c2, L2, r2, t2, na, sp)) (hL2 : L2 ≤ 80) (hna : za.length = na) (hst : (sv.map x_cat).sum ≤ 8) (hpre : Pre (.inr (.inr (some (r + 1))) :: za) I L) (kk : ∀ (rv : Option xV) (I' L' : xF), Post (.inr (.inr (some (r + 1))) :: za) I L rv I' L' → (x_G p l e R s m args below meth c Q xb kc D cl A H0 M.2.2.1 TY ws0 nc ns (pc + 3) (lv) (rv.toList ++ sv) (I') (L'))) : (x_G p l e R s m args below meth c Q xb kc D cl A H0 M.2.2.1 TY ws0 nc ns (pc) (lv) (za.reverse ++ .inr (.inr (some (r + 1))) :: sv) (I) (L)) := by
  intro ls stk ws H locs ⟨h1, h2, hY⟩
  obtain ⟨hd, hen⟩ := x_en hC hf
  rcases hen with hi | ⟨j', ci', y2', c2', L2', r2', t2', na', sp', T, N, hi, hj', hYy, hlk, hin, hsel, hcl⟩
  · cases hi
  cases hi
  rw [hj] at hj'
  cases hj'
  obtain ⟨hx, hb, hml, hown, hname, hts, hK, hN, hA, hfr0, hlo, hC0, hS0, hH0, hEx, had0⟩ := hC.1
  have hg := hC.2.2.1.1
  have hE := hC.2.2.2
  subst hH0
  obtain ⟨hag, hwt, had, hP, hD, hS⟩ := id hY
  obtain ⟨sa, sb, rfl, ha, hb2⟩ := z_L_un h2
  obtain ⟨_, svr, rfl, ⟨a, ha1, rfl⟩, h5⟩ := x_st1 hb2
  have ha2 : z_L (x_v (z_ad xb ws0)) za sa.reverse := by rw [← List.reverse_reverse za]; exact z_L_rev ha
  obtain ⟨b', _, hws, vs, rfl, hvs⟩ := hwt r _ hw
  obtain rfl := y_adr had hws ha1
  obtain ⟨d', rfl⟩ : ∃ d', d = d' + 1 := ⟨d - 1, by omega⟩
  have hlen : sa.reverse.length = na := by rw [← z_L_len ha2]; exact hna
  have hsum : (svr.map fun v => v.category).sum ≤ 8 := by rw [← x_cats h5]; exact hst
  obtain ⟨lvv, hlv, hz⟩ := id h1
  have hM' := hK9 _ _ _ _ _ _ _ hj d' (by omega) (.inr (.inr (some (r + 1))) :: za) (.ref a :: sa.reverse) ws H.size I L ⟨⟨a, ha1, rfl⟩, ha2⟩ hpre hag hwt had
  have hp : PreV s H y2.cls a (va_Pc (.ref a :: sa.reverse) (z_pre EX NT D cl kc ws H.size)) sa.reverse := ⟨z_blind hE, va_recv (q := (y2.cls, T, N)) hK hP hcl hws, fun U hU hW => ⟨rfl, by rw [hU], by rw [hU]; exact hP, va_K.moved hW.alike hK, hD.weaken (fun _ _ _ _ => trivial), z_N_moved hW hN, z_exin hE hEx hA hD hS hU hW⟩⟩
  have hstk : (F0 m pc ls (sa ++ Value.ref a :: svr)).stack = sa.reverse.reverse ++ .ref a :: svr := by rw [List.reverse_reverse]
  have hR : (z_rm d' 0 0).frames + 1 ≤ R.frames ∧ 8 + (L2 + 11) + (z_rm d' 0 0).locals ≤ R.locals := by
    unfold z_rm
    dsimp only
    omega
  have hrun : va_Run p l e R s m args below meth c H locs nc ns 0 0 (F0 m pc ls (sa ++ Value.ref a :: svr)) svr (y_Q D cl ws H.size r2 (x_po xb kc TY (z_ad xb ws0) (Post (.inr (.inr (some (r + 1))) :: za) I L)) (Value.ref a :: sa.reverse).toArray) (va_A ws H.size) := by
    rcases hlk with hlk | ⟨host, hlk⟩
    · exact va_runV ⟨hx, hb, hml, hown, hts⟩ hM' ⟨callB_of na hts (z_good hg hYy.1) rfl rfl rfl (hts _ hYy.2.1) (hts _ hlk) hYy.2.2 hR, hts _ hin, hts _ hsel⟩ hp rfl hlen hlv.1 hstk (lv_room hsum) hd ⟨hC0, hS0⟩
    · exact va_runVN ⟨hx, hb, hml, hown, hts⟩ hM' ⟨va_cnB na hts (z_good hg hYy.1) rfl rfl rfl (hN.1 _ hlk) (hts _ hYy.2.1) hYy.2.2 hR, hts _ hin, hts _ hsel⟩ hp rfl hlen hlv.1 hstk (lv_room hsum) hd ⟨hC0, hS0⟩
  refine y_after hrun hA hD hS (fun rv u H1 locs1 hpo hP1 hD1 hS1 => ?_)
  obtain ⟨zr, I', L', o1, o2, o3, o4, o5⟩ := hpo
  exact kk zr I' L' o3 ls _ u H1 locs1 ⟨h1, x_L_app o1 h5, o2, o4, o5, hP1, hD1, hS1⟩
set_option maxHeartbeats 1000000 in
theorem x_callS (hC : x_C EX TB NT cl kc D xb TF P p R s m args meth c A H0 ws0 nc ns M d) {idx j d0 : Nat} {za : List xV} {Pre : xPre} {Post : xPost} (hf : y_find M.2.2.2.2.1 pc = some (.invokestatic idx, [1, j])) (hK9 : x_Ok EX l TB NT kc D cl xb TY (z_ad xb ws0) P j d0 Pre Post) (hd0 : d0 + 1 ≤ d) {y2 : MethodName} {c2 : ByteArray} {L2 : Nat} {r2 : Option FieldType} {t2 : List (List zE)} {na : Nat} {sp : List Nat} (hj : P j = some (y2, c2, L2, r2, t2, na, sp)) (hL2 : L2 ≤ 80) (hna : za.length = na) (hst : (sv.map x_cat).sum ≤ 8) (hpre : Pre za I L) (kk : ∀ (rv : Option xV) (I' L' : xF), Post za I L rv I' L' → (x_G p l e R s m args below meth c Q xb kc D cl A H0 M.2.2.1 TY ws0 nc ns (pc + 3) (lv) (rv.toList ++ sv) (I') (L'))) : (x_G p l e R s m args below meth c Q xb kc D cl A H0 M.2.2.1 TY ws0 nc ns (pc) (lv) (za.reverse ++ sv) (I) (L)) := by
  intro ls stk ws H locs ⟨h1, h2, hY⟩
  obtain ⟨hd, hen⟩ := x_en hC hf
  rcases hen with hi | ⟨hi, _⟩ | ⟨hi, _⟩ | ⟨hi, _⟩ | ⟨j', y2', c2', L2', r2', t2', na', sp', hi, hj', hYy, hlk, hsta⟩
  · cases hi
  · cases hi
  · cases hi
  · cases hi
  cases hi
  rw [hj] at hj'
  cases hj'
  obtain ⟨hx, hb, hml, hown, hname, hts, hK, hN, hA, hfr0, hlo, hC0, hS0, hH0, hEx, had0⟩ := hC.1
  have hg := hC.2.2.1.1
  have hE := hC.2.2.2
  subst hH0
  obtain ⟨hag, hwt, had, hP, hD, hS⟩ := id hY
  obtain ⟨sa, svr, rfl, ha, h5⟩ := z_L_un h2
  have ha2 : z_L (x_v (z_ad xb ws0)) za sa.reverse := by rw [← List.reverse_reverse za]; exact z_L_rev ha
  obtain ⟨d', rfl⟩ : ∃ d', d = d' + 1 := ⟨d - 1, by omega⟩
  have hlen : sa.reverse.length = na := by rw [← z_L_len ha2]; exact hna
  have hsum : (svr.map fun v => v.category).sum ≤ 8 := by rw [← x_cats h5]; exact hst
  obtain ⟨lvv, hlv, hz⟩ := id h1
  have hM' := hK9 _ _ _ _ _ _ _ hj d' (by omega) za sa.reverse ws H.size I L ha2 hpre hag hwt had
  have hp : PreS s H (va_Pc sa.reverse (z_pre EX NT D cl kc ws H.size)) sa.reverse := ⟨z_blind hE, fun U hU hW => ⟨rfl, by rw [hU], by rw [hU]; exact hP, va_K.moved hW.alike hK, hD.weaken (fun _ _ _ _ => trivial), z_N_moved hW hN, z_exin hE hEx hA hD hS hU hW⟩⟩
  have hstk : (F0 m pc ls (sa ++ svr)).stack = sa.reverse.reverse ++ svr := by rw [List.reverse_reverse]
  have hR : (z_rm d' 0 0).frames + 1 ≤ R.frames ∧ 8 + (L2 + 11) + (z_rm d' 0 0).locals ≤ R.locals := by
    unfold z_rm
    dsimp only
    omega
  have hrun : va_Run p l e R s m args below meth c H locs nc ns 0 0 (F0 m pc ls (sa ++ svr)) svr (y_Q D cl ws H.size r2 (x_po xb kc TY (z_ad xb ws0) (Post za I L)) sa.reverse.toArray) (va_A ws H.size) := by
    rcases hlk with hlk | ⟨host, hlk⟩
    · exact va_runS ⟨hx, hb, hml, hown, hts⟩ hM' ⟨callB_of na hts (z_good hg hYy.1) rfl rfl rfl (hts _ hYy.2.1) (hts _ hlk) hYy.2.2 hR, hts _ hsta⟩ hp rfl hlen hlv.1 hstk (lv_room hsum) hd ⟨hC0, hS0⟩
    · exact va_runSN ⟨hx, hb, hml, hown, hts⟩ hM' ⟨va_cnB na hts (z_good hg hYy.1) rfl rfl rfl (hN.1 _ hlk) (hts _ hYy.2.1) hYy.2.2 hR, hts _ hsta, trivial⟩ hp rfl hlen hlv.1 hstk (lv_room hsum) hd ⟨hC0, hS0⟩
  refine y_after hrun hA hD hS (fun rv u H1 locs1 hpo hP1 hD1 hS1 => ?_)
  obtain ⟨zr, I', L', o1, o2, o3, o4, o5⟩ := hpo
  exact kk zr I' L' o3 ls _ u H1 locs1 ⟨h1, x_L_app o1 h5, o2, o4, o5, hP1, hD1, hS1⟩
end XC
/-- what a method's own end owes -/
abbrev x_Z (below : List Frame) (D : va_G) (cl : List vw_C) (ws0 : va_W) (s : State) (args : Array Value) (ret : Option FieldType) (kc : Nat → ClassId) (TY : List (List yC)) (xb : Nat) (Po : Option xV → xF → xF → Prop) : State → Prop := MQ below (y_Q D cl ws0 s.heap.size ret (x_po xb kc TY (z_ad xb ws0) Po)) args s 0 0 (va_A ws0 s.heap.size)
section XE
variable {xb : Nat} {kc : Nat → ClassId} {D : va_G} {cl : List vw_C} {TY : List (List yC)} {l : Launch}
variable {EX : (Nat → Prop) → State → Heap → Prop} {TB : List Cond} {NT : List (String × Nat × MethodName × String)} {TF : Nat → Nat → FieldType} {P : Nat → Option yM}
variable {p : Program} {e : Env} {R : Room} {s : State} {m : MethodId} {args : Array Value} {below : List Frame} {meth : Method} {c : Code} {ws0 : va_W} {M : yM} {d pc : Nat} {lv : List (Nat × xV)} {I L : xF} {inf : List Nat} {Po : Option xV → xF → xF → Prop}
theorem x_reti (hC : x_C EX TB NT cl kc D xb TF P p R s m args meth c (va_A ws0 s.heap.size) s.heap ws0 0 0 M d) (hr : meth.sig.returnType = M.2.2.2.1) (hlocks : meth.locks = false) {z : Int} (hf : y_find M.2.2.2.2.1 pc = some (.ireturn, inf)) (hty : M.2.2.2.1 = some .int ∨ (M.2.2.2.1 = some .boolean ∧ 0 ≤ z ∧ z ≤ 1)) (hpo : Po (some (.inl z)) I L) : x_G p l e R s m args below meth c (x_Z below D cl ws0 s args M.2.2.2.1 kc TY xb Po) xb kc D cl (va_A ws0 s.heap.size) s.heap M.2.2.1 TY ws0 0 0 pc lv [.inl z] I L := by
  intro ls stk ws H locs ⟨h1, h2, hY⟩
  have hd := (x_en hC hf).1
  obtain ⟨hag, hwt, had, hP, hD, hS⟩ := id hY
  obtain ⟨_, sv', rfl, ⟨x, rfl, rfl⟩, h4⟩ := x_st1 h2
  obtain rfl : sv' = [] := by
    cases sv' with
    | nil => rfl
    | cons _ _ => exact h4.elim
  have hx := hC.1.1
  have hb := hC.1.2.1
  have hp9 : x_po xb kc TY (z_ad xb ws0) Po (some (.int x)) ws := ⟨some (.inl x.toInt), I, L, ⟨⟨x, rfl, rfl⟩, trivial⟩, hag, hpo, hwt, had⟩
  rcases hty with hty | ⟨hty, g1, g2⟩
  · unfold x_Z
    rw [hty] at hr ⊢
    exact W.zret hx hb hr rfl (fun t' ht hW => ⟨⟨x, ws, rfl, hp9, by rw [ht]; exact hP, hD⟩, hS.F ht⟩) hS.2.2 hd hlocks
  · unfold x_Z
    rw [hty] at hr ⊢
    exact W.zret hx hb hr (y_fit_ok (ty := .boolean) (q := (0, 1)) (by decide) g1 g2).1 (fun t' ht hW => ⟨⟨x, ws, rfl, hp9, by rw [ht]; exact hP, hD⟩, hS.F ht⟩) hS.2.2 hd hlocks
theorem x_retv (hC : x_C EX TB NT cl kc D xb TF P p R s m args meth c (va_A ws0 s.heap.size) s.heap ws0 0 0 M d) (hr : meth.sig.returnType = M.2.2.2.1) (hlocks : meth.locks = false) (hf : y_find M.2.2.2.2.1 pc = some (.return_, inf)) (hty : M.2.2.2.1 = none) (hpo : Po none I L) : x_G p l e R s m args below meth c (x_Z below D cl ws0 s args M.2.2.2.1 kc TY xb Po) xb kc D cl (va_A ws0 s.heap.size) s.heap M.2.2.1 TY ws0 0 0 pc lv [] I L := by
  intro ls stk ws H locs ⟨h1, h2, hY⟩
  have hd := (x_en hC hf).1
  obtain ⟨hag, hwt, had, hP, hD, hS⟩ := id hY
  obtain rfl : stk = [] := by
    cases stk with
    | nil => rfl
    | cons _ _ => exact h2.elim
  have hp9 : x_po xb kc TY (z_ad xb ws0) Po none ws := ⟨none, I, L, trivial, hag, hpo, hwt, had⟩
  unfold x_Z
  rw [hty] at hr ⊢
  exact W.vret hC.1.1 hC.1.2.1 hr (fun t' ht hW => ⟨⟨ws, rfl, hp9, by rw [ht]; exact hP, hD⟩, hS.F ht⟩) hS.2.2 hd (hlocks := hlocks)
end XE
section XN
variable {xb : Nat} {kc : Nat → ClassId} {D : va_G} {cl : List vw_C} {TY : List (List yC)} {l : Launch}
variable {EX : (Nat → Prop) → State → Heap → Prop} {TB : List Cond} {NT : List (String × Nat × MethodName × String)} {TF : Nat → Nat → FieldType} {P : Nat → Option yM}
def x_ent : Nat → List xV → List (Nat × xV)
  | _, [] => []
  | i, v :: vs => (i, v) :: x_ent (if x_cat v = 2 then i + 2 else i + 1) vs
theorem x_ent_ok {ad : Nat → Option Nat} : ∀ (i : Nat) {za : List xV} {av : List Value}, z_L (x_v ad) za av → z_L (x_lr ad) (x_ent i za) (lv_args i av)
  | _, [], [], _ => trivial
  | i, v :: za, x :: av, h => by
    unfold x_ent
    have := x_ent_ok (if x_cat v = 2 then i + 2 else i + 1) h.2
    rw [x_v_cat h.1] at this ⊢
    exact ⟨⟨rfl, h.1⟩, this⟩
  | _, [], _ :: _, h => h.elim
  | _, _ :: _, [], h => h.elim
/-- a method by an exact walk from its entry -/
theorem x_enter (hE : z_EX EX) (hall : y_all TB NT cl TF P) {ad : Nat → Option Nat} {j d0 : Nat} {M : yM} (hP : P j = some M) {Pre : xPre} {Post : xPost}
    (hlen : ∀ za I L, Pre za I L → (za.map x_cat).sum ≤ M.2.2.1)
    (h : ∀ (p : Program) (e : Env) (R : Room) (s : State) (m : MethodId) (args : Array Value) (below : List Frame) (meth : Method) (c : Code) (ws0 : va_W) (za : List xV) (I L : xF) (d : Nat), ad = z_ad xb ws0 → d0 ≤ d → Pre za I L → x_ag ws0 I L → y_w kc (z_ad xb ws0) TY ws0 → x_C EX TB NT cl kc D xb TF P p R s m args meth c (va_A ws0 s.heap.size) s.heap ws0 0 0 M d → meth.sig.returnType = M.2.2.2.1 → meth.locks = false → x_G p l e R s m args below meth c (x_Z below D cl ws0 s args M.2.2.2.1 kc TY xb (Post za I L)) xb kc D cl (va_A ws0 s.heap.size) s.heap M.2.2.1 TY ws0 0 0 0 (x_ent 0 za) [] I L) : x_Ok EX l TB NT kc D cl xb TY ad P j d0 Pre Post := by
  intro y cc maxL ret tab na sp hP' d hd za av ws sz I L hav hpre hag hwt had
  rw [hP] at hP'
  cases hP'
  subst had
  have hM : y_Mok TB NT cl TF P (y, cc, maxL, ret, tab, na, sp) := hall.2 _ _ hP
  refine Met.ofW (cc := cc) (maxL := maxL) (ret := ret) hM.1 rfl ?_
  intro p e s m args below meth c s₁ Bd hml hv
  obtain ⟨rfl, hsz, hP0, hK, hD0, hN, hEx⟩ := hv
  subst hsz
  have hts0 := atoms_spec (ws := Cond.code y cc maxL ret :: TB) Bd.pre
  have hts : ∀ w ∈ TB, w.before av.toArray s = true := fun w hw => hts0 w (List.mem_cons_of_mem _ hw)
  have hown : s.vm.findClass y.cls = some m.cls := findClass_of_methodNamed Bd.named
  have hname : y.name = "<init>" → meth.name = "<init>" := fun h => (name_of_methodNamed Bd.named Bd.method).1.trans h
  have hsum : (lg_sl av).length ≤ maxL := by
    have := hlen za I L hpre
    rw [x_cats hav] at this
    rw [z_sl_len]
    exact this
  rw [lg_entry_eq]
  exact h p e (z_rm d 0 0) s m av.toArray below meth c ws za I L d rfl hd hpre hag hwt ⟨⟨Bd.exec, Bd.bytes, hml, hown, hname, hts, hK, hN, fun q h => Or.inr h, Nat.le_refl _, Nat.le_refl _, Nat.zero_le _, Nat.zero_le _, rfl, hEx, rfl⟩, hM, hall, hE⟩ Bd.returns Bd.notSynchronized _ [] ws s.heap [] ⟨⟨_, lv_entry av hsum, x_ent_ok 0 hav⟩, trivial, hag, hwt, rfl, hP0, hD0.self, va_S.rf⟩
end XN
