/-! ===== the law's image, restore, count, exactly ===== -/
theorem xy_andB {l : Launch} {y : MethodName} {tb : List Cond} {rm : Room} {Pc : Array Value → State → Prop} {D : va_G} {cl : List vw_C} {ws : va_W} {sz : Nat} {P1 P2 : Option Value → va_W → Prop} {free : Addr → Prop} (h1 : Met l y tb rm Pc (y_Q D cl ws sz (some .boolean) P1) 0 0 free) (h2 : Met l y tb rm Pc (y_Q D cl ws sz (some .boolean) P2) 0 0 free) : Met l y tb rm Pc (y_Q D cl ws sz (some .boolean) (fun rv u => (∃ x : Int32, rv = some (.int x)) ∧ P1 rv u ∧ ∃ u2, P2 rv u2 ∧ ∃ H, va_P D cl u H ∧ va_P D cl u2 H)) 0 0 free := by
  intro p e a1 a2 a3 s m args below a4 a5 a6 a7
  obtain ⟨n, o, g1, g2, g3, g4, g5⟩ := h1 p e a1 a2 a3 s m args below a4 a5 a6 a7
  obtain ⟨n', o', k1, k2, k3, k4, k5⟩ := h2 p e a1 a2 a3 s m args below a4 a5 a6 a7
  obtain ⟨rfl, rfl⟩ := the_end_unique (f := fun k => stepsAlone p.tables e k s) g1 g3 k1 k3
  refine ⟨n, o, g1, g2, g3, ?_, g5⟩
  obtain ⟨⟨r, u, e1, q1, q2⟩, q3⟩ := g4
  obtain ⟨⟨r', u', e1', q1', q2'⟩, q3'⟩ := k4
  rw [e1] at e1'
  cases e1'
  exact ⟨⟨r, u, e1, ⟨⟨r, rfl⟩, q1, u', q1', _, q2.1, q2'.1⟩, q2⟩, q3⟩
section XYB
variable {xb : Nat} {kc : Nat → ClassId} {D : va_G} {l : Launch} {EX : (Nat → Prop) → State → Heap → Prop}
variable {p : Program} {e : Env} {R : Room} {s : State} {m : MethodId} {args : Array Value} {below : List Frame} {meth : Method} {c : Code} {Q : State → Prop} {A : Nat → Prop} {H0 : Heap} {nc ns : Nat} {M : yM} {d pc : Nat}
/-- a call by both contracts, of a truth -/
theorem xy_callB {ws : va_W} {sc : Bool} (hC0 : y_ctx EX zTB zNT vwCl kc D p R s m args meth c A H0 xb ws (z_ad xb ws) nc ns sc 40 M) (hMk : y_Mok zTB zNT vwCl zTF yP0 M) (hE : z_EX EX) {idx j ci r : Nat} {ts : List yT} (hf : y_find M.2.2.2.2.1 pc = some (.invokevirtual idx, [1, j, ci])) (hw : y_T yTY r = some (.inl (ci, ts))) (hU : xy_U xb kc (z_ad xb ws) ws) {y2 : MethodName} {c2 : ByteArray} {L2 : Nat} {t2 : List (List zE)} {na : Nat} {sp : List Nat} (hj : yP0 j = some (y2, c2, L2, some .boolean, t2, na, sp)) (hL2 : L2 ≤ 80) {av : List Value} (hna : av.length = na) {a : Nat} (ha1 : z_ad xb ws (r + 1) = some a) {svr : List Value} (hsum : (svr.map fun v => v.category).sum ≤ 8) {ls : Array Slot} {lvv : List (Nat × Value)} (hlv : lv_has ls M.2.2.1 lvv) {H : Heap} {locs : List Loc} (hP : va_P D vwCl ws H) (hD : va_D A ws) (hS : va_S A H0 H locs)
    {K : yCon} (hK : y_ConOk EX l zTB zNT kc D vwCl xb yTY yGR w_R (z_ad xb ws) yP0 K) (hKj : K.1 = j) (hKd : K.2.2.2.2.2.1 ≤ 39) (hKp : K.2.2.1 = []) (hKn : K.2.2.2.2.2.2.2 = []) (hKr : (∀ o ∈ K.2.2.2.1, o.2.2 = true) ∨ y_clr K.2.2.2.2.1 yRC = true) (hya : z_L (y_pv (z_ad xb ws)) K.2.1 (.ref a :: av))
    {d0 : Nat} {Pre : xPre} {Post : xPost} (hX : x_Ok EX l zTB zNT kc D vwCl xb yTY (z_ad xb ws) yP0 j d0 Pre Post) (hd0 : d0 ≤ 39) {za : List xV} (hav : z_L (x_v (z_ad xb ws)) za av) (hpre : Pre (xR (r + 1) :: za) (x_of ws x_0) (x_ofl ws x_0))
    (kk : ∀ (x : Int32) (u : va_W) (H1 : Heap) (locs1 : List Loc), (∃ o ∈ K.2.2.2.1, ∀ f ∈ o.2.1, y_fv2 [] u f) → xy_U xb kc (z_ad xb ws) u → y_fr K.2.2.2.2.1 ws u → (∃ I' L', Post (xR (r + 1) :: za) (x_of ws x_0) (x_ofl ws x_0) (some (.inl x.toInt)) I' L' ∧ ∀ r k v, xy_t r k = true → y_at u r k = some v → v.toInt = I' r k) → va_P D vwCl u H1 → va_D A u → va_S A H0 H1 locs1 → W p l e R s m args below meth c H1 locs1 nc ns Q (F0 m (pc + 3) ls (.int x :: svr))) : W p l e R s m args below meth c H locs nc ns Q (F0 m pc ls (av.reverse ++ .ref a :: svr)) := by
  obtain ⟨u1, u2, u3, u4⟩ := hU
  have m1 := hK y2 c2 L2 (some .boolean) t2 na sp (by rw [hKj]; exact hj) 39 hKd (.ref a :: av) ws H.size [] hya (fun f hf => by rw [hKp] at hf; cases hf) (fun _ => u1) u2 u3 rfl (by rw [hKn]; trivial)
  have m2 := hX y2 c2 L2 (some .boolean) t2 na sp hj 39 hd0 (xR (r + 1) :: za) (.ref a :: av) ws H.size (x_of ws x_0) (x_ofl ws x_0) ⟨⟨a, ha1, rfl⟩, hav⟩ hpre (x_of_ag ws x_0 x_0) u3 rfl
  refine xy_callV (d := 39) hC0 hMk hE hf hw u3 hj hL2 hna ha1 hsum hlv hP hD hS (xy_andB m1 m2) (fun rv u H1 locs1 hpo g1 g2 g3 => ?_)
  obtain ⟨⟨x, rfl⟩, ⟨o, ho, p1, p2, p3, p4, p5, p6, p7⟩, v, ⟨zr, I', L', q1, q2, q3, q4, q5⟩, H9, t1, t9⟩ := hpo
  have hzr : zr = some (.inl x.toInt) := by
    match zr, q1 with
    | none, h => exact h.elim
    | some (.inl z), h =>
      obtain ⟨⟨x9, h9, h8⟩, _⟩ := h
      cases h9
      rw [← h8]
    | some (.inr (.inl z)), h =>
      obtain ⟨⟨x9, h9, h8⟩, _⟩ := h
      cases h9
    | some (.inr (.inr none)), h => exact absurd (show Value.int x = Value.null from h.1) (by intro q; cases q)
    | some (.inr (.inr (some i))), h =>
      obtain ⟨⟨x9, h9, h8⟩, _⟩ := h
      cases h8
  subst hzr
  have hRu : w_R u := by
    rcases hKr with h | h
    · exact p3 (h o ho)
    · exact xy_keepR h p6 u1
  exact kk x u H1 locs1 ⟨o, ho, p2⟩ ⟨hRu, p4, p5, p7⟩ p6 ⟨I', L', q3, fun r k v9 ht hv => q2.1 r k v9 (by rw [← xy_same p5 q4 p7 q5 t1 t9 ht]; exact hv)⟩ g1 g2 g3
end XYB
def rg_c (p0 p1 rg : Nat) : Bool := match y_run yP0 yTY zTF ([] : yR) yRC yGR (y_ct rl_CT yTY yRC ([] : yR) 40) 100 true 40 ym_law (fun pc _ _ => pc == p1) true hl_B p0 hl_z with
  | some es => es.all (fun q => q.2.1 == p1 && (hl_lc q.2.2.1 && (hm_fl q && (match q.2.2.2.1 with
    | [.inl (.inr (2, 0)), .inr (.inl (some r))] => r == rg
    | _ => false))))
  | none => false
theorem rg_1 : rg_c 1272 1279 1 = true := by decide +kernel
theorem rg_2 : rg_c 1283 1290 210 = true := by decide +kernel
theorem rg_3 : rg_c 1297 1304 1 = true := by decide +kernel
theorem rg_4 : rg_c 1308 1315 210 = true := by decide +kernel
section RLZ
variable {p : Program} {l : Launch} {e : Env} {s : State} {m : MethodId} {below : List Frame} {meth : Method} {c : Code} {b L : Nat} {xs : Nat → Int32} {kc : Nat → ClassId} {D : va_G} {EX : (Nat → Prop) → State → Heap → Prop}
set_option maxHeartbeats 4000000 in
theorem rg_run (h : hl_C EX p s m meth c b L xs kc D) (hL : L ≤ 3072) {p0 p1 rg : Nat} (hc : rg_c p0 p1 rg = true) {i nc ns : Nat} (hi : i + 6 ≤ L) (hnc : nc ≤ 601024) (hns : ns ≤ 7293034) {ls : Array Slot} {ws : va_W} {H : Heap} {locs : List Loc} (hS : hl_S s b kc D xs i ls ws H locs)
    (kk : ∀ ls1 ws1 H1 locs1 a, hl_S s b kc D xs i ls1 ws1 H1 locs1 → (∀ r k, y_at ws1 r k = y_at ws r k) → z_ad b ws1 rg = some a → hl_W p l e s m below meth c b H1 locs1 nc ns (F0 m p1 ls1 [.int (xs (i + 1)), .ref a])) : hl_W p l e s m below meth c b H locs nc ns (F0 m p0 ls []) := by
  unfold rg_c at hc
  split at hc
  next es hes =>
    refine y_run_ok (l := l) (kc := kc) (D := D) (xb := b) (TY := yTY) (ad := z_ad b ws) (eff := ([] : yR)) (RC := yRC) (GR := yGR) (RI := w_R) h.2.2.2.1 w_R_RI y_prog (y_ct_ok (eff := ([] : yR)) (RC := yRC) w_R_RI (rl_all h.2.2.2.1)) 100 true 40 ym_law _ true hl_B p0 hl_z es hes yo_law p e room_1 s m _ below meth c _ (zA0 s) s.heap ws nc ns (hl_env i xs) (hl_ctx h hnc hns) (fun _ => rl_SC h hi hL) (hl_hB (by omega)) (fun q hq env he hB => ?_) ls [] ws H locs ⟨hS.1, hS.2.1, hS.2.2.1, hS.2.2.2.1, hS.2.2.2.2.1, hS.2.2.2.2.2.1, y_fr_refl, hS.2.2.2.2.2.2.2⟩
    intro ls1 sv ws1 H1 locs1 hS1
    have h9 := List.all_eq_true.mp hc q hq
    simp only [Bool.and_eq_true] at h9
    obtain ⟨q1, q2, q3, q4⟩ := h9
    unfold hm_fl at q3
    simp only [Bool.and_eq_true] at q3
    obtain ⟨f1, f2, f3⟩ := q3
    have hpc : q.2.1 = p1 := by simpa using q1
    obtain ⟨s1, s2, sk, sf, sG, sw, sfr, sad, sP, sD, sS⟩ := hS1
    have hGo : y_Go yGR ws1 := by
      rw [List.isEmpty_iff.mp f2, List.isEmpty_iff.mp f3] at sG
      exact y_Go_of sG
    have hloc := hl_loc q2 he s1
    split at q4
    next r hst4 =>
      rw [hst4] at s2
      obtain ⟨_, sv5, rfl, ⟨x1, rfl, hx1⟩, e5⟩ := y_st1 s2
      obtain ⟨_, sv6, rfl, ⟨a, ha, rfl⟩, e6⟩ := y_st1 e5
      obtain rfl : sv6 = [] := by
        cases sv6 with
        | nil => rfl
        | cons _ _ => exact e6.elim
      have hr : r = rg := by simpa using q4
      subst hr
      rw [hpc, rf_v he (k := 1) (by decide) hx1]
      exact kk ls1 ws1 H1 locs1 a (rl_of (ws0 := ws) hloc ⟨sf f1, hGo, sw, sad⟩ sP sD sS) (fun r k => sfr r k rfl) (by rw [sad]; exact ha)
    next => cases q4
  next => cases hc
theorem rg_rel {u v : va_W} (h : ∀ r k, y_at v r k = y_at u r k) (hu : rl_R rl_L u) : rl_R rl_L v := fun q hq => by
  obtain ⟨x, y1, y2⟩ := hu q hq
  exact ⟨x, (h _ _).trans y1, (h _ _).trans y2⟩
theorem rg_relf {eff : yR} {u v : va_W} (hf : y_fr eff u v) (h1 : y_in eff 1 2 = false) (h2 : y_in eff 209 2 = false) (hu : rl_R rl_L u) : rl_R rl_L v := fun q hq => by
  have := List.mem_singleton.mp hq
  subst this
  obtain ⟨x, y1, y2⟩ := hu _ List.mem_cons_self
  exact ⟨x, (hf 1 2 h1).trans y1, (hf 209 2 h2).trans y2⟩
theorem rg_by {eff : yR} {u v : va_W} (hf : y_fr eff u v) (h1 : eff.all (fun q => !(q.1 == 2)) = true) (h2 : eff.all (fun q => !(q.1 == 210)) = true) (hu : rb_R u) : rb_R v := rb_same (fun j => hf 2 j (xy_noreg h1 j)) (fun j => hf 210 j (xy_noreg h2 j)) hu
def rg_E : yR := [(222, 0, 597), (209, 0, 0), (224, 0, 1)]
set_option maxHeartbeats 4000000 in
theorem rl_c38 (h : hl_C EX p s m meth c b L xs kc D) (hL : L ≤ 3072) {i nc ns : Nat} (hi : i + 6 ≤ L) (hnc : nc ≤ 601024) (hns : ns ≤ 7293034) (kk : ∀ ls ws H locs, rl_S s b kc D xs i ls ws H locs → hl_W p l e s m below meth c b H locs nc ns (F0 m 1347 ls [])) : ∀ ls ws H locs, rl_S s b kc D xs i ls ws H locs → hl_W p l e s m below meth c b H locs nc ns (F0 m 1272 ls []) := by
  intro ls0 ws0 H0 locs0 ⟨hS0, hRel0, hBy0, hRc0⟩
  obtain ⟨hx, hb, hr, hml, hown, hts, hX, hbl, hlocks, hgv⟩ := id h.1
  have hE := h.2.2.2.1
  refine rg_run h hL rg_1 hi hnc hns hS0 (fun ls ws H locs a1 hS hat ha1 => ?_)
  have hRel : rl_R rl_L ws := rg_rel hat hRel0
  have hRc : rc_R ws := rc_same (fun r k _ => hat r k) hRc0
  have hBy : rb_R ws := rb_same (fun j => hat 2 j) (fun j => hat 210 j) hBy0
  obtain ⟨⟨lvv, hlv, hz⟩, _, hk, hf, hG, hw, hfr, had, hP, hD, hSS⟩ := id hS
  have hU : xy_U b kc (z_ad b ws) ws := ⟨hf rfl, y_Go_of hG, hw, rfl⟩
  refine xy_callB (pc := 1279) (av := [.int (xs (i + 1))]) (svr := []) (za := [.inl (xs (i + 1)).toInt]) (j := 152) (r := 0) (K := yk_234) (hl_ctx h hnc hns) yo_law hE rfl (show y_T yTY 0 = some _ from rfl) hU (show yP0 152 = some ym_X11_image from rfl) (by decide) rfl ha1 (by decide) hlv hP hD hSS (y_cons hE (j := 152) (show yk_234 ∈ y_cget yCTab 152 from List.mem_cons_self)) rfl (by decide) rfl rfl (Or.inr (by decide +kernel)) ⟨⟨a1, ha1, rfl⟩, ⟨_, rfl, z_any _⟩, trivial⟩ (xk_img hE) (by decide) ⟨⟨_, rfl, rfl⟩, trivial⟩ ⟨_, rfl⟩ (fun x u H1 locs1 ho hUu hfru hx9 hP1 hD1 hS1 => ?_)
  obtain ⟨I', L', hpo, htr⟩ := hx9
  have hwu : y_w kc (z_ad b ws) yTY u := hUu.2.2.1
  have hk1 : ∀ r k, rc_B r k = true → x_of u x_0 r k = I' r k := fun r k hr => rc_tr hwu htr hr
  have hlu : hl_S s b kc D xs i ls u H1 locs1 := rl_of (ws0 := ws) hS.1 hUu hP1 hD1 hS1
  refine lv_pop hx hb (show decode code 1282 = .ok (.pop, 1) by decide +kernel) rfl ?_
  refine rg_run h hL rg_2 hi hnc hns hlu (fun ls2 v H2 locs2 a2 hS2 hat2 ha2 => ?_)
  obtain ⟨⟨lvv2, hlv2, hz2⟩, _, hk2, hf2, hG2, hw2, hfr2, had2, hP2, hD2, hSS2⟩ := id hS2
  have hU2 : xy_U b kc (z_ad b v) v := ⟨hf2 rfl, y_Go_of hG2, hw2, rfl⟩
  have hxv : x_of v x_0 = x_of u x_0 := funext (fun r => funext (fun k => by
    unfold x_of
    rw [hat2]))
  have key : ∀ K : yCon, y_ConOk EX l zTB zNT kc D vwCl b yTY yGR w_R (z_ad b v) yP0 K → K.1 = 273 → K.2.2.2.2.2.1 ≤ 39 → K.2.2.1 = [] → K.2.2.2.2.2.2.2 = [] → (∀ o ∈ K.2.2.2.1, o.2.2 = true) → z_L (y_pv (z_ad b v)) K.2.1 [.ref a2, .int (xs (i + 1))] → y_sub K.2.2.2.2.1 rg_E = true → hl_W p l e s m below meth c b H2 locs2 nc ns (F0 m 1290 ls2 [.int (xs (i + 1)), .ref a2]) := by
    intro K hK kj kd kp kn kr ka ks
    refine xy_callB (pc := 1290) (av := [.int (xs (i + 1))]) (svr := []) (za := [.inl (xs (i + 1)).toInt]) (j := 273) (r := 209) (K := K) (hl_ctx h hnc hns) yo_law hE rfl (show y_T yTY 209 = some _ from rfl) hU2 (show yP0 273 = some ym_X12_image from rfl) (by decide) rfl ha2 (by decide) hlv2 hP2 hD2 hSS2 hK kj kd kp kn (Or.inl kr) ka (xk_imm hE) (by decide) ⟨⟨_, rfl, rfl⟩, trivial⟩ ⟨_, rfl⟩ (fun y w H3 locs3 ho2 hUw hfrw0 hy9 hP3 hD3 hS3 => ?_)
    have hfrw : y_fr rg_E v w := y_fr_sub ks hfrw0
    obtain ⟨J', M', hpo2, htr2⟩ := hy9
    rw [hxv] at hpo2
    have hww : y_w kc (z_ad b v) yTY w := hUw.2.2.1
    refine lv_pop hx hb (show decode code 1293 = .ok (.pop, 1) by decide +kernel) rfl ?_
    refine lv_goto (tgt := 1347) hx hb (show decode code 1294 = .ok (.goto 53, 3) by decide +kernel) (by decide) ?_
    exact kk ls2 w H3 locs3 ⟨rl_of (ws0 := v) hS2.1 hUw hP3 hD3 hS3, rg_relf hfrw rfl rfl (rg_rel hat2 (rg_relf hfru (by decide +kernel) (by decide +kernel) hRel)), rg_by hfrw (by decide) (by decide) (rb_same (fun j => hat2 2 j) (fun j => hat2 210 j) (rg_by hfru (by decide +kernel) (by decide +kernel) hBy)), rc_img hRc hpo hpo2 hk1 (fun r k hr => rc_tr hww htr2 hr)⟩
  have hzz := z_any (xs (i + 1))
  rcases Int.lt_or_le (xs (i + 1)).toInt 0 with g | g
  · exact key (hl_imo (-2147483648) (-1)) (hl_o hE hl_c1) rfl (by decide) rfl rfl (fun o ho => by have := List.mem_singleton.mp ho; subst this; rfl) ⟨⟨a2, ha2, rfl⟩, ⟨_, rfl, hzz.1, by omega⟩, trivial⟩ (by decide +kernel)
  rcases Int.lt_or_le 1 (xs (i + 1)).toInt with g2 | g2
  · exact key (hl_imo 2 2147483647) (hl_o hE hl_c2) rfl (by decide) rfl rfl (fun o ho => by have := List.mem_singleton.mp ho; subst this; rfl) ⟨⟨a2, ha2, rfl⟩, ⟨_, rfl, by omega, hzz.2⟩, trivial⟩ (by decide +kernel)
  by_cases g3 : (xs (i + 1)).toInt = 0
  · exact key (hc_imK 0) (w_R_conv (hc_ims hE (Or.inl rfl))) rfl (by decide) rfl rfl (fun o ho => by have := List.mem_singleton.mp ho; subst this; rfl) ⟨⟨a2, ha2, rfl⟩, ⟨_, rfl, (show (0 : Int) ≤ (xs (i + 1)).toInt by omega), (show (xs (i + 1)).toInt ≤ 0 by omega)⟩, trivial⟩ (by decide +kernel)
  · exact key (hc_imK 1) (w_R_conv (hc_ims hE (Or.inr rfl))) rfl (by decide) rfl rfl (fun o ho => by have := List.mem_singleton.mp ho; subst this; rfl) ⟨⟨a2, ha2, rfl⟩, ⟨_, rfl, (show (1 : Int) ≤ (xs (i + 1)).toInt by omega), (show (xs (i + 1)).toInt ≤ 1 by omega)⟩, trivial⟩ (by decide +kernel)
set_option maxHeartbeats 4000000 in
theorem rl_c39 (h : hl_C EX p s m meth c b L xs kc D) (hL : L ≤ 3072) {i nc ns : Nat} (hi : i + 6 ≤ L) (hnc : nc ≤ 601024) (hns : ns ≤ 7293034) (kk : ∀ ls ws H locs, rl_S s b kc D xs i ls ws H locs → hl_W p l e s m below meth c b H locs nc ns (F0 m 1347 ls [])) : ∀ ls ws H locs, rl_S s b kc D xs i ls ws H locs → hl_W p l e s m below meth c b H locs nc ns (F0 m 1297 ls []) := by
  intro ls0 ws0 H0 locs0 ⟨hS0, hRel0, hBy0, hRc0⟩
  obtain ⟨hx, hb, hr, hml, hown, hts, hX, hbl, hlocks, hgv⟩ := id h.1
  have hE := h.2.2.2.1
  refine rg_run h hL rg_3 hi hnc hns hS0 (fun ls ws H locs a1 hS hat ha1 => ?_)
  have hRel : rl_R rl_L ws := rg_rel hat hRel0
  have hRc : rc_R ws := rc_same (fun r k _ => hat r k) hRc0
  have hBy : rb_R ws := rb_same (fun j => hat 2 j) (fun j => hat 210 j) hBy0
  obtain ⟨⟨lvv, hlv, hz⟩, _, hk, hf, hG, hw, hfr, had, hP, hD, hSS⟩ := id hS
  have hU : xy_U b kc (z_ad b ws) ws := ⟨hf rfl, y_Go_of hG, hw, rfl⟩
  refine xy_callB (pc := 1304) (av := [.int (xs (i + 1))]) (svr := []) (za := [.inl (xs (i + 1)).toInt]) (j := 153) (r := 0) (K := yk_235) (hl_ctx h hnc hns) yo_law hE rfl (show y_T yTY 0 = some _ from rfl) hU (show yP0 153 = some ym_X11_restore from rfl) (by decide) rfl ha1 (by decide) hlv hP hD hSS (y_cons hE (j := 153) (show yk_235 ∈ y_cget yCTab 153 from List.mem_cons_self)) rfl (by decide) rfl rfl (Or.inr (by decide +kernel)) ⟨⟨a1, ha1, rfl⟩, ⟨_, rfl, z_any _⟩, trivial⟩ (xk_rst hE) (by decide) ⟨⟨_, rfl, rfl⟩, trivial⟩ ⟨_, rfl⟩ (fun x u H1 locs1 ho hUu hfru hx9 hP1 hD1 hS1 => ?_)
  obtain ⟨I', L', hpo, htr⟩ := hx9
  have hwu : y_w kc (z_ad b ws) yTY u := hUu.2.2.1
  have hk1 : ∀ r k, rc_B r k = true → x_of u x_0 r k = I' r k := fun r k hr => rc_tr hwu htr hr
  have hlu : hl_S s b kc D xs i ls u H1 locs1 := rl_of (ws0 := ws) hS.1 hUu hP1 hD1 hS1
  refine lv_pop hx hb (show decode code 1307 = .ok (.pop, 1) by decide +kernel) rfl ?_
  refine rg_run h hL rg_4 hi hnc hns hlu (fun ls2 v H2 locs2 a2 hS2 hat2 ha2 => ?_)
  obtain ⟨⟨lvv2, hlv2, hz2⟩, _, hk2, hf2, hG2, hw2, hfr2, had2, hP2, hD2, hSS2⟩ := id hS2
  have hU2 : xy_U b kc (z_ad b v) v := ⟨hf2 rfl, y_Go_of hG2, hw2, rfl⟩
  have hxv : x_of v x_0 = x_of u x_0 := funext (fun r => funext (fun k => by
    unfold x_of
    rw [hat2]))
  refine xy_callB (pc := 1315) (av := [.int (xs (i + 1))]) (svr := []) (za := [.inl (xs (i + 1)).toInt]) (j := 274) (r := 209) (K := hl_re) (hl_ctx h hnc hns) yo_law hE rfl (show y_T yTY 209 = some _ from rfl) hU2 (show yP0 274 = some ym_X12_restore from rfl) (by decide) rfl ha2 (by decide) hlv2 hP2 hD2 hSS2 (hl_re_ok hE) rfl (by decide) rfl rfl (Or.inl (fun o ho => by have := List.mem_singleton.mp ho; subst this; rfl)) ⟨⟨a2, ha2, rfl⟩, ⟨_, rfl, z_any _⟩, trivial⟩ (xk_rsm hE) (by decide) ⟨⟨_, rfl, rfl⟩, trivial⟩ ⟨_, rfl⟩ (fun y w H3 locs3 ho2 hUw hfrw hy9 hP3 hD3 hS3 => ?_)
  obtain ⟨J', M', hpo2, htr2⟩ := hy9
  rw [hxv] at hpo2
  have hww : y_w kc (z_ad b v) yTY w := hUw.2.2.1
  refine lv_pop hx hb (show decode code 1318 = .ok (.pop, 1) by decide +kernel) rfl ?_
  refine lv_goto (tgt := 1347) hx hb (show decode code 1319 = .ok (.goto 28, 3) by decide +kernel) (by decide) ?_
  exact kk ls2 w H3 locs3 ⟨rl_of (ws0 := v) hS2.1 hUw hP3 hD3 hS3, rg_relf hfrw (by decide +kernel) (by decide +kernel) (rg_rel hat2 (rg_relf hfru (by decide +kernel) (by decide +kernel) hRel)), rg_by hfrw (by decide +kernel) (by decide +kernel) (rb_same (fun j => hat2 2 j) (fun j => hat2 210 j) (rg_by hfru (by decide +kernel) (by decide +kernel) hBy)), rc_rst hRc hpo hpo2 hk1 (fun r k hr => rc_tr hww htr2 hr)⟩
end RLZ
