def rg_c (p0 p1 rg : Nat) : Bool := match y_run yP0 yTYV zTF ([] : yR) yRC yGR (y_ct rl_CT yTYV yRC ([] : yR) 40) 100 true 40 ym_law (fun pc _ _ => pc == p1) true hl_B p0 hl_z with
  | some es => es.all (fun q => q.2.1 == p1 && (hl_lc q.2.2.1 && (hm_fl q && (match q.2.2.2.1 with
    | [.inl (.inr (2, 0)), .inr (.inl (some r))] => r == rg
    | _ => false))))
  | none => false
theorem rg_1 : rg_c 1272 1279 1 = true := by decide +kernel
theorem rg_2 : rg_c 1283 1290 210 = true := by decide +kernel
theorem rg_3 : rg_c 1297 1304 1 = true := by decide +kernel
theorem rg_4 : rg_c 1308 1315 210 = true := by decide +kernel
section RLZ
variable {p : Program} {l : Launch} {e : Env} {s : State} {m : MethodId} {below : List Frame} {meth : Method} {c : Code} {b L : Nat} {xs : Nat → Int32} {kc : Nat → ClassId} {D : va_G} {EX : (Nat → Prop) → State → Heap → Prop}
set_option maxHeartbeats 4000000 in
theorem rg_run (h : hl_C EX p s m meth c b L xs kc D) (hL : L ≤ 3072) {p0 p1 rg : Nat} (hc : rg_c p0 p1 rg = true) {i nc ns : Nat} (hi : i + 6 ≤ L) (hnc : nc ≤ 601024) (hns : ns ≤ 7293034) {ls : Array Slot} {ws : va_W} {H : Heap} {locs : List Loc} (hS : hl_S s b kc D xs i ls ws H locs)
    (kk : ∀ ls1 ws1 H1 locs1 a, hl_S s b kc D xs i ls1 ws1 H1 locs1 → (∀ r k, y_at ws1 r k = y_at ws r k) → z_ad b ws1 rg = some a → hl_W p l e s m below meth c b H1 locs1 nc ns (F0 m p1 ls1 [.int (xs (i + 1)), .ref a])) : hl_W p l e s m below meth c b H locs nc ns (F0 m p0 ls []) := by
  unfold rg_c at hc
  split at hc
  next es hes =>
    refine y_run_ok (l := l) (kc := kc) (D := D) (xb := b) (TY := yTYV) (ad := z_ad b ws) (eff := ([] : yR)) (RC := yRC) (GR := yGR) (RI := w_R) h.2.2.2.1 w_R_RI y_prog (y_ct_ok (eff := ([] : yR)) (RC := yRC) w_R_RI (rl_all h.2.2.2.1)) 100 true 40 ym_law _ true hl_B p0 hl_z es hes yo_law p e room_1 s m _ below meth c _ (zA0 s) s.heap ws nc ns (hl_env i xs) (hl_ctx h hnc hns) (fun _ => rl_SC h hi hL) (hl_hB (by omega)) (fun q hq env he hB => ?_) ls [] ws H locs ⟨hS.1, hS.2.1, hS.2.2.1, hS.2.2.2.1, hS.2.2.2.2.1, hS.2.2.2.2.2.1, y_fr_refl, hS.2.2.2.2.2.2.2⟩
    intro ls1 sv ws1 H1 locs1 hS1
    have h9 := List.all_eq_true.mp hc q hq
    simp only [Bool.and_eq_true] at h9
    obtain ⟨q1, q2, q3, q4⟩ := h9
    unfold hm_fl at q3
    simp only [Bool.and_eq_true] at q3
    obtain ⟨f1, f2, f3⟩ := q3
    have hpc : q.2.1 = p1 := by simpa using q1
    obtain ⟨s1, s2, sk, sf, sG, sw, sfr, sad, sP, sD, sS⟩ := hS1
    have hGo : y_Go yGR ws1 := by
      rw [List.isEmpty_iff.mp f2, List.isEmpty_iff.mp f3] at sG
      exact y_Go_of sG
    have hloc := hl_loc q2 he s1
    split at q4
    next r hst4 =>
      rw [hst4] at s2
      obtain ⟨_, sv5, rfl, ⟨x1, rfl, hx1⟩, e5⟩ := y_st1 s2
      obtain ⟨_, sv6, rfl, ⟨a, ha, rfl⟩, e6⟩ := y_st1 e5
      obtain rfl : sv6 = [] := by
        cases sv6 with
        | nil => rfl
        | cons _ _ => exact e6.elim
      have hr : r = rg := by simpa using q4
      subst hr
      rw [hpc, rf_v he (k := 1) (by decide) hx1]
      exact kk ls1 ws1 H1 locs1 a (rl_of (ws0 := ws) hloc ⟨sf f1, hGo, sw, sad⟩ sP sD sS) (fun r k => sfr r k rfl) (by rw [sad]; exact ha)
    next => cases q4
  next => cases hc
theorem rg_rel {u v : va_W} (h : ∀ r k, y_at v r k = y_at u r k) (hu : rl_R rl_L u) : rl_R rl_L v := fun q hq => by
  obtain ⟨x, y1, y2⟩ := hu q hq
  exact ⟨x, (h _ _).trans y1, (h _ _).trans y2⟩
theorem rg_relf {eff : yR} {u v : va_W} (hf : y_fr eff u v) (h1 : y_in eff 1 2 = false) (h2 : y_in eff 209 2 = false) (hu : rl_R rl_L u) : rl_R rl_L v := fun q hq => by
  have := List.mem_singleton.mp hq
  subst this
  obtain ⟨x, y1, y2⟩ := hu _ List.mem_cons_self
  exact ⟨x, (hf 1 2 h1).trans y1, (hf 209 2 h2).trans y2⟩
theorem rg_by {eff : yR} {u v : va_W} (hf : y_fr eff u v) (h1 : eff.all (fun q => !(q.1 == 2)) = true) (h2 : eff.all (fun q => !(q.1 == 210)) = true) (hu : rb_R u) : rb_R v := rb_same (fun j => hf 2 j (xy_noreg h1 j)) (fun j => hf 210 j (xy_noreg h2 j)) hu
def rg_E : yR := [(222, 0, 597), (209, 0, 0), (224, 0, 1)]
set_option maxHeartbeats 4000000 in
theorem rl_c38 (h : hl_C EX p s m meth c b L xs kc D) (hL : L ≤ 3072) {i nc ns : Nat} (hi : i + 6 ≤ L) (hnc : nc ≤ 601024) (hns : ns ≤ 7293034) (kk : ∀ ls ws H locs, rl_S s b kc D xs i ls ws H locs → hl_W p l e s m below meth c b H locs nc ns (F0 m 1347 ls [])) : ∀ ls ws H locs, rl_S0 s b kc D xs i ls ws H locs → hl_W p l e s m below meth c b H locs nc ns (F0 m 1272 ls []) := by
  intro ls0 ws0 H0 locs0 ⟨hS0, hRel0, hBy0, hRn0, hFt0⟩
  obtain ⟨hx, hb, hr, hml, hown, hts, hX, hbl, hlocks, hgv⟩ := id h.1
  have hE := h.2.2.2.1
  refine rg_run h hL rg_1 hi hnc hns hS0 (fun ls ws H locs a1 hS hat ha1 => ?_)
  have hRel : rl_R rl_L ws := rg_rel hat hRel0
  have hRn : rn_R kc ws := rn_same (fun r k _ => hat r k) hRn0
  have hBy : rb_R ws := rb_same (fun j => hat 2 j) (fun j => hat 210 j) hBy0
  obtain ⟨⟨lvv, hlv, hz⟩, _, hk, hf, hG, hwV, hfr, had, hP, hD, hSS⟩ := id hS
  have hw := kv_W hwV
  have hU : xy_U b kc (z_ad b ws) ws := ⟨hf rfl, y_Go_of hG, hw, rfl⟩
  refine xy_callBL (pc := 1279) (av := [.int (xs (i + 1))]) (svr := []) (za := [.inl (xs (i + 1)).toInt]) (j := 152) (r := 0) (K := yk_234) (hl_ctx h hnc hns) yo_law hE rfl (show y_T yTY 0 = some _ from rfl) hU (show yP0 152 = some ym_X11_image from rfl) (by decide) rfl ha1 (by decide) hlv hP hD hSS (y_cons hE (j := 152) (show yk_234 ∈ y_cget yCTab 152 from List.mem_cons_self)) rfl (by decide) rfl rfl (Or.inr (by decide +kernel)) ⟨⟨a1, ha1, rfl⟩, ⟨_, rfl, z_any _⟩, trivial⟩ (xk_img hE) (by decide) ⟨⟨_, rfl, rfl⟩, trivial⟩ ⟨_, rfl⟩ (fun x u H1 locs1 ho hUu hfru hx9 hP1 hD1 hS1 => ?_)
  obtain ⟨I', L', hpo, htr, htl⟩ := hx9
  have hwu : y_w kc (z_ad b ws) yTY u := hUu.2.2.1
  have hk1 : ∀ r k, rn_B r k = true → x_of u x_0 r k = I' r k := fun r k hr => rn_tr hwu htr hr
  have hVu := kv_K hwu
  have hLw : ∀ r k, kv_t r k = true → x_ofl ws x_0 r k = kv_v kc r k := fun r k ht => kv_ofl hwV ht
  have hUuV : xy_UV b (kv_mk kc u) (z_ad b ws) u := ⟨hUu.1, hUu.2.1, hVu, hUu.2.2.2⟩
  have hlu : hl_S s b (kv_mk kc u) D xs i ls u H1 locs1 := rl_of (kc := kv_mk kc u) (ws0 := ws) hS.1 hUuV hP1 hD1 hS1
  have h2 := hl_Ck h (kc1 := kv_mk kc u) kv_mk_k
  refine lv_pop hx hb (show decode code 1282 = .ok (.pop, 1) by decide +kernel) rfl ?_
  refine rg_run h2 hL rg_2 hi hnc hns hlu (fun ls2 v H2 locs2 a2 hS2 hat2 ha2 => ?_)
  obtain ⟨⟨lvv2, hlv2, hz2⟩, _, hk2, hf2, hG2, hw2V, hfr2, had2, hP2, hD2, hSS2⟩ := id hS2
  have hw2 : y_w kc (z_ad b v) yTY v := kv_kk kv_mk_k' (kv_W hw2V)
  have hLv : ∀ r k, kv_t r k = true → x_ofl v x_0 r k = L' r k := fun r k ht => (kv_ofl hw2V ht).trans (rn_tl hVu htl ht)
  have hU2 : xy_U b kc (z_ad b v) v := ⟨hf2 rfl, y_Go_of hG2, hw2, rfl⟩
  have hxv : x_of v x_0 = x_of u x_0 := funext (fun r => funext (fun k => by
    unfold x_of
    rw [hat2]))
  have key : ∀ K : yCon, y_ConOk EX l zTB zNT kc D vwCl b yTY yGR w_R (z_ad b v) yP0 K → K.1 = 273 → K.2.2.2.2.2.1 ≤ 39 → K.2.2.1 = [] → K.2.2.2.2.2.2.2 = [] → (∀ o ∈ K.2.2.2.1, o.2.2 = true) → z_L (y_pv (z_ad b v)) K.2.1 [.ref a2, .int (xs (i + 1))] → y_sub K.2.2.2.2.1 rg_E = true → hl_W p l e s m below meth c b H2 locs2 nc ns (F0 m 1290 ls2 [.int (xs (i + 1)), .ref a2]) := by
    intro K hK kj kd kp kn kr ka ks
    refine xy_callBL (pc := 1290) (av := [.int (xs (i + 1))]) (svr := []) (za := [.inl (xs (i + 1)).toInt]) (j := 273) (r := 209) (K := K) (hl_ctx h hnc hns) yo_law hE rfl (show y_T yTY 209 = some _ from rfl) hU2 (show yP0 273 = some ym_X12_image from rfl) (by decide) rfl ha2 (by decide) hlv2 hP2 hD2 hSS2 hK kj kd kp kn (Or.inl kr) ka (xk_imm hE) (by decide) ⟨⟨_, rfl, rfl⟩, trivial⟩ ⟨_, rfl⟩ (fun y w H3 locs3 ho2 hUw hfrw0 hy9 hP3 hD3 hS3 => ?_)
    have hfrw : y_fr rg_E v w := y_fr_sub ks hfrw0
    obtain ⟨J', M', hpo2, htr2, htl2⟩ := hy9
    rw [hxv] at hpo2
    have hww : y_w kc (z_ad b v) yTY w := hUw.2.2.1
    have hVw := kv_K hww
    have hUwV : xy_UV b (kv_mk kc w) (z_ad b v) w := ⟨hUw.1, hUw.2.1, hVw, hUw.2.2.2⟩
    refine lv_pop hx hb (show decode code 1293 = .ok (.pop, 1) by decide +kernel) rfl ?_
    refine lv_goto (tgt := 1347) hx hb (show decode code 1294 = .ok (.goto 53, 3) by decide +kernel) (by decide) ?_
    exact kk ls2 w H3 locs3 ⟨kv_mk kc w, kv_mk_k, rl_of (kc := kv_mk kc w) (ws0 := v) hS2.1 hUwV hP3 hD3 hS3, rg_relf hfrw rfl rfl (rg_rel hat2 (rg_relf hfru (by decide +kernel) (by decide +kernel) hRel)), rg_by hfrw (by decide) (by decide) (rb_same (fun j => hat2 2 j) (fun j => hat2 210 j) (rg_by hfru (by decide +kernel) (by decide +kernel) hBy)), rn_img (rn_fr hRn (fun _ _ _ => rfl) hLw) hpo hpo2 hk1 hLv (fun r k hr => rn_tr hww htr2 hr) (fun r k ht => rn_tl hVw htl2 ht), rf_same ((hfrw 0 10 (by decide +kernel)).trans ((hat2 0 10).trans ((hfru 0 10 (by decide +kernel)).trans (hat 0 10)))) ((hfrw 209 15 (by decide +kernel)).trans ((hat2 209 15).trans ((hfru 209 15 (by decide +kernel)).trans (hat 209 15)))) hFt0⟩
  have hzz := z_any (xs (i + 1))
  rcases Int.lt_or_le (xs (i + 1)).toInt 0 with g | g
  · exact key (hl_imo (-2147483648) (-1)) (hl_o hE hl_c1) rfl (by decide) rfl rfl (fun o ho => by have := List.mem_singleton.mp ho; subst this; rfl) ⟨⟨a2, ha2, rfl⟩, ⟨_, rfl, hzz.1, by omega⟩, trivial⟩ (by decide +kernel)
  rcases Int.lt_or_le 1 (xs (i + 1)).toInt with g2 | g2
  · exact key (hl_imo 2 2147483647) (hl_o hE hl_c2) rfl (by decide) rfl rfl (fun o ho => by have := List.mem_singleton.mp ho; subst this; rfl) ⟨⟨a2, ha2, rfl⟩, ⟨_, rfl, by omega, hzz.2⟩, trivial⟩ (by decide +kernel)
  by_cases g3 : (xs (i + 1)).toInt = 0
  · exact key (hc_imK 0) (w_R_conv (hc_ims hE (Or.inl rfl))) rfl (by decide) rfl rfl (fun o ho => by have := List.mem_singleton.mp ho; subst this; rfl) ⟨⟨a2, ha2, rfl⟩, ⟨_, rfl, (show (0 : Int) ≤ (xs (i + 1)).toInt by omega), (show (xs (i + 1)).toInt ≤ 0 by omega)⟩, trivial⟩ (by decide +kernel)
  · exact key (hc_imK 1) (w_R_conv (hc_ims hE (Or.inr rfl))) rfl (by decide) rfl rfl (fun o ho => by have := List.mem_singleton.mp ho; subst this; rfl) ⟨⟨a2, ha2, rfl⟩, ⟨_, rfl, (show (1 : Int) ≤ (xs (i + 1)).toInt by omega), (show (xs (i + 1)).toInt ≤ 1 by omega)⟩, trivial⟩ (by decide +kernel)
set_option maxHeartbeats 4000000 in
theorem rl_c39 (h : hl_C EX p s m meth c b L xs kc D) (hL : L ≤ 3072) {i nc ns : Nat} (hi : i + 6 ≤ L) (hnc : nc ≤ 601024) (hns : ns ≤ 7293034) (kk : ∀ ls ws H locs, rl_S s b kc D xs i ls ws H locs → hl_W p l e s m below meth c b H locs nc ns (F0 m 1347 ls [])) : ∀ ls ws H locs, rl_S0 s b kc D xs i ls ws H locs → hl_W p l e s m below meth c b H locs nc ns (F0 m 1297 ls []) := by
  intro ls0 ws0 H0 locs0 ⟨hS0, hRel0, hBy0, hRn0, hFt0⟩
  obtain ⟨hx, hb, hr, hml, hown, hts, hX, hbl, hlocks, hgv⟩ := id h.1
  have hE := h.2.2.2.1
  refine rg_run h hL rg_3 hi hnc hns hS0 (fun ls ws H locs a1 hS hat ha1 => ?_)
  have hRel : rl_R rl_L ws := rg_rel hat hRel0
  have hRn : rn_R kc ws := rn_same (fun r k _ => hat r k) hRn0
  have hBy : rb_R ws := rb_same (fun j => hat 2 j) (fun j => hat 210 j) hBy0
  obtain ⟨⟨lvv, hlv, hz⟩, _, hk, hf, hG, hwV, hfr, had, hP, hD, hSS⟩ := id hS
  have hw := kv_W hwV
  have hU : xy_U b kc (z_ad b ws) ws := ⟨hf rfl, y_Go_of hG, hw, rfl⟩
  refine xy_callBL (pc := 1304) (av := [.int (xs (i + 1))]) (svr := []) (za := [.inl (xs (i + 1)).toInt]) (j := 153) (r := 0) (K := yk_235) (hl_ctx h hnc hns) yo_law hE rfl (show y_T yTY 0 = some _ from rfl) hU (show yP0 153 = some ym_X11_restore from rfl) (by decide) rfl ha1 (by decide) hlv hP hD hSS (y_cons hE (j := 153) (show yk_235 ∈ y_cget yCTab 153 from List.mem_cons_self)) rfl (by decide) rfl rfl (Or.inr (by decide +kernel)) ⟨⟨a1, ha1, rfl⟩, ⟨_, rfl, z_any _⟩, trivial⟩ (xk_rst hE) (by decide) ⟨⟨_, rfl, rfl⟩, trivial⟩ ⟨_, rfl⟩ (fun x u H1 locs1 ho hUu hfru hx9 hP1 hD1 hS1 => ?_)
  obtain ⟨I', L', hpo, htr, htl⟩ := hx9
  have hwu : y_w kc (z_ad b ws) yTY u := hUu.2.2.1
  have hk1 : ∀ r k, rn_B r k = true → x_of u x_0 r k = I' r k := fun r k hr => rn_tr hwu htr hr
  have hVu := kv_K hwu
  have hLw : ∀ r k, kv_t r k = true → x_ofl ws x_0 r k = kv_v kc r k := fun r k ht => kv_ofl hwV ht
  have hUuV : xy_UV b (kv_mk kc u) (z_ad b ws) u := ⟨hUu.1, hUu.2.1, hVu, hUu.2.2.2⟩
  have hlu : hl_S s b (kv_mk kc u) D xs i ls u H1 locs1 := rl_of (kc := kv_mk kc u) (ws0 := ws) hS.1 hUuV hP1 hD1 hS1
  have h2 := hl_Ck h (kc1 := kv_mk kc u) kv_mk_k
  refine lv_pop hx hb (show decode code 1307 = .ok (.pop, 1) by decide +kernel) rfl ?_
  refine rg_run h2 hL rg_4 hi hnc hns hlu (fun ls2 v H2 locs2 a2 hS2 hat2 ha2 => ?_)
  obtain ⟨⟨lvv2, hlv2, hz2⟩, _, hk2, hf2, hG2, hw2V, hfr2, had2, hP2, hD2, hSS2⟩ := id hS2
  have hw2 : y_w kc (z_ad b v) yTY v := kv_kk kv_mk_k' (kv_W hw2V)
  have hLv : ∀ r k, kv_t r k = true → x_ofl v x_0 r k = L' r k := fun r k ht => (kv_ofl hw2V ht).trans (rn_tl hVu htl ht)
  have hU2 : xy_U b kc (z_ad b v) v := ⟨hf2 rfl, y_Go_of hG2, hw2, rfl⟩
  have hxv : x_of v x_0 = x_of u x_0 := funext (fun r => funext (fun k => by
    unfold x_of
    rw [hat2]))
  refine xy_callBL (pc := 1315) (av := [.int (xs (i + 1))]) (svr := []) (za := [.inl (xs (i + 1)).toInt]) (j := 274) (r := 209) (K := hl_re) (hl_ctx h hnc hns) yo_law hE rfl (show y_T yTY 209 = some _ from rfl) hU2 (show yP0 274 = some ym_X12_restore from rfl) (by decide) rfl ha2 (by decide) hlv2 hP2 hD2 hSS2 (hl_re_ok hE) rfl (by decide) rfl rfl (Or.inl (fun o ho => by have := List.mem_singleton.mp ho; subst this; rfl)) ⟨⟨a2, ha2, rfl⟩, ⟨_, rfl, z_any _⟩, trivial⟩ (xk_rsm hE) (by decide) ⟨⟨_, rfl, rfl⟩, trivial⟩ ⟨_, rfl⟩ (fun y w H3 locs3 ho2 hUw hfrw hy9 hP3 hD3 hS3 => ?_)
  obtain ⟨J', M', hpo2, htr2, htl2⟩ := hy9
  rw [hxv] at hpo2
  have hww : y_w kc (z_ad b v) yTY w := hUw.2.2.1
  have hVw := kv_K hww
  have hUwV : xy_UV b (kv_mk kc w) (z_ad b v) w := ⟨hUw.1, hUw.2.1, hVw, hUw.2.2.2⟩
  refine lv_pop hx hb (show decode code 1318 = .ok (.pop, 1) by decide +kernel) rfl ?_
  refine lv_goto (tgt := 1347) hx hb (show decode code 1319 = .ok (.goto 28, 3) by decide +kernel) (by decide) ?_
  exact kk ls2 w H3 locs3 ⟨kv_mk kc w, kv_mk_k, rl_of (kc := kv_mk kc w) (ws0 := v) hS2.1 hUwV hP3 hD3 hS3, rg_relf hfrw (by decide +kernel) (by decide +kernel) (rg_rel hat2 (rg_relf hfru (by decide +kernel) (by decide +kernel) hRel)), rg_by hfrw (by decide +kernel) (by decide +kernel) (rb_same (fun j => hat2 2 j) (fun j => hat2 210 j) (rg_by hfru (by decide +kernel) (by decide +kernel) hBy)), rn_rst (rn_fr hRn (fun _ _ _ => rfl) hLw) hpo hpo2 hk1 hLv (fun r k hr => rn_tr hww htr2 hr) (fun r k ht => rn_tl hVw htl2 ht), rf_same ((hfrw 0 10 (by decide +kernel)).trans ((hat2 0 10).trans ((hfru 0 10 (by decide +kernel)).trans (hat 0 10)))) ((hfrw 209 15 (by decide +kernel)).trans ((hat2 209 15).trans ((hfru 209 15 (by decide +kernel)).trans (hat 209 15)))) hFt0⟩
end RLZ
