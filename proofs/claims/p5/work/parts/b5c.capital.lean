/-- what a world is, as far as the law goes -/
def xy_UV (b : Nat) (kc : Nat → ClassId) (ad : Nat → Option Nat) (u : va_W) : Prop := w_R u ∧ y_Go yGR u ∧ y_w kc ad yTYV u ∧ z_ad b u = ad
theorem rn_tr {kc : Nat → ClassId} {ad : Nat → Option Nat} {u : va_W} {I' : xF} (hw : y_w kc ad yTY u) (htr : ∀ r k v, xy_t r k = true → y_at u r k = some v → v.toInt = I' r k) {r k : Nat} (hr : rn_B r k = true) : x_of u x_0 r k = I' r k := by
  have h9 := rn_c hr
  unfold xy_c at h9
  rw [Bool.and_eq_true] at h9
  obtain ⟨q, hq⟩ := Option.isSome_iff_exists.mp h9.2
  obtain ⟨x, x1, _⟩ := y_ty_ok hw hq
  unfold x_of
  rw [x1]
  exact htr r k x h9.1 x1
/-- the longs of a world, as kc tells them, are those of the store -/
theorem rn_tl {kc : Nat → ClassId} {ad : Nat → Option Nat} {u : va_W} {L' : xF} (hw : y_w kc ad yTYV u) (htl : ∀ r k v, xl_t r = true → x_at u r k = some v → v.toInt = L' r k) {r k : Nat} (hr : kv_t r k = true) : kv_v kc r k = L' r k := by
  obtain ⟨x, x1, x2⟩ := kv_is hw hr
  rw [← x2]
  exact htl r k x (kv_tl hr) x1
section RLX
variable {p : Program} {l : Launch} {e : Env} {s : State} {m : MethodId} {below : List Frame} {meth : Method} {c : Code} {b L : Nat} {xs : Nat → Int32} {kc : Nat → ClassId} {D : va_G} {EX : (Nat → Prop) → State → Heap → Prop}
theorem rl_n2 {kc : Nat → ClassId} {ad : Nat → Option Nat} {ws : va_W} (hw : y_w kc ad yTYV ws) (hRel : rl_R rl_L ws) : ∃ n : Int32, y_at ws 1 2 = some n ∧ y_at ws 209 2 = some n ∧ 0 ≤ n.toInt ∧ n.toInt ≤ 940 ∧ x_of ws x_0 1 2 = n.toInt ∧ x_of ws x_0 209 2 = n.toInt := by
  obtain ⟨t, f1, f2, f3⟩ := y_ty_ok (r := 209) (k := 2) hw (q := (0, 940)) (by decide +kernel)
  obtain ⟨x, y1, y2⟩ := hRel _ List.mem_cons_self
  dsimp only at y1 y2 f2 f3
  rw [f1] at y2
  cases y2
  refine ⟨t, y1, f1, f2, f3, ?_, ?_⟩
  · unfold x_of
    rw [y1]
  · unfold x_of
    rw [f1]
theorem rl_of {ws0 ws : va_W} {i : Nat} {ls : Array Slot} {H : Heap} {locs : List Loc} (hl : y_l (hl_env i xs) (z_ad b ws0) 7 hl_zl ls) (hU : xy_UV b kc (z_ad b ws0) ws) (hP : va_P D vwCl ws H) (hD : va_D (zA0 s) ws) (hS : va_S (zA0 s) s.heap H locs) : hl_S s b kc D xs i ls ws H locs := by
  obtain ⟨u1, u2, u3, u4⟩ := hU
  rw [← u4] at hl u3
  exact ⟨hl, trivial, (fun _ h => by cases h), (fun _ => u1), y_Go_to u2, u3, y_fr_refl, rfl, hP, hD, hS⟩
set_option maxHeartbeats 4000000 in
theorem rl_c2 (h : hl_C EX p s m meth c b L xs kc D) (hL : L ≤ 3072) {i nc ns : Nat} (hi : i + 6 ≤ L) (hnc : nc ≤ 601024) (hns : ns ≤ 7293034) (kk : ∀ ls ws H locs, rl_S s b kc D xs i ls ws H locs → hl_W p l e s m below meth c b H locs nc ns (F0 m 1347 ls [])) : ∀ ls ws H locs, rl_S0 s b kc D xs i ls ws H locs → hl_W p l e s m below meth c b H locs nc ns (F0 m 318 ls []) := by
  intro ls ws H locs ⟨hS, hRel, hBy, hRn, _⟩
  obtain ⟨hx, hb, hr, hml, hown, hts, hX, hbl, hlocks, hgv⟩ := id h.1
  have hE := h.2.2.2.1
  obtain ⟨v1, v2, v3, x4, hl, hx4, ⟨a1, ha1, rfl⟩, ⟨a2, ha2, rfl⟩, b3⟩ := hl_unl hS
  obtain ⟨hloc, _, hk, hf, hG, hwV, hfr, had, hP, hD, hSS⟩ := hS
  have hw := kv_W hwV
  have hU : xy_U b kc (z_ad b ws) ws := ⟨hf rfl, y_Go_of hG, hw, rfl⟩
  obtain ⟨n, n1, n2, n3, n4, n5, n6⟩ := rl_n2 hwV hRel
  refine lv_aload_n (k := 1) (i := 1) (x := a1) hx hb (show decode code 318 = .ok (.aload_n 1, 1) by decide +kernel) rfl (hl.2.2 (1, .ref a1) (by simp)) ?_
  refine xy_callL (pc := 319) (av := []) (svr := []) (za := []) (j := 116) (r := 0) (K := yk_200) (hl_ctx h hnc hns) yo_law hE (show y_find ym_law.2.2.2.2.1 319 = some (.invokevirtual 32, [1, 116, 11]) from rfl) (show y_T yTY 0 = some _ from rfl) hU (show yP0 116 = some ym_X11_capital from rfl) (by decide) rfl ha1 (by decide) hl hP hD hSS (y_cons hE (j := 116) (show yk_200 ∈ y_cget yCTab 116 from List.mem_cons_self)) rfl (by decide) rfl rfl (Or.inr (by decide +kernel)) ⟨⟨a1, ha1, rfl⟩, trivial⟩ (xk_cc3 hE) (by decide) trivial ⟨rfl, ⟨by rw [n5]; exact n3, by rw [n5]; exact n4⟩, goI_of hw (y_Go_of hG)⟩ (fun x u H1 locs1 ho hUu hfru hx9 hP1 hD1 hS1 => ?_)
  obtain ⟨o, ho1, ho2⟩ := ho
  have := List.mem_singleton.mp ho1
  subst this
  obtain ⟨z1, z2, z3, z4, _⟩ := ho2 _ List.mem_cons_self
  dsimp only at z2
  have z3 : (0 : Int) ≤ z1.toInt := z3
  have z4 : z1.toInt ≤ (0 : Int) := z4
  obtain ⟨I', L', ⟨⟨hans, _⟩, hcn, hcl⟩, htr, htl⟩ := hx9
  have hUu' : xy_U b kc (z_ad b u) u := by rw [hUu.2.2.2]; exact hUu
  have e3 : x_of u x_0 209 2 = n.toInt := by
    rw [← n6]
    unfold x_of
    rw [hfru 209 2 (by decide +kernel)]
  have e4 : ∀ j, r_b (x_of u x_0) j = x_of ws x_0 2 j := fun j => by
    rw [hBy j]
    unfold r_b x_of
    rw [hfru 210 j (xy_noreg (by decide +kernel) j)]
  have ha2' : z_ad b u 210 = some a2 := by rw [hUu.2.2.2]; exact ha2
  refine lv_pop hx hb (show decode code 322 = .ok (.pop, 1) by decide +kernel) rfl ?_
  refine lv_aload_n (k := 2) (i := 2) (x := a2) hx hb (show decode code 323 = .ok (.aload_n 2, 1) by decide +kernel) rfl (hl.2.2 (2, .ref a2) (by simp)) ?_
  refine xy_callL (pc := 324) (av := []) (svr := []) (za := []) (j := 190) (r := 209) (K := ht_K2) (hl_ctx h hnc hns) yo_law hE (show y_find ym_law.2.2.2.2.1 324 = some (.invokevirtual 36, [1, 190, 12]) from rfl) (show y_T yTY 209 = some _ from rfl) hUu' (show yP0 190 = some ym_X12_capital from rfl) (by decide) rfl ha2' (by decide) hl hP1 hD1 hS1 (ht_ok hE) rfl (by decide) rfl rfl (Or.inl (fun o ho => by have := List.mem_singleton.mp ho; subst this; rfl)) ⟨⟨a2, ha2', rfl⟩, trivial⟩ (xk_cap3 hE) (by decide) trivial ⟨rfl, ⟨by rw [e3]; exact n3, by rw [e3]; exact n4⟩, goI_of hUu'.2.2.1 hUu'.2.1⟩ (fun y v H2 locs2 ho hUv hfrv hy9 hP2 hD2 hS2 => ?_)
  obtain ⟨o, ho1, ho2⟩ := ho
  have := List.mem_singleton.mp ho1
  subst this
  obtain ⟨w1, w2, w3, w4, _⟩ := ho2 _ List.mem_cons_self
  dsimp only at w2
  have w3 : (0 : Int) ≤ w1.toInt := w3
  have w4 : w1.toInt ≤ (0 : Int) := w4
  obtain ⟨J', M', ⟨hans2, hrn, hrl⟩, htr2, htl2⟩ := hy9
  refine lv_pop hx hb (show decode code 327 = .ok (.pop, 1) by decide +kernel) rfl ?_
  refine lv_goto (tgt := 1347) hx hb (show decode code 328 = .ok (.goto 1019, 3) by decide +kernel) (by decide) ?_
  have hUv2 : xy_U b kc (z_ad b ws) v := by rw [← hUu.2.2.2]; exact hUv
  have hwu : y_w kc (z_ad b ws) yTY u := hUu.2.2.1
  have hwv : y_w kc (z_ad b ws) yTY v := hUv2.2.2.1
  have hVu := kv_K hwu
  have hVv := kv_K hwv
  have hUvV : xy_UV b (kv_mk kc v) (z_ad b ws) v := ⟨hUv2.1, hUv2.2.1, hVv, hUv2.2.2.2⟩
  have hFv : rf_R v := by
    have hby : r_b (x_of u x_0) = x_of ws x_0 2 := funext e4
    have f1 : x_of v x_0 0 10 = I' 0 10 := by
      have h9 : x_of v x_0 0 10 = x_of u x_0 0 10 := by
        unfold x_of
        rw [hfrv 0 10 (by decide +kernel)]
      exact h9.trans (rf_tr hwu htr rq_fc.1)
    have f2 : x_of v x_0 209 15 = J' 209 15 := rf_tr hwv htr2 rq_fc.2
    show x_of v x_0 0 10 = x_of v x_0 209 15
    rw [f1, f2]
    have g2 := hans2
    rw [hby, e3, ← n5] at g2
    have g1 := hans
    rcases hpt : p_text (x_of ws x_0 2) (x_of ws x_0 1 2) with ⟨at0, f0⟩ | ⟨q9, σ⟩
    · rw [hpt] at g1 g2
      exact g1.2.1.trans g2.2.1.symm
    · rw [hpt] at g1 g2
      exact g1.2.1.trans g2.2.1.symm
  refine kk ls v H2 locs2 ⟨kv_mk kc v, kv_mk_k, rl_of (kc := kv_mk kc v) (ws0 := ws) hloc hUvV hP2 hD2 hS2, ?_, ?_, ?_, hFv⟩
  · intro q hq
    have := List.mem_singleton.mp hq
    subst this
    refine ⟨w1, ?_, w2⟩
    show y_at v 1 2 = _
    rw [hfrv 1 2 (by decide +kernel), z2]
    exact congrArg some (y_i32 (by omega))
  · refine rb_same (fun j => ?_) (fun j => ?_) hBy
    · exact (hfrv 2 j (xy_noreg (by decide +kernel) j)).trans (hfru 2 j (xy_noreg (by decide +kernel) j))
    · exact (hfrv 210 j (xy_noreg (by decide +kernel) j)).trans (hfru 210 j (xy_noreg (by decide +kernel) j))
  · -- the NAMES
    have hLw : ∀ r k, kv_t r k = true → x_ofl ws x_0 r k = kv_v kc r k := fun r k ht => kv_ofl hwV ht
    have hLu : ∀ r k, kv_t r k = true → x_ofl u x_0 r k = L' r k := fun r k ht => (kv_ofl hVu ht).trans (rn_tl hVu htl ht)
    have hKv : ∀ r k, kv_t r k = true → kv_v (kv_mk kc v) r k = M' r k := fun r k ht => rn_tl hVv htl2 ht
    have hIu : ∀ r k, rn_B r k = true → x_of u x_0 r k = I' r k := fun r k hr => rn_tr hwu htr hr
    have hIv : ∀ r k, rn_B r k = true → x_of v x_0 r k = J' r k := fun r k hr => rn_tr hwv htr2 hr
    have s1 : ∀ r k, rn_B r k = true → [12, 14].contains r = false → x_of u x_0 r k = x_of ws x_0 r k := fun r k hr hx9 => by
      unfold x_of
      rw [hfru r k (rn_nox_ok (X := [12, 14]) (by decide +kernel) hr hx9)]
    have s2 : ∀ r k, rn_B r k = true → [211].contains r = false → x_of v x_0 r k = x_of u x_0 r k := fun r k hr hx9 => by
      unfold x_of
      rw [hfrv r k (rn_nox_ok (X := [211]) (by decide +kernel) hr hx9)]
    have hby : r_b (x_of u x_0) = x_of ws x_0 2 := funext e4
    rw [hby, e3, ← n5] at hrn
    refine rn_up hRn (fun r k hr n1 n2 n3 => (s2 r k hr (by simp [n3])).trans (s1 r k hr (by simp [n1, n2]))) (fun r k ht n1 n2 => ?_) ?_
    · rw [hKv r k ht, hrl r k ht n2, hLu r k ht, hcl r k ht n1, hLw r k ht]
    · rcases hpt : p_text (x_of ws x_0 2) (x_of ws x_0 1 2) with ⟨at0, f0⟩ | ⟨q9, σ⟩
      · rw [hpt] at hcn hrn
        have h211 := hans2
        rw [hby, e3, ← n5, hpt] at h211
        obtain ⟨c1, c2, c3⟩ := hcn
        refine n3_x_eq (s := n3_0) hRn.1 ⟨?_, fun k hk => ?_, fun i hi => ?_, fun k hk => ?_, fun k hk => ?_⟩
        · exact (s2 12 3 rn_n.1 (by decide)).trans ((hIu 12 3 rn_n.1).trans c1)
        · exact (s2 14 k (rn_22 hk).1 (by simp)).trans ((hIu 14 k (rn_22 hk).1).trans (c2 k hk))
        · have hr3 : rn_B 211 (0 + i) = true := by rw [Nat.zero_add]; exact (rn_3 hi).1
          show x_of v x_0 211 (0 + i) = x_of ws x_0 211 (0 + i)
          rw [hIv _ _ hr3, h211.2.2 (0 + i) (by omega)]
          exact s1 _ _ hr3 (by simp)
        · show kv_v (kv_mk kc v) 13 k = kv_v kc 13 k
          rw [hKv 13 k (rt_22 hk).1, hrl 13 k (rt_22 hk).1 (by decide), hLu 13 k (rt_22 hk).1, c3 k hk, hLw 13 k (rt_22 hk).1]
        · have ht := (rt_22 hk).2.2.2.1
          show kv_v (kv_mk kc v) 214 (0 + k) = kv_v kc 214 (0 + k)
          rw [hKv _ _ ht]
          have h9 : M' 214 (0 + k) = x_ofl u x_0 214 (0 + k) := hrn (0 + k) (by omega)
          rw [h9, hLu _ _ ht, hcl _ _ ht (by decide), hLw _ _ ht]
      · rw [hpt] at hcn hrn
        have hty : ∀ {r k : Nat} {lo hi : Int}, y_ty yTY r k = some (lo, hi) → x_of v x_0 r k ≤ hi := fun {r k lo hi} hq => by
          obtain ⟨x, x1, x2, x3⟩ := y_ty_ok hwv hq
          unfold x_of
          rw [x1]
          exact x3
        have q12 : x_of v x_0 12 3 = I' 12 3 := (s2 12 3 rn_n.1 (by decide)).trans (hIu 12 3 rn_n.1)
        have b12 : x_of v x_0 12 3 ≤ 22 := hty (lo := 0) (by decide +kernel)
        have b0 : x_of v x_0 211 0 ≤ 8 := hty (lo := 0) (by decide +kernel)
        have b1 : x_of v x_0 211 1 ≤ 6 := hty (lo := 0) (by decide +kernel)
        have b2 : x_of v x_0 211 2 ≤ 8 := hty (lo := 0) (by decide +kernel)
        refine ⟨⟨b12, b0, b1, b2⟩, σ.1, σ.2.1, σ.2.2.1, ?_, ?_⟩
        · refine n3_c_eq (r := 12) (r' := 12) (I := I') (L := L') hcn q12 (fun k hk => ?_) (fun k hk => ?_)
          · have ht := (rt_22 (k := k) (by omega)).1
            show kv_v (kv_mk kc v) 13 k = L' 13 k
            rw [hKv _ _ ht, hrl _ _ ht (by decide), hLu _ _ ht]
          · have hr2 := (rn_22 (k := k) (by omega)).1
            exact (s2 14 k hr2 (by simp)).trans (hIu 14 k hr2)
        · refine n3_r_eq (f := J' 211) (g := M' 214) hrn (fun i hi => ?_) ?_ (fun k hk => ?_)
          · have hr3 : rn_B 211 (0 + i) = true := by rw [Nat.zero_add]; exact (rn_3 hi).1
            exact (hIv _ _ hr3).trans (congrArg (J' 211) (Nat.zero_add i))
          · have i0 := hIv 211 0 (rn_3 (i := 0) (by decide)).1
            have i1 := hIv 211 1 (rn_3 (i := 1) (by decide)).1
            have i2 := hIv 211 2 (rn_3 (i := 2) (by decide)).1
            exact ⟨by rw [← i0]; exact b0, by rw [← i1]; exact b1, by rw [← i2]; exact b2⟩
          · exact (hKv _ _ (rt_22 hk).2.2.2.1).trans (congrArg (M' 214) (Nat.zero_add k))
/-- what feed() is given -/
def rf_c (p0 p1 rg : Nat) : Bool := match y_run yP0 yTYV zTF ([] : yR) yRC yGR (y_ct rl_CT yTYV yRC ([] : yR) 40) 100 true 40 ym_law (fun pc _ _ => pc == p1) true hl_B p0 hl_z with
  | some es => es.all (fun q => q.2.1 == p1 && (hl_lc q.2.2.1 && (hm_fl q && (match q.2.2.2.1 with
    | [.inl (.inr (6, 0)), .inl (.inr (5, 0)), .inl (.inr (4, 0)), .inl (.inr (3, 0)), .inl (.inr (2, 0)), .inr (.inl (some r))] => r == rg
    | _ => false))))
  | none => false
theorem rf_1 : rf_c 220 251 1 = true := by decide +kernel
theorem rf_2 : rf_c 255 286 210 = true := by decide +kernel
theorem rf_v {i k : Nat} {env : List Int} (he : hl_env i xs <+: env) (hk : k ≤ 5) {x : Int32} (h : y_e env (.inr (k + 1, 0)) = some x.toInt) : x = xs (i + k) := by
  have h1 := y_pre_get he (hl_x (xs := xs) (i := i) hk)
  unfold y_e at h
  dsimp only at h
  rw [h1] at h
  have h2 : (xs (i + k)).toInt + 0 = x.toInt := Option.some.inj h
  exact y_i32 (by omega)
def rf_st (i a : Nat) (xs : Nat → Int32) : List Value := [.int (xs (i + 5)), .int (xs (i + 4)), .int (xs (i + 3)), .int (xs (i + 2)), .int (xs (i + 1)), .ref a]
set_option maxHeartbeats 4000000 in
theorem rf_run (h : hl_C EX p s m meth c b L xs kc D) (hL : L ≤ 3072) {p0 p1 rg : Nat} (hc : rf_c p0 p1 rg = true) {i nc ns : Nat} (hi : i + 6 ≤ L) (hnc : nc ≤ 601024) (hns : ns ≤ 7293034) {ls : Array Slot} {ws : va_W} {H : Heap} {locs : List Loc} (hS : hl_S s b kc D xs i ls ws H locs)
    (kk : ∀ ls1 ws1 H1 locs1 a, hl_S s b kc D xs i ls1 ws1 H1 locs1 → (∀ r k, y_at ws1 r k = y_at ws r k) → z_ad b ws1 rg = some a → hl_W p l e s m below meth c b H1 locs1 nc ns (F0 m p1 ls1 (rf_st i a xs))) : hl_W p l e s m below meth c b H locs nc ns (F0 m p0 ls []) := by
  unfold rf_c at hc
  split at hc
  next es hes =>
    refine y_run_ok (l := l) (kc := kc) (D := D) (xb := b) (TY := yTYV) (ad := z_ad b ws) (eff := ([] : yR)) (RC := yRC) (GR := yGR) (RI := w_R) h.2.2.2.1 w_R_RI y_prog (y_ct_ok (eff := ([] : yR)) (RC := yRC) w_R_RI (rl_all h.2.2.2.1)) 100 true 40 ym_law _ true hl_B p0 hl_z es hes yo_law p e room_1 s m _ below meth c _ (zA0 s) s.heap ws nc ns (hl_env i xs) (hl_ctx h hnc hns) (fun _ => rl_SC h hi hL) (hl_hB (by omega)) (fun q hq env he hB => ?_) ls [] ws H locs ⟨hS.1, hS.2.1, hS.2.2.1, hS.2.2.2.1, hS.2.2.2.2.1, hS.2.2.2.2.2.1, y_fr_refl, hS.2.2.2.2.2.2.2⟩
    intro ls1 sv ws1 H1 locs1 hS1
    have h9 := List.all_eq_true.mp hc q hq
    simp only [Bool.and_eq_true] at h9
    obtain ⟨q1, q2, q3, q4⟩ := h9
    unfold hm_fl at q3
    simp only [Bool.and_eq_true] at q3
    obtain ⟨f1, f2, f3⟩ := q3
    have hpc : q.2.1 = p1 := by simpa using q1
    obtain ⟨s1, s2, sk, sf, sG, sw, sfr, sad, sP, sD, sS⟩ := hS1
    have hGo : y_Go yGR ws1 := by
      rw [List.isEmpty_iff.mp f2, List.isEmpty_iff.mp f3] at sG
      exact y_Go_of sG
    have hloc := hl_loc q2 he s1
    split at q4
    next r hst4 =>
      rw [hst4] at s2
      obtain ⟨_, sv1, rfl, ⟨x5, rfl, hx5⟩, e1⟩ := y_st1 s2
      obtain ⟨_, sv2, rfl, ⟨x4, rfl, hx4⟩, e2⟩ := y_st1 e1
      obtain ⟨_, sv3, rfl, ⟨x3, rfl, hx3⟩, e3⟩ := y_st1 e2
      obtain ⟨_, sv4, rfl, ⟨x2, rfl, hx2⟩, e4⟩ := y_st1 e3
      obtain ⟨_, sv5, rfl, ⟨x1, rfl, hx1⟩, e5⟩ := y_st1 e4
      obtain ⟨_, sv6, rfl, ⟨a, ha, rfl⟩, e6⟩ := y_st1 e5
      obtain rfl : sv6 = [] := by
        cases sv6 with
        | nil => rfl
        | cons _ _ => exact e6.elim
      have hr : r = rg := by simpa using q4
      subst hr
      rw [hpc, rf_v he (k := 5) (by decide) hx5, rf_v he (k := 4) (by decide) hx4, rf_v he (k := 3) (by decide) hx3, rf_v he (k := 2) (by decide) hx2, rf_v he (k := 1) (by decide) hx1]
      exact kk ls1 ws1 H1 locs1 a (rl_of (ws0 := ws) hloc ⟨sf f1, hGo, sw, sad⟩ sP sD sS) (fun r k => sfr r k rfl) (by rw [sad]; exact ha)
    next => cases q4
  next => cases hc
end RLX
