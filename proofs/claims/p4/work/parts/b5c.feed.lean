/-! ===== the law's feed and capital, exactly ===== -/
section RLX
variable {p : Program} {l : Launch} {e : Env} {s : State} {m : MethodId} {below : List Frame} {meth : Method} {c : Code} {b L : Nat} {xs : Nat → Int32} {kc : Nat → ClassId} {D : va_G} {EX : (Nat → Prop) → State → Heap → Prop}
theorem rl_n2 {kc : Nat → ClassId} {ad : Nat → Option Nat} {ws : va_W} (hw : y_w kc ad yTY ws) (hRel : rl_R rl_L ws) : ∃ n : Int32, y_at ws 1 2 = some n ∧ y_at ws 209 2 = some n ∧ 0 ≤ n.toInt ∧ n.toInt ≤ 940 ∧ x_of ws x_0 1 2 = n.toInt ∧ x_of ws x_0 209 2 = n.toInt := by
  obtain ⟨t, f1, f2, f3⟩ := y_ty_ok (r := 209) (k := 2) hw (q := (0, 940)) (by decide +kernel)
  obtain ⟨x, y1, y2⟩ := hRel _ List.mem_cons_self
  dsimp only at y1 y2 f2 f3
  rw [f1] at y2
  cases y2
  refine ⟨t, y1, f1, f2, f3, ?_, ?_⟩
  · unfold x_of
    rw [y1]
  · unfold x_of
    rw [f1]
theorem rl_of {ws0 ws : va_W} {i : Nat} {ls : Array Slot} {H : Heap} {locs : List Loc} (hl : y_l (hl_env i xs) (z_ad b ws0) 7 hl_zl ls) (hU : xy_U b kc (z_ad b ws0) ws) (hP : va_P D vwCl ws H) (hD : va_D (zA0 s) ws) (hS : va_S (zA0 s) s.heap H locs) : hl_S s b kc D xs i ls ws H locs := by
  obtain ⟨u1, u2, u3, u4⟩ := hU
  rw [← u4] at hl u3
  exact ⟨hl, trivial, (fun _ h => by cases h), (fun _ => u1), y_Go_to u2, u3, y_fr_refl, rfl, hP, hD, hS⟩
set_option maxHeartbeats 4000000 in
theorem rl_c2 (h : hl_C EX p s m meth c b L xs kc D) (hL : L ≤ 3072) {i nc ns : Nat} (hi : i + 6 ≤ L) (hnc : nc ≤ 601024) (hns : ns ≤ 7293034) (kk : ∀ ls ws H locs, rl_S s b kc D xs i ls ws H locs → hl_W p l e s m below meth c b H locs nc ns (F0 m 1347 ls [])) : ∀ ls ws H locs, rl_S s b kc D xs i ls ws H locs → hl_W p l e s m below meth c b H locs nc ns (F0 m 318 ls []) := by
  intro ls ws H locs ⟨hS, hRel, hBy⟩
  obtain ⟨hx, hb, hr, hml, hown, hts, hX, hbl, hlocks, hgv⟩ := id h.1
  have hE := h.2.2.2.1
  obtain ⟨v1, v2, v3, x4, hl, hx4, ⟨a1, ha1, rfl⟩, ⟨a2, ha2, rfl⟩, b3⟩ := hl_unl hS
  obtain ⟨hloc, _, hk, hf, hG, hw, hfr, had, hP, hD, hSS⟩ := hS
  have hU : xy_U b kc (z_ad b ws) ws := ⟨hf rfl, y_Go_of hG, hw, rfl⟩
  obtain ⟨n, n1, n2, n3, n4, n5, n6⟩ := rl_n2 hw hRel
  refine lv_aload_n (k := 1) (i := 1) (x := a1) hx hb (show decode code 318 = .ok (.aload_n 1, 1) by decide +kernel) rfl (hl.2.2 (1, .ref a1) (by simp)) ?_
  refine xy_call (pc := 319) (av := []) (svr := []) (za := []) (j := 116) (r := 0) (K := yk_200) (hl_ctx h hnc hns) yo_law hE (show y_find ym_law.2.2.2.2.1 319 = some (.invokevirtual 32, [1, 116, 11]) from rfl) (show y_T yTY 0 = some _ from rfl) hU (show yP0 116 = some ym_X11_capital from rfl) (by decide) rfl ha1 (by decide) hl hP hD hSS (y_cons hE (j := 116) (show yk_200 ∈ y_cget yCTab 116 from List.mem_cons_self)) rfl (by decide) rfl rfl (Or.inr (by decide +kernel)) ⟨⟨a1, ha1, rfl⟩, trivial⟩ (xk_cc hE) (by decide) trivial ⟨rfl, by rw [n5]; exact n3, by rw [n5]; exact n4⟩ (fun x u H1 locs1 ho hUu hfru hx9 hP1 hD1 hS1 => ?_)
  obtain ⟨o, ho1, ho2⟩ := ho
  have := List.mem_singleton.mp ho1
  subst this
  obtain ⟨z1, z2, z3, z4, _⟩ := ho2 _ List.mem_cons_self
  dsimp only at z2
  have z3 : (0 : Int) ≤ z1.toInt := z3
  have z4 : z1.toInt ≤ (0 : Int) := z4
  obtain ⟨I', L', ⟨hans, _⟩, _⟩ := hx9
  have hans : x.toInt = p_ans (p_text (x_of ws x_0 2) (x_of ws x_0 1 2)) := Sum.inl.inj (Option.some.inj hans)
  have hUu' : xy_U b kc (z_ad b u) u := by rw [hUu.2.2.2]; exact hUu
  have e3 : x_of u x_0 209 2 = n.toInt := by
    rw [← n6]
    unfold x_of
    rw [hfru 209 2 (by decide +kernel)]
  have e4 : ∀ j, r_b (x_of u x_0) j = x_of ws x_0 2 j := fun j => by
    rw [hBy j]
    unfold r_b x_of
    rw [hfru 210 j (xy_noreg (by decide +kernel) j)]
  have ha2' : z_ad b u 210 = some a2 := by rw [hUu.2.2.2]; exact ha2
  refine lv_aload_n (k := 2) (i := 2) (x := a2) hx hb (show decode code 322 = .ok (.aload_n 2, 1) by decide +kernel) rfl (hl.2.2 (2, .ref a2) (by simp)) ?_
  refine xy_call (pc := 323) (av := []) (svr := [.int x]) (za := []) (j := 190) (r := 209) (K := ht_K2) (hl_ctx h hnc hns) yo_law hE (show y_find ym_law.2.2.2.2.1 323 = some (.invokevirtual 36, [1, 190, 12]) from rfl) (show y_T yTY 209 = some _ from rfl) hUu' (show yP0 190 = some ym_X12_capital from rfl) (by decide) rfl ha2' (show (1 + 0 : Nat) ≤ 8 by decide) hl hP1 hD1 hS1 (ht_ok hE) rfl (by decide) rfl rfl (Or.inl (fun o ho => by have := List.mem_singleton.mp ho; subst this; rfl)) ⟨⟨a2, ha2', rfl⟩, trivial⟩ (xk_cap hE) (by decide) trivial ⟨rfl, by rw [e3]; exact n3, by rw [e3]; exact n4⟩ (fun y v H2 locs2 ho hUv hfrv hy9 hP2 hD2 hS2 => ?_)
  obtain ⟨o, ho1, ho2⟩ := ho
  have := List.mem_singleton.mp ho1
  subst this
  obtain ⟨w1, w2, w3, w4, _⟩ := ho2 _ List.mem_cons_self
  dsimp only at w2
  have w3 : (0 : Int) ≤ w1.toInt := w3
  have w4 : w1.toInt ≤ (0 : Int) := w4
  obtain ⟨J', M', hans2, _⟩ := hy9
  have hans2 : y.toInt = p_ans (p_text (r_b (x_of u x_0)) (x_of u x_0 209 2)) := Sum.inl.inj (Option.some.inj hans2)
  have hxy : x = y := y_i32 (by rw [hans, hans2, e3, n5, show r_b (x_of u x_0) = x_of ws x_0 2 from funext e4])
  refine lv_icmp_eq (off := 1021) (tgt := 1347) hx hb (show decode code 326 = .ok (.if_icmp .eq 1021, 3) by decide +kernel) (by decide) (fun _ => ?_) (fun hne => absurd hxy hne)
  have hUv2 : xy_U b kc (z_ad b ws) v := by rw [← hUu.2.2.2]; exact hUv
  refine kk ls v H2 locs2 ⟨rl_of (ws0 := ws) hloc hUv2 hP2 hD2 hS2, ?_, ?_⟩
  · intro q hq
    have := List.mem_singleton.mp hq
    subst this
    refine ⟨w1, ?_, w2⟩
    show y_at v 1 2 = _
    rw [hfrv 1 2 (by decide +kernel), z2]
    exact congrArg some (y_i32 (by omega))
  · refine rb_same (fun j => ?_) (fun j => ?_) hBy
    · exact (hfrv 2 j (xy_noreg (by decide +kernel) j)).trans (hfru 2 j (xy_noreg (by decide +kernel) j))
    · exact (hfrv 210 j (xy_noreg (by decide +kernel) j)).trans (hfru 210 j (xy_noreg (by decide +kernel) j))
/-- what feed() is given -/
def rf_c (p0 p1 rg : Nat) : Bool := match y_run yP0 yTY zTF ([] : yR) yRC yGR (y_ct rl_CT yTY yRC ([] : yR) 40) 100 true 40 ym_law (fun pc _ _ => pc == p1) true hl_B p0 hl_z with
  | some es => es.all (fun q => q.2.1 == p1 && (hl_lc q.2.2.1 && (hm_fl q && (match q.2.2.2.1 with
    | [.inl (.inr (6, 0)), .inl (.inr (5, 0)), .inl (.inr (4, 0)), .inl (.inr (3, 0)), .inl (.inr (2, 0)), .inr (.inl (some r))] => r == rg
    | _ => false))))
  | none => false
theorem rf_1 : rf_c 220 251 1 = true := by decide +kernel
theorem rf_2 : rf_c 255 286 210 = true := by decide +kernel
theorem rf_v {i k : Nat} {env : List Int} (he : hl_env i xs <+: env) (hk : k ≤ 5) {x : Int32} (h : y_e env (.inr (k + 1, 0)) = some x.toInt) : x = xs (i + k) := by
  have h1 := y_pre_get he (hl_x (xs := xs) (i := i) hk)
  unfold y_e at h
  dsimp only at h
  rw [h1] at h
  have h2 : (xs (i + k)).toInt + 0 = x.toInt := Option.some.inj h
  exact y_i32 (by omega)
def rf_st (i a : Nat) (xs : Nat → Int32) : List Value := [.int (xs (i + 5)), .int (xs (i + 4)), .int (xs (i + 3)), .int (xs (i + 2)), .int (xs (i + 1)), .ref a]
set_option maxHeartbeats 4000000 in
theorem rf_run (h : hl_C EX p s m meth c b L xs kc D) (hL : L ≤ 3072) {p0 p1 rg : Nat} (hc : rf_c p0 p1 rg = true) {i nc ns : Nat} (hi : i + 6 ≤ L) (hnc : nc ≤ 601024) (hns : ns ≤ 7293034) {ls : Array Slot} {ws : va_W} {H : Heap} {locs : List Loc} (hS : hl_S s b kc D xs i ls ws H locs)
    (kk : ∀ ls1 ws1 H1 locs1 a, hl_S s b kc D xs i ls1 ws1 H1 locs1 → (∀ r k, y_at ws1 r k = y_at ws r k) → z_ad b ws1 rg = some a → hl_W p l e s m below meth c b H1 locs1 nc ns (F0 m p1 ls1 (rf_st i a xs))) : hl_W p l e s m below meth c b H locs nc ns (F0 m p0 ls []) := by
  unfold rf_c at hc
  split at hc
  next es hes =>
    refine y_run_ok (l := l) (kc := kc) (D := D) (xb := b) (TY := yTY) (ad := z_ad b ws) (eff := ([] : yR)) (RC := yRC) (GR := yGR) (RI := w_R) h.2.2.2.1 w_R_RI y_prog (y_ct_ok (eff := ([] : yR)) (RC := yRC) w_R_RI (rl_all h.2.2.2.1)) 100 true 40 ym_law _ true hl_B p0 hl_z es hes yo_law p e room_1 s m _ below meth c _ (zA0 s) s.heap ws nc ns (hl_env i xs) (hl_ctx h hnc hns) (fun _ => rl_SC h hi hL) (hl_hB (by omega)) (fun q hq env he hB => ?_) ls [] ws H locs ⟨hS.1, hS.2.1, hS.2.2.1, hS.2.2.2.1, hS.2.2.2.2.1, hS.2.2.2.2.2.1, y_fr_refl, hS.2.2.2.2.2.2.2⟩
    intro ls1 sv ws1 H1 locs1 hS1
    have h9 := List.all_eq_true.mp hc q hq
    simp only [Bool.and_eq_true] at h9
    obtain ⟨q1, q2, q3, q4⟩ := h9
    unfold hm_fl at q3
    simp only [Bool.and_eq_true] at q3
    obtain ⟨f1, f2, f3⟩ := q3
    have hpc : q.2.1 = p1 := by simpa using q1
    obtain ⟨s1, s2, sk, sf, sG, sw, sfr, sad, sP, sD, sS⟩ := hS1
    have hGo : y_Go yGR ws1 := by
      rw [List.isEmpty_iff.mp f2, List.isEmpty_iff.mp f3] at sG
      exact y_Go_of sG
    have hloc := hl_loc q2 he s1
    split at q4
    next r hst4 =>
      rw [hst4] at s2
      obtain ⟨_, sv1, rfl, ⟨x5, rfl, hx5⟩, e1⟩ := y_st1 s2
      obtain ⟨_, sv2, rfl, ⟨x4, rfl, hx4⟩, e2⟩ := y_st1 e1
      obtain ⟨_, sv3, rfl, ⟨x3, rfl, hx3⟩, e3⟩ := y_st1 e2
      obtain ⟨_, sv4, rfl, ⟨x2, rfl, hx2⟩, e4⟩ := y_st1 e3
      obtain ⟨_, sv5, rfl, ⟨x1, rfl, hx1⟩, e5⟩ := y_st1 e4
      obtain ⟨_, sv6, rfl, ⟨a, ha, rfl⟩, e6⟩ := y_st1 e5
      obtain rfl : sv6 = [] := by
        cases sv6 with
        | nil => rfl
        | cons _ _ => exact e6.elim
      have hr : r = rg := by simpa using q4
      subst hr
      rw [hpc, rf_v he (k := 5) (by decide) hx5, rf_v he (k := 4) (by decide) hx4, rf_v he (k := 3) (by decide) hx3, rf_v he (k := 2) (by decide) hx2, rf_v he (k := 1) (by decide) hx1]
      exact kk ls1 ws1 H1 locs1 a (rl_of (ws0 := ws) hloc ⟨sf f1, hGo, sw, sad⟩ sP sD sS) (fun r k => sfr r k rfl) (by rw [sad]; exact ha)
    next => cases q4
  next => cases hc
end RLX
