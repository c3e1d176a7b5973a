/-! ===== the law's hooks, and the row's own call ===== -/
/-- hooks() on both sides -/
theorem rc_hk {I I1 J J1 Z : xF} {L L1 M M1 : xF} {x y : Int} {zc zr : List xV} (hI : rc_I I) (hb : ∀ j, I 2 j = r_b I j) (hn : I 1 2 = I 209 2) (hB2 : I 4 2 ≤ 8) (h1 : xo_hk zc I L (some (.inl x)) I1 L1) (h2 : xo_hkm zr J M (some (.inl y)) J1 M1) (eJ : ∀ r k, r = 209 ∨ r = 210 ∨ r = 211 → J r k = I r k) (k1 : ∀ r k, r = 141 → rc_B r k = true → Z r k = I1 r k) (k2 : ∀ r k, r = 209 → rc_B r k = true → Z r k = J1 r k) (e : ∀ r k, rc_B r k = true → r ≠ 141 → r ≠ 209 → Z r k = I r k) : x = y ∧ rc_I Z := by
  obtain ⟨u1, u2, u3, u4, u5⟩ := rc_tl
  obtain ⟨⟨g0, g1⟩, g2, g3, g4, ⟨g5, g6⟩⟩ := id hI
  obtain ⟨_, x9, hx9, o1⟩ := h1
  cases hx9
  obtain ⟨y9, hy9, o2⟩ := h2
  cases hy9
  have e211 : ∀ k, J 211 k = I 211 k := fun k => eJ 211 k (by omega)
  have e209 : ∀ k, J 209 k = I 209 k := fun k => eJ 209 k (by omega)
  have q0 : I 4 0 = I 211 0 := g0 0 (by decide)
  have q1 : I 4 1 = I 211 1 := g0 1 (by decide)
  have q2 : I 4 2 = I 211 2 := g0 2 (by decide)
  have erb : r_b J = I 2 := funext (fun j => by
    rw [hb j]
    unfold r_b
    rw [eJ 210 j (by omega)])
  rw [erb, e209 2, ← hn, e211 0, e211 1, e211 2, ← q0, ← q1, ← q2, e209 31, e209 29, e209 30, ← g5, ← g6] at o2
  obtain ⟨r1, r2, r3⟩ := h_out_eq (fun c hc => by
    unfold xh_om
    rw [e211]
    exact (g1 c (by omega) hc).1) o1 o2
  refine ⟨r1, rc_up hI (fun r k hr _ _ _ n4 n5 => e r k hr n4 n5) (rc_H_eq hI.1 (fun k hk => e _ _ (rc_8 hk).1.1 (by decide) (by decide)) (fun k hk => e _ _ (rc_8 hk).2.1 (by decide) (by decide)) (fun k hk => e _ _ (rc_22 hk).1 (by decide) (by decide))) ⟨?_, ?_⟩⟩
  · rw [k1 _ _ rfl u1, k2 _ _ rfl u5, k2 _ _ rfl u3]
    exact r2
  · rw [k1 _ _ rfl u2, k2 _ _ rfl u5, k2 _ _ rfl u4]
    exact r3
section RLH
variable {p : Program} {l : Launch} {e : Env} {s : State} {m : MethodId} {below : List Frame} {meth : Method} {c : Code} {b L : Nat} {xs : Nat → Int32} {kc : Nat → ClassId} {D : va_G} {EX : (Nat → Prop) → State → Heap → Prop}
theorem rl_bd {kc : Nat → ClassId} {ad : Nat → Option Nat} {ws : va_W} (hw : y_w kc ad yTY ws) : (0 ≤ x_of ws x_0 4 0 ∧ x_of ws x_0 4 0 ≤ 8) ∧ (0 ≤ x_of ws x_0 4 1 ∧ x_of ws x_0 4 1 ≤ 6) ∧ (0 ≤ x_of ws x_0 4 2 ∧ x_of ws x_0 4 2 ≤ 8) := by
  obtain ⟨x, x1, x2, x3⟩ := y_ty_ok (r := 4) (k := 0) hw (q := (0, 8)) (by decide +kernel)
  obtain ⟨y, y1, y2, y3⟩ := y_ty_ok (r := 4) (k := 1) hw (q := (0, 6)) (by decide +kernel)
  obtain ⟨z, z1, z2, z3⟩ := y_ty_ok (r := 4) (k := 2) hw (q := (0, 8)) (by decide +kernel)
  unfold x_of
  rw [x1, y1, z1]
  exact ⟨⟨x2, x3⟩, ⟨y2, y3⟩, ⟨z2, z3⟩⟩
set_option maxHeartbeats 4000000 in
theorem rl_c27 (h : hl_C EX p s m meth c b L xs kc D) (hL : L ≤ 3072) {i nc ns : Nat} (hi : i + 6 ≤ L) (hnc : nc ≤ 601024) (hns : ns ≤ 7293034) (kk : ∀ ls ws H locs, rl_S s b kc D xs i ls ws H locs → hl_W p l e s m below meth c b H locs nc ns (F0 m 1347 ls [])) : ∀ ls ws H locs, rl_S s b kc D xs i ls ws H locs → hl_W p l e s m below meth c b H locs nc ns (F0 m 1033 ls []) := by
  intro ls ws H locs ⟨hS, hRel, hBy, hRc⟩
  obtain ⟨hx, hb, hr, hml, hown, hts, hX, hbl, hlocks, hgv⟩ := id h.1
  have hE := h.2.2.2.1
  obtain ⟨v1, v2, v3, x4, hl, hx4, ⟨a1, ha1, rfl⟩, ⟨a2, ha2, rfl⟩, b3⟩ := hl_unl hS
  obtain ⟨hloc, _, hk, hf, hG, hw, hfr, had, hP, hD, hSS⟩ := hS
  have hU : xy_U b kc (z_ad b ws) ws := ⟨hf rfl, y_Go_of hG, hw, rfl⟩
  refine lv_aload_n (k := 1) (i := 1) (x := a1) hx hb (show decode code 1033 = .ok (.aload_n 1, 1) by decide +kernel) rfl (hl.2.2 (1, .ref a1) (by simp)) ?_
  obtain ⟨n, n1, n2, n3, n4, n5, n6⟩ := rl_n2 hw hRel
  obtain ⟨d0, d1, d2⟩ := rl_bd hw
  obtain ⟨⟨g0, g1⟩, _⟩ := id (show rc_I (x_of ws x_0) from hRc)
  refine xy_call (pc := 1034) (av := []) (svr := []) (za := []) (j := 141) (r := 0) (K := yk_223) (hl_ctx h hnc hns) yo_law hE rfl (show y_T yTY 0 = some _ from rfl) hU (show yP0 141 = some ym_X11_hooks from rfl) (by decide) rfl ha1 (by decide) hl hP hD hSS (y_cons hE (j := 141) (show yk_223 ∈ y_cget yCTab 141 from List.mem_cons_self)) rfl (by decide) rfl rfl (Or.inr (by decide +kernel)) ⟨⟨a1, ha1, rfl⟩, trivial⟩ (xk_hk hE) (by decide) trivial ⟨rfl, ⟨by rw [n5]; exact n3, by rw [n5]; exact n4⟩, d1, d2, fun c hc => (g1 c (by omega) hc).2⟩ (fun x u H1 locs1 ho hUu hfru hx9 hP1 hD1 hS1 => ?_)
  obtain ⟨I', L', hpo, htr⟩ := hx9
  have hwu : y_w kc (z_ad b ws) yTY u := hUu.2.2.1
  obtain ⟨z1, z2, _, _⟩ := y_ty_ok (r := 1) (k := 2) hwu (q := (0, 940)) (by decide +kernel)
  have z3 : z1.toInt = 0 := (htr 1 2 z1 (by decide +kernel) z2).trans hpo.1
  have eJ : ∀ r k, r = 209 ∨ r = 210 ∨ r = 211 → x_of u x_0 r k = x_of ws x_0 r k := fun r k hr9 => by
    unfold x_of
    rw [hfru r k (y_in_no (fun q hq h1 _ => by
      have h9 : ∀ q ∈ yk_223.2.2.2.2.1, q.1 < 209 := by decide
      have := h9 q hq
      omega))]
  have e209 : x_of u x_0 209 2 = n.toInt := (eJ 209 2 (by omega)).trans n6
  have q0 : x_of u x_0 211 0 = x_of ws x_0 4 0 := (eJ 211 0 (by omega)).trans (g0 0 (by decide)).symm
  have q1 : x_of u x_0 211 1 = x_of ws x_0 4 1 := (eJ 211 1 (by omega)).trans (g0 1 (by decide)).symm
  have q2 : x_of u x_0 211 2 = x_of ws x_0 4 2 := (eJ 211 2 (by omega)).trans (g0 2 (by decide)).symm
  have hUu' : xy_U b kc (z_ad b u) u := by rw [hUu.2.2.2]; exact hUu
  have ha2' : z_ad b u 210 = some a2 := by rw [hUu.2.2.2]; exact ha2
  refine lv_pop hx hb (show decode code 1037 = .ok (.pop, 1) by decide +kernel) rfl ?_
  refine lv_aload_n (k := 2) (i := 2) (x := a2) hx hb (show decode code 1038 = .ok (.aload_n 2, 1) by decide +kernel) rfl (hl.2.2 (2, .ref a2) (by simp)) ?_
  refine xy_call (pc := 1039) (av := []) (svr := []) (za := []) (j := 249) (r := 209) (K := hw_K) (hl_ctx h hnc hns) yo_law hE rfl (show y_T yTY 209 = some _ from rfl) hUu' (show yP0 249 = some ym_X12_hooks from rfl) (by decide) rfl ha2' (by decide) hl hP1 hD1 hS1 (hw_ok hE) rfl (by decide) rfl rfl (Or.inr (by decide +kernel)) ⟨⟨a2, ha2', rfl⟩, trivial⟩ (xk_hkm hE) (by decide) trivial ⟨rfl, by rw [e209]; exact ⟨n3, n4⟩, by rw [q0]; exact d0, by rw [q1]; exact d1, by rw [q2]; exact d2, fun c hc => by
    rw [q2] at hc
    obtain ⟨f1, f2, f3⟩ := g1 c (by omega) hc
    rw [eJ 211 (22 + c) (by omega), q1, ← f1]
    exact ⟨f2, f3⟩⟩ (fun y v H2 locs2 ho hUv hfrv hy9 hP2 hD2 hS2 => ?_)
  obtain ⟨J', M', hpo2, htr2⟩ := hy9
  have hUv2 : xy_U b kc (z_ad b ws) v := by rw [← hUu.2.2.2]; exact hUv
  have hwv : y_w kc (z_ad b ws) yTY v := hUv2.2.2.1
  have hw2 : ∃ w1 : Int32, y_at v 209 2 = some w1 ∧ w1.toInt = 0 := by
    obtain ⟨o, ho1, ho2⟩ := ho
    rcases List.mem_cons.mp ho1 with rfl | ho1
    · obtain ⟨w1, w2, w3, w4, _⟩ := ho2 _ List.mem_cons_self
      exact ⟨w1, w2, Int.le_antisymm w4 w3⟩
    rcases List.mem_cons.mp ho1 with rfl | ho1
    · obtain ⟨w1, w2, w3, w4, _⟩ := ho2 _ (List.mem_cons_of_mem _ List.mem_cons_self)
      exact ⟨w1, w2, Int.le_antisymm w4 w3⟩
    · have := List.mem_singleton.mp ho1
      subst this
      obtain ⟨w1, w2, w3, w4, _⟩ := ho2 _ List.mem_cons_self
      exact ⟨w1, w2, Int.le_antisymm w4 w3⟩
  obtain ⟨w1, w2, w3⟩ := hw2
  obtain ⟨hxy0, hRcv⟩ := rc_hk (Z := x_of v x_0) hRc (fun j => hBy j) (n5.trans n6.symm) d2.2 hpo hpo2 eJ (fun r k hr9 hr => by
    subst hr9
    refine Eq.trans ?_ (rc_tr hwu htr hr)
    unfold x_of
    rw [hfrv 141 k (xy_noreg (by decide) k)]) (fun r k _ hr => rc_tr hwv htr2 hr) (fun r k hr n1 n2 => by
    unfold x_of
    rw [hfrv r k (rc_nox_ok (X := [209]) (by decide +kernel) hr (by simp [n2])), hfru r k (rc_nox_ok (X := [141]) (by decide +kernel) hr (by simp [n1]))])
  refine lv_pop hx hb (show decode code 1042 = .ok (.pop, 1) by decide +kernel) rfl ?_
  refine lv_goto (tgt := 1347) hx hb (show decode code 1043 = .ok (.goto 304, 3) by decide +kernel) (by decide) ?_
  refine kk ls v H2 locs2 ⟨rl_of (ws0 := ws) hloc hUv2 hP2 hD2 hS2, ?_, ?_, hRcv⟩
  · intro q hq
    have := List.mem_singleton.mp hq
    subst this
    refine ⟨w1, ?_, w2⟩
    show y_at v 1 2 = _
    rw [hfrv 1 2 (by decide +kernel), z2]
    exact congrArg some (y_i32 (by omega))
  · refine rb_same (fun j => ?_) (fun j => ?_) hBy
    · exact (hfrv 2 j (xy_noreg (by decide +kernel) j)).trans (hfru 2 j (xy_noreg (by decide +kernel) j))
    · exact (hfrv 210 j (xy_noreg (by decide +kernel) j)).trans (hfru 210 j (xy_noreg (by decide +kernel) j))
set_option maxHeartbeats 4000000 in
theorem rl_c29 (h : hl_C EX p s m meth c b L xs kc D) (hL : L ≤ 3072) {i nc ns : Nat} (hi : i + 6 ≤ L) (hnc : nc ≤ 601024) (hns : ns ≤ 7293034) (kk : ∀ ls ws H locs, rl_S s b kc D xs i ls ws H locs → hl_W p l e s m below meth c b H locs nc ns (F0 m 1347 ls [])) : ∀ ls ws H locs, rl_S s b kc D xs i ls ws H locs → hl_W p l e s m below meth c b H locs nc ns (F0 m 1059 ls []) := by
  intro ls ws H locs ⟨hS, hRel, hBy, hRc⟩
  obtain ⟨hx, hb, hr, hml, hown, hts, hX, hbl, hlocks, hgv⟩ := id h.1
  have hE := h.2.2.2.1
  obtain ⟨v1, v2, v3, x4, hl, hx4, ⟨a1, ha1, rfl⟩, ⟨a2, ha2, rfl⟩, b3⟩ := hl_unl hS
  obtain ⟨hloc, _, hk, hf, hG, hw, hfr, had, hP, hD, hSS⟩ := hS
  have hU : xy_U b kc (z_ad b ws) ws := ⟨hf rfl, y_Go_of hG, hw, rfl⟩
  refine lv_aload_n (k := 1) (i := 1) (x := a1) hx hb (show decode code 1059 = .ok (.aload_n 1, 1) by decide +kernel) rfl (hl.2.2 (1, .ref a1) (by simp)) ?_
  have hT : rc_T (x_of ws x_0) := (show rc_I (x_of ws x_0) from hRc).2.2.2.2
  refine xy_call (pc := 1060) (av := []) (svr := []) (za := []) (j := 143) (r := 0) (K := yk_225) (hl_ctx h hnc hns) yo_law hE rfl (show y_T yTY 0 = some _ from rfl) hU (show yP0 143 = some ym_X11_never from rfl) (by decide) rfl ha1 (by decide) hl hP hD hSS (y_cons hE (j := 143) (show yk_225 ∈ y_cget yCTab 143 from List.mem_cons_self)) rfl (by decide) rfl rfl (Or.inr (by decide +kernel)) ⟨⟨a1, ha1, rfl⟩, trivial⟩ (xk_ne hE) (by decide) trivial rfl (fun x u H1 locs1 ho hUu hfru hx9 hP1 hD1 hS1 => ?_)
  obtain ⟨I', L', ⟨_, _, hans⟩, htr⟩ := hx9
  have hans := Sum.inl.inj (Option.some.inj hans)
  have hsu : ∀ r k, y_at u r k = y_at ws r k := fun r k => hfru r k rfl
  have hxu : x_of u x_0 = x_of ws x_0 := funext (fun r => funext (fun k => by
    unfold x_of
    rw [hsu]))
  have hUu' : xy_U b kc (z_ad b u) u := by rw [hUu.2.2.2]; exact hUu
  have ha2' : z_ad b u 210 = some a2 := by rw [hUu.2.2.2]; exact ha2
  refine lv_aload_n (k := 2) (i := 2) (x := a2) hx hb (show decode code 1063 = .ok (.aload_n 2, 1) by decide +kernel) rfl (hl.2.2 (2, .ref a2) (by simp)) ?_
  refine xy_call (pc := 1064) (av := []) (svr := [.int x]) (za := []) (j := 251) (r := 209) (K := yk_336) (hl_ctx h hnc hns) yo_law hE rfl (show y_T yTY 209 = some _ from rfl) hUu' (show yP0 251 = some ym_X12_never from rfl) (by decide) rfl ha2' (show (1 + 0 : Nat) ≤ 8 by decide) hl hP1 hD1 hS1 (y_cons hE (j := 251) (show yk_336 ∈ y_cget yCTab 251 from List.mem_cons_self)) rfl (by decide) rfl rfl (Or.inr (by decide +kernel)) ⟨⟨a2, ha2', rfl⟩, trivial⟩ (xk_nem hE) (by decide) trivial rfl (fun y v H2 locs2 ho hUv hfrv hy9 hP2 hD2 hS2 => ?_)
  obtain ⟨J', M', ⟨_, _, hans2⟩, htr2⟩ := hy9
  have hans2 := Sum.inl.inj (Option.some.inj hans2)
  have hUv2 : xy_U b kc (z_ad b ws) v := by rw [← hUu.2.2.2]; exact hUv
  have hxy : x = y := y_i32 (by
    rw [hans, hans2, hxu]
    exact hT.2)
  refine lv_icmp_eq (off := 280) (tgt := 1347) hx hb (show decode code 1067 = .ok (.if_icmp .eq 280, 3) by decide +kernel) (by decide) (fun _ => ?_) (fun hne => absurd hxy hne)
  exact kk ls v H2 locs2 ⟨rl_of (ws0 := ws) hloc hUv2 hP2 hD2 hS2, rg_relf hfrv rfl rfl (rg_rel hsu hRel), rg_by hfrv (by decide) (by decide) (rb_same (fun j => hsu 2 j) (fun j => hsu 210 j) hBy), rc_same (fun r k hr => (hfrv r k (rc_no_ok (by decide +kernel) hr)).trans (hsu r k)) hRc⟩
end RLH
