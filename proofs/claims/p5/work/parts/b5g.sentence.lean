/-! ===== the law's sentence ===== -/
section RLG
variable {p : Program} {l : Launch} {e : Env} {s : State} {m : MethodId} {below : List Frame} {meth : Method} {c : Code} {b L : Nat} {xs : Nat → Int32} {kc : Nat → ClassId} {D : va_G} {EX : (Nat → Prop) → State → Heap → Prop}
set_option maxHeartbeats 4000000 in
theorem rl_c36 (h : hl_C EX p s m meth c b L xs kc D) {i nc ns : Nat} (hnc : nc ≤ 601024) (hns : ns ≤ 7293034) (kk : ∀ ls ws H locs, rl_S s b kc D xs i ls ws H locs → hl_W p l e s m below meth c b H locs nc ns (F0 m 1347 ls [])) : ∀ ls ws H locs, rl_S0 s b kc D xs i ls ws H locs → hl_W p l e s m below meth c b H locs nc ns (F0 m 1234 ls []) := by
  intro ls ws H locs ⟨hS, hRel, hBy, hRn, _⟩
  obtain ⟨hx, hb, hr, hml, hown, hts, hX, hbl, hlocks, hgv⟩ := id h.1
  have hE := h.2.2.2.1
  obtain ⟨v1, v2, v3, x4, hl, hx4, ⟨a1, ha1, rfl⟩, ⟨a2, ha2, rfl⟩, b3⟩ := hl_unl hS
  obtain ⟨hloc, _, hk, hf, hG, hwV, hfr, had, hP, hD, hSS⟩ := hS
  have hU : xy_UV b kc (z_ad b ws) ws := ⟨hf rfl, y_Go_of hG, hwV, rfl⟩
  obtain ⟨n, n1, n2, n3, n4, n5, n6⟩ := rl_n2 hwV hRel
  have hLw : ∀ r k, kv_t r k = true → x_ofl ws x_0 r k = kv_v kc r k := fun r k ht => kv_ofl hwV ht
  obtain ⟨⟨_, b0, b1, b2⟩, Sn, Mn, Cn, hc1, hr1⟩ := (rn_fr hRn (fun _ _ _ => rfl) hLw).1
  have hsc : sc_nm Mn Cn (x_of ws x_0) (x_ofl ws x_0) := n3_sc hc1
  refine lv_aload_n (k := 1) (i := 1) (x := a1) hx hb (show decode code 1234 = .ok (.aload_n 1, 1) by decide +kernel) rfl (hl.2.2 (1, .ref a1) (by simp)) ?_
  refine xy_callW (pc := 1235) (av := []) (svr := []) (za := []) (j := 150) (r := 0) (K := yk_232) (hl_ctx h hnc hns) yo_law hE rfl (show y_T yTY 0 = some _ from rfl) hU (show yP0 150 = some ym_X11_sentence from rfl) (by decide) rfl ha1 (by decide) hl hP hD hSS (y_consV hE (j := 150) (show yk_232 ∈ y_cget yCTabV 150 from List.mem_cons_self)) rfl (by decide) rfl rfl (Or.inr (by decide +kernel)) ⟨⟨a1, ha1, rfl⟩, trivial⟩ (xk_sen hE) (by decide) trivial ⟨rfl, ⟨by rw [n5]; exact n3, by rw [n5]; exact n4⟩, Mn, Cn, hsc⟩ (fun x u H1 locs1 ho hUu hfru hx9 hP1 hD1 hS1 => ?_)
  obtain ⟨I', L', ⟨hz0, hans⟩, htr, _⟩ := hx9
  obtain ⟨r, hmr, _, hfl⟩ := hans Mn Cn hsc
  have hwu : y_w kc (z_ad b ws) yTYV u := hUu.2.2.1
  obtain ⟨z1, z2, _⟩ := y_ty_ok (r := 1) (k := 2) hwu (q := (0, 940)) (by decide +kernel)
  have z3 : z1.toInt = 0 := (htr 1 2 z1 (by decide +kernel) z2).trans hz0
  have hUu' : xy_UV b kc (z_ad b u) u := by rw [hUu.2.2.2]; exact hUu
  have e3 : x_of u x_0 209 2 = n.toInt := by
    rw [← n6]
    unfold x_of
    rw [hfru 209 2 (by decide +kernel)]
  have e4 : ∀ j, r_b (x_of u x_0) j = x_of ws x_0 2 j := fun j => by
    rw [hBy j]
    unfold r_b x_of
    rw [hfru 210 j (xy_noreg (by decide +kernel) j)]
  have hrm : rm_nm Mn Cn (x_of u x_0) (x_ofl u x_0) := by
    refine n3_rm (S := Sn) (n3_r_eq hr1 (fun i hi => ?_) ⟨b0, b1, b2⟩ (fun k hk => ?_))
    · have hr3 : rn_B 211 i = true := (rn_3 hi).1
      show x_of u x_0 211 i = x_of ws x_0 211 (0 + i)
      rw [Nat.zero_add]
      unfold x_of
      rw [hfru 211 i (rn_no_ok (by decide +kernel) hr3)]
    · have ht := (rt_22 hk).2.2.2.1
      show x_ofl u x_0 214 k = x_ofl ws x_0 214 (0 + k)
      rw [hLw 214 (0 + k) ht]
      rw [Nat.zero_add] at ht ⊢
      exact kv_ofl hwu ht
  have ha2' : z_ad b u 210 = some a2 := by rw [hUu.2.2.2]; exact ha2
  refine lv_pop hx hb (show decode code 1238 = .ok (.pop, 1) by decide +kernel) rfl ?_
  refine lv_aload_n (k := 2) (i := 2) (x := a2) hx hb (show decode code 1239 = .ok (.aload_n 2, 1) by decide +kernel) rfl (hl.2.2 (2, .ref a2) (by simp)) ?_
  refine xy_callW (pc := 1240) (av := []) (svr := []) (za := []) (j := 269) (r := 209) (K := ht_Ks) (hl_ctx h hnc hns) yo_law hE rfl (show y_T yTY 209 = some _ from rfl) hUu' (show yP0 269 = some ym_X12_sentence from rfl) (by decide) rfl ha2' (by decide) hl hP1 hD1 hS1 (w_R_convV (ht_sok hE)) rfl (by decide) rfl rfl (Or.inl (fun o ho => by have := List.mem_singleton.mp ho; subst this; rfl)) ⟨⟨a2, ha2', rfl⟩, trivial⟩ (xk_rsn hE) (by decide) trivial ⟨rfl, ⟨by rw [e3]; exact n3, by rw [e3]; exact n4⟩, Mn, Cn, hrm⟩ (fun y v H2 locs2 ho hUv hfrv hy9 hP2 hD2 hS2 => ?_)
  obtain ⟨o, ho1, ho2⟩ := ho
  have := List.mem_singleton.mp ho1
  subst this
  obtain ⟨w1, w2, w3, w4, _⟩ := ho2 _ List.mem_cons_self
  dsimp only at w2
  have w3 : (0 : Int) ≤ w1.toInt := w3
  have w4 : w1.toInt ≤ (0 : Int) := w4
  obtain ⟨J', M', hans2, htr2, _⟩ := hy9
  obtain ⟨r2, hmr2, _, hfl2⟩ := hans2 Mn Cn hrm
  rw [show r_b (x_of u x_0) = x_of ws x_0 2 from funext e4, e3, ← n5] at hmr2
  have hrr : r = r2 := m_text_det hmr hmr2
  refine lv_pop hx hb (show decode code 1243 = .ok (.pop, 1) by decide +kernel) rfl ?_
  refine lv_goto (tgt := 1347) hx hb (show decode code 1244 = .ok (.goto 103, 3) by decide +kernel) (by decide) ?_
  have hUv2 : xy_UV b kc (z_ad b ws) v := by rw [← hUu.2.2.2]; exact hUv
  have hFv : rf_R v := by
    have f1 : x_of v x_0 0 10 = I' 0 10 := by
      have h9 : x_of v x_0 0 10 = x_of u x_0 0 10 := by
        unfold x_of
        rw [hfrv 0 10 (by decide +kernel)]
      exact h9.trans (rf_tr (kv_W hwu) htr rq_fc.1)
    have f2 : x_of v x_0 209 15 = J' 209 15 := rf_tr (kv_W hUv2.2.2.1) htr2 rq_fc.2
    show x_of v x_0 0 10 = x_of v x_0 209 15
    rw [f1, f2, hfl, hfl2, hrr]
  refine kk ls v H2 locs2 ⟨kc, fun _ _ => rfl, rl_of (ws0 := ws) hloc hUv2 hP2 hD2 hS2, ?_, ?_, ?_, hFv⟩
  · intro q hq
    have := List.mem_singleton.mp hq
    subst this
    refine ⟨w1, ?_, w2⟩
    show y_at v 1 2 = _
    rw [hfrv 1 2 (by decide +kernel), z2]
    exact congrArg some (y_i32 (by omega))
  · refine rb_same (fun j => ?_) (fun j => ?_) hBy
    · exact (hfrv 2 j (xy_noreg (by decide +kernel) j)).trans (hfru 2 j (xy_noreg (by decide +kernel) j))
    · exact (hfrv 210 j (xy_noreg (by decide +kernel) j)).trans (hfru 210 j (xy_noreg (by decide +kernel) j))
  · exact rn_same (fun r k hr => (hfrv r k (rn_no_ok (by decide +kernel) hr)).trans (hfru r k (rn_no_ok (by decide +kernel) hr))) hRn
end RLG
