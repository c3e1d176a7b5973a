/-! ===== the law's fault, the law's book ===== -/
section XF5
variable {EX : (Nat → Prop) → State → Heap → Prop} {l : Launch} {kc : Nat → ClassId} {D : va_G} {xb : Nat} {ad : Nat → Option Nat}
def xo_fC : xPost := fun _ I L rv I' L' => I' = I ∧ L' = L ∧ rv = some (.inl (I 0 10))
theorem xf_fC (hE : z_EX EX) : x_Ok EX l zTB zNT kc D vwCl xb yTY ad yP0 117 0 (fun za _ _ => za = [xR 1]) xo_fC := by
  refine x_meth (M := ym_X11_fault) hE y_prog 30 rfl (by decide) x_none_ok (fun za I L h => by subst h; exact (by decide : 1 ≤ 1)) (fun za I L h => ?_)
  subst h
  intro z (hz : z = I 0 10) _
  exact ⟨rfl, rfl, by rw [hz]⟩
def xo_fR : xPost := fun _ I L rv I' L' => I' = x_u I 209 0 0 ∧ L' = L ∧ rv = some (.inl (I 209 15))
theorem xf_fR (hE : z_EX EX) : x_Ok EX l zTB zNT kc D vwCl xb yTY ad yP0 191 0 (fun za _ _ => za = [xR 210]) xo_fR := by
  refine x_meth (M := ym_X12_fault) hE y_prog 30 rfl (by decide) x_none_ok (fun za I L h => by subst h; exact (by decide : 1 ≤ 1)) (fun za I L h => ?_)
  subst h
  refine And.intro (by decide) ?_
  intro z (hz : z = I 209 15) _
  exact ⟨rfl, rfl, by rw [hz]⟩
end XF5
section RLF
variable {p : Program} {l : Launch} {e : Env} {s : State} {m : MethodId} {below : List Frame} {meth : Method} {c : Code} {b L : Nat} {xs : Nat → Int32} {kc : Nat → ClassId} {D : va_G} {EX : (Nat → Prop) → State → Heap → Prop}
theorem rg_5 : rg_c 1184 1191 1 = true := by decide +kernel
theorem rg_6 : rg_c 1195 1202 210 = true := by decide +kernel
set_option maxHeartbeats 4000000 in
theorem rl_c3 (h : hl_C EX p s m meth c b L xs kc D) (hL : L ≤ 3072) {i nc ns : Nat} (hi : i + 6 ≤ L) (hnc : nc ≤ 601024) (hns : ns ≤ 7293034) (kk : ∀ ls ws H locs, rl_S s b kc D xs i ls ws H locs → hl_W p l e s m below meth c b H locs nc ns (F0 m 1347 ls [])) : ∀ ls ws H locs, rl_S0 s b kc D xs i ls ws H locs → hl_W p l e s m below meth c b H locs nc ns (F0 m 331 ls []) := by
  intro ls ws H locs ⟨hS, hRel, hBy, hRn, hFt⟩
  obtain ⟨hx, hb, hr, hml, hown, hts, hX, hbl, hlocks, hgv⟩ := id h.1
  have hE := h.2.2.2.1
  obtain ⟨v1, v2, v3, x4, hl, hx4, ⟨a1, ha1, rfl⟩, ⟨a2, ha2, rfl⟩, b3⟩ := hl_unl hS
  obtain ⟨hloc, _, hk, hf, hG, hwV, hfr, had, hP, hD, hSS⟩ := hS
  have hU : xy_UV b kc (z_ad b ws) ws := ⟨hf rfl, y_Go_of hG, hwV, rfl⟩
  refine lv_aload_n (k := 1) (i := 1) (x := a1) hx hb (show decode code 331 = .ok (.aload_n 1, 1) by decide +kernel) rfl (hl.2.2 (1, .ref a1) (by simp)) ?_
  refine xy_callW (pc := 332) (av := []) (svr := []) (za := []) (j := 117) (r := 0) (K := yk_201) (hl_ctx h hnc hns) yo_law hE rfl (show y_T yTY 0 = some _ from rfl) hU (show yP0 117 = some ym_X11_fault from rfl) (by decide) rfl ha1 (by decide) hl hP hD hSS (y_consV hE (j := 117) (show yk_201 ∈ y_cget yCTabV 117 from List.mem_cons_self)) rfl (by decide) rfl rfl (Or.inr (by decide +kernel)) ⟨⟨a1, ha1, rfl⟩, trivial⟩ (xf_fC hE) (by decide) trivial rfl (fun x u H1 locs1 ho hUu hfru hx9 hP1 hD1 hS1 => ?_)
  obtain ⟨I', L', ⟨_, _, hxv⟩, _, _⟩ := hx9
  have hxv : x.toInt = x_of ws x_0 0 10 := Sum.inl.inj (Option.some.inj hxv)
  have hUu' : xy_UV b kc (z_ad b u) u := by rw [hUu.2.2.2]; exact hUu
  have ha2' : z_ad b u 210 = some a2 := by rw [hUu.2.2.2]; exact ha2
  refine lv_aload_n (k := 2) (i := 2) (x := a2) hx hb (show decode code 335 = .ok (.aload_n 2, 1) by decide +kernel) rfl (hl.2.2 (2, .ref a2) (by simp)) ?_
  refine xy_callW (pc := 336) (av := []) (svr := [.int x]) (za := []) (j := 191) (r := 209) (K := yk_284) (hl_ctx h hnc hns) yo_law hE rfl (show y_T yTY 209 = some _ from rfl) hUu' (show yP0 191 = some ym_X12_fault from rfl) (by decide) rfl ha2' (show (1 + 0 : Nat) ≤ 8 by decide) hl hP1 hD1 hS1 (y_consV hE (j := 191) (show yk_284 ∈ y_cget yCTabV 191 from List.mem_cons_self)) rfl (by decide) rfl rfl (Or.inr (by decide +kernel)) ⟨⟨a2, ha2', rfl⟩, trivial⟩ (xf_fR hE) (by decide) trivial rfl (fun y v H2 locs2 ho2 hUv hfrv hy9 hP2 hD2 hS2 => ?_)
  obtain ⟨J', M', ⟨_, _, hyv⟩, _, _⟩ := hy9
  have hyv : y.toInt = x_of u x_0 209 15 := Sum.inl.inj (Option.some.inj hyv)
  have e15 : x_of u x_0 209 15 = x_of ws x_0 209 15 := by
    unfold x_of
    rw [hfru 209 15 (by decide +kernel)]
  have hxy : x = y := y_i32 (by rw [hxv, hyv, e15]; exact hFt)
  refine lv_icmp_eq (off := 1008) (tgt := 1347) hx hb (show decode code 339 = .ok (.if_icmp .eq 1008, 3) by decide +kernel) (by decide) (fun _ => ?_) (fun hne => absurd hxy hne)
  have hUv2 : xy_UV b kc (z_ad b ws) v := by rw [← hUu.2.2.2]; exact hUv
  refine kk ls v H2 locs2 ⟨kc, fun _ _ => rfl, rl_of (ws0 := ws) hloc hUv2 hP2 hD2 hS2, ?_, ?_, ?_, ?_⟩
  · exact rg_relf hfrv (by decide +kernel) (by decide +kernel) (rg_relf hfru (by decide +kernel) (by decide +kernel) hRel)
  · refine rb_same (fun j => ?_) (fun j => ?_) hBy
    · exact (hfrv 2 j (xy_noreg (by decide +kernel) j)).trans (hfru 2 j (xy_noreg (by decide +kernel) j))
    · exact (hfrv 210 j (xy_noreg (by decide +kernel) j)).trans (hfru 210 j (xy_noreg (by decide +kernel) j))
  · exact rn_same (fun r k hr => (hfrv r k (rn_no_ok (by decide +kernel) hr)).trans (hfru r k (rn_no_ok (by decide +kernel) hr))) hRn
  · exact rf_same ((hfrv 0 10 (by decide +kernel)).trans (hfru 0 10 (by decide +kernel))) ((hfrv 209 15 (by decide +kernel)).trans (hfru 209 15 (by decide +kernel))) hFt
set_option maxHeartbeats 8000000 in
theorem rl_c34 (h : hl_C EX p s m meth c b L xs kc D) (hL : L ≤ 3072) {i nc ns : Nat} (hi : i + 6 ≤ L) (hnc : nc ≤ 601024) (hns : ns ≤ 7293034) (kk : ∀ ls ws H locs, rl_S s b kc D xs i ls ws H locs → hl_W p l e s m below meth c b H locs nc ns (F0 m 1347 ls [])) : ∀ ls ws H locs, rl_S0 s b kc D xs i ls ws H locs → hl_W p l e s m below meth c b H locs nc ns (F0 m 1184 ls []) := by
  intro ls0 ws0 H0 locs0 ⟨hS0, hRel0, hBy0, hRn0, hFt0⟩
  obtain ⟨hx, hb, hr, hml, hown, hts, hX, hbl, hlocks, hgv⟩ := id h.1
  have hE := h.2.2.2.1
  refine rg_run h hL rg_5 hi hnc hns hS0 (fun ls ws H locs a1 hS hat ha1 => ?_)
  have hRel : rl_R rl_L ws := rg_rel hat hRel0
  have hRn : rn_R kc ws := rn_same (fun r k _ => hat r k) hRn0
  have hBy : rb_R ws := rb_same (fun j => hat 2 j) (fun j => hat 210 j) hBy0
  have hFt : rf_R ws := rf_same (hat 0 10) (hat 209 15) hFt0
  obtain ⟨⟨lvv, hlv, hz⟩, _, hk, hf, hG, hwV, hfr, had, hP, hD, hSS⟩ := id hS
  have hU : xy_UV b kc (z_ad b ws) ws := ⟨hf rfl, y_Go_of hG, hwV, rfl⟩
  obtain ⟨n, n1, n2, n3, n4, n5, n6⟩ := rl_n2 hwV hRel
  have hLw : ∀ r k, kv_t r k = true → x_ofl ws x_0 r k = kv_v kc r k := fun r k ht => kv_ofl hwV ht
  obtain ⟨⟨_, b0, b1, b2⟩, Sn, Mn, Cn, hc1, hr1⟩ := (rn_fr hRn (fun _ _ _ => rfl) hLw).1
  refine xy_callW (pc := 1191) (av := [.int (xs (i + 1))]) (svr := []) (za := [.inl (xs (i + 1)).toInt]) (j := 148) (r := 0) (K := yk_230) (hl_ctx h hnc hns) yo_law hE rfl (show y_T yTY 0 = some _ from rfl) hU (show yP0 148 = some ym_X11_book from rfl) (by decide) rfl ha1 (by decide) hlv hP hD hSS (y_consV hE (j := 148) (show yk_230 ∈ y_cget yCTabV 148 from List.mem_cons_self)) rfl (by decide) rfl rfl (Or.inr (by decide +kernel)) ⟨⟨a1, ha1, rfl⟩, ⟨_, rfl, z_any _⟩, trivial⟩ (xf_bo hE) (by decide) ⟨⟨_, rfl, rfl⟩, trivial⟩ ⟨⟨_, rfl⟩, ⟨by rw [n5]; exact n3, by rw [n5]; exact n4⟩, ⟨Sn, Mn, Cn, hc1⟩, goI_of (kv_W hwV) (y_Go_of hG)⟩ (fun x u H1 locs1 ho hUu hfru hx9 hP1 hD1 hS1 => ?_)
  obtain ⟨I', L', ⟨w0, hw0, hans⟩, htr, _⟩ := hx9
  have hw0 : (xs (i + 1)).toInt = w0 := by
    simp only [List.cons.injEq, Sum.inl.injEq] at hw0
    exact hw0.2.1
  subst hw0
  have hwu : y_w kc (z_ad b ws) yTYV u := hUu.2.2.1
  obtain ⟨z1, z2, _⟩ := y_ty_ok (r := 1) (k := 2) hwu (q := (0, 940)) (by decide +kernel)
  have z3 : z1.toInt = I' 1 2 := htr 1 2 z1 (by decide +kernel) z2
  have e3 : x_of u x_0 209 2 = n.toInt := by
    rw [← n6]
    unfold x_of
    rw [hfru 209 2 (by decide +kernel)]
  have e4 : ∀ j, r_b (x_of u x_0) j = x_of ws x_0 2 j := fun j => by
    rw [hBy j]
    unfold r_b x_of
    rw [hfru 210 j (xy_noreg (by decide +kernel) j)]
  have e15 : x_of u x_0 209 15 = x_of ws x_0 209 15 := by
    unfold x_of
    rw [hfru 209 15 (by decide +kernel)]
  have e211 : ∀ i, i < 3 → x_of u x_0 211 i = x_of ws x_0 211 (0 + i) := fun i hi => by
    have hr3 : rn_B 211 i = true := (rn_3 hi).1
    rw [Nat.zero_add]
    unfold x_of
    rw [hfru 211 i (rn_no_ok (by decide +kernel) hr3)]
  have hr3 : n3_r (x_of u x_0 211) (x_ofl u x_0 214) Sn Mn Cn := by
    refine n3_r_eq hr1 e211 ⟨b0, b1, b2⟩ (fun k hk => ?_)
    have ht := (rt_22 hk).2.2.2.1
    show x_ofl u x_0 214 k = x_ofl ws x_0 214 (0 + k)
    rw [hLw 214 (0 + k) ht]
    rw [Nat.zero_add] at ht ⊢
    exact kv_ofl hwu ht
  have hbu : x_of u x_0 211 0 ≤ 8 ∧ x_of u x_0 211 1 ≤ 6 ∧ x_of u x_0 211 2 ≤ 8 := ⟨by rw [e211 0 (by decide)]; exact b0, by rw [e211 1 (by decide)]; exact b1, by rw [e211 2 (by decide)]; exact b2⟩
  have hlu : hl_S s b kc D xs i ls u H1 locs1 := rl_of (ws0 := ws) hS.1 hUu hP1 hD1 hS1
  refine lv_pop hx hb (show decode code 1194 = .ok (.pop, 1) by decide +kernel) rfl ?_
  refine rg_run h hL rg_6 hi hnc hns hlu (fun ls2 v H2 locs2 a2 hS2 hat2 ha2 => ?_)
  obtain ⟨⟨lvv2, hlv2, hz2⟩, _, hk2, hf2, hG2, hw2V, hfr2, had2, hP2, hD2, hSS2⟩ := id hS2
  have hU2 : xy_UV b kc (z_ad b v) v := ⟨hf2 rfl, y_Go_of hG2, hw2V, rfl⟩
  have hxv : x_of v x_0 = x_of u x_0 := funext (fun r => funext (fun k => by
    unfold x_of
    rw [hat2]))
  have hr3v : n3_r (x_of v x_0 211) (x_ofl v x_0 214) Sn Mn Cn := by
    refine n3_r_eq hr3 (fun i _ => by rw [hxv]) hbu (fun k hk => ?_)
    have ht := (rt_22 hk).2.2.2.1
    rw [Nat.zero_add] at ht
    rw [kv_ofl hw2V ht, kv_ofl hwu ht]
  have key : ∀ K : yCon, y_ConOk EX l zTB zNT kc D vwCl b yTYV yGR w_R (z_ad b v) yP0 K → K.1 = 261 → K.2.2.2.2.2.1 ≤ 39 → K.2.2.1 = [] → K.2.2.2.2.2.2.2 = [] → (∀ o ∈ K.2.2.2.1, o.2.2 = true) → z_L (y_pv (z_ad b v)) K.2.1 [.ref a2, .int (xs (i + 1))] → y_sub K.2.2.2.2.1 hk_eff = true → ((((xs (i + 1)).toInt = 0 ∨ (xs (i + 1)).toInt = 1) ∧ ∀ o ∈ K.2.2.2.1, ((209, 2), (0, 0), none) ∈ o.2.1) ∨ (((xs (i + 1)).toInt ≠ 0 ∧ (xs (i + 1)).toInt ≠ 1) ∧ y_in K.2.2.2.2.1 209 2 = false)) → hl_W p l e s m below meth c b H2 locs2 nc ns (F0 m 1202 ls2 [.int (xs (i + 1)), .ref a2]) := by
    intro K hK kj kd kp kn kr ka ks hcase
    refine xy_callW (pc := 1202) (av := [.int (xs (i + 1))]) (svr := []) (za := [.inl (xs (i + 1)).toInt]) (j := 261) (r := 209) (K := K) (hl_ctx h hnc hns) yo_law hE rfl (show y_T yTY 209 = some _ from rfl) hU2 (show yP0 261 = some ym_X12_book from rfl) (by decide) rfl ha2 (by decide) hlv2 hP2 hD2 hSS2 hK kj kd kp kn (Or.inl kr) ka (xf_bR hE) (by decide) ⟨⟨_, rfl, rfl⟩, trivial⟩ ⟨⟨_, rfl⟩, ⟨by rw [hxv, e3]; exact n3, by rw [hxv, e3]; exact n4⟩, by rw [hxv]; exact hbu, ⟨Sn, Mn, Cn, hr3v⟩, goI_of (kv_W hw2V) (y_Go_of hG2)⟩ (fun y w H3 locs3 ho3 hUw hfrw0 hy9 hP3 hD3 hS3 => ?_)
    have hfrw : y_fr hk_eff v w := y_fr_sub ks hfrw0
    obtain ⟨J', M', ⟨w1, hw1, hans2⟩, htr2, _⟩ := hy9
    have hw1 : (xs (i + 1)).toInt = w1 := by
      simp only [List.cons.injEq, Sum.inl.injEq] at hw1
      exact hw1.2.1
    subst hw1
    have hww : y_w kc (z_ad b v) yTYV w := hUw.2.2.1
    have f1 : x_of w x_0 0 10 = I' 0 10 := by
      have h9 : x_of w x_0 0 10 = x_of u x_0 0 10 := by
        unfold x_of
        rw [hfrw 0 10 (by decide +kernel), hat2]
      exact h9.trans (rf_tr (kv_W hwu) htr rq_fc.1)
    have f2 : x_of w x_0 209 15 = J' 209 15 := rf_tr (kv_W hww) htr2 rq_fc.2
    have hFv : rf_R w := by
      show x_of w x_0 0 10 = x_of w x_0 209 15
      rw [f1, f2]
      rcases hans with ⟨q0, q1, q2⟩ | ⟨q0, _, q2⟩
      · rcases hans2 with ⟨_, _, q3⟩ | ⟨q3, _⟩
        · rw [q3, q2.1, hxv, e15]
          exact hFt
        · omega
      · rcases hans2 with ⟨q3, q4, _⟩ | ⟨_, q3⟩
        · omega
        · rw [q2 Sn Mn Cn hc1, q3 Sn Mn Cn hr3v, hxv, e3, ← n5, show r_b (x_of u x_0) = x_of ws x_0 2 from funext e4]
    have hRw : rl_R rl_L w := by
      intro q hq
      have := List.mem_singleton.mp hq
      subst this
      have ew : y_at w 1 2 = some z1 := by rw [hfrw 1 2 (by decide +kernel), hat2]; exact z2
      rcases hcase with ⟨k1, k2⟩ | ⟨⟨k1, k1'⟩, k2⟩
      · obtain ⟨o, ho1, ho2⟩ := ho3
        obtain ⟨d1, d2, d3, d4, _⟩ := ho2 _ (k2 o ho1)
        have d3 : (0 : Int) ≤ d1.toInt := d3
        have d4 : d1.toInt ≤ (0 : Int) := d4
        refine ⟨d1, ?_, d2⟩
        show y_at w 1 2 = _
        rw [ew]
        rcases hans with ⟨q0, q1, _⟩ | ⟨_, q1, _⟩
        · omega
        · exact congrArg some (y_i32 (by omega))
      · refine ⟨n, ?_, ?_⟩
        · show y_at w 1 2 = _
          rw [ew]
          rcases hans with ⟨_, _, q2⟩ | ⟨q0, _⟩
          · have q3 : I' 1 2 = x_of ws x_0 1 2 := q2.2
            exact congrArg some (y_i32 (by omega))
          · omega
        · show y_at w 209 2 = _
          rw [hfrw0 209 2 k2, hat2, hfru 209 2 (by decide +kernel)]
          exact n2
    refine lv_pop hx hb (show decode code 1205 = .ok (.pop, 1) by decide +kernel) rfl ?_
    refine lv_goto (tgt := 1347) hx hb (show decode code 1206 = .ok (.goto 141, 3) by decide +kernel) (by decide) ?_
    refine kk ls2 w H3 locs3 ⟨kc, fun _ _ => rfl, rl_of (ws0 := v) hS2.1 hUw hP3 hD3 hS3, hRw, ?_, ?_, hFv⟩
    · refine rb_same (fun j => ?_) (fun j => ?_) hBy
      · exact (hfrw 2 j (xy_noreg (by decide +kernel) j)).trans ((hat2 2 j).trans (hfru 2 j (xy_noreg (by decide +kernel) j)))
      · exact (hfrw 210 j (xy_noreg (by decide +kernel) j)).trans ((hat2 210 j).trans (hfru 210 j (xy_noreg (by decide +kernel) j)))
    · exact rn_same (fun r k hr => (hfrw r k (rn_no_ok (by decide +kernel) hr)).trans ((hat2 r k).trans (hfru r k (rn_no_ok (by decide +kernel) hr)))) hRn
  have hzz := z_any (xs (i + 1))
  rcases Int.lt_or_le (xs (i + 1)).toInt 0 with g | g
  · exact key (hu_o (-2147483648) (-1)) (hl_oV hE hu_c1) rfl (by decide) rfl rfl (fun o ho => by have := List.mem_singleton.mp ho; subst this; rfl) ⟨⟨a2, ha2, rfl⟩, ⟨_, rfl, hzz.1, by omega⟩, trivial⟩ (by decide +kernel) (Or.inr ⟨⟨by omega, by omega⟩, by decide +kernel⟩)
  rcases Int.lt_or_le 1 (xs (i + 1)).toInt with g2 | g2
  · exact key (hu_o 2 2147483647) (hl_oV hE hu_c2) rfl (by decide) rfl rfl (fun o ho => by have := List.mem_singleton.mp ho; subst this; rfl) ⟨⟨a2, ha2, rfl⟩, ⟨_, rfl, by omega, hzz.2⟩, trivial⟩ (by decide +kernel) (Or.inr ⟨⟨by omega, by omega⟩, by decide +kernel⟩)
  · exact key hu_K (hu_ok hE) rfl (by decide) rfl rfl (fun o ho => by have := List.mem_singleton.mp ho; subst this; rfl) ⟨⟨a2, ha2, rfl⟩, ⟨_, rfl, (show (0 : Int) ≤ (xs (i + 1)).toInt by omega), (show (xs (i + 1)).toInt ≤ 1 by omega)⟩, trivial⟩ (by decide +kernel) (Or.inl ⟨by omega, fun o ho => by have := List.mem_singleton.mp ho; subst this; exact List.mem_cons_self⟩)
end RLF
