section RLY
variable {p : Program} {l : Launch} {e : Env} {s : State} {m : MethodId} {below : List Frame} {meth : Method} {c : Code} {b L : Nat} {xs : Nat → Int32} {kc : Nat → ClassId} {D : va_G} {EX : (Nat → Prop) → State → Heap → Prop}
abbrev rf_za (i : Nat) (xs : Nat → Int32) : List xV := [.inl (xs (i + 1)).toInt, .inl (xs (i + 2)).toInt, .inl (xs (i + 3)).toInt, .inl (xs (i + 4)).toInt, .inl (xs (i + 5)).toInt]
abbrev rf_av (i : Nat) (xs : Nat → Int32) : List Value := [.int (xs (i + 1)), .int (xs (i + 2)), .int (xs (i + 3)), .int (xs (i + 4)), .int (xs (i + 5))]
theorem rf_hav {ad : Nat → Option Nat} {i : Nat} : z_L (x_v ad) (rf_za i xs) (rf_av i xs) := ⟨⟨_, rfl, rfl⟩, ⟨_, rfl, rfl⟩, ⟨_, rfl, rfl⟩, ⟨_, rfl, rfl⟩, ⟨_, rfl, rfl⟩, trivial⟩
/-- the bytes behind feed() -/
theorem rf_by {u v : va_W} {kc : Nat → ClassId} {ad : Nat → Option Nat} (hw : y_w kc ad yTY v) {f : Nat → Int} (h2 : ∀ j x, y_at v 2 j = some x → x.toInt = f j) (h3 : ∀ j x, y_at v 210 j = some x → x.toInt % 256 = f j) : rb_R v := by
  intro j
  unfold r_b x_of
  by_cases hj : j < 940
  · obtain ⟨x, hx⟩ := (xy_row hw (show y_T yTY 2 = some _ from rfl) j).1 hj
    obtain ⟨y, hy⟩ := (xy_row hw (show y_T yTY 210 = some _ from rfl) j).1 hj
    rw [hx, hy]
    dsimp only
    rw [h2 j x hx, h3 j y hy]
  · have r1 := (xy_row hw (show y_T yTY 2 = some _ from rfl) j).2 (Nat.le_of_not_lt hj)
    have r2 := (xy_row hw (show y_T yTY 210 = some _ from rfl) j).2 (Nat.le_of_not_lt hj)
    rw [r1, r2]
    rfl
set_option maxHeartbeats 4000000 in
theorem rl_c0 (h : hl_C EX p s m meth c b L xs kc D) (hL : L ≤ 3072) {i nc ns : Nat} (hi : i + 6 ≤ L) (hnc : nc ≤ 601024) (hns : ns ≤ 7293034) (kk : ∀ ls ws H locs, rl_S s b kc D xs i ls ws H locs → hl_W p l e s m below meth c b H locs nc ns (F0 m 1347 ls [])) : ∀ ls ws H locs, rl_S s b kc D xs i ls ws H locs → hl_W p l e s m below meth c b H locs nc ns (F0 m 220 ls []) := by
  intro ls0 ws0 H0 locs0 ⟨hS0, hRel0, hBy0, hRc0⟩
  obtain ⟨hx, hb, hr, hml, hown, hts, hX, hbl, hlocks, hgv⟩ := id h.1
  have hE := h.2.2.2.1
  refine rf_run h hL rf_1 hi hnc hns hS0 (fun ls ws H locs a1 hS hat ha1 => ?_)
  have hBy : rb_R ws := rb_same (fun j => hat 2 j) (fun j => hat 210 j) hBy0
  have hRel : rl_R rl_L ws := fun q hq => by
    obtain ⟨x, y1, y2⟩ := hRel0 q hq
    exact ⟨x, (hat _ _).trans y1, (hat _ _).trans y2⟩
  obtain ⟨⟨lvv, hlv, hz⟩, _, hk, hf, hG, hw, hfr, had, hP, hD, hSS⟩ := id hS
  have hU : xy_U b kc (z_ad b ws) ws := ⟨hf rfl, y_Go_of hG, hw, rfl⟩
  obtain ⟨n, n1, n2, n3, n4, n5, n6⟩ := rl_n2 hw hRel
  have hq : ∀ x : Int32, (-2147483648 : Int) ≤ x.toInt ∧ x.toInt ≤ 2147483647 := fun x => z_any x
  refine xy_call (pc := 251) (av := rf_av i xs) (svr := []) (za := rf_za i xs) (j := 114) (r := 0) (K := yk_198) (hl_ctx h hnc hns) yo_law hE (show y_find ym_law.2.2.2.2.1 251 = some (.invokevirtual 22, [1, 114, 11]) from rfl) (show y_T yTY 0 = some _ from rfl) hU (show yP0 114 = some ym_X11_feed from rfl) (by decide) rfl ha1 (by decide) hlv hP hD hSS (y_cons hE (j := 114) (show yk_198 ∈ y_cget yCTab 114 from List.mem_cons_self)) rfl (by decide) rfl rfl (Or.inr (by decide +kernel)) ⟨⟨a1, ha1, rfl⟩, ⟨_, rfl, hq _⟩, ⟨_, rfl, hq _⟩, ⟨_, rfl, hq _⟩, ⟨_, rfl, hq _⟩, ⟨_, rfl, hq _⟩, trivial⟩ (xk_cf hE) (by decide) rf_hav ⟨_, _, _, _, _, rfl, by rw [n5]; exact n3, by rw [n5]; exact n4⟩ (fun x u H1 locs1 ho hUu hfru hx9 hP1 hD1 hS1 => ?_)
  obtain ⟨I', L', ⟨w1, w2, w3, w4, w5, hza, hpo⟩, htr⟩ := hx9
  cases hza
  have hlu : hl_S s b kc D xs i ls u H1 locs1 := rl_of (ws0 := ws) hS.1 hUu hP1 hD1 hS1
  refine lv_pop hx hb (show decode code 254 = .ok (.pop, 1) by decide +kernel) rfl ?_
  refine rf_run h hL rf_2 hi hnc hns hlu (fun ls2 v H2 locs2 a2 hS2 hat2 ha2 => ?_)
  obtain ⟨⟨lvv2, hlv2, hz2⟩, _, hk2, hf2, hG2, hw2, hfr2, had2, hP2, hD2, hSS2⟩ := id hS2
  have hU2 : xy_U b kc (z_ad b v) v := ⟨hf2 rfl, y_Go_of hG2, hw2, rfl⟩
  have m6 : x_of v x_0 209 2 = n.toInt := by
    rw [← n6]
    unfold x_of
    rw [hat2, hfru 209 2 (by decide +kernel)]
  have m7 : ∀ j, r_b (x_of v x_0) j = x_of ws x_0 2 j := fun j => by
    rw [hBy j]
    unfold r_b x_of
    rw [hat2, hfru 210 j (xy_noreg (by decide +kernel) j)]
  refine xy_call (pc := 286) (av := rf_av i xs) (svr := []) (za := rf_za i xs) (j := 162) (r := 209) (K := yk_238) (hl_ctx h hnc hns) yo_law hE (show y_find ym_law.2.2.2.2.1 286 = some (.invokevirtual 26, [1, 162, 12]) from rfl) (show y_T yTY 209 = some _ from rfl) hU2 (show yP0 162 = some ym_X12_feed from rfl) (by decide) rfl ha2 (by decide) hlv2 hP2 hD2 hSS2 (y_cons hE (j := 162) (show yk_238 ∈ y_cget yCTab 162 from List.mem_cons_self)) rfl (by decide) rfl rfl (Or.inr (by decide +kernel)) ⟨⟨a2, ha2, rfl⟩, ⟨_, rfl, hq _⟩, ⟨_, rfl, hq _⟩, ⟨_, rfl, hq _⟩, ⟨_, rfl, hq _⟩, ⟨_, rfl, hq _⟩, trivial⟩ (xk_mf hE) (by decide) rf_hav ⟨_, _, _, _, _, rfl, by rw [m6]; exact n3, by rw [m6]; exact n4⟩ (fun x2 w H3 locs3 ho2 hUw hfrw hy9 hP3 hD3 hS3 => ?_)
  obtain ⟨J', M', ⟨w1, w2, w3, w4, w5, hza2, hpo2⟩, htr2⟩ := hy9
  cases hza2
  rw [n5] at hpo
  rw [m6] at hpo2
  refine lv_pop hx hb (show decode code 289 = .ok (.pop, 1) by decide +kernel) rfl ?_
  refine lv_goto (tgt := 1347) hx hb (show decode code 290 = .ok (.goto 1057, 3) by decide +kernel) (by decide) ?_
  have hlw : hl_S s b kc D xs i ls2 w H3 locs3 := rl_of (ws0 := v) hS2.1 hUw hP3 hD3 hS3
  have hww := hUw.2.2.1
  have hwv : ∀ k, y_at w 1 k = y_at u 1 k := fun k => (hfrw 1 k (xy_noreg (by decide +kernel) k)).trans (hat2 1 k)
  have hwv2 : ∀ k, y_at w 2 k = y_at u 2 k := fun k => (hfrw 2 k (xy_noreg (by decide +kernel) k)).trans (hat2 2 k)
  obtain ⟨c1, d1, _⟩ := y_ty_ok (r := 1) (k := 2) hww (q := (0, 940)) (by decide +kernel)
  obtain ⟨c2, d2, _⟩ := y_ty_ok (r := 209) (k := 2) hww (q := (0, 940)) (by decide +kernel)
  have g1 : c1.toInt = I' 1 2 := htr 1 2 c1 (by decide +kernel) ((hwv 2).symm.trans d1)
  have g2 : c2.toInt = J' 209 2 := htr2 209 2 c2 (by decide +kernel) d2
  have g3 : ∀ j x, y_at w 2 j = some x → x.toInt = I' 2 j := fun j x hx9 => htr 2 j x rfl ((hwv2 j).symm.trans hx9)
  have g4 : ∀ j x, y_at w 210 j = some x → x.toInt % 256 = r_b J' j := fun j x hx9 => by
    have := htr2 210 j x rfl hx9
    unfold r_b
    rw [this]
  have hend : c1.toInt = c2.toInt ∧ ∀ j, r_b J' j = I' 2 j := by
    rcases hpo with ⟨k1, k2⟩ | ⟨k1, k2, k3, k4⟩
    · rcases hpo2 with ⟨k5, k6⟩ | ⟨k5, _⟩
      · subst k2
        subst k6
        refine ⟨?_, fun j => ?_⟩
        · rw [g1, g2, n5]
          exact m6.symm
        · exact m7 j
      · omega
    · rcases hpo2 with ⟨k5, _⟩ | ⟨k5, k6, k7, k8⟩
      · omega
      · refine ⟨by rw [g1, g2, k3, k7], fun j => ?_⟩
        rw [k4, k8, show r_b (x_of v x_0) = x_of ws x_0 2 from funext m7]
  refine kk ls2 w H3 locs3 ⟨hlw, ?_, ?_, ?_⟩
  · intro q hq
    have := List.mem_singleton.mp hq
    subst this
    refine ⟨c2, ?_, d2⟩
    show y_at w 1 2 = _
    rw [d1]
    exact congrArg some (y_i32 hend.1)
  · exact rf_by (u := w) hww g3 (fun j x hx9 => (g4 j x hx9).trans (hend.2 j))
  · exact rc_same (fun r k hr => (hfrw r k (rc_no_ok (by decide +kernel) hr)).trans ((hat2 r k).trans ((hfru r k (rc_no_ok (by decide +kernel) hr)).trans (hat r k)))) hRc0
end RLY
