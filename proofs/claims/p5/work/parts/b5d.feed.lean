section XYW
variable {xb : Nat} {kc : Nat → ClassId} {D : va_G} {l : Launch} {EX : (Nat → Prop) → State → Heap → Prop}
variable {p : Program} {e : Env} {R : Room} {s : State} {m : MethodId} {args : Array Value} {below : List Frame} {meth : Method} {c : Code} {Q : State → Prop} {A : Nat → Prop} {H0 : Heap} {nc ns : Nat} {M : yM} {d pc : Nat}
/-- a call by both contracts, the one by bounds where kc tells the NAMES -/
theorem xy_callW {ws : va_W} {sc : Bool} (hC0 : y_ctx EX zTB zNT vwCl kc D p R s m args meth c A H0 xb ws (z_ad xb ws) nc ns sc 40 M) (hMk : y_Mok zTB zNT vwCl zTF yP0 M) (hE : z_EX EX) {idx j ci r : Nat} {ts : List yT} (hf : y_find M.2.2.2.2.1 pc = some (.invokevirtual idx, [1, j, ci])) (hw : y_T yTY r = some (.inl (ci, ts))) (hU : xy_UV xb kc (z_ad xb ws) ws) {y2 : MethodName} {c2 : ByteArray} {L2 : Nat} {t2 : List (List zE)} {na : Nat} {sp : List Nat} (hj : yP0 j = some (y2, c2, L2, some .int, t2, na, sp)) (hL2 : L2 ≤ 80) {av : List Value} (hna : av.length = na) {a : Nat} (ha1 : z_ad xb ws (r + 1) = some a) {svr : List Value} (hsum : (svr.map fun v => v.category).sum ≤ 8) {ls : Array Slot} {lvv : List (Nat × Value)} (hlv : lv_has ls M.2.2.1 lvv) {H : Heap} {locs : List Loc} (hP : va_P D vwCl ws H) (hD : va_D A ws) (hS : va_S A H0 H locs)
    {K : yCon} (hK : y_ConOk EX l zTB zNT kc D vwCl xb yTYV yGR w_R (z_ad xb ws) yP0 K) (hKj : K.1 = j) (hKd : K.2.2.2.2.2.1 ≤ 39) (hKp : K.2.2.1 = []) (hKn : K.2.2.2.2.2.2.2 = []) (hKr : (∀ o ∈ K.2.2.2.1, o.2.2 = true) ∨ y_clr K.2.2.2.2.1 yRC = true) (hya : z_L (y_pv (z_ad xb ws)) K.2.1 (.ref a :: av))
    {d0 : Nat} {Pre : xPre} {Post : xPost} (hX : x_Ok EX l zTB zNT kc D vwCl xb yTY (z_ad xb ws) yP0 j d0 Pre Post) (hd0 : d0 ≤ 39) {za : List xV} (hav : z_L (x_v (z_ad xb ws)) za av) (hpre : Pre (xR (r + 1) :: za) (x_of ws x_0) (x_ofl ws x_0))
    (kk : ∀ (x : Int32) (u : va_W) (H1 : Heap) (locs1 : List Loc), (∃ o ∈ K.2.2.2.1, ∀ f ∈ o.2.1, y_fv2 [] u f) → xy_UV xb kc (z_ad xb ws) u → y_fr K.2.2.2.2.1 ws u → (∃ I' L', Post (xR (r + 1) :: za) (x_of ws x_0) (x_ofl ws x_0) (some (.inl x.toInt)) I' L' ∧ (∀ r k v, xy_t r k = true → y_at u r k = some v → v.toInt = I' r k) ∧ ∀ r k v, xl_t r = true → x_at u r k = some v → v.toInt = L' r k) → va_P D vwCl u H1 → va_D A u → va_S A H0 H1 locs1 → W p l e R s m args below meth c H1 locs1 nc ns Q (F0 m (pc + 3) ls (.int x :: svr))) : W p l e R s m args below meth c H locs nc ns Q (F0 m pc ls (av.reverse ++ .ref a :: svr)) := by
  obtain ⟨u1, u2, u3, u4⟩ := hU
  have m1 := hK y2 c2 L2 (some .int) t2 na sp (by rw [hKj]; exact hj) 39 hKd (.ref a :: av) ws H.size [] hya (fun f hf => by rw [hKp] at hf; cases hf) (fun _ => u1) u2 u3 rfl (by rw [hKn]; trivial)
  have m2 := hX y2 c2 L2 (some .int) t2 na sp hj 39 hd0 (xR (r + 1) :: za) (.ref a :: av) ws H.size (x_of ws x_0) (x_ofl ws x_0) ⟨⟨a, ha1, rfl⟩, hav⟩ hpre (x_of_ag ws x_0 x_0) (kv_W u3) rfl
  refine xy_callV (d := 39) hC0 hMk hE hf hw (kv_W u3) hj hL2 hna ha1 hsum hlv hP hD hS (xy_and m1 m2) (fun rv u H1 locs1 hpo g1 g2 g3 => ?_)
  obtain ⟨⟨x, rfl⟩, ⟨o, ho, p1, p2, p3, p4, p5, p6, p7⟩, v, ⟨zr, I', L', q1, q2, q3, q4, q5⟩, H9, t1, t9⟩ := hpo
  have hzr : zr = some (.inl x.toInt) := by
    match zr, q1 with
    | none, h => exact h.elim
    | some (.inl z), h =>
      obtain ⟨⟨x9, h9, h8⟩, _⟩ := h
      cases h9
      rw [← h8]
    | some (.inr (.inl z)), h =>
      obtain ⟨⟨x9, h9, h8⟩, _⟩ := h
      cases h9
    | some (.inr (.inr none)), h => exact absurd (show Value.int x = Value.null from h.1) (by intro q; cases q)
    | some (.inr (.inr (some i))), h =>
      obtain ⟨⟨x9, h9, h8⟩, _⟩ := h
      cases h8
  subst hzr
  have hRu : w_R u := by
    rcases hKr with h | h
    · exact p3 (h o ho)
    · exact xy_keepR h p6 u1
  exact kk x u H1 locs1 ⟨o, ho, p2⟩ ⟨hRu, p4, p5, p7⟩ p6 ⟨I', L', q3, (fun r k v9 ht hv => q2.1 r k v9 (by rw [← xy_same (kv_W p5) q4 p7 q5 t1 t9 ht]; exact hv)), fun r k v9 ht hv => by
    obtain ⟨n9, es9, hT9⟩ := xl_t_ok ht
    exact q2.2 r k v9 (by rw [← xl_same (kv_W p5) q4 p7 q5 t1 t9 hT9]; exact hv)⟩ g1 g2 g3
end XYW
section RLY
variable {p : Program} {l : Launch} {e : Env} {s : State} {m : MethodId} {below : List Frame} {meth : Method} {c : Code} {b L : Nat} {xs : Nat → Int32} {kc : Nat → ClassId} {D : va_G} {EX : (Nat → Prop) → State → Heap → Prop}
abbrev rf_za (i : Nat) (xs : Nat → Int32) : List xV := [.inl (xs (i + 1)).toInt, .inl (xs (i + 2)).toInt, .inl (xs (i + 3)).toInt, .inl (xs (i + 4)).toInt, .inl (xs (i + 5)).toInt]
abbrev rf_av (i : Nat) (xs : Nat → Int32) : List Value := [.int (xs (i + 1)), .int (xs (i + 2)), .int (xs (i + 3)), .int (xs (i + 4)), .int (xs (i + 5))]
theorem rf_hav {ad : Nat → Option Nat} {i : Nat} : z_L (x_v ad) (rf_za i xs) (rf_av i xs) := ⟨⟨_, rfl, rfl⟩, ⟨_, rfl, rfl⟩, ⟨_, rfl, rfl⟩, ⟨_, rfl, rfl⟩, ⟨_, rfl, rfl⟩, trivial⟩
/-- the bytes behind feed() -/
theorem rf_by {u v : va_W} {kc : Nat → ClassId} {ad : Nat → Option Nat} (hw : y_w kc ad yTY v) {f : Nat → Int} (h2 : ∀ j x, y_at v 2 j = some x → x.toInt = f j) (h3 : ∀ j x, y_at v 210 j = some x → x.toInt % 256 = f j) : rb_R v := by
  intro j
  unfold r_b x_of
  by_cases hj : j < 940
  · obtain ⟨x, hx⟩ := (xy_row hw (show y_T yTY 2 = some _ from rfl) j).1 hj
    obtain ⟨y, hy⟩ := (xy_row hw (show y_T yTY 210 = some _ from rfl) j).1 hj
    rw [hx, hy]
    dsimp only
    rw [h2 j x hx, h3 j y hy]
  · have r1 := (xy_row hw (show y_T yTY 2 = some _ from rfl) j).2 (Nat.le_of_not_lt hj)
    have r2 := (xy_row hw (show y_T yTY 210 = some _ from rfl) j).2 (Nat.le_of_not_lt hj)
    rw [r1, r2]
    rfl
set_option maxHeartbeats 4000000 in
theorem rl_c0 (h : hl_C EX p s m meth c b L xs kc D) (hL : L ≤ 3072) {i nc ns : Nat} (hi : i + 6 ≤ L) (hnc : nc ≤ 601024) (hns : ns ≤ 7293034) (kk : ∀ ls ws H locs, rl_S s b kc D xs i ls ws H locs → hl_W p l e s m below meth c b H locs nc ns (F0 m 1347 ls [])) : ∀ ls ws H locs, rl_S0 s b kc D xs i ls ws H locs → hl_W p l e s m below meth c b H locs nc ns (F0 m 220 ls []) := by
  intro ls0 ws0 H0 locs0 ⟨hS0, hRel0, hBy0, hRn0, hFt0⟩
  obtain ⟨hx, hb, hr, hml, hown, hts, hX, hbl, hlocks, hgv⟩ := id h.1
  have hE := h.2.2.2.1
  refine rf_run h hL rf_1 hi hnc hns hS0 (fun ls ws H locs a1 hS hat ha1 => ?_)
  have hBy : rb_R ws := rb_same (fun j => hat 2 j) (fun j => hat 210 j) hBy0
  have hRel : rl_R rl_L ws := fun q hq => by
    obtain ⟨x, y1, y2⟩ := hRel0 q hq
    exact ⟨x, (hat _ _).trans y1, (hat _ _).trans y2⟩
  obtain ⟨⟨lvv, hlv, hz⟩, _, hk, hf, hG, hw, hfr, had, hP, hD, hSS⟩ := id hS
  have hU : xy_UV b kc (z_ad b ws) ws := ⟨hf rfl, y_Go_of hG, hw, rfl⟩
  obtain ⟨n, n1, n2, n3, n4, n5, n6⟩ := rl_n2 hw hRel
  have hq : ∀ x : Int32, (-2147483648 : Int) ≤ x.toInt ∧ x.toInt ≤ 2147483647 := fun x => z_any x
  refine xy_callW (pc := 251) (av := rf_av i xs) (svr := []) (za := rf_za i xs) (j := 114) (r := 0) (K := yk_198) (hl_ctx h hnc hns) yo_law hE (show y_find ym_law.2.2.2.2.1 251 = some (.invokevirtual 22, [1, 114, 11]) from rfl) (show y_T yTY 0 = some _ from rfl) hU (show yP0 114 = some ym_X11_feed from rfl) (by decide) rfl ha1 (by decide) hlv hP hD hSS (y_consV hE (j := 114) (show yk_198 ∈ y_cget yCTabV 114 from List.mem_cons_self)) rfl (by decide) rfl rfl (Or.inr (by decide +kernel)) ⟨⟨a1, ha1, rfl⟩, ⟨_, rfl, hq _⟩, ⟨_, rfl, hq _⟩, ⟨_, rfl, hq _⟩, ⟨_, rfl, hq _⟩, ⟨_, rfl, hq _⟩, trivial⟩ (xk_cf hE) (by decide) rf_hav ⟨_, _, _, _, _, rfl, by rw [n5]; exact n3, by rw [n5]; exact n4⟩ (fun x u H1 locs1 ho hUu hfru hx9 hP1 hD1 hS1 => ?_)
  obtain ⟨I', L', ⟨w1, w2, w3, w4, w5, hza, hpo⟩, htr, _⟩ := hx9
  cases hza
  have hlu : hl_S s b kc D xs i ls u H1 locs1 := rl_of (ws0 := ws) hS.1 hUu hP1 hD1 hS1
  refine lv_pop hx hb (show decode code 254 = .ok (.pop, 1) by decide +kernel) rfl ?_
  refine rf_run h hL rf_2 hi hnc hns hlu (fun ls2 v H2 locs2 a2 hS2 hat2 ha2 => ?_)
  obtain ⟨⟨lvv2, hlv2, hz2⟩, _, hk2, hf2, hG2, hw2, hfr2, had2, hP2, hD2, hSS2⟩ := id hS2
  have hU2 : xy_UV b kc (z_ad b v) v := ⟨hf2 rfl, y_Go_of hG2, hw2, rfl⟩
  have m6 : x_of v x_0 209 2 = n.toInt := by
    rw [← n6]
    unfold x_of
    rw [hat2, hfru 209 2 (by decide +kernel)]
  have m7 : ∀ j, r_b (x_of v x_0) j = x_of ws x_0 2 j := fun j => by
    rw [hBy j]
    unfold r_b x_of
    rw [hat2, hfru 210 j (xy_noreg (by decide +kernel) j)]
  refine xy_callW (pc := 286) (av := rf_av i xs) (svr := []) (za := rf_za i xs) (j := 162) (r := 209) (K := yk_238) (hl_ctx h hnc hns) yo_law hE (show y_find ym_law.2.2.2.2.1 286 = some (.invokevirtual 26, [1, 162, 12]) from rfl) (show y_T yTY 209 = some _ from rfl) hU2 (show yP0 162 = some ym_X12_feed from rfl) (by decide) rfl ha2 (by decide) hlv2 hP2 hD2 hSS2 (y_consV hE (j := 162) (show yk_238 ∈ y_cget yCTabV 162 from List.mem_cons_self)) rfl (by decide) rfl rfl (Or.inr (by decide +kernel)) ⟨⟨a2, ha2, rfl⟩, ⟨_, rfl, hq _⟩, ⟨_, rfl, hq _⟩, ⟨_, rfl, hq _⟩, ⟨_, rfl, hq _⟩, ⟨_, rfl, hq _⟩, trivial⟩ (xk_mf hE) (by decide) rf_hav ⟨_, _, _, _, _, rfl, by rw [m6]; exact n3, by rw [m6]; exact n4⟩ (fun x2 w H3 locs3 ho2 hUw hfrw hy9 hP3 hD3 hS3 => ?_)
  obtain ⟨J', M', ⟨w1, w2, w3, w4, w5, hza2, hpo2⟩, htr2, _⟩ := hy9
  cases hza2
  rw [n5] at hpo
  rw [m6] at hpo2
  refine lv_pop hx hb (show decode code 289 = .ok (.pop, 1) by decide +kernel) rfl ?_
  refine lv_goto (tgt := 1347) hx hb (show decode code 290 = .ok (.goto 1057, 3) by decide +kernel) (by decide) ?_
  have hlw : hl_S s b kc D xs i ls2 w H3 locs3 := rl_of (ws0 := v) hS2.1 hUw hP3 hD3 hS3
  have hww := hUw.2.2.1
  have hwv : ∀ k, y_at w 1 k = y_at u 1 k := fun k => (hfrw 1 k (xy_noreg (by decide +kernel) k)).trans (hat2 1 k)
  have hwv2 : ∀ k, y_at w 2 k = y_at u 2 k := fun k => (hfrw 2 k (xy_noreg (by decide +kernel) k)).trans (hat2 2 k)
  obtain ⟨c1, d1, _⟩ := y_ty_ok (r := 1) (k := 2) hww (q := (0, 940)) (by decide +kernel)
  obtain ⟨c2, d2, _⟩ := y_ty_ok (r := 209) (k := 2) hww (q := (0, 940)) (by decide +kernel)
  have g1 : c1.toInt = I' 1 2 := htr 1 2 c1 (by decide +kernel) ((hwv 2).symm.trans d1)
  have g2 : c2.toInt = J' 209 2 := htr2 209 2 c2 (by decide +kernel) d2
  have g3 : ∀ j x, y_at w 2 j = some x → x.toInt = I' 2 j := fun j x hx9 => htr 2 j x rfl ((hwv2 j).symm.trans hx9)
  have g4 : ∀ j x, y_at w 210 j = some x → x.toInt % 256 = r_b J' j := fun j x hx9 => by
    have := htr2 210 j x rfl hx9
    unfold r_b
    rw [this]
  have hend : c1.toInt = c2.toInt ∧ ∀ j, r_b J' j = I' 2 j := by
    rcases hpo with ⟨k1, k2⟩ | ⟨k1, k2, k3, k4⟩
    · rcases hpo2 with ⟨k5, k6⟩ | ⟨k5, _⟩
      · subst k2
        subst k6
        refine ⟨?_, fun j => ?_⟩
        · rw [g1, g2, n5]
          exact m6.symm
        · exact m7 j
      · omega
    · rcases hpo2 with ⟨k5, _⟩ | ⟨k5, k6, k7, k8⟩
      · omega
      · refine ⟨by rw [g1, g2, k3, k7], fun j => ?_⟩
        rw [k4, k8, show r_b (x_of v x_0) = x_of ws x_0 2 from funext m7]
  refine kk ls2 w H3 locs3 ⟨kc, fun _ _ => rfl, hlw, ?_, ?_, ?_, rf_same ((hfrw 0 10 (by decide +kernel)).trans ((hat2 0 10).trans ((hfru 0 10 (by decide +kernel)).trans (hat 0 10)))) ((hfrw 209 15 (by decide +kernel)).trans ((hat2 209 15).trans ((hfru 209 15 (by decide +kernel)).trans (hat 209 15)))) hFt0⟩
  · intro q hq
    have := List.mem_singleton.mp hq
    subst this
    refine ⟨c2, ?_, d2⟩
    show y_at w 1 2 = _
    rw [d1]
    exact congrArg some (y_i32 hend.1)
  · exact rf_by (u := w) (kv_W hww) g3 (fun j x hx9 => (g4 j x hx9).trans (hend.2 j))
  · exact rn_same (fun r k hr => (hfrw r k (rn_no_ok (by decide +kernel) hr)).trans ((hat2 r k).trans ((hfru r k (rn_no_ok (by decide +kernel) hr)).trans (hat r k)))) hRn0
end RLY
