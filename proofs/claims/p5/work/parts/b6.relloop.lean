/-! ===== the law's loop, with the relation ===== -/
theorem rl_hBx {i : Nat} (hi : i ≤ 3066) {xs : Nat → Int32} {lo up : Int} (h1 : lo ≤ (xs (i + 1)).toInt) (h2 : (xs (i + 1)).toInt ≤ up) : y_B (7, [hl_Q, hl_Q, hl_Q, hl_Q, (lo, up, none), hl_Q, (0, 3066, none)]) (hl_env i xs) := by
  refine ⟨rfl, rfl, fun p q hp => ?_⟩
  have hq : ∀ x : Int32, y_b (hl_env i xs) hl_Q x.toInt := fun x => ⟨(z_any x).1, (z_any x).2, fun _ _ e => by cases e⟩
  match p, hp with
  | 0, hp => cases hp; exact ⟨_, rfl, hq _⟩
  | 1, hp => cases hp; exact ⟨_, rfl, hq _⟩
  | 2, hp => cases hp; exact ⟨_, rfl, hq _⟩
  | 3, hp => cases hp; exact ⟨_, rfl, hq _⟩
  | 4, hp => cases hp; exact ⟨_, rfl, h1, h2, fun _ _ e => by cases e⟩
  | 5, hp => cases hp; exact ⟨_, rfl, hq _⟩
  | 6, hp => cases hp; exact ⟨_, rfl, by dsimp only; omega, by dsimp only; omega, fun _ _ e => by cases e⟩
  | p + 7, hp => simp at hp
section RLC
variable {p : Program} {l : Launch} {e : Env} {s : State} {m : MethodId} {below : List Frame} {meth : Method} {c : Code} {b L : Nat} {xs : Nat → Int32} {kc : Nat → ClassId} {D : va_G} {EX : (Nat → Prop) → State → Heap → Prop}
theorem rl_case (h : hl_C EX p s m meth c b L xs kc D) {pc : Nat} {lo up : Int} (hck : rl_ckx lo up pc = true) {i : Nat} (hi : i + 6 ≤ L) (h1 : lo ≤ (xs (i + 1)).toInt) (h2 : (xs (i + 1)).toInt ≤ up) (hL : L ≤ 3072) {nc ns : Nat} (hnc : nc ≤ 601024) (hns : ns ≤ 7293034) (kk : ∀ ls ws H locs, rl_S s b kc D xs i ls ws H locs → hl_W p l e s m below meth c b H locs nc ns (F0 m 1347 ls [])) : ∀ ls ws H locs, rl_S0 s b kc D xs i ls ws H locs → hl_W p l e s m below meth c b H locs nc ns (F0 m pc ls []) := by
  intro ls ws H locs ⟨hS, hRel⟩
  obtain ⟨env0, hp0, hB0, hk0⟩ := rl_mk hS.2.2.2.2.2.1 rl_L_t hRel.1 (rl_hBx (i := i) (xs := xs) (by omega) h1 h2)
  unfold rl_ckx at hck
  split at hck
  next es hes =>
    refine y_run_ok (l := l) (kc := kc) (D := D) (xb := b) (TY := yTYV) (ad := z_ad b ws) (eff := rl_E) (RC := yRC) (GR := yGR) (RI := w_R) h.2.2.2.1 w_R_RI y_prog (y_ct_ok (eff := rl_E) (RC := yRC) w_R_RI (rl_all h.2.2.2.1)) 3000 true 40 ym_law _ true (rl_Bx lo up) pc rl_z es hes yo_law p e room_1 s m _ below meth c _ (zA0 s) s.heap ws nc ns env0 (hl_ctx h hnc hns) (fun _ => y_SC_mono hp0 (rl_SC h hi hL)) hB0 (fun q hq env he hB => ?_) ls [] ws H locs ⟨y_l_mono hp0 hS.1, trivial, hk0, hS.2.2.2.1, y_Gs_mono hp0 hS.2.2.2.2.1, hS.2.2.2.2.2.1, y_fr_refl, hS.2.2.2.2.2.2.2⟩
    intro ls' sv' ws' H' locs' hS'
    have h8 := List.all_eq_true.mp hck q hq
    unfold rl_end at h8
    rw [Bool.and_eq_true] at h8
    have hR3 := rl_end_R h8.2 hS'.2.2.1
    obtain ⟨g1, rfl, g3⟩ := hl_back h8.1 (List.IsPrefix.trans hp0 he) (rl_up hS')
    rw [g1]
    exact kk ls' ws' H' locs' ⟨kc, fun _ _ => rfl, g3, hR3, rq_fr hS'.2.2.2.2.2.2.1 hRel.2⟩
  next => cases hck
/-- the loop's step -/
theorem rl_next (h : hl_C EX p s m meth c b L xs kc D) (hL : L ≤ 3072) {i nc ns : Nat} (hi : i + 6 ≤ L) (kk : ∀ ls ws H locs, rl_S s b kc D xs (i + 6) ls ws H locs → hl_W p l e s m below meth c b H locs nc ns (F0 m 23 ls [])) {ls : Array Slot} {ws : va_W} {H : Heap} {locs : List Loc} (hS0 : rl_S s b kc D xs i ls ws H locs) : hl_W p l e s m below meth c b H locs nc ns (F0 m 1347 ls []) := by
  obtain ⟨hx, hb, hr, hml, hown, hts, hX, hbl, hlocks, hgv⟩ := id h.1
  obtain ⟨kc1, hk1, hS, hRel⟩ := hS0
  obtain ⟨v1, v2, v3, x4, hl, hx4, b1, b2, b3⟩ := hl_unl hS
  obtain ⟨_, _, hk, hf, hG, hw, hfr, had, hP, hD, hSS⟩ := hS
  refine lv_iinc (k := 4) hx hb (show decode code 1347 = .ok (.iinc 4 6, 3) by decide +kernel) hl rfl rfl (by decide) rfl (fun ls' hl' => ?_)
  refine lv_goto (tgt := 23) hx hb (show decode code 1350 = .ok (.goto (-1327), 3) by decide +kernel) (by decide) ?_
  refine kk ls' ws H locs ⟨kc1, hk1, ⟨⟨[(0, .ref b), (1, v1), (2, v2), (3, v3), (4, .int (x4 + Int32.ofInt 6))], ⟨hl'.1, hl'.2.1, fun q hq => ?_⟩, ⟨rfl, b, rfl, rfl⟩, ⟨rfl, b1⟩, ⟨rfl, b2⟩, ⟨rfl, b3⟩, ⟨rfl, _, rfl, ?_⟩, trivial⟩, trivial, (fun _ h => by cases h), hf, y_Go_to (y_Go_of hG), hw, y_fr_refl, rfl, hP, hD, hSS⟩, hRel⟩
  · refine hl'.2.2 q ?_
    have hv : ∀ (n : Nat) (v : Value), n < 4 → (n, v) ∈ [((0 : Nat), Value.ref b), (1, v1), (2, v2), (3, v3), (4, .int x4)] → (n, v) ∈ List.filter (fun q : Nat × Value => !(q.1 == 4) && !(q.1 + 1 == 4 && q.2.category == 2)) [((0 : Nat), Value.ref b), (1, v1), (2, v2), (3, v3), (4, .int x4)] := by
      intro n v hn hm
      refine List.mem_filter.mpr ⟨hm, ?_⟩
      have hc3 : n = 3 → v.category = 1 := by
        intro h3
        subst h3
        simp at hm
        subst hm
        obtain ⟨a, _, ha⟩ := b3
        rw [ha]
        rfl
      by_cases h3 : n = 3
      · subst h3
        have := hc3 rfl
        simp [this]
      · simp
        omega
    rcases List.mem_cons.mp hq with rfl | hq
    · exact List.mem_cons_of_mem _ (hv _ _ (by decide) (by simp))
    rcases List.mem_cons.mp hq with rfl | hq
    · exact List.mem_cons_of_mem _ (hv _ _ (by decide) (by simp))
    rcases List.mem_cons.mp hq with rfl | hq
    · exact List.mem_cons_of_mem _ (hv _ _ (by decide) (by simp))
    rcases List.mem_cons.mp hq with rfl | hq
    · exact List.mem_cons_of_mem _ (hv _ _ (by decide) (by simp))
    have := List.mem_singleton.mp hq
    subst this
    exact List.mem_cons_self
  · have h9 := hl_add hx4 (show (Int32.ofInt 6).toInt = 6 by decide) (by omega) (by omega)
    show some (((i + 6 : Nat) : Int) + 0) = _
    rw [h9]
    exact congrArg some (by omega)
end RLC
section RLL
variable {p : Program} {l : Launch} {e : Env} {s : State} {m : MethodId} {below : List Frame} {meth : Method} {c : Code} {b L : Nat} {xs : Nat → Int32} {kc : Nat → ClassId} {D : va_G} {EX : (Nat → Prop) → State → Heap → Prop}
set_option maxHeartbeats 2000000 in
theorem rl_loop (h : hl_C EX p s m meth c b L xs kc D) (hL : L ≤ 3072) (h5 : ∀ kc1 : Nat → ClassId, (∀ k, k < 1000 → kc1 k = kc k) → rl_mc0 p l e s m below meth c b L xs kc1 D 381) (h6 : ∀ kc1 : Nat → ClassId, (∀ k, k < 1000 → kc1 k = kc k) → rl_mc0 p l e s m below meth c b L xs kc1 D 421) : ∀ (N i nc ns : Nat), L < i + N → nc + N ≤ 600000 → ns + 6 * N ≤ 7000000 → ∀ ls ws H locs, (i ≤ 3072 ∧ rl_S s b kc D xs i ls ws H locs) → hl_W p l e s m below meth c b H locs nc ns (F0 m 23 ls []) := by
  obtain ⟨hx, hb, hr, hml, hown, hts, hX, hbl, hlocks, hgv⟩ := id h.1
  intro N
  induction N with
  | zero =>
    intro i nc ns hN hnc hns ls ws H locs ⟨hi9, kc1, hk1, hS⟩
    exact hl_head (hl_Ck h hk1) hL (fun hi => absurd hi (by omega)) (by omega) (by omega) hi9 hS.1
  | succ N ih =>
    intro i nc ns hN hnc hns ls ws H locs ⟨hi9, kc1, hk1, hS⟩
    have h' := hl_Ck h hk1
    refine hl_head h' hL (fun hi => ?_) (by omega) (by omega) hi9 hS.1
    have kk0 : ∀ nc' ns' : Nat, nc' ≤ nc + 1 → ns' ≤ ns + 6 → ∀ ls ws H locs, rl_S s b kc D xs i ls ws H locs → hl_W p l e s m below meth c b H locs nc' ns' (F0 m 1347 ls []) := fun nc' ns' g1 g2 ls ws H locs hS => rl_next h hL hi (fun ls ws H locs hS => ih (i + 6) nc' ns' (by omega) (by omega) (by omega) ls ws H locs ⟨by omega, hS⟩) hS
    have kk : ∀ nc' ns' : Nat, nc' ≤ nc + 1 → ns' ≤ ns + 6 → ∀ ls ws H locs, rl_S s b kc1 D xs i ls ws H locs → hl_W p l e s m below meth c b H locs nc' ns' (F0 m 1347 ls []) := fun nc' ns' g1 g2 ls ws H locs hS9 => kk0 nc' ns' g1 g2 ls ws H locs (rl_Sk hk1 hS9)
    have h5 := h5 kc1 hk1 i nc ns hi (by omega) (by omega) kk
    have h6 := h6 kc1 hk1 i nc ns hi (by omega) (by omega) kk
    have hcs : ∀ {pc : Nat}, rl_ckx (-2147483648) 2147483647 pc = true → hl_W p l e s m below meth c b H locs nc ns (F0 m pc ls []) := fun hck => rl_case h' hck hi (z_any _).1 (z_any _).2 hL (by omega) (by omega) (kk nc ns (by omega) (by omega)) ls ws H locs hS
    exact ⟨kk nc ns (by omega) (by omega) ls ws H locs ⟨kc1, fun _ _ => rfl, hS⟩, List.forall_mem_cons.mpr ⟨⟨220, rfl, rl_c0 h' hL hi (by omega) (by omega) (kk nc ns (by omega) (by omega)) ls ws H locs hS⟩, List.forall_mem_cons.mpr ⟨⟨293, rfl, hcs rl_k1⟩, List.forall_mem_cons.mpr ⟨⟨318, rfl, rl_c2 h' hL hi (by omega) (by omega) (kk nc ns (by omega) (by omega)) ls ws H locs hS⟩, List.forall_mem_cons.mpr ⟨⟨331, rfl, rl_c3 h' hL hi (by omega) (by omega) (kk nc ns (by omega) (by omega)) ls ws H locs hS⟩, List.forall_mem_cons.mpr ⟨⟨344, rfl, hcs rl_k4⟩, List.forall_mem_cons.mpr ⟨⟨381, rfl, h5 ls ws H locs hS⟩, List.forall_mem_cons.mpr ⟨⟨421, rfl, h6 ls ws H locs hS⟩, List.forall_mem_cons.mpr ⟨⟨461, rfl, hcs rl_k7⟩, List.forall_mem_cons.mpr ⟨⟨486, rfl, hcs rl_k8⟩, List.forall_mem_cons.mpr ⟨⟨523, rfl, hcs rl_k9⟩, List.forall_mem_cons.mpr ⟨⟨560, rfl, hcs rl_k10⟩, List.forall_mem_cons.mpr ⟨⟨597, rfl, hcs rl_k11⟩, List.forall_mem_cons.mpr ⟨⟨622, rfl, hcs rl_k12⟩, List.forall_mem_cons.mpr ⟨⟨647, rfl, hcs rl_k13⟩, List.forall_mem_cons.mpr ⟨⟨660, rfl, hcs rl_k14⟩, List.forall_mem_cons.mpr ⟨⟨697, rfl, hcs rl_k15⟩, List.forall_mem_cons.mpr ⟨⟨710, rfl, hcs rl_k16⟩, List.forall_mem_cons.mpr ⟨⟨771, rfl, hcs rl_k17⟩, List.forall_mem_cons.mpr ⟨⟨784, rfl, hcs rl_k18⟩, List.forall_mem_cons.mpr ⟨⟨809, rfl, hcs rl_k19⟩, List.forall_mem_cons.mpr ⟨⟨834, rfl, hcs rl_k20⟩, List.forall_mem_cons.mpr ⟨⟨859, rfl, hcs rl_k21⟩, List.forall_mem_cons.mpr ⟨⟨896, rfl, hcs rl_k22⟩, List.forall_mem_cons.mpr ⟨⟨933, rfl, hcs rl_k23⟩, List.forall_mem_cons.mpr ⟨⟨958, rfl, hcs rl_k24⟩, List.forall_mem_cons.mpr ⟨⟨971, rfl, hcs rl_k25⟩, List.forall_mem_cons.mpr ⟨⟨996, rfl, hcs rl_k26⟩, List.forall_mem_cons.mpr ⟨⟨1033, rfl, hcs rl_k27⟩, List.forall_mem_cons.mpr ⟨⟨1046, rfl, hcs rl_k28⟩, List.forall_mem_cons.mpr ⟨⟨1059, rfl, hcs rl_k29⟩, List.forall_mem_cons.mpr ⟨⟨1072, rfl, hcs rl_k30⟩, List.forall_mem_cons.mpr ⟨⟨1085, rfl, hcs rl_k31⟩, List.forall_mem_cons.mpr ⟨⟨1098, rfl, hcs rl_k32⟩, List.forall_mem_cons.mpr ⟨⟨1135, rfl, hcs rl_k33⟩, List.forall_mem_cons.mpr ⟨⟨1184, rfl, rl_c34 h' hL hi (by omega) (by omega) (kk nc ns (by omega) (by omega)) ls ws H locs hS⟩, List.forall_mem_cons.mpr ⟨⟨1209, rfl, hcs rl_k35⟩, List.forall_mem_cons.mpr ⟨⟨1234, rfl, rl_c36 h' (by omega) (by omega) (kk nc ns (by omega) (by omega)) ls ws H locs hS⟩, List.forall_mem_cons.mpr ⟨⟨1247, rfl, hcs rl_k37⟩, List.forall_mem_cons.mpr ⟨⟨1272, rfl, rl_c38 h' hL hi (by omega) (by omega) (kk nc ns (by omega) (by omega)) ls ws H locs hS⟩, List.forall_mem_cons.mpr ⟨⟨1297, rfl, rl_c39 h' hL hi (by omega) (by omega) (kk nc ns (by omega) (by omega)) ls ws H locs hS⟩, List.forall_mem_cons.mpr ⟨⟨1322, rfl, hcs rl_k40⟩, fun _ h => absurd h List.not_mem_nil⟩⟩⟩⟩⟩⟩⟩⟩⟩⟩⟩⟩⟩⟩⟩⟩⟩⟩⟩⟩⟩⟩⟩⟩⟩⟩⟩⟩⟩⟩⟩⟩⟩⟩⟩⟩⟩⟩⟩⟩⟩⟩
end RLL
/-- the same cells at the start: zeros -/
def zy_o (c : Option zC) (k : Nat) : Bool := match c with
  | some (.inl (_, vs)) => match vs[k]? with
    | some (.inl (.inl (some x))) => decide (x.toInt = 0)
    | _ => false
  | some (.inr (.inl (_, es))) => match es[k]? with
    | some (.inl (some x)) => decide (x.toInt = 0)
    | _ => false
  | _ => false
theorem zy_o_ok {xb : Nat} {env : Nat → Int32} {kc : Nat → ClassId} {ws : va_W} (h : z_w xb env kc zw0 ws) {r k : Nat} (hz : zy_o zw0[r]? k = true) : ∃ x : Int32, y_at ws r k = some x ∧ x.toInt = 0 := by
  unfold zy_o at hz
  split at hz
  next ci vs he =>
    split at hz
    next x0 hx0 =>
      obtain ⟨q, q1, vs', q2, hv⟩ := z_L_get h he
      obtain ⟨a, e⟩ := q
      dsimp only at q2
      subst q2
      obtain ⟨v, v1, x, rfl, hx⟩ := z_L_get hv hx0
      have hx : x = x0 := hx
      subst hx
      refine ⟨x, ?_, of_decide_eq_true hz⟩
      unfold y_at
      rw [q1]
      dsimp only
      rw [v1]
      rfl
    next => cases hz
  next kk es he =>
    split at hz
    next x0 hx0 =>
      obtain ⟨q, q1, f, q2, hf⟩ := z_L_get h he
      obtain ⟨a, e⟩ := q
      dsimp only at q2
      subst q2
      have h4 : f k = x0 := hf k _ hx0
      refine ⟨f k, ?_, by rw [h4]; exact of_decide_eq_true hz⟩
      unfold y_at
      rw [q1]
      dsimp only
      rw [if_pos (List.getElem?_eq_some_iff.mp hx0).1]
    next => cases hz
  next => cases hz
theorem zy_rl : (rl_L.all fun q => zy_o zw0[q.1.1]? q.1.2 && zy_o zw0[q.2.1.1]? q.2.1.2) = true := by decide +kernel
theorem zy_Rel {xb : Nat} {env : Nat → Int32} {kc : Nat → ClassId} {ws : va_W} (h : z_w xb env kc zw0 ws) : rl_R rl_L ws := by
  intro q hq
  have h9 := List.all_eq_true.mp zy_rl q hq
  rw [Bool.and_eq_true] at h9
  obtain ⟨x, x1, x2⟩ := zy_o_ok h h9.1
  obtain ⟨y, y1, y2⟩ := zy_o_ok h h9.2
  have : y = x := y_i32 (by omega)
  subst this
  exact ⟨y, x1, y1⟩

theorem zy_bl : ((List.range 940).all fun j => zy_o zw0[2]? j && zy_o zw0[210]? j) = true := by decide +kernel
theorem zy_By {xb : Nat} {env : Nat → Int32} {kc : Nat → ClassId} {ws : va_W} (h : z_w xb env kc zw0 ws) (hw : y_w kc (z_ad xb ws) yTY ws) : rb_R ws := by
  intro j
  unfold r_b x_of
  by_cases hj : j < 940
  · have h9 := List.all_eq_true.mp zy_bl j (List.mem_range.mpr hj)
    rw [Bool.and_eq_true] at h9
    obtain ⟨x, x1, x2⟩ := zy_o_ok h h9.1
    obtain ⟨y, y1, y2⟩ := zy_o_ok h h9.2
    rw [x1, y1]
    dsimp only
    omega
  · have r1 := (xy_row hw (show y_T yTY 2 = some _ from rfl) j).2 (Nat.le_of_not_lt hj)
    have r2 := (xy_row hw (show y_T yTY 210 = some _ from rfl) j).2 (Nat.le_of_not_lt hj)
    rw [r1, r2]
    rfl
