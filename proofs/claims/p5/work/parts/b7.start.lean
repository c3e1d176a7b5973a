/-- the CAPITAL's numbers at the start -/
def zy_rv (c : Option zC) (k : Nat) : Option Int := match c with
  | some (.inl (_, vs)) => match vs[k]? with
    | some (.inl (.inl (some x))) => some x.toInt
    | _ => none
  | some (.inr (.inl (_, es))) => match es[k]? with
    | some (.inl (some x)) => some x.toInt
    | _ => none
  | _ => none
theorem zy_rv_ok {xb : Nat} {env : Nat → Int32} {kc : Nat → ClassId} {ws : va_W} (h : z_w xb env kc zw0 ws) {r k : Nat} {z : Int} (hz : zy_rv zw0[r]? k = some z) : x_of ws x_0 r k = z := by
  unfold zy_rv at hz
  split at hz
  next ci vs he =>
    split at hz
    next x0 hx0 =>
      obtain ⟨q, q1, vs', q2, hv⟩ := z_L_get h he
      obtain ⟨a, e⟩ := q
      dsimp only at q2
      subst q2
      obtain ⟨v, v1, x, rfl, hx⟩ := z_L_get hv hx0
      have hx : x = x0 := hx
      subst hx
      unfold x_of y_at
      rw [q1]
      dsimp only
      rw [v1]
      exact Option.some.inj hz
    next => cases hz
  next kk es he =>
    split at hz
    next x0 hx0 =>
      obtain ⟨q, q1, f, q2, hf⟩ := z_L_get h he
      obtain ⟨a, e⟩ := q
      dsimp only at q2
      subst q2
      have h4 : f k = x0 := hf k _ hx0
      unfold x_of y_at
      rw [q1]
      dsimp only
      rw [if_pos (List.getElem?_eq_some_iff.mp hx0).1]
      dsimp only
      rw [h4]
      exact Option.some.inj hz
    next => cases hz
  next => cases hz
theorem zy_rn0 : zy_rv zw0[12]? 3 = some 0 ∧ zy_rv zw0[211]? 0 = some 0 ∧ zy_rv zw0[211]? 1 = some 0 ∧ zy_rv zw0[211]? 2 = some 0 ∧ zy_rv zw0[155]? 3 = some 0 ∧ zy_rv zw0[182]? 3 = some 0 ∧ zy_rv zw0[224]? 0 = some 0 ∧ zy_rv zw0[224]? 1 = some 0 := by decide +kernel
theorem zy_Rn {xb : Nat} {env : Nat → Int32} {kc kc' : Nat → ClassId} {ws : va_W} (h : z_w xb env kc zw0 ws) : rn_R kc' ws := by
  obtain ⟨h1, h2, h3, h4, h5, h6, h7, h8⟩ := zy_rn0
  have e1 := zy_rv_ok h h1
  have e2 := zy_rv_ok h h2
  have e3 := zy_rv_ok h h3
  have e4 := zy_rv_ok h h4
  have e5 := zy_rv_ok h h5
  have e6 := zy_rv_ok h h6
  have e7 := zy_rv_ok h h7
  have e8 := zy_rv_ok h h8
  have hn : ∀ u x, ¬ n3_in 12 (x_of ws x_0) (kv_v kc') u x := fun u x ⟨k, k1, _⟩ => by omega
  refine ⟨⟨⟨(show x_of ws x_0 12 3 ≤ 22 by omega), (show x_of ws x_0 211 0 ≤ 8 by omega), (show x_of ws x_0 211 1 ≤ 6 by omega), (show x_of ws x_0 211 2 ≤ 8 by omega)⟩, [], [], [], ⟨fun x => ⟨fun q => absurd q (hn 0 x), fun q => absurd q List.not_mem_nil⟩, fun x => ⟨fun q => absurd q (hn 1 x), fun q => absurd q List.not_mem_nil⟩, fun x => ⟨fun q => absurd q (hn 2 x), fun q => absurd q List.not_mem_nil⟩⟩, ⟨fun x _ => ⟨fun ⟨k, k1, _⟩ => ?_, fun q => absurd q List.not_mem_nil⟩, fun x _ => ⟨fun ⟨k, k1, _⟩ => ?_, fun q => absurd q List.not_mem_nil⟩, fun x _ => ⟨fun ⟨k, k1, _⟩ => ?_, fun q => absurd q List.not_mem_nil⟩⟩⟩, ⟨e5.trans e7.symm, e6.trans e8.symm⟩, fun q => absurd e7 q, fun q => absurd e8 q⟩
  · have k1 : (k : Int) < x_of ws x_0 211 0 := k1
    omega
  · have k1 : (k : Int) < x_of ws x_0 211 1 := k1
    omega
  · have k1 : (k : Int) < x_of ws x_0 211 2 := k1
    omega
theorem zy_rf0 : zy_rv zw0[0]? 10 = some 0 ∧ zy_rv zw0[209]? 15 = some 0 := by decide +kernel
theorem zy_Rf {xb : Nat} {env : Nat → Int32} {kc : Nat → ClassId} {ws : va_W} (h : z_w xb env kc zw0 ws) : rf_R ws := (zy_rv_ok h zy_rf0.1).trans (zy_rv_ok h zy_rf0.2).symm
/-! ===== what lies outside the world, at the start ===== -/
def zEX (aK aV : Nat) (A : Nat → Prop) (U : State) (H : Heap) : Prop := zEs aK aV A U H ∧ vk_R "HeldCoats$Tape" 19 zTx aK U ∧ zEx A U H
theorem zDL_in : ∀ w ∈ zDL, w ∈ lw_tbl := by decide +kernel
theorem zDL_moved {u U : State} (hW : u.WarmedH U.vm) (h : ∀ w ∈ zDL, va_Nw w u) : ∀ w ∈ zDL, va_Nw w U := by
  intro w hw
  have h0 := h w hw
  unfold zDL at hw
  simp only [List.mem_cons, List.not_mem_nil, or_false] at hw
  rcases hw with rfl | rfl | rfl | rfl
  · exact va_Nw.warmD hW h0
  · exact va_Nw.warmD hW h0
  · exact va_Nw.warmD hW h0
  · exact va_Nw.warmC hW h0
theorem zEX_ok (aK aV : Nat) : z_EX (zEX aK aV) := ⟨fun A u U H hW h => ⟨zEs_moved hW.alike h.1, vk_R.warm hW h.2.1, vx_Zq.moved hW.alike h.2.2.1, vx_Zq.moved hW.alike h.2.2.2.1, zDL_moved hW h.2.2.2.2⟩, fun A U H H1 hq h => ⟨zEs_kept hq h.1, h.2.1, h.2.2.1.kept hq, h.2.2.2.1.kept hq, h.2.2.2.2⟩, fun A B U H hAB h => ⟨zEs_narrow hAB h.1, h.2.1, h.2.2.1.narrow hAB, h.2.2.2.1.narrow hAB, h.2.2.2.2⟩⟩
abbrev zsV : Term := .field (.string "HeldCoats$Tape" 19) "java/lang/String" "value" "[B"
theorem zs_bytes : ∀ j : Nat, j < 123 → (Cond.eq (.elem zsV (.int (Int32.ofNat j))) (.int (zbs.getD j 0))) ∈ flatC (Jvm.Cond.and given_1 narrow_1) := by decide +kernel
theorem zs_nest : ∀ q ∈ zNT, Cond.methodLinkNest q.1 q.2.1 q.2.2.1 q.2.2.2 ∈ lw_tbl := by decide +kernel
theorem zs_nest2 : ∀ q ∈ zNS, Cond.methodLinkNest q.1 q.2.1 q.2.2.1 q.2.2.2 ∈ lw_tbl := by decide +kernel
set_option maxHeartbeats 4000000 in
theorem zs_out {s : State} {b : Nat} (hts : ∀ w ∈ lw_tbl, w.before #[Value.ref b] s = true) (hgv : (Jvm.Cond.and given_1 narrow_1).before #[Value.ref b] s = true) : ∃ aK aV : Nat, zEX aK aV (zA0 s) s s.heap := by
  have hA : ∀ a : Nat, a < s.heap.size → ¬ zA0 s a := fun a h => Nat.not_le.mpr h
  have hs := flat_of_before _ hgv
  obtain ⟨adK, adV, ⟨hS1, -⟩, hev⟩ := vk_Sof (args := #[Value.ref b]) (s := s) (N := 1) (tm := fun _ => .string "HeldCoats$Tape" 19) (len := [123]) (byt := [zbs]) (A := zA0 s)
    (fun i hi => by obtain rfl : i = 0 := by omega
                    decide)
    (fun _ _ => hs (Cond.exactly (.string "HeldCoats$Tape" 19) "java/lang/String") (by decide +kernel))
    (fun _ _ => hs (Cond.eq (.field (.string "HeldCoats$Tape" 19) "java/lang/String" "coder" "B") (.int 0)) (by decide +kernel))
    (fun _ _ => hs (Cond.arrayOf zsV .byte) (by decide +kernel))
    (fun i hi => by obtain rfl : i = 0 := by omega
                    exact hs (Cond.eq (.length zsV) (.int 123)) (by decide +kernel))
    (fun i hi j hj => by obtain rfl : i = 0 := by omega
                         exact hs _ (zs_bytes j hj))
    (fun i j hi hj hij => absurd (show i = j by omega) hij) hA
  obtain ⟨h1, h2, h3, h4⟩ := hS1 0 (by decide)
  refine ⟨adK 0, adV 0, ⟨h1, h2, h3, h4, va_Zof (hts (.laysStatic "java/lang/String" "COMPACT_STRINGS" "Z") (by decide +kernel)) (hts (.initialized "java/lang/String") (by decide +kernel)) (va_eqi (hs (Cond.eq (.static "java/lang/String" "COMPACT_STRINGS" "Z") (.int 1)) (by decide +kernel))) hA, va_Zqof (hts (.laysStatic "jdk/internal/util/Preconditions" "SIOOBE_FORMATTER" "Ljava/util/function/BiFunction;") (by decide +kernel)) (hts (.initialized "jdk/internal/util/Preconditions") (by decide +kernel)) (hs (.isRef (.static "jdk/internal/util/Preconditions" "SIOOBE_FORMATTER" "Ljava/util/function/BiFunction;")) (by decide +kernel)) hA⟩, vk_R.of (hts (.stringRef "HeldCoats$Tape" 19 zTx) (by decide +kernel)) (hev 0 (by decide)), ?_⟩
  exact ⟨vx_Zqof (hts (.laysStatic Bundle.tN "UNASSIGNED_STACK" Bundle.steD) (by decide +kernel)) (hts (.initialized Bundle.tN) (by decide +kernel)) (hs (.isRef (.static Bundle.tN "UNASSIGNED_STACK" Bundle.steD)) (by decide +kernel)) hA, vx_Zqof (hts (.laysStatic Bundle.tN "SUPPRESSED_SENTINEL" Bundle.listD) (by decide +kernel)) (hts (.initialized Bundle.tN) (by decide +kernel)) (hs (.isRef (.static Bundle.tN "SUPPRESSED_SENTINEL" Bundle.listD)) (by decide +kernel)) hA, fun w hw => va_Nw.of (zDL_ot w hw) (hts w (zDL_in w hw))⟩
set_option maxHeartbeats 4000000 in
theorem zs_known {s : State} {b : Nat} (hts : ∀ w ∈ lw_tbl, w.before #[Value.ref b] s = true) : ∃ (kc : Nat → ClassId) (D : va_G), va_K D vwCl (z_TY kc) s := by
  have hz : ∀ w ∈ zTB, w.before #[Value.ref b] s = true := fun w hw => hts w (List.mem_filter.mp hw).1
  obtain ⟨c0, i0, hk0⟩ := u_known (C := RX0) (T := TX0) (N := 5) (n := 5) hz zK_0.2.1 (hz _ zw_424)
  obtain ⟨c1, i1, hk1⟩ := u_known (C := RX1) (T := TX1) (N := 14) (n := 14) hz zK_1.2.1 (hz _ zw_447)
  obtain ⟨c2, i2, hk2⟩ := u_known (C := RX2) (T := TX2) (N := 4) (n := 4) hz zK_2.2.1 (hz _ zw_506)
  obtain ⟨c3, i3, hk3⟩ := u_known (C := RX3) (T := TX3) (N := 16) (n := 16) hz zK_3.2.1 (hz _ zw_141)
  obtain ⟨c4, i4, hk4⟩ := u_known (C := RX4) (T := TX4) (N := 4) (n := 4) hz zK_4.2.1 (hz _ zw_271)
  obtain ⟨c5, i5, hk5⟩ := u_known (C := RX5) (T := TX5) (N := 4) (n := 4) hz zK_5.2.1 (hz _ zw_147)
  obtain ⟨c6, i6, hk6⟩ := u_known (C := RX6) (T := TX6) (N := 3) (n := 3) hz zK_6.2.1 (hz _ zw_356)
  obtain ⟨c7, i7, hk7⟩ := u_known (C := RX7) (T := TX7) (N := 6) (n := 6) hz zK_7.2.1 (hz _ zw_376)
  obtain ⟨c8, i8, hk8⟩ := u_known (C := RX8) (T := TX8) (N := 3) (n := 3) hz zK_8.2.1 (hz _ zw_403)
  obtain ⟨c9, i9, hk9⟩ := u_known (C := RX9) (T := TX9) (N := 13) (n := 13) hz zK_9.2.1 (hz _ zw_294)
  obtain ⟨c10, i10, hk10⟩ := u_known (C := RX10) (T := TX10) (N := 11) (n := 11) hz zK_10.2.1 (hz _ zw_35)
  obtain ⟨c11, i11, hk11⟩ := u_known (C := RX11) (T := TX11) (N := 11) (n := 11) hz zK_11.2.1 (hz _ zw_27)
  obtain ⟨c12, i12, hk12⟩ := u_known (C := RX12) (T := TX12) (N := 49) (n := 49) hz zK_12.2.1 (hz _ zw_1356)
  obtain ⟨a0, ka0, cm0, f0a, f0b, f0c⟩ := Cond.arrayClass_spec (hts (.arrayClass .int) (by decide +kernel))
  obtain ⟨a1, ka1, cm1, f1a, f1b, f1c⟩ := Cond.arrayClass_spec (hts (.arrayClass .long) (by decide +kernel))
  obtain ⟨a2, ka2, cm2, f2a, f2b, f2c⟩ := Cond.arrayClass_spec (hts (.arrayClass .byte) (by decide +kernel))
  obtain ⟨a3, ka3, cm3, f3a, f3b, f3c⟩ := Cond.arrayClass_spec (hts (.arrayClass .boolean) (by decide +kernel))
  obtain ⟨cm4, a4, ka4, f4a, f4b, f4c, f4d, f4e⟩ := Cond.arrayOver_spec (hts (.arrayOver (.object "HeldCoats$State")) (by decide +kernel))
  obtain ⟨cm5, a5, ka5, f5a, f5b, f5c, f5d, f5e⟩ := Cond.arrayOver_spec (hts (.arrayOver (.object "HeldCoats$Image")) (by decide +kernel))
  refine ⟨fun k => match k with | 0 => a0 | 1 => a1 | 2 => a2 | 3 => a3 | 4 => a4 | _ => a5, (fun k => match k with | 0 => c0 | 1 => c1 | 2 => c2 | 3 => c3 | 4 => c4 | 5 => c5 | 6 => c6 | 7 => c7 | 8 => c8 | 9 => c9 | 10 => c10 | 11 => c11 | _ => c12, fun k => match k with | 0 => i0 | 1 => i1 | 2 => i2 | 3 => i3 | 4 => i4 | 5 => i5 | 6 => i6 | 7 => i7 | 8 => i8 | 9 => i9 | 10 => i10 | 11 => i11 | _ => i12), fun k q hq => ?_, fun k q hq => ?_⟩
  · match k, hq with
    | 0, hq => cases hq; exact hk0
    | 1, hq => cases hq; exact hk1
    | 2, hq => cases hq; exact hk2
    | 3, hq => cases hq; exact hk3
    | 4, hq => cases hq; exact hk4
    | 5, hq => cases hq; exact hk5
    | 6, hq => cases hq; exact hk6
    | 7, hq => cases hq; exact hk7
    | 8, hq => cases hq; exact hk8
    | 9, hq => cases hq; exact hk9
    | 10, hq => cases hq; exact hk10
    | 11, hq => cases hq; exact hk11
    | 12, hq => cases hq; exact hk12
    | k + 13, hq => simp [vwCl] at hq
  · match k, hq with
    | 0, hq => cases hq; exact ⟨fun n z => ⟨fun k h => (by cases h), ka0, f0b, cm0, f0c⟩, f0a⟩
    | 1, hq => cases hq; exact ⟨fun n z => ⟨fun k h => (by cases h), ka1, f1b, cm1, f1c⟩, f1a⟩
    | 2, hq => cases hq; exact ⟨fun n z => ⟨fun k h => (by cases h), ka2, f2b, cm2, f2c⟩, f2a⟩
    | 3, hq => cases hq; exact ⟨fun n z => ⟨fun k h => (by cases h), ka3, f3b, cm3, f3c⟩, f3a⟩
    | 4, hq => cases hq; exact ⟨fun n z => ⟨fun k h => (by cases h), ka4, f4c, cm4, f4d⟩, ka4, cm4, f4c, f4d, f4a, f4e⟩
    | 5, hq => cases hq; exact ⟨fun n z => ⟨fun k h => (by cases h), ka5, f5c, cm5, f5d⟩, ka5, cm5, f5c, f5d, f5a, f5e⟩
    | k + 6, hq => simp [z_TY] at hq
theorem zl_T {EX : (Nat → Prop) → State → Heap → Prop} (hE : z_EX EX) {aK aV : Nat} (hsub : ∀ (A : Nat → Prop) (U : State) (H : Heap), EX A U H → zEs aK aV A U H ∧ vk_R "HeldCoats$Tape" 19 zTx aK U) {l : Launch} {kc : Nat → ClassId} {D : va_G} {b : Nat} {xs : Nat → Int32} : z_spok EX l zTB zNS kc D vwCl b xs zspT zP := by
  intro j za w rz w2 y cc maxL ret tab mc ms na d hd h hj
  unfold zspT at h
  split at h
  next hc =>
    obtain ⟨rfl, rfl, hw9⟩ := hc
    obtain rfl := z_eqW_ok hw9
    cases h
    have e9 := Option.some.inj (zq_jT.symm.trans hj)
    unfold zm_X10_init at e9
    cases e9
    exact zt_contract hE hsub hd
  next => cases h
/-- THE LAW, from its entry -/
theorem whole_start {p : Program} {e : Env} {s : State} {m : MethodId} {below : List Frame} {meth : Method} {c : Code} (l : Launch) (hst : l.stackTraces = false) {b L : Nat} {xs : Nat → Int32} (hL : L ≤ 3072) (C0 : lw_At p s m meth c b L xs) : W p l e room_1 s m #[Value.ref b] below meth c s.heap [] 0 0 (lw_Z below #[Value.ref b] s) (entryFrame m ([Value.ref b] : List Value).toArray 7) := by
  obtain ⟨hx, hb, hr, hml, hown, hts, hX, hbl, hlocks, hgv⟩ := id C0
  obtain ⟨aK, aV, hEX⟩ := zs_out hts hgv
  obtain ⟨kc, D, hK⟩ := zs_known hts
  have hao1 := va_AO.of (hts (.arrayOver (.object "HeldCoats$State")) (by decide +kernel))
  have hao2 := va_AO.of (hts (.arrayOver (.object "HeldCoats$Image")) (by decide +kernel))
  have hN : z_N zNT s := ⟨fun q hq => va_Nw.of rfl (hts _ (zs_nest q hq)), hao1, hao2⟩
  have hN2 : z_N zNS s := ⟨fun q hq => va_Nw.of rfl (hts _ (zs_nest2 q hq)), hao1, hao2⟩
  have hC : hl_C (zEX aK aV) p s m meth c b L xs kc D := ⟨C0, hK, hN, zEX_ok aK aV, hEX⟩
  have hT : z_spok (zEX aK aV) l zTB zNS kc D vwCl b xs zspT zP := zl_T (zEX_ok aK aV) (fun _ _ _ h => ⟨h.1, h.2.1⟩)
  have hthr : ∀ (A : Nat → Prop) (U : State) (H : Heap), zEX aK aV A U H → zEx A U H := fun _ _ _ h => h.2.2
  have h23 : z_G p l e room_1 s m #[Value.ref b] below meth c (lw_Z below #[Value.ref b] s) b xs kc D vwCl (zA0 s) s.heap (fun _ => none) 7 23 zs0 := by
    intro ls sv ws H locs ⟨g1, g2, g3, g6, hP, hD, hS⟩
    obtain rfl : sv = [] := by
      cases sv with
      | nil => rfl
      | cons _ _ => exact g2.elim
    refine rl_loop hC hL (fun kc1 hk => rv_c5 (hl_Ck hC hk) hL hthr hst) (fun kc1 hk => rv_c6 (hl_Ck hC hk) hL hthr hst) 3073 0 226 6198 (by omega) (by decide) (by decide) ls ws H locs ⟨by decide, kv_mk kc ws, kv_mk_k, ⟨?_, trivial, (fun _ h => by cases h), (fun _ => zy_R g3), y_Go_to (zy_Go g3), kv_K (zy_w g3), y_fr_refl, rfl, hP, hD, hS⟩, zy_Rel g3, zy_By g3 (zy_w g3), zy_Rn g3, zy_Rf g3⟩
    obtain ⟨lv, hlv, hz⟩ := g1
    match lv, hz with
    | [(n4, v4), (n3, v3), (n2, v2), (n1, v1), (n0, v0)], ⟨⟨e4, x4, hv4, b4⟩, ⟨e3, b3⟩, ⟨e2, b2⟩, ⟨e1, b1⟩, ⟨e0, b0⟩, _⟩ =>
      dsimp only at e0 e1 e2 e3 e4 hv4
      subst e0 e1 e2 e3 e4 hv4
      have b4 : x4 = 0 := b4
      subst b4
      refine ⟨[(0, v0), (1, v1), (2, v2), (3, v3), (4, .int 0)], ⟨hlv.1, hlv.2.1, fun q hq => hlv.2.2 q ?_⟩, ⟨rfl, b0⟩, ⟨rfl, b1⟩, ⟨rfl, b2⟩, ⟨rfl, b3⟩, ⟨rfl, 0, rfl, rfl⟩, trivial⟩
      simp only [List.mem_cons, List.not_mem_nil, or_false] at hq ⊢
      rcases hq with h | h | h | h | h
      · exact Or.inr (Or.inr (Or.inr (Or.inr h)))
      · exact Or.inr (Or.inr (Or.inr (Or.inl h)))
      · exact Or.inr (Or.inr (Or.inl h))
      · exact Or.inr (Or.inl h)
      · exact Or.inl h
    | [], h => exact h.elim
    | [_], h => exact h.2.elim
    | [_, _], h => exact h.2.2.elim
    | [_, _, _], h => exact h.2.2.2.elim
    | [_, _, _, _], h => exact h.2.2.2.2.elim
    | _ :: _ :: _ :: _ :: _ :: _ :: _, h => exact h.2.2.2.2.2.elim
  have h0 : z_G p l e room_1 s m #[Value.ref b] below meth c (lw_Z below #[Value.ref b] s) b xs kc D vwCl (zA0 s) s.heap (fun _ => none) 7 0 ([(0, .inr (.inl (some 0)))], [], [], 0, 0) := z_run_ok (zEX_ok aK aV) (zl_B (z_any _).1 (z_any _).2) z_prog hT 4000 none 20 600000 7000000 zm_lawA 0 _ 23 zs0 (z_is_ok zr_pre) zo_lawA p e room_1 s m _ below meth c _ _ _ _ ⟨hx, hb, hml, hown, fun h => absurd (show x.name = "<init>" from h) (by decide), fun w hw => hts w (List.mem_filter.mp hw).1, hK, hN2, fun _ h => h, by decide, by decide, by decide, by decide, rfl, hEX, fun _ h => by cases h⟩ (fun _ q => by cases q) h23
  have hl := lv_entry ([.ref b]) (n := 7) (Nat.le_of_ble_eq_true rfl)
  rw [lg_entry_eq]
  refine h0 _ [] [] s.heap [] ⟨⟨_, hl, ⟨⟨rfl, b, rfl, rfl⟩, trivial⟩⟩, trivial, trivial, (fun _ _ q => by cases q), (fun k q hq => by simp at hq), ⟨(fun i j p q hp => by simp at hp), (fun k q hq => by simp at hq)⟩, va_S.rf⟩
