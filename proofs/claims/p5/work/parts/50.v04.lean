/-! ===== rows of numbers ===== -/
section YQ3
variable {p : Program} {l : Launch} {e : Env} {R : Room} {s : State} {m : MethodId} {args : Array Value} {below : List Frame} {meth : Method} {c : Code} {Q : State → Prop} {cc : ByteArray}
variable {xb : Nat} {kc : Nat → ClassId} {D : va_G} {cl : List vw_C} {A : Nat → Prop} {H0 : Heap} {nL : Nat} {TY : List (List yC)} {eff RC : yR} {GR : List yGr} {RI : va_W → Prop} {ws0 : va_W} {nc ns : Nat} {env : List Int}
variable {zl : List (Nat × yV)} {st : List yV} {kn : yN} {fl : yX} {pc : Nat} {tys : List (ClassId × FieldType)}
theorem y_iald (hx : p.tables.exec = Jvm.exec) (hb : c.code = cc) {B : yB} (hB : y_B B env) {r a0 b0 : Nat} {t : yI} {sg : List (Nat × Int × Int)} {q : Int × Int} (hK : va_K D cl tys s) (ht : tys[0]? = some (kc 0, .int)) (hd : decode cc pc = .ok (.iaload, 1)) (hw : y_T TY r = some (.inr (.inl (0, sg)))) (hi : y_ix B t (y_len sg) = some (a0, b0)) (hq : y_jn sg a0 b0 = some q) (kk : y_K (y_G p l e R s m args below meth c Q xb kc D cl A H0 nL TY eff GR RI ws0 nc ns) env [((y_ld B kn r (y_nm B t) (y_gref B kn fl.2.1 fl.2.2 r (y_nm B t) GR 0 q)).1, pc + 1, (zl, .inl (y_ld B kn r (y_nm B t) (y_gref B kn fl.2.1 fl.2.2 r (y_nm B t) GR 0 q)).2.1 :: st, (y_ld B kn r (y_nm B t) (y_gref B kn fl.2.1 fl.2.2 r (y_nm B t) GR 0 q)).2.2, fl))]) : y_G p l e R s m args below meth c Q xb kc D cl A H0 nL TY eff GR RI ws0 nc ns env pc (zl, .inl t :: .inr (.inl (some (r + 1))) :: st, kn, fl) := by
  intro ls sv ws H locs ⟨h1, h2, hX⟩
  obtain ⟨hkn, hf, hGs, hwt, hfr, had, hP, hD, hS⟩ := id hX
  obtain ⟨_, sv', rfl, ⟨y, rfl, hy⟩, h4⟩ := y_st1 h2
  obtain ⟨_, sv'', rfl, ⟨a, ha, rfl⟩, h5⟩ := y_st1 h4
  obtain ⟨a', e', hws, f, rfl, hf9⟩ := hwt r _ hw
  obtain rfl := y_adr had hws ha
  obtain ⟨hi1, hi2, hi3, hi4, hi5⟩ := y_ix_ok hB hy hi
  refine va_iald hx hb hK hP r 0 hws ht hi1 hd ?_
  obtain ⟨⟨lo, hi⟩, g1, g2, g3⟩ := y_jn_ok (lo := q.1) (hi := q.2) hq _ hi2 hi3
  have g4 := hf9 _ lo hi g1
  have hat : y_at ws r y.toNatClampNeg = some (f y.toNatClampNeg) := by
    unfold y_at
    rw [hws]
    dsimp only
    rw [if_pos hi4]
  have hyn : y_e env (y_nm B t) = some ((y.toNatClampNeg : Nat) : Int) := by rw [hi5]; exact y_nm_ok hB hy
  obtain ⟨m1, m2⟩ := y_gref_ok hB hkn hGs hyn hat (GR := GR) (i := 0) (q := q) (fun k g hg => by rw [Nat.zero_add]; exact hg) (by dsimp only at g2; omega) (by dsimp only at g3; omega)
  obtain ⟨env', k1, k2, k3, k4⟩ := y_ld_ok hB hkn hyn hat m1 m2
  exact kk _ List.mem_cons_self env' k1 k2 ls _ ws H locs ⟨y_l_mono k1 h1, ⟨⟨_, rfl, k3⟩, z_L_mono (y_v_mono k1) h5⟩, k4, (y_X_mono k1 hX).2⟩
theorem y_bald (hx : p.tables.exec = Jvm.exec) (hb : c.code = cc) {B : yB} (hB : y_B B env) {r a0 b0 : Nat} {t : yI} {sg : List (Nat × Int × Int)} {q : Int × Int} (hK : va_K D cl tys s) (ht : tys[2]? = some (kc 2, .byte)) (hd : decode cc pc = .ok (.baload, 1)) (hw : y_T TY r = some (.inr (.inl (2, sg)))) (hi : y_ix B t (y_len sg) = some (a0, b0)) (hq : y_jn sg a0 b0 = some q) (kk : y_K (y_G p l e R s m args below meth c Q xb kc D cl A H0 nL TY eff GR RI ws0 nc ns) env [((y_ld B kn r (y_nm B t) (y_gref B kn fl.2.1 fl.2.2 r (y_nm B t) GR 0 q)).1, pc + 1, (zl, .inl (y_ld B kn r (y_nm B t) (y_gref B kn fl.2.1 fl.2.2 r (y_nm B t) GR 0 q)).2.1 :: st, (y_ld B kn r (y_nm B t) (y_gref B kn fl.2.1 fl.2.2 r (y_nm B t) GR 0 q)).2.2, fl))]) : y_G p l e R s m args below meth c Q xb kc D cl A H0 nL TY eff GR RI ws0 nc ns env pc (zl, .inl t :: .inr (.inl (some (r + 1))) :: st, kn, fl) := by
  intro ls sv ws H locs ⟨h1, h2, hX⟩
  obtain ⟨hkn, hf, hGs, hwt, hfr, had, hP, hD, hS⟩ := id hX
  obtain ⟨_, sv', rfl, ⟨y, rfl, hy⟩, h4⟩ := y_st1 h2
  obtain ⟨_, sv'', rfl, ⟨a, ha, rfl⟩, h5⟩ := y_st1 h4
  obtain ⟨a', e', hws, f, rfl, hf9⟩ := hwt r _ hw
  obtain rfl := y_adr had hws ha
  obtain ⟨hi1, hi2, hi3, hi4, hi5⟩ := y_ix_ok hB hy hi
  refine va_bald hx hb hK hP r 2 hws ht hi1 hd ?_
  obtain ⟨⟨lo, hi⟩, g1, g2, g3⟩ := y_jn_ok (lo := q.1) (hi := q.2) hq _ hi2 hi3
  have g4 := hf9 _ lo hi g1
  have hat : y_at ws r y.toNatClampNeg = some (f y.toNatClampNeg) := by
    unfold y_at
    rw [hws]
    dsimp only
    rw [if_pos hi4]
  have hyn : y_e env (y_nm B t) = some ((y.toNatClampNeg : Nat) : Int) := by rw [hi5]; exact y_nm_ok hB hy
  obtain ⟨m1, m2⟩ := y_gref_ok hB hkn hGs hyn hat (GR := GR) (i := 0) (q := q) (fun k g hg => by rw [Nat.zero_add]; exact hg) (by dsimp only at g2; omega) (by dsimp only at g3; omega)
  obtain ⟨env', k1, k2, k3, k4⟩ := y_ld_ok hB hkn hyn hat m1 m2
  exact kk _ List.mem_cons_self env' k1 k2 ls _ ws H locs ⟨y_l_mono k1 h1, ⟨⟨_, rfl, k3⟩, z_L_mono (y_v_mono k1) h5⟩, k4, (y_X_mono k1 hX).2⟩
theorem y_zald (hx : p.tables.exec = Jvm.exec) (hb : c.code = cc) {B : yB} (hB : y_B B env) {r a0 b0 : Nat} {t : yI} {sg : List (Nat × Int × Int)} {q : Int × Int} (hK : va_K D cl tys s) (ht : tys[3]? = some (kc 3, .boolean)) (hd : decode cc pc = .ok (.baload, 1)) (hw : y_T TY r = some (.inr (.inl (3, sg)))) (hi : y_ix B t (y_len sg) = some (a0, b0)) (hq : y_jn sg a0 b0 = some q) (kk : y_K (y_G p l e R s m args below meth c Q xb kc D cl A H0 nL TY eff GR RI ws0 nc ns) env [((y_ld B kn r (y_nm B t) (y_gref B kn fl.2.1 fl.2.2 r (y_nm B t) GR 0 q)).1, pc + 1, (zl, .inl (y_ld B kn r (y_nm B t) (y_gref B kn fl.2.1 fl.2.2 r (y_nm B t) GR 0 q)).2.1 :: st, (y_ld B kn r (y_nm B t) (y_gref B kn fl.2.1 fl.2.2 r (y_nm B t) GR 0 q)).2.2, fl))]) : y_G p l e R s m args below meth c Q xb kc D cl A H0 nL TY eff GR RI ws0 nc ns env pc (zl, .inl t :: .inr (.inl (some (r + 1))) :: st, kn, fl) := by
  intro ls sv ws H locs ⟨h1, h2, hX⟩
  obtain ⟨hkn, hf, hGs, hwt, hfr, had, hP, hD, hS⟩ := id hX
  obtain ⟨_, sv', rfl, ⟨y, rfl, hy⟩, h4⟩ := y_st1 h2
  obtain ⟨_, sv'', rfl, ⟨a, ha, rfl⟩, h5⟩ := y_st1 h4
  obtain ⟨a', e', hws, f, rfl, hf9⟩ := hwt r _ hw
  obtain rfl := y_adr had hws ha
  obtain ⟨hi1, hi2, hi3, hi4, hi5⟩ := y_ix_ok hB hy hi
  refine va_zald hx hb hK hP r 3 hws ht hi1 hd ?_
  obtain ⟨⟨lo, hi⟩, g1, g2, g3⟩ := y_jn_ok (lo := q.1) (hi := q.2) hq _ hi2 hi3
  have g4 := hf9 _ lo hi g1
  have hat : y_at ws r y.toNatClampNeg = some (f y.toNatClampNeg) := by
    unfold y_at
    rw [hws]
    dsimp only
    rw [if_pos hi4]
  have hyn : y_e env (y_nm B t) = some ((y.toNatClampNeg : Nat) : Int) := by rw [hi5]; exact y_nm_ok hB hy
  obtain ⟨m1, m2⟩ := y_gref_ok hB hkn hGs hyn hat (GR := GR) (i := 0) (q := q) (fun k g hg => by rw [Nat.zero_add]; exact hg) (by dsimp only at g2; omega) (by dsimp only at g3; omega)
  obtain ⟨env', k1, k2, k3, k4⟩ := y_ld_ok hB hkn hyn hat m1 m2
  exact kk _ List.mem_cons_self env' k1 k2 ls _ ws H locs ⟨y_l_mono k1 h1, ⟨⟨_, rfl, k3⟩, z_L_mono (y_v_mono k1) h5⟩, k4, (y_X_mono k1 hX).2⟩
theorem y_iast (hx : p.tables.exec = Jvm.exec) (hb : c.code = cc) (hRI : y_RI RC RI) {B : yB} (hB : y_B B env) {r a0 b0 : Nat} {t t0 : yI} {sg : List (Nat × Int × Int)} {q : Int × Int} (hK : va_K D cl tys s) (ht : tys[0]? = some (kc 0, .int)) (hd : decode cc pc = .ok (.iastore, 1)) (hw : y_T TY r = some (.inr (.inl (0, sg)))) (hi : y_ix B t (y_len sg) = some (a0, b0)) (hq : y_me sg a0 b0 = some q) (hin : q.1 ≤ (y_rng B t0).1 ∧ (y_rng B t0).2 ≤ q.2) (heff : y_ina eff r a0 b0 = true) (hcp : (y_grp GR 0 r).isEmpty = true ∨ fl.2.2.isEmpty = true) (kk : y_K (y_G p l e R s m args below meth c Q xb kc D cl A H0 nL TY eff GR RI ws0 nc ns) env [(B, pc + 1, (zl, st, y_kst B kn r (y_nm B t) t0, y_fst GR RC B (y_kst B kn r (y_nm B t) t0) r a0 b0 (y_nm B t) fl))]) : y_G p l e R s m args below meth c Q xb kc D cl A H0 nL TY eff GR RI ws0 nc ns env pc (zl, .inl t0 :: .inl t :: .inr (.inl (some (r + 1))) :: st, kn, fl) := by
  intro ls sv ws H locs ⟨h1, h2, hX⟩
  obtain ⟨hkn, hf, hGs, hwt, hfr, had, hP, hD, hS⟩ := id hX
  obtain ⟨_, sv', rfl, ⟨x, rfl, hxt⟩, h4⟩ := y_st1 h2
  obtain ⟨_, sv'', rfl, ⟨y, rfl, hy⟩, h5⟩ := y_st1 h4
  obtain ⟨_, sv3, rfl, ⟨a, ha, rfl⟩, h7⟩ := y_st1 h5
  obtain ⟨a', e', hws, f, rfl, hf9⟩ := hwt r _ hw
  obtain rfl := y_adr had hws ha
  obtain ⟨hi1, hi2, hi3, hi4, hi5⟩ := y_ix_ok hB hy hi
  have hr := y_rng_ok hB hxt
  have hyn : y_e env (y_nm B t) = some ((y.toNatClampNeg : Nat) : Int) := by rw [hi5]; exact y_nm_ok hB hy
  refine va_iast hx hb hK hP hD hS r 0 hws ht hi1 hd (fun H1 locs1 hP1 hD1 hS1 => ?_)
  skip
  have hat := y_at_seta (x := x) hws hi4
  have hkn' := y_kst_ok hB hkn hyn hxt hat
  refine kk _ List.mem_cons_self env (List.prefix_refl _) hB ls _ _ H1 locs1 ⟨h1, h7, y_X_step hRI hX (fun r' k' => r' = r ∧ k' = y.toNatClampNeg) (fun r' k' q => by rw [hat, if_neg q]) (fun r' k' q => ?_) (fun q => ?_) hkn' (y_Gs_store hB hGs hyn (fun r' k' q => by rw [hat, if_neg q]) hkn' hcp) (y_w_set hwt hws hw ⟨_, rfl, fun j lo hi hj => ?_⟩) (z_ad_set hws) hP1 hD1 hS1⟩
  · obtain ⟨rfl, rfl⟩ := q
    exact y_ina_ok heff _ hi2 hi3
  · unfold y_fst at q
    dsimp only at q
    rw [Bool.and_eq_true] at q
    refine ⟨q.1, fun r' k' q1 => ?_⟩
    obtain ⟨rfl, rfl⟩ := q1
    exact y_rcn_ok q.2 _ hi2 hi3
  · by_cases hjy : j = y.toNatClampNeg
    · subst hjy
      rw [pk_us]
      obtain ⟨q2, g1, g2, g3⟩ := y_me_ok (lo := q.1) (hi := q.2) hq _ hi2 hi3
      rw [hj] at g1
      cases g1
      dsimp only at g2 g3
      omega
    · rw [pk_un hjy]
      exact hf9 j lo hi hj
theorem y_bast (hx : p.tables.exec = Jvm.exec) (hb : c.code = cc) (hRI : y_RI RC RI) {B : yB} (hB : y_B B env) {r a0 b0 : Nat} {t t0 : yI} {sg : List (Nat × Int × Int)} {q : Int × Int} (hK : va_K D cl tys s) (ht : tys[2]? = some (kc 2, .byte)) (hd : decode cc pc = .ok (.bastore, 1)) (hw : y_T TY r = some (.inr (.inl (2, sg)))) (hi : y_ix B t (y_len sg) = some (a0, b0)) (hq : y_me sg a0 b0 = some q) (hin : (q.1 ≤ (y_rng B t0).1 ∧ (y_rng B t0).2 ≤ q.2) ∧ -128 ≤ (y_rng B t0).1 ∧ (y_rng B t0).2 ≤ 127) (heff : y_ina eff r a0 b0 = true) (hcp : (y_grp GR 0 r).isEmpty = true ∨ fl.2.2.isEmpty = true) (kk : y_K (y_G p l e R s m args below meth c Q xb kc D cl A H0 nL TY eff GR RI ws0 nc ns) env [(B, pc + 1, (zl, st, y_kst B kn r (y_nm B t) t0, y_fst GR RC B (y_kst B kn r (y_nm B t) t0) r a0 b0 (y_nm B t) fl))]) : y_G p l e R s m args below meth c Q xb kc D cl A H0 nL TY eff GR RI ws0 nc ns env pc (zl, .inl t0 :: .inl t :: .inr (.inl (some (r + 1))) :: st, kn, fl) := by
  intro ls sv ws H locs ⟨h1, h2, hX⟩
  obtain ⟨hkn, hf, hGs, hwt, hfr, had, hP, hD, hS⟩ := id hX
  obtain ⟨_, sv', rfl, ⟨x, rfl, hxt⟩, h4⟩ := y_st1 h2
  obtain ⟨_, sv'', rfl, ⟨y, rfl, hy⟩, h5⟩ := y_st1 h4
  obtain ⟨_, sv3, rfl, ⟨a, ha, rfl⟩, h7⟩ := y_st1 h5
  obtain ⟨a', e', hws, f, rfl, hf9⟩ := hwt r _ hw
  obtain rfl := y_adr had hws ha
  obtain ⟨hi1, hi2, hi3, hi4, hi5⟩ := y_ix_ok hB hy hi
  have hr := y_rng_ok hB hxt
  have hyn : y_e env (y_nm B t) = some ((y.toNatClampNeg : Nat) : Int) := by rw [hi5]; exact y_nm_ok hB hy
  refine va_bast hx hb hK hP hD hS r 2 hws ht hi1 hd (fun H1 locs1 hP1 hD1 hS1 => ?_)
  have hnar : vp_nar .byte x = x := by
    refine Int32.toInt_inj.mp ?_
    show (x.toInt8.toInt32).toInt = x.toInt
    exact y_i2b_id (by omega) (by omega)
  rw [hnar] at hP1 hD1
  have hat := y_at_seta (x := x) hws hi4
  have hkn' := y_kst_ok hB hkn hyn hxt hat
  refine kk _ List.mem_cons_self env (List.prefix_refl _) hB ls _ _ H1 locs1 ⟨h1, h7, y_X_step hRI hX (fun r' k' => r' = r ∧ k' = y.toNatClampNeg) (fun r' k' q => by rw [hat, if_neg q]) (fun r' k' q => ?_) (fun q => ?_) hkn' (y_Gs_store hB hGs hyn (fun r' k' q => by rw [hat, if_neg q]) hkn' hcp) (y_w_set hwt hws hw ⟨_, rfl, fun j lo hi hj => ?_⟩) (z_ad_set hws) hP1 hD1 hS1⟩
  · obtain ⟨rfl, rfl⟩ := q
    exact y_ina_ok heff _ hi2 hi3
  · unfold y_fst at q
    dsimp only at q
    rw [Bool.and_eq_true] at q
    refine ⟨q.1, fun r' k' q1 => ?_⟩
    obtain ⟨rfl, rfl⟩ := q1
    exact y_rcn_ok q.2 _ hi2 hi3
  · by_cases hjy : j = y.toNatClampNeg
    · subst hjy
      rw [pk_us]
      obtain ⟨q2, g1, g2, g3⟩ := y_me_ok (lo := q.1) (hi := q.2) hq _ hi2 hi3
      rw [hj] at g1
      cases g1
      dsimp only at g2 g3
      omega
    · rw [pk_un hjy]
      exact hf9 j lo hi hj
theorem y_zast (hx : p.tables.exec = Jvm.exec) (hb : c.code = cc) (hRI : y_RI RC RI) {B : yB} (hB : y_B B env) {r a0 b0 : Nat} {t t0 : yI} {sg : List (Nat × Int × Int)} {q : Int × Int} (hK : va_K D cl tys s) (ht : tys[3]? = some (kc 3, .boolean)) (hd : decode cc pc = .ok (.bastore, 1)) (hw : y_T TY r = some (.inr (.inl (3, sg)))) (hi : y_ix B t (y_len sg) = some (a0, b0)) (hq : y_me sg a0 b0 = some q) (hin : (q.1 ≤ (y_rng B t0).1 ∧ (y_rng B t0).2 ≤ q.2) ∧ 0 ≤ (y_rng B t0).1 ∧ (y_rng B t0).2 ≤ 1) (heff : y_ina eff r a0 b0 = true) (hcp : (y_grp GR 0 r).isEmpty = true ∨ fl.2.2.isEmpty = true) (kk : y_K (y_G p l e R s m args below meth c Q xb kc D cl A H0 nL TY eff GR RI ws0 nc ns) env [(B, pc + 1, (zl, st, y_kst B kn r (y_nm B t) t0, y_fst GR RC B (y_kst B kn r (y_nm B t) t0) r a0 b0 (y_nm B t) fl))]) : y_G p l e R s m args below meth c Q xb kc D cl A H0 nL TY eff GR RI ws0 nc ns env pc (zl, .inl t0 :: .inl t :: .inr (.inl (some (r + 1))) :: st, kn, fl) := by
  intro ls sv ws H locs ⟨h1, h2, hX⟩
  obtain ⟨hkn, hf, hGs, hwt, hfr, had, hP, hD, hS⟩ := id hX
  obtain ⟨_, sv', rfl, ⟨x, rfl, hxt⟩, h4⟩ := y_st1 h2
  obtain ⟨_, sv'', rfl, ⟨y, rfl, hy⟩, h5⟩ := y_st1 h4
  obtain ⟨_, sv3, rfl, ⟨a, ha, rfl⟩, h7⟩ := y_st1 h5
  obtain ⟨a', e', hws, f, rfl, hf9⟩ := hwt r _ hw
  obtain rfl := y_adr had hws ha
  obtain ⟨hi1, hi2, hi3, hi4, hi5⟩ := y_ix_ok hB hy hi
  have hr := y_rng_ok hB hxt
  have hyn : y_e env (y_nm B t) = some ((y.toNatClampNeg : Nat) : Int) := by rw [hi5]; exact y_nm_ok hB hy
  refine va_zast hx hb hK hP hD hS r 3 hws ht hi1 hd (fun H1 locs1 hP1 hD1 hS1 => ?_)
  have hnar : vp_nar .boolean x = x := by
    have h3 : x.toInt = 0 ∨ x.toInt = 1 := by omega
    rcases h3 with h3 | h3
    · obtain rfl : x = 0 := Int32.toInt_inj.mp h3
      decide +kernel
    · obtain rfl : x = 1 := Int32.toInt_inj.mp h3
      decide +kernel
  rw [hnar] at hP1 hD1
  have hat := y_at_seta (x := x) hws hi4
  have hkn' := y_kst_ok hB hkn hyn hxt hat
  refine kk _ List.mem_cons_self env (List.prefix_refl _) hB ls _ _ H1 locs1 ⟨h1, h7, y_X_step hRI hX (fun r' k' => r' = r ∧ k' = y.toNatClampNeg) (fun r' k' q => by rw [hat, if_neg q]) (fun r' k' q => ?_) (fun q => ?_) hkn' (y_Gs_store hB hGs hyn (fun r' k' q => by rw [hat, if_neg q]) hkn' hcp) (y_w_set hwt hws hw ⟨_, rfl, fun j lo hi hj => ?_⟩) (z_ad_set hws) hP1 hD1 hS1⟩
  · obtain ⟨rfl, rfl⟩ := q
    exact y_ina_ok heff _ hi2 hi3
  · unfold y_fst at q
    dsimp only at q
    rw [Bool.and_eq_true] at q
    refine ⟨q.1, fun r' k' q1 => ?_⟩
    obtain ⟨rfl, rfl⟩ := q1
    exact y_rcn_ok q.2 _ hi2 hi3
  · by_cases hjy : j = y.toNatClampNeg
    · subst hjy
      rw [pk_us]
      obtain ⟨q2, g1, g2, g3⟩ := y_me_ok (lo := q.1) (hi := q.2) hq _ hi2 hi3
      rw [hj] at g1
      cases g1
      dsimp only at g2 g3
      omega
    · rw [pk_un hjy]
      exact hf9 j lo hi hj
theorem y_lald (hx : p.tables.exec = Jvm.exec) (hb : c.code = cc) {B : yB} (hB : y_B B env) {r n a0 b0 : Nat} {es : List Int} {t : yI} (hK : va_K D cl tys s) (ht : tys[1]? = some (kc 1, .long)) (hd : decode cc pc = .ok (.laload, 1)) (hw : y_T TY r = some (.inr (.inr (.inl (n, es))))) (hi : y_ix B t n = some (a0, b0)) (kk : y_K (y_G p l e R s m args below meth c Q xb kc D cl A H0 nL TY eff GR RI ws0 nc ns) env [(B, pc + 1, (zl, .inr (.inr ()) :: st, kn, fl))]) : y_G p l e R s m args below meth c Q xb kc D cl A H0 nL TY eff GR RI ws0 nc ns env pc (zl, .inl t :: .inr (.inl (some (r + 1))) :: st, kn, fl) := by
  intro ls sv ws H locs ⟨h1, h2, hX⟩
  obtain ⟨hkn, hf, hGs, hwt, hfr, had, hP, hD, hS⟩ := id hX
  obtain ⟨_, sv', rfl, ⟨y, rfl, hy⟩, h4⟩ := y_st1 h2
  obtain ⟨_, sv'', rfl, ⟨a, ha, rfl⟩, h5⟩ := y_st1 h4
  obtain ⟨a', e', hws, f, rfl, _⟩ := hwt r _ hw
  obtain rfl := y_adr had hws ha
  obtain ⟨hi1, _⟩ := y_ix_ok hB hy hi
  refine va_lald hx hb hK hP r 1 hws ht hi1 hd ?_
  exact kk _ List.mem_cons_self env (List.prefix_refl _) hB ls _ ws H locs ⟨h1, ⟨⟨_, rfl⟩, h5⟩, hX⟩
theorem y_last (hx : p.tables.exec = Jvm.exec) (hb : c.code = cc) (hRI : y_RI RC RI) {B : yB} (hB : y_B B env) {r n a0 b0 : Nat} {es : List Int} {t : yI} (hK : va_K D cl tys s) (ht : tys[1]? = some (kc 1, .long)) (hd : decode cc pc = .ok (.lastore, 1)) (hw : y_T TY r = some (.inr (.inr (.inl (n, es))))) (hi : y_ix B t n = some (a0, b0)) (hlw : y_lw es a0 = true) (kk : y_K (y_G p l e R s m args below meth c Q xb kc D cl A H0 nL TY eff GR RI ws0 nc ns) env [(B, pc + 1, (zl, st, kn, fl))]) : y_G p l e R s m args below meth c Q xb kc D cl A H0 nL TY eff GR RI ws0 nc ns env pc (zl, .inr (.inr ()) :: .inl t :: .inr (.inl (some (r + 1))) :: st, kn, fl) := by
  intro ls sv ws H locs ⟨h1, h2, hX⟩
  obtain ⟨hkn, hf, hGs, hwt, hfr, had, hP, hD, hS⟩ := id hX
  obtain ⟨_, sv', rfl, ⟨x, rfl⟩, h4⟩ := y_st1 h2
  obtain ⟨_, sv'', rfl, ⟨y, rfl, hy⟩, h5⟩ := y_st1 h4
  obtain ⟨_, sv3, rfl, ⟨a, ha, rfl⟩, h7⟩ := y_st1 h5
  obtain ⟨a', e', hws, f, rfl, hf9⟩ := hwt r _ hw
  obtain rfl := y_adr had hws ha
  obtain ⟨hi1, hi2, _⟩ := y_ix_ok hB hy hi
  refine va_last hx hb hK hP hD hS r 1 hws ht hi1 hd (fun H1 locs1 hP1 hD1 hS1 => ?_)
  have hat : ∀ r' k', y_at (ws.set r (a, .inl (kc 1, n, .inr (.inl (vp_updL f y.toNatClampNeg x))))) r' k' = y_at ws r' k' := y_at_setn hws (fun k => by
    unfold y_at
    rw [List.getElem?_set_self (List.getElem?_eq_some_iff.mp hws).1, hws])
  refine kk _ List.mem_cons_self env (List.prefix_refl _) hB ls _ _ H1 locs1 ⟨h1, h7, y_X_step hRI hX (fun _ _ => False) (fun r' k' _ => hat r' k') (fun _ _ q => q.elim) (fun q => ⟨q, fun _ _ q => q.elim⟩) (fun q hq => ?_) (y_Gs_same hGs hat) (y_w_set hwt hws hw ⟨_, rfl, fun j x' hj => by
    have h9 := y_lc_lw hlw hj
    have hne : j ≠ y.toNatClampNeg := by omega
    have h8 : vp_updL f y.toNatClampNeg x j = f j := by simp [vp_updL, hne]
    rw [h8]
    exact hf9 j x' hj⟩) (z_ad_set hws) hP1 hD1 hS1⟩
  obtain ⟨j, x', g1, g2, g3⟩ := hkn q hq
  exact ⟨j, x', g1, by rw [hat]; exact g2, g3⟩
theorem y_aald (hx : p.tables.exec = Jvm.exec) (hb : c.code = cc) {B : yB} (hB : y_B B env) {r a0 b0 kt : Nat} {t : yI} {es : List (Option Nat)} {C : String} (hK : va_K D cl tys s) (ht : tys[kt]? = some (kc kt, .object C)) (hd : decode cc pc = .ok (.aaload, 1)) (hw : y_T TY r = some (.inr (.inr (.inr (kt, es))))) (hi : y_ix B t es.length = some (a0, b0)) (hall : ∀ k, k < es.length → ∃ i, es[k]? = some (some i)) (kk : y_K (y_G p l e R s m args below meth c Q xb kc D cl A H0 nL TY eff GR RI ws0 nc ns) env ((List.range' a0 (b0 + 1 - a0)).flatMap (fun (k : Nat) => match es[k]? with | some (some i) => y_way (y_eqb B t (.inl (Int.ofNat k))) (pc + 1) (zl, .inr (.inl (some i)) :: st, kn, fl) | _ => []))) : y_G p l e R s m args below meth c Q xb kc D cl A H0 nL TY eff GR RI ws0 nc ns env pc (zl, .inl t :: .inr (.inl (some (r + 1))) :: st, kn, fl) := by
  intro ls sv ws H locs ⟨h1, h2, hX⟩
  obtain ⟨hkn, hf, hGs, hwt, hfr, had, hP, hD, hS⟩ := id hX
  obtain ⟨_, sv', rfl, ⟨y, rfl, hy⟩, h4⟩ := y_st1 h2
  obtain ⟨_, sv'', rfl, ⟨a, ha, rfl⟩, h5⟩ := y_st1 h4
  obtain ⟨a', e', hws, f, rfl, hf9⟩ := hwt r _ hw
  obtain rfl := y_adr had hws ha
  obtain ⟨hi1, hi2, hi3, hi4, hi5⟩ := y_ix_ok hB hy hi
  refine va_aldq hx hb hK hP r kt hws ht hi1 hd ?_
  obtain ⟨i, hes⟩ := hall _ hi4
  obtain ⟨b, hb1, hb2⟩ := hf9 _ _ hes
  rw [hb2]
  obtain ⟨B', e1, hB'⟩ := y_eqb_ok (y := .inl (Int.ofNat y.toNatClampNeg)) hB hy rfl hi5.symm
  refine kk (B', pc + 1, (zl, .inr (.inl (some i)) :: st, kn, fl)) (List.mem_flatMap.mpr ⟨y.toNatClampNeg, List.mem_range'.mpr ⟨y.toNatClampNeg - a0, by omega, by omega⟩, ?_⟩) env (List.prefix_refl _) hB' ls _ ws H locs ⟨h1, ⟨⟨b, hb1, rfl⟩, h5⟩, hX⟩
  rw [hes]
  dsimp only
  rw [e1]
  exact List.mem_cons_self
theorem y_alen (hx : p.tables.exec = Jvm.exec) (hb : c.code = cc) {r : Nat} {sg : List (Nat × Int × Int)} (hn : y_len sg < 2147483648) (hK : va_K D cl tys s) (ht : tys[0]? = some (kc 0, .int)) (hd : decode cc pc = .ok (.arraylength, 1)) (hw : y_T TY r = some (.inr (.inl (0, sg)))) (kk : y_G p l e R s m args below meth c Q xb kc D cl A H0 nL TY eff GR RI ws0 nc ns env (pc + 1) (zl, .inl (.inl (y_len sg : Int)) :: st, kn, fl)) : y_G p l e R s m args below meth c Q xb kc D cl A H0 nL TY eff GR RI ws0 nc ns env pc (zl, .inr (.inl (some (r + 1))) :: st, kn, fl) := by
  intro ls sv ws H locs ⟨h1, h2, hX⟩
  obtain ⟨hkn, hf, hGs, hwt, hfr, had, hP, hD, hS⟩ := id hX
  obtain ⟨_, sv', rfl, ⟨a, ha, rfl⟩, h4⟩ := y_st1 h2
  obtain ⟨a', e', hws, f, rfl, hf9⟩ := hwt r _ hw
  obtain rfl := y_adr had hws ha
  refine va_alen hx hb hK hP r 0 hws ht rfl hd ?_
  refine kk ls _ ws H locs ⟨h1, ⟨⟨_, rfl, ?_⟩, h4⟩, hX⟩
  show some ((y_len sg : Nat) : Int) = some (Int32.ofNat (y_len sg)).toInt
  rw [← Int32.ofInt_eq_ofNat, y_oi (by omega) (by omega)]
end YQ3
