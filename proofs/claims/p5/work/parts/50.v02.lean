/-! ===== the run beside the machine ===== -/
def y_X (xb : Nat) (kc : Nat → ClassId) (D : va_G) (cl : List vw_C) (A : Nat → Prop) (H0 : Heap) (TY : List (List yC)) (eff : yR) (GR : List yGr) (RI : va_W → Prop) (ws0 : va_W) (env : List Int) (kn : yN) (fl : yX) (ws : va_W) (H : Heap) (locs : List Loc) : Prop :=
  y_k env ws kn ∧ (fl.1 = true → RI ws) ∧ y_Gs GR env fl.2.1 fl.2.2 ws ∧ y_w kc (z_ad xb ws0) TY ws ∧ y_fr eff ws0 ws ∧ z_ad xb ws = z_ad xb ws0 ∧ va_P D cl ws H ∧ va_D A ws ∧ va_S A H0 H locs
/-- the machine's frame, heap and writes beside a state of the run -/
def y_S (xb : Nat) (kc : Nat → ClassId) (D : va_G) (cl : List vw_C) (A : Nat → Prop) (H0 : Heap) (nL : Nat) (TY : List (List yC)) (eff : yR) (GR : List yGr) (RI : va_W → Prop) (ws0 : va_W) (env : List Int) (z : yS) (ls : Array Slot) (sv : List Value) (ws : va_W) (H : Heap) (locs : List Loc) : Prop :=
  y_l env (z_ad xb ws0) nL z.1 ls ∧ z_L (y_v env (z_ad xb ws0)) z.2.1 sv ∧ y_X xb kc D cl A H0 TY eff GR RI ws0 env z.2.2.1 z.2.2.2 ws H locs
theorem y_k_mono {env env' : List Int} (he : env <+: env') {ws : va_W} {kn : yN} (h : y_k env ws kn) : y_k env' ws kn := fun q hq => by
  obtain ⟨j, x, h1, h2, h3⟩ := h q hq
  exact ⟨j, x, y_e_mono he h1, h2, y_e_mono he h3⟩
def y_G (p : Program) (l : Launch) (e : Env) (R : Room) (s : State) (m : MethodId) (args : Array Value) (below : List Frame) (meth : Method) (c : Code) (Q : State → Prop) (xb : Nat) (kc : Nat → ClassId) (D : va_G) (cl : List vw_C) (A : Nat → Prop) (H0 : Heap) (nL : Nat) (TY : List (List yC)) (eff : yR) (GR : List yGr) (RI : va_W → Prop) (ws0 : va_W) (nc ns : Nat) (env : List Int) (pc : Nat) (z : yS) : Prop :=
  ∀ (ls : Array Slot) (sv : List Value) (ws : va_W) (H : Heap) (locs : List Loc), y_S xb kc D cl A H0 nL TY eff GR RI ws0 env z ls sv ws H locs → W p l e R s m args below meth c H locs nc ns Q (F0 m pc ls sv)
theorem y_st1 {R0 : yV → Value → Prop} {a : yV} {r : List yV} {sv : List Value} (h : z_L R0 (a :: r) sv) : ∃ x sv', sv = x :: sv' ∧ R0 a x ∧ z_L R0 r sv' := by
  cases sv with
  | nil => exact h.elim
  | cons x sv' => exact ⟨x, sv', rfl, h.1, h.2⟩
theorem y_oi {n : Int} (h1 : -2147483648 ≤ n) (h2 : n ≤ 2147483647) : (Int32.ofInt n).toInt = n := by
  rw [Int32.toInt_ofInt, show Int32.size = 4294967296 from rfl, Int.bmod_def]
  split <;> omega
theorem y_oi8 {n : Int} (h1 : -128 ≤ n) (h2 : n ≤ 127) : ((Int8.ofInt n).toInt32).toInt = n := by
  rw [Int8.toInt_toInt32, Int8.toInt_ofInt, show Int8.size = 256 from rfl, Int.bmod_def]
  split <;> omega
theorem y_oi16 {n : Int} (h1 : -32768 ≤ n) (h2 : n ≤ 32767) : ((Int16.ofInt n).toInt32).toInt = n := by
  rw [Int16.toInt_toInt32, Int16.toInt_ofInt, show Int16.size = 65536 from rfl, Int.bmod_def]
  split <;> omega
section YQ1
variable {p : Program} {l : Launch} {e : Env} {R : Room} {s : State} {m : MethodId} {args : Array Value} {below : List Frame} {meth : Method} {c : Code} {Q : State → Prop} {cc : ByteArray}
variable {xb : Nat} {kc : Nat → ClassId} {D : va_G} {cl : List vw_C} {A : Nat → Prop} {H0 : Heap} {nL : Nat} {TY : List (List yC)} {eff RC : yR} {GR : List yGr} {RI : va_W → Prop} {ws0 : va_W} {nc ns : Nat} {env : List Int}
variable {zl : List (Nat × yV)} {st : List yV} {kn : yN} {fl : yX} {pc : Nat} {tys : List (ClassId × FieldType)}
theorem y_X_mono {env' : List Int} (he : env <+: env') {ws : va_W} {H : Heap} {locs : List Loc} (h : y_X xb kc D cl A H0 TY eff GR RI ws0 env kn fl ws H locs) : y_X xb kc D cl A H0 TY eff GR RI ws0 env' kn fl ws H locs :=
  ⟨y_k_mono he h.1, h.2.1, y_Gs_mono he h.2.2.1, h.2.2.2⟩
theorem y_S_mono {env' : List Int} (he : env <+: env') {z : yS} {ls : Array Slot} {sv : List Value} {ws : va_W} {H : Heap} {locs : List Loc} (h : y_S xb kc D cl A H0 nL TY eff GR RI ws0 env z ls sv ws H locs) : y_S xb kc D cl A H0 nL TY eff GR RI ws0 env' z ls sv ws H locs :=
  ⟨y_l_mono he h.1, z_L_mono (y_v_mono he) h.2.1, y_X_mono he h.2.2⟩
/-- all that may come next -/
def y_K (G : List Int → Nat → yS → Prop) (env : List Int) (qs : List (yB × Nat × yS)) : Prop := ∀ q ∈ qs, ∀ env', env <+: env' → y_B q.1 env' → G env' q.2.1 q.2.2
theorem y_iconst (hx : p.tables.exec = Jvm.exec) (hb : c.code = cc) {n : Int} (hn : -2147483648 ≤ n ∧ n ≤ 2147483647) (hd : decode cc pc = .ok (.iconst n, 1)) (kk : y_G p l e R s m args below meth c Q xb kc D cl A H0 nL TY eff GR RI ws0 nc ns env (pc + 1) (zl, .inl (.inl n) :: st, kn, fl)) : y_G p l e R s m args below meth c Q xb kc D cl A H0 nL TY eff GR RI ws0 nc ns env pc (zl, st, kn, fl) := by
  intro ls sv ws H locs ⟨h1, h2, h3⟩
  refine lv_iconst hx hb hd rfl ?_
  exact kk ls _ ws H locs ⟨h1, ⟨⟨_, rfl, congrArg some (y_oi hn.1 hn.2).symm⟩, h2⟩, h3⟩
theorem y_bipush (hx : p.tables.exec = Jvm.exec) (hb : c.code = cc) {n : Int} (hn : -128 ≤ n ∧ n ≤ 127) (hd : decode cc pc = .ok (.bipush n, 2)) (kk : y_G p l e R s m args below meth c Q xb kc D cl A H0 nL TY eff GR RI ws0 nc ns env (pc + 2) (zl, .inl (.inl n) :: st, kn, fl)) : y_G p l e R s m args below meth c Q xb kc D cl A H0 nL TY eff GR RI ws0 nc ns env pc (zl, st, kn, fl) := by
  intro ls sv ws H locs ⟨h1, h2, h3⟩
  refine lv_bipush hx hb hd rfl ?_
  exact kk ls _ ws H locs ⟨h1, ⟨⟨_, rfl, congrArg some (y_oi8 hn.1 hn.2).symm⟩, h2⟩, h3⟩
theorem y_sipush (hx : p.tables.exec = Jvm.exec) (hb : c.code = cc) {n : Int} (hn : -32768 ≤ n ∧ n ≤ 32767) (hd : decode cc pc = .ok (.sipush n, 3)) (kk : y_G p l e R s m args below meth c Q xb kc D cl A H0 nL TY eff GR RI ws0 nc ns env (pc + 3) (zl, .inl (.inl n) :: st, kn, fl)) : y_G p l e R s m args below meth c Q xb kc D cl A H0 nL TY eff GR RI ws0 nc ns env pc (zl, st, kn, fl) := by
  intro ls sv ws H locs ⟨h1, h2, h3⟩
  refine lv_sipush hx hb hd rfl ?_
  exact kk ls _ ws H locs ⟨h1, ⟨⟨_, rfl, congrArg some (y_oi16 hn.1 hn.2).symm⟩, h2⟩, h3⟩
theorem y_ldc (hx : p.tables.exec = Jvm.exec) (hb : c.code = cc) {own : String} {index : Nat} {v : Int32} {n : Int} (hn : v.toInt = n) (hown : s.vm.findClass own = some m.cls) (hconst : (Jvm.Cond.constant own index v).before args s = true) (hd : decode cc pc = .ok (.ldc index, 2)) (kk : y_G p l e R s m args below meth c Q xb kc D cl A H0 nL TY eff GR RI ws0 nc ns env (pc + 2) (zl, .inl (.inl n) :: st, kn, fl)) : y_G p l e R s m args below meth c Q xb kc D cl A H0 nL TY eff GR RI ws0 nc ns env pc (zl, st, kn, fl) := by
  intro ls sv ws H locs ⟨h1, h2, h3⟩
  refine lv_ldc hx hb hown hconst hd ?_
  exact kk ls _ ws H locs ⟨h1, ⟨⟨_, rfl, congrArg some hn.symm⟩, h2⟩, h3⟩
theorem y_ldcw (hx : p.tables.exec = Jvm.exec) (hb : c.code = cc) {own : String} {index : Nat} {v : Int32} {n : Int} (hn : v.toInt = n) (hown : s.vm.findClass own = some m.cls) (hconst : (Jvm.Cond.constant own index v).before args s = true) (hd : decode cc pc = .ok (.ldc_w index, 3)) (kk : y_G p l e R s m args below meth c Q xb kc D cl A H0 nL TY eff GR RI ws0 nc ns env (pc + 3) (zl, .inl (.inl n) :: st, kn, fl)) : y_G p l e R s m args below meth c Q xb kc D cl A H0 nL TY eff GR RI ws0 nc ns env pc (zl, st, kn, fl) := by
  intro ls sv ws H locs ⟨h1, h2, h3⟩
  refine lv_ldcw hx hb hown hconst hd ?_
  exact kk ls _ ws H locs ⟨h1, ⟨⟨_, rfl, congrArg some hn.symm⟩, h2⟩, h3⟩
theorem y_iload (hx : p.tables.exec = Jvm.exec) (hb : c.code = cc) {B : yB} (hB : y_B B env) {i : Nat} {t : yI} (hd : decode cc pc = .ok (.iload i, 2)) (hg : y_get zl i = some (.inl t)) (kk : y_G p l e R s m args below meth c Q xb kc D cl A H0 nL TY eff GR RI ws0 nc ns env (pc + 2) (zl, .inl (y_nm B t) :: st, kn, fl)) : y_G p l e R s m args below meth c Q xb kc D cl A H0 nL TY eff GR RI ws0 nc ns env pc (zl, st, kn, fl) := by
  intro ls sv ws H locs ⟨h1, h2, h3⟩
  obtain ⟨x, hx1, y, rfl, hx2⟩ := y_l_at h1 hg
  refine lv_iload hx hb hd hx1 ?_
  exact kk ls _ ws H locs ⟨h1, ⟨⟨_, rfl, y_nm_ok hB hx2⟩, h2⟩, h3⟩
theorem y_iload_n (hx : p.tables.exec = Jvm.exec) (hb : c.code = cc) {B : yB} (hB : y_B B env) {k : Fin 4} {t : yI} (hd : decode cc pc = .ok (.iload_n k, 1)) (hg : y_get zl (k : Nat) = some (.inl t)) (kk : y_G p l e R s m args below meth c Q xb kc D cl A H0 nL TY eff GR RI ws0 nc ns env (pc + 1) (zl, .inl (y_nm B t) :: st, kn, fl)) : y_G p l e R s m args below meth c Q xb kc D cl A H0 nL TY eff GR RI ws0 nc ns env pc (zl, st, kn, fl) := by
  intro ls sv ws H locs ⟨h1, h2, h3⟩
  obtain ⟨x, hx1, y, rfl, hx2⟩ := y_l_at h1 hg
  refine lv_iload_n hx hb hd rfl hx1 ?_
  exact kk ls _ ws H locs ⟨h1, ⟨⟨_, rfl, y_nm_ok hB hx2⟩, h2⟩, h3⟩
theorem y_lconst (hx : p.tables.exec = Jvm.exec) (hb : c.code = cc) {n : Fin 2} (hd : decode cc pc = .ok (.lconst n, 1)) (kk : y_G p l e R s m args below meth c Q xb kc D cl A H0 nL TY eff GR RI ws0 nc ns env (pc + 1) (zl, .inr (.inr ()) :: st, kn, fl)) : y_G p l e R s m args below meth c Q xb kc D cl A H0 nL TY eff GR RI ws0 nc ns env pc (zl, st, kn, fl) := by
  intro ls sv ws H locs ⟨h1, h2, h3⟩
  refine lv_lconst hx hb hd rfl ?_
  exact kk ls _ ws H locs ⟨h1, ⟨⟨_, rfl⟩, h2⟩, h3⟩
theorem y_ldc2 (hx : p.tables.exec = Jvm.exec) (hb : c.code = cc) {own : String} {index : Nat} {v : Int64} (hown : s.vm.findClass own = some m.cls) (hconst : (Jvm.Cond.constantLong own index v).before args s = true) (hd : decode cc pc = .ok (.ldc2_w index, 3)) (kk : y_G p l e R s m args below meth c Q xb kc D cl A H0 nL TY eff GR RI ws0 nc ns env (pc + 3) (zl, .inr (.inr ()) :: st, kn, fl)) : y_G p l e R s m args below meth c Q xb kc D cl A H0 nL TY eff GR RI ws0 nc ns env pc (zl, st, kn, fl) := by
  intro ls sv ws H locs ⟨h1, h2, h3⟩
  refine lv_ldc2 hx hb hown hconst hd ?_
  exact kk ls _ ws H locs ⟨h1, ⟨⟨_, rfl⟩, h2⟩, h3⟩
theorem y_aload (hx : p.tables.exec = Jvm.exec) (hb : c.code = cc) {i r : Nat} (hd : decode cc pc = .ok (.aload i, 2)) (hg : y_get zl i = some (.inr (.inl (some r)))) (kk : y_G p l e R s m args below meth c Q xb kc D cl A H0 nL TY eff GR RI ws0 nc ns env (pc + 2) (zl, .inr (.inl (some r)) :: st, kn, fl)) : y_G p l e R s m args below meth c Q xb kc D cl A H0 nL TY eff GR RI ws0 nc ns env pc (zl, st, kn, fl) := by
  intro ls sv ws H locs ⟨h1, h2, h3⟩
  obtain ⟨x, hx1, y, hx2, rfl⟩ := y_l_at h1 hg
  refine lv_aload hx hb hd hx1 ?_
  exact kk ls _ ws H locs ⟨h1, ⟨⟨_, hx2, rfl⟩, h2⟩, h3⟩
theorem y_aload_n (hx : p.tables.exec = Jvm.exec) (hb : c.code = cc) {k : Fin 4} {r : Nat} (hd : decode cc pc = .ok (.aload_n k, 1)) (hg : y_get zl (k : Nat) = some (.inr (.inl (some r)))) (kk : y_G p l e R s m args below meth c Q xb kc D cl A H0 nL TY eff GR RI ws0 nc ns env (pc + 1) (zl, .inr (.inl (some r)) :: st, kn, fl)) : y_G p l e R s m args below meth c Q xb kc D cl A H0 nL TY eff GR RI ws0 nc ns env pc (zl, st, kn, fl) := by
  intro ls sv ws H locs ⟨h1, h2, h3⟩
  obtain ⟨x, hx1, y, hx2, rfl⟩ := y_l_at h1 hg
  refine lv_aload_n hx hb hd rfl hx1 ?_
  exact kk ls _ ws H locs ⟨h1, ⟨⟨_, hx2, rfl⟩, h2⟩, h3⟩
theorem y_istore (hx : p.tables.exec = Jvm.exec) (hb : c.code = cc) {i : Nat} {t : yI} (hd : decode cc pc = .ok (.istore i, 2)) (hn : i < nL) (kk : y_G p l e R s m args below meth c Q xb kc D cl A H0 nL TY eff GR RI ws0 nc ns env (pc + 2) (y_put zl i (.inl t), st, kn, fl)) : y_G p l e R s m args below meth c Q xb kc D cl A H0 nL TY eff GR RI ws0 nc ns env pc (zl, .inl t :: st, kn, fl) := by
  intro ls sv ws H locs ⟨⟨lv, hl, hz⟩, h2, h3⟩
  obtain ⟨x, sv', rfl, ⟨y, rfl, hy⟩, h4⟩ := y_st1 h2
  refine lv_istore hx hb hd hl hn rfl (fun ls' hl' => ?_)
  exact kk ls' _ ws H locs ⟨⟨_, hl', y_put_ok hz ⟨y, rfl, hy⟩⟩, h4, h3⟩
theorem y_istore_n (hx : p.tables.exec = Jvm.exec) (hb : c.code = cc) {k : Fin 4} {t : yI} (hd : decode cc pc = .ok (.istore_n k, 1)) (hn : (k : Nat) < nL) (kk : y_G p l e R s m args below meth c Q xb kc D cl A H0 nL TY eff GR RI ws0 nc ns env (pc + 1) (y_put zl (k : Nat) (.inl t), st, kn, fl)) : y_G p l e R s m args below meth c Q xb kc D cl A H0 nL TY eff GR RI ws0 nc ns env pc (zl, .inl t :: st, kn, fl) := by
  intro ls sv ws H locs ⟨⟨lv, hl, hz⟩, h2, h3⟩
  obtain ⟨x, sv', rfl, ⟨y, rfl, hy⟩, h4⟩ := y_st1 h2
  refine lv_istore_n hx hb hd rfl hl hn rfl (fun ls' hl' => ?_)
  exact kk ls' _ ws H locs ⟨⟨_, hl', y_put_ok hz ⟨y, rfl, hy⟩⟩, h4, h3⟩
theorem y_astore (hx : p.tables.exec = Jvm.exec) (hb : c.code = cc) {i r : Nat} (hd : decode cc pc = .ok (.astore i, 2)) (hn : i < nL) (kk : y_G p l e R s m args below meth c Q xb kc D cl A H0 nL TY eff GR RI ws0 nc ns env (pc + 2) (y_put zl i (.inr (.inl (some r))), st, kn, fl)) : y_G p l e R s m args below meth c Q xb kc D cl A H0 nL TY eff GR RI ws0 nc ns env pc (zl, .inr (.inl (some r)) :: st, kn, fl) := by
  intro ls sv ws H locs ⟨⟨lv, hl, hz⟩, h2, h3⟩
  obtain ⟨x, sv', rfl, ⟨y, hy, rfl⟩, h4⟩ := y_st1 h2
  refine lv_astore hx hb hd hl hn rfl (fun ls' hl' => ?_)
  exact kk ls' _ ws H locs ⟨⟨_, hl', y_put_ok hz ⟨y, hy, rfl⟩⟩, h4, h3⟩
theorem y_astore_n (hx : p.tables.exec = Jvm.exec) (hb : c.code = cc) {k : Fin 4} {r : Nat} (hd : decode cc pc = .ok (.astore_n k, 1)) (hn : (k : Nat) < nL) (kk : y_G p l e R s m args below meth c Q xb kc D cl A H0 nL TY eff GR RI ws0 nc ns env (pc + 1) (y_put zl (k : Nat) (.inr (.inl (some r))), st, kn, fl)) : y_G p l e R s m args below meth c Q xb kc D cl A H0 nL TY eff GR RI ws0 nc ns env pc (zl, .inr (.inl (some r)) :: st, kn, fl) := by
  intro ls sv ws H locs ⟨⟨lv, hl, hz⟩, h2, h3⟩
  obtain ⟨x, sv', rfl, ⟨y, hy, rfl⟩, h4⟩ := y_st1 h2
  refine lv_astore_n hx hb hd rfl hl hn rfl (fun ls' hl' => ?_)
  exact kk ls' _ ws H locs ⟨⟨_, hl', y_put_ok hz ⟨y, hy, rfl⟩⟩, h4, h3⟩
theorem y_dup (hx : p.tables.exec = Jvm.exec) (hb : c.code = cc) {t : yV} (hd : decode cc pc = .ok (.dup, 1)) (ht : y_cat t = 1) (kk : y_G p l e R s m args below meth c Q xb kc D cl A H0 nL TY eff GR RI ws0 nc ns env (pc + 1) (zl, t :: t :: st, kn, fl)) : y_G p l e R s m args below meth c Q xb kc D cl A H0 nL TY eff GR RI ws0 nc ns env pc (zl, t :: st, kn, fl) := by
  intro ls sv ws H locs ⟨h1, h2, h3⟩
  obtain ⟨x, sv', rfl, hv, h4⟩ := y_st1 h2
  refine lv_dup hx hb hd (by rw [← y_v_cat hv]; exact ht) ?_
  exact kk ls _ ws H locs ⟨h1, ⟨hv, hv, h4⟩, h3⟩
theorem y_dup2 (hx : p.tables.exec = Jvm.exec) (hb : c.code = cc) {t u : yV} (hd : decode cc pc = .ok (.dup2, 1)) (ht : y_cat t = 1) (hu : y_cat u = 1) (kk : y_G p l e R s m args below meth c Q xb kc D cl A H0 nL TY eff GR RI ws0 nc ns env (pc + 1) (zl, t :: u :: t :: u :: st, kn, fl)) : y_G p l e R s m args below meth c Q xb kc D cl A H0 nL TY eff GR RI ws0 nc ns env pc (zl, t :: u :: st, kn, fl) := by
  intro ls sv ws H locs ⟨h1, h2, h3⟩
  obtain ⟨x, sv', rfl, hv, h4⟩ := y_st1 h2
  obtain ⟨y, sv'', rfl, hu', h5⟩ := y_st1 h4
  refine lv_dup2_11 hx hb hd (by rw [← y_v_cat hv]; exact ht) (by rw [← y_v_cat hu']; exact hu) ?_
  exact kk ls _ ws H locs ⟨h1, ⟨hv, hu', hv, hu', h5⟩, h3⟩
theorem y_pop (hx : p.tables.exec = Jvm.exec) (hb : c.code = cc) {t : yV} (hd : decode cc pc = .ok (.pop, 1)) (ht : y_cat t = 1) (kk : y_G p l e R s m args below meth c Q xb kc D cl A H0 nL TY eff GR RI ws0 nc ns env (pc + 1) (zl, st, kn, fl)) : y_G p l e R s m args below meth c Q xb kc D cl A H0 nL TY eff GR RI ws0 nc ns env pc (zl, t :: st, kn, fl) := by
  intro ls sv ws H locs ⟨h1, h2, h3⟩
  obtain ⟨x, sv', rfl, hv, h4⟩ := y_st1 h2
  refine lv_pop hx hb hd (by rw [← y_v_cat hv]; exact ht) ?_
  exact kk ls _ ws H locs ⟨h1, h4, h3⟩
theorem y_goto (hx : p.tables.exec = Jvm.exec) (hb : c.code = cc) {off : Int} {tgt : Nat} (hd : decode cc pc = .ok (.goto off, 3)) (ht : (pc : Int) + off = (tgt : Int)) (kk : y_G p l e R s m args below meth c Q xb kc D cl A H0 nL TY eff GR RI ws0 nc ns env tgt (zl, st, kn, fl)) : y_G p l e R s m args below meth c Q xb kc D cl A H0 nL TY eff GR RI ws0 nc ns env pc (zl, st, kn, fl) := by
  intro ls sv ws H locs h
  exact lv_goto hx hb hd ht (kk ls sv ws H locs h)
theorem y_i2l (hx : p.tables.exec = Jvm.exec) (hb : c.code = cc) {t : yI} (hd : decode cc pc = .ok (.i2l, 1)) (kk : y_G p l e R s m args below meth c Q xb kc D cl A H0 nL TY eff GR RI ws0 nc ns env (pc + 1) (zl, .inr (.inr ()) :: st, kn, fl)) : y_G p l e R s m args below meth c Q xb kc D cl A H0 nL TY eff GR RI ws0 nc ns env pc (zl, .inl t :: st, kn, fl) := by
  intro ls sv ws H locs ⟨h1, h2, h3⟩
  obtain ⟨x, sv', rfl, ⟨y, rfl, hy⟩, h4⟩ := y_st1 h2
  refine lv_i2l hx hb hd rfl ?_
  exact kk ls _ ws H locs ⟨h1, ⟨⟨_, rfl⟩, h4⟩, h3⟩
theorem y_lload_n (hx : p.tables.exec = Jvm.exec) (hb : c.code = cc) {k : Fin 4} (hd : decode cc pc = .ok (.lload_n k, 1)) (hg : y_get zl (k : Nat) = some (.inr (.inr ()))) (kk : y_G p l e R s m args below meth c Q xb kc D cl A H0 nL TY eff GR RI ws0 nc ns env (pc + 1) (zl, .inr (.inr ()) :: st, kn, fl)) : y_G p l e R s m args below meth c Q xb kc D cl A H0 nL TY eff GR RI ws0 nc ns env pc (zl, st, kn, fl) := by
  intro ls sv ws H locs ⟨h1, h2, h3⟩
  obtain ⟨x, hx1, y, rfl⟩ := y_l_at h1 hg
  refine lv_lload_n hx hb hd rfl hx1 ?_
  exact kk ls _ ws H locs ⟨h1, ⟨⟨_, rfl⟩, h2⟩, h3⟩
theorem y_lstore_n (hx : p.tables.exec = Jvm.exec) (hb : c.code = cc) {k : Fin 4} (hd : decode cc pc = .ok (.lstore_n k, 1)) (hn : (k : Nat) + 1 < nL) (kk : y_G p l e R s m args below meth c Q xb kc D cl A H0 nL TY eff GR RI ws0 nc ns env (pc + 1) (y_put2 zl (k : Nat), st, kn, fl)) : y_G p l e R s m args below meth c Q xb kc D cl A H0 nL TY eff GR RI ws0 nc ns env pc (zl, .inr (.inr ()) :: st, kn, fl) := by
  intro ls sv ws H locs ⟨⟨lv, hl, hz⟩, h2, h3⟩
  obtain ⟨x, sv', rfl, ⟨y, rfl⟩, h4⟩ := y_st1 h2
  refine lv_lstore_n hx hb hd rfl hl hn rfl (fun ls' hl' => ?_)
  exact kk ls' _ ws H locs ⟨⟨_, hl', y_put2_ok hz⟩, h4, h3⟩
theorem y_ladd (hx : p.tables.exec = Jvm.exec) (hb : c.code = cc) (hd : decode cc pc = .ok (.ladd, 1)) (kk : y_G p l e R s m args below meth c Q xb kc D cl A H0 nL TY eff GR RI ws0 nc ns env (pc + 1) (zl, .inr (.inr ()) :: st, kn, fl)) : y_G p l e R s m args below meth c Q xb kc D cl A H0 nL TY eff GR RI ws0 nc ns env pc (zl, .inr (.inr ()) :: .inr (.inr ()) :: st, kn, fl) := by
  intro ls sv ws H locs ⟨h1, h2, h3⟩
  obtain ⟨_, sv', rfl, ⟨b, rfl⟩, h4⟩ := y_st1 h2
  obtain ⟨_, sv'', rfl, ⟨a, rfl⟩, h5⟩ := y_st1 h4
  refine lv_ladd hx hb hd ?_
  exact kk ls _ ws H locs ⟨h1, ⟨⟨_, rfl⟩, h5⟩, h3⟩
theorem y_lmul (hx : p.tables.exec = Jvm.exec) (hb : c.code = cc) (hd : decode cc pc = .ok (.lmul, 1)) (kk : y_G p l e R s m args below meth c Q xb kc D cl A H0 nL TY eff GR RI ws0 nc ns env (pc + 1) (zl, .inr (.inr ()) :: st, kn, fl)) : y_G p l e R s m args below meth c Q xb kc D cl A H0 nL TY eff GR RI ws0 nc ns env pc (zl, .inr (.inr ()) :: .inr (.inr ()) :: st, kn, fl) := by
  intro ls sv ws H locs ⟨h1, h2, h3⟩
  obtain ⟨_, sv', rfl, ⟨b, rfl⟩, h4⟩ := y_st1 h2
  obtain ⟨_, sv'', rfl, ⟨a, rfl⟩, h5⟩ := y_st1 h4
  refine lv_lmul hx hb hd ?_
  exact kk ls _ ws H locs ⟨h1, ⟨⟨_, rfl⟩, h5⟩, h3⟩
theorem y_lshl (hx : p.tables.exec = Jvm.exec) (hb : c.code = cc) {t : yI} (hd : decode cc pc = .ok (.lshl, 1)) (kk : y_G p l e R s m args below meth c Q xb kc D cl A H0 nL TY eff GR RI ws0 nc ns env (pc + 1) (zl, .inr (.inr ()) :: st, kn, fl)) : y_G p l e R s m args below meth c Q xb kc D cl A H0 nL TY eff GR RI ws0 nc ns env pc (zl, .inl t :: .inr (.inr ()) :: st, kn, fl) := by
  intro ls sv ws H locs ⟨h1, h2, h3⟩
  obtain ⟨_, sv', rfl, ⟨b, rfl, _⟩, h4⟩ := y_st1 h2
  obtain ⟨_, sv'', rfl, ⟨a, rfl⟩, h5⟩ := y_st1 h4
  refine lv_lshl hx hb hd rfl ?_
  exact kk ls _ ws H locs ⟨h1, ⟨⟨_, rfl⟩, h5⟩, h3⟩
theorem y_lor (hx : p.tables.exec = Jvm.exec) (hb : c.code = cc) (hd : decode cc pc = .ok (.lor, 1)) (kk : y_G p l e R s m args below meth c Q xb kc D cl A H0 nL TY eff GR RI ws0 nc ns env (pc + 1) (zl, .inr (.inr ()) :: st, kn, fl)) : y_G p l e R s m args below meth c Q xb kc D cl A H0 nL TY eff GR RI ws0 nc ns env pc (zl, .inr (.inr ()) :: .inr (.inr ()) :: st, kn, fl) := by
  intro ls sv ws H locs ⟨h1, h2, h3⟩
  obtain ⟨_, sv', rfl, ⟨b, rfl⟩, h4⟩ := y_st1 h2
  obtain ⟨_, sv'', rfl, ⟨a, rfl⟩, h5⟩ := y_st1 h4
  refine lv_lor hx hb hd ?_
  exact kk ls _ ws H locs ⟨h1, ⟨⟨_, rfl⟩, h5⟩, h3⟩
/-! numbers that are new -/
theorem y_fresh {B : yB} (hB : y_B B env) {lo hi : Int} {pc' : Nat} {st' : List yV} {v : Int32} (h1 : lo ≤ v.toInt) (h2 : v.toInt ≤ hi) {ls : Array Slot} {sv : List Value} {ws : va_W} {H : Heap} {locs : List Loc} (hS : y_S xb kc D cl A H0 nL TY eff GR RI ws0 env (zl, st', kn, fl) ls sv ws H locs) (kk : y_K (y_G p l e R s m args below meth c Q xb kc D cl A H0 nL TY eff GR RI ws0 nc ns) env [((y_mk B lo hi).1, pc', (zl, .inl (y_mk B lo hi).2 :: st', kn, fl))]) : W p l e R s m args below meth c H locs nc ns Q (F0 m pc' ls (.int v :: sv)) := by
  obtain ⟨env', he, hB', hi'⟩ := y_mk_ok hB h1 h2
  have hS' := y_S_mono he hS
  exact kk _ List.mem_cons_self env' he hB' ls _ ws H locs ⟨hS'.1, ⟨⟨v, rfl, hi'⟩, hS'.2.1⟩, hS'.2.2⟩
theorem y_lcmp (hx : p.tables.exec = Jvm.exec) (hb : c.code = cc) {B : yB} (hB : y_B B env) (hd : decode cc pc = .ok (.lcmp, 1)) (kk : y_K (y_G p l e R s m args below meth c Q xb kc D cl A H0 nL TY eff GR RI ws0 nc ns) env [((y_mk B (-1) 1).1, pc + 1, (zl, .inl (y_mk B (-1) 1).2 :: st, kn, fl))]) : y_G p l e R s m args below meth c Q xb kc D cl A H0 nL TY eff GR RI ws0 nc ns env pc (zl, .inr (.inr ()) :: .inr (.inr ()) :: st, kn, fl) := by
  intro ls sv ws H locs ⟨h1, h2, h3⟩
  obtain ⟨_, sv', rfl, ⟨b, rfl⟩, h4⟩ := y_st1 h2
  obtain ⟨_, sv'', rfl, ⟨a, rfl⟩, h5⟩ := y_st1 h4
  refine W.lcmp hx hb hd ?_
  have h9 : -1 ≤ (lg_cmp a b).toInt ∧ (lg_cmp a b).toInt ≤ 1 := by
    unfold lg_cmp
    split
    · decide
    · split <;> decide
  exact y_fresh (st' := st) hB h9.1 h9.2 ⟨h1, h5, h3⟩ kk
theorem y_i2b_id {y : Int32} (h1 : -128 ≤ y.toInt) (h2 : y.toInt ≤ 127) : (y.toInt8.toInt32).toInt = y.toInt := by
  rw [Int8.toInt_toInt32, Int32.toInt_toInt8, Int.bmod_def]
  split <;> omega
def y_i2bv (B : yB) (t : yI) : yB × yI := if -128 ≤ (y_rng B t).1 ∧ (y_rng B t).2 ≤ 127 then (B, t) else y_mk B (-128) 127
theorem y_i2b (hx : p.tables.exec = Jvm.exec) (hb : c.code = cc) {B : yB} (hB : y_B B env) {t : yI} (hd : decode cc pc = .ok (.i2b, 1)) (kk : y_K (y_G p l e R s m args below meth c Q xb kc D cl A H0 nL TY eff GR RI ws0 nc ns) env [((y_i2bv B t).1, pc + 1, (zl, .inl (y_i2bv B t).2 :: st, kn, fl))]) : y_G p l e R s m args below meth c Q xb kc D cl A H0 nL TY eff GR RI ws0 nc ns env pc (zl, .inl t :: st, kn, fl) := by
  intro ls sv ws H locs ⟨h1, h2, h3⟩
  obtain ⟨_, sv', rfl, ⟨y, rfl, hy⟩, h4⟩ := y_st1 h2
  refine lv_i2b hx hb hd rfl ?_
  have e9 : (y.toInt8.toInt32).toInt = y.toInt8.toInt := Int8.toInt_toInt32 _
  have h8 := Int8.le_toInt y.toInt8
  have h9 := Int8.toInt_lt y.toInt8
  have hr := y_rng_ok hB hy
  unfold y_i2bv at kk
  by_cases hc : -128 ≤ (y_rng B t).1 ∧ (y_rng B t).2 ≤ 127
  · rw [if_pos hc] at kk
    refine kk _ List.mem_cons_self env (List.prefix_refl _) hB ls _ ws H locs ⟨h1, ⟨⟨_, rfl, ?_⟩, h4⟩, h3⟩
    rw [y_i2b_id (by omega) (by omega)]
    exact hy
  · rw [if_neg hc] at kk
    exact y_fresh (st' := st) (lo := -128) (hi := 127) hB (by omega) (by omega) ⟨h1, h4, h3⟩ kk
/-- what an operation on two numbers gives -/
def y_two (f : Int32 → Int32 → Int32) (g : yB → yI → yI → yB × yI) : Prop := ∀ (B : yB) (env : List Int) (x y : yI) (a b : Int32), y_B B env → y_e env x = some a.toInt → y_e env y = some b.toInt → ∃ env', env <+: env' ∧ y_B (g B x y).1 env' ∧ y_e env' (g B x y).2 = some (f a b).toInt
theorem y_bin {f : Int32 → Int32 → Int32} {g : yB → yI → yI → yB × yI} (hg : y_two f g) {B : yB} (hB : y_B B env) {x y : yI} (hm : ∀ (a b : Int32) (ls : Array Slot) (sv : List Value) (H : Heap) (locs : List Loc), W p l e R s m args below meth c H locs nc ns Q (F0 m (pc + 1) ls (.int (f a b) :: sv)) → W p l e R s m args below meth c H locs nc ns Q (F0 m pc ls (.int b :: .int a :: sv))) (kk : y_K (y_G p l e R s m args below meth c Q xb kc D cl A H0 nL TY eff GR RI ws0 nc ns) env [((g B (y_nm B x) (y_nm B y)).1, pc + 1, (zl, .inl (g B (y_nm B x) (y_nm B y)).2 :: st, kn, fl))]) : y_G p l e R s m args below meth c Q xb kc D cl A H0 nL TY eff GR RI ws0 nc ns env pc (zl, .inl y :: .inl x :: st, kn, fl) := by
  intro ls sv ws H locs ⟨h1, h2, h3⟩
  obtain ⟨_, sv', rfl, ⟨b, rfl, hy⟩, h4⟩ := y_st1 h2
  obtain ⟨_, sv'', rfl, ⟨a, rfl, ha⟩, h5⟩ := y_st1 h4
  refine hm a b ls sv'' H locs ?_
  obtain ⟨env', he, hB', hi'⟩ := hg B env _ _ a b hB (y_nm_ok hB ha) (y_nm_ok hB hy)
  have hS' := y_S_mono (z := (zl, st, kn, fl)) he ⟨h1, h5, h3⟩
  exact kk _ List.mem_cons_self env' he hB' ls _ ws H locs ⟨hS'.1, ⟨⟨_, rfl, hi'⟩, hS'.2.1⟩, hS'.2.2⟩
/-! branches -/
theorem y_lti {a b : Int32} (h : a < b) : a.toInt < b.toInt := Int32.lt_iff_toInt_lt.mp h
theorem y_nlti {a b : Int32} (h : ¬ a < b) : b.toInt ≤ a.toInt := by rw [Int32.lt_iff_toInt_lt] at h; omega
theorem y_nei {a b : Int32} (h : a ≠ b) : a.toInt ≠ b.toInt := fun q => h (Int32.toInt_inj.mp q)
theorem y_icmp (hx : p.tables.exec = Jvm.exec) (hb : c.code = cc) {B : yB} (hB : y_B B env) {k : Jvm.ClassFile.Cond} {off : Int} {tgt : Nat} {x y : yI} (hd : decode cc pc = .ok (.if_icmp k off, 3)) (ht : (pc : Int) + off = (tgt : Int)) (kk : y_K (y_G p l e R s m args below meth c Q xb kc D cl A H0 nL TY eff GR RI ws0 nc ns) env (y_way (y_br B k x y).1 tgt (zl, st, kn, fl) ++ y_way (y_br B k x y).2 (pc + 3) (zl, st, kn, fl))) : y_G p l e R s m args below meth c Q xb kc D cl A H0 nL TY eff GR RI ws0 nc ns env pc (zl, .inl y :: .inl x :: st, kn, fl) := by
  intro ls sv ws H locs ⟨h1, h2, h3⟩
  obtain ⟨_, sv', rfl, ⟨b, rfl, hy⟩, h4⟩ := y_st1 h2
  obtain ⟨_, sv'', rfl, ⟨a, rfl, ha⟩, h5⟩ := y_st1 h4
  have k1 : (∃ B', (y_br B k x y).1 = some B' ∧ y_B B' env) → W p l e R s m args below meth c H locs nc ns Q (F0 m tgt ls sv'') := fun ⟨B', e1, h6⟩ => by
    rw [e1] at kk
    exact kk (B', tgt, (zl, st, kn, fl)) (by simp [y_way]) env (List.prefix_refl _) h6 ls sv'' ws H locs ⟨h1, h5, h3⟩
  have k2 : (∃ B', (y_br B k x y).2 = some B' ∧ y_B B' env) → W p l e R s m args below meth c H locs nc ns Q (F0 m (pc + 3) ls sv'') := fun ⟨B', e1, h6⟩ => by
    rw [e1] at kk
    exact kk (B', pc + 3, (zl, st, kn, fl)) (by simp [y_way]) env (List.prefix_refl _) h6 ls sv'' ws H locs ⟨h1, h5, h3⟩
  cases k with
  | eq => exact lv_icmp_eq hx hb hd ht (fun h => k1 (y_eqb_ok hB ha hy (by rw [h]))) (fun h => k2 (y_neb_ok hB ha hy (y_nei h)))
  | ne => exact lv_icmp_ne hx hb hd ht (fun h => k1 (y_neb_ok hB ha hy (y_nei h))) (fun h => k2 (y_eqb_ok hB ha hy (by rw [h])))
  | lt => exact lv_icmp_lt hx hb hd ht (fun h => k1 (y_lt_ok hB ha hy (y_lti h))) (fun h => k2 (y_le_ok hB hy ha (y_nlti h)))
  | ge => exact lv_icmp_ge hx hb hd ht (fun h => k1 (y_le_ok hB hy ha (Int32.le_iff_toInt_le.mp h))) (fun h => k2 (y_lt_ok hB ha hy (by rw [Int32.le_iff_toInt_le] at h; omega)))
  | gt => exact lv_icmp_gt hx hb hd ht (fun h => k1 (y_lt_ok hB hy ha (y_lti h))) (fun h => k2 (y_le_ok hB ha hy (y_nlti h)))
  | le => exact lv_icmp_le hx hb hd ht (fun h => k1 (y_le_ok hB ha hy (Int32.le_iff_toInt_le.mp h))) (fun h => k2 (y_lt_ok hB hy ha (by rw [Int32.le_iff_toInt_le] at h; omega)))
theorem y_if (hx : p.tables.exec = Jvm.exec) (hb : c.code = cc) {B : yB} (hB : y_B B env) {k : Jvm.ClassFile.Cond} {off : Int} {tgt : Nat} {x : yI} (hd : decode cc pc = .ok (.ifCond k off, 3)) (ht : (pc : Int) + off = (tgt : Int)) (kk : y_K (y_G p l e R s m args below meth c Q xb kc D cl A H0 nL TY eff GR RI ws0 nc ns) env (y_way (y_br B k x (.inl 0)).1 tgt (zl, st, kn, fl) ++ y_way (y_br B k x (.inl 0)).2 (pc + 3) (zl, st, kn, fl))) : y_G p l e R s m args below meth c Q xb kc D cl A H0 nL TY eff GR RI ws0 nc ns env pc (zl, .inl x :: st, kn, fl) := by
  intro ls sv ws H locs ⟨h1, h2, h3⟩
  obtain ⟨_, sv'', rfl, ⟨a, rfl, ha⟩, h5⟩ := y_st1 h2
  have hy : y_e env (.inl 0) = some (0 : Int32).toInt := rfl
  have k1 : (∃ B', (y_br B k x (.inl 0)).1 = some B' ∧ y_B B' env) → W p l e R s m args below meth c H locs nc ns Q (F0 m tgt ls sv'') := fun ⟨B', e1, h6⟩ => by
    rw [e1] at kk
    exact kk (B', tgt, (zl, st, kn, fl)) (by simp [y_way]) env (List.prefix_refl _) h6 ls sv'' ws H locs ⟨h1, h5, h3⟩
  have k2 : (∃ B', (y_br B k x (.inl 0)).2 = some B' ∧ y_B B' env) → W p l e R s m args below meth c H locs nc ns Q (F0 m (pc + 3) ls sv'') := fun ⟨B', e1, h6⟩ => by
    rw [e1] at kk
    exact kk (B', pc + 3, (zl, st, kn, fl)) (by simp [y_way]) env (List.prefix_refl _) h6 ls sv'' ws H locs ⟨h1, h5, h3⟩
  cases k with
  | eq => exact lv_if_eq hx hb hd ht (fun h => k1 (y_eqb_ok hB ha hy (by rw [h]))) (fun h => k2 (y_neb_ok hB ha hy (y_nei h)))
  | ne => exact lv_if_ne hx hb hd ht (fun h => k1 (y_neb_ok hB ha hy (y_nei h))) (fun h => k2 (y_eqb_ok hB ha hy (by rw [h])))
  | lt => exact lv_if_lt hx hb hd ht (fun h => k1 (y_lt_ok hB ha hy (y_lti h))) (fun h => k2 (y_le_ok hB hy ha (y_nlti h)))
  | ge => exact lv_if_ge hx hb hd ht (fun h => k1 (y_le_ok hB hy ha (Int32.le_iff_toInt_le.mp h))) (fun h => k2 (y_lt_ok hB ha hy (by rw [Int32.le_iff_toInt_le] at h; omega)))
  | gt => exact lv_if_gt hx hb hd ht (fun h => k1 (y_lt_ok hB hy ha (y_lti h))) (fun h => k2 (y_le_ok hB ha hy (y_nlti h)))
  | le => exact lv_if_le hx hb hd ht (fun h => k1 (y_le_ok hB ha hy (Int32.le_iff_toInt_le.mp h))) (fun h => k2 (y_lt_ok hB hy ha (by rw [Int32.le_iff_toInt_le] at h; omega)))
/-- a switch: each place that can be meant -/
def y_sws (B : yB) (pc : Nat) (t : yI) (z : yS) : Int → List Int → Option (List (yB × Nat × yS))
  | _, [] => some []
  | v, off :: offs => match z_tgt pc off, y_sws B pc t z (v + 1) offs with
    | some tgt, some qs => some (y_way (y_eqb B t (.inl v)) tgt z ++ qs)
    | _, _ => none
def y_sw (B : yB) (pc : Nat) (dflt lo hi : Int) (offs : Array Int) (t : yI) (z : yS) : Option (List (yB × Nat × yS)) := match z_tgt pc dflt, y_sws B pc t z lo offs.toList with
  | some tgt, some qs => if -2147483648 ≤ lo ∧ hi ≤ 2147483647 ∧ offs.toList.length = (hi + 1 - lo).toNat then some (qs ++ (if lo ≤ (y_rng B t).1 ∧ (y_rng B t).2 ≤ hi then [] else [(B, tgt, z)])) else none
  | _, _ => none
theorem y_sws_in {B : yB} {t : yI} {z : yS} : ∀ {offs : List Int} {v : Int} {qs : List (yB × Nat × yS)}, y_sws B pc t z v offs = some qs → ∀ (j : Nat) (off : Int), offs[j]? = some off → ∃ tgt, z_tgt pc off = some tgt ∧ ∀ q ∈ y_way (y_eqb B t (.inl (v + j))) tgt z, q ∈ qs
  | [], _, _, _, j, off, h => by simp at h
  | o :: offs, v, qs, h, j, off, hj => by
    unfold y_sws at h
    split at h
    next tgt qs' h1 h2 =>
      cases h
      cases j with
      | zero =>
        simp only [List.getElem?_cons_zero, Option.some.injEq] at hj
        subst hj
        refine ⟨tgt, h1, fun q hq => List.mem_append_left _ ?_⟩
        simpa using hq
      | succ j =>
        simp only [List.getElem?_cons_succ] at hj
        obtain ⟨tgt', h3, h4⟩ := y_sws_in h2 j off hj
        refine ⟨tgt', h3, fun q hq => List.mem_append_right _ (h4 q ?_)⟩
        rw [show v + 1 + (j : Int) = v + ((j + 1 : Nat) : Int) by omega]
        exact hq
    next => cases h
theorem y_table (hx : p.tables.exec = Jvm.exec) (hb : c.code = cc) {B : yB} (hB : y_B B env) {dflt lo hi : Int} {offs : Array Int} {len : Nat} {t : yI} {qs : List (yB × Nat × yS)} (hd : decode cc pc = .ok (.tableswitch dflt lo hi offs, len)) (hs : y_sw B pc dflt lo hi offs t (zl, st, kn, fl) = some qs) (kk : y_K (y_G p l e R s m args below meth c Q xb kc D cl A H0 nL TY eff GR RI ws0 nc ns) env qs) : y_G p l e R s m args below meth c Q xb kc D cl A H0 nL TY eff GR RI ws0 nc ns env pc (zl, .inl t :: st, kn, fl) := by
  intro ls sv ws H locs ⟨h1, h2, h3⟩
  obtain ⟨_, sv', rfl, ⟨x, rfl, hx1⟩, h4⟩ := y_st1 h2
  have hr := y_rng_ok hB hx1
  unfold y_sw at hs
  split at hs
  next tgt qs' ht hq =>
    split at hs
    next hl =>
      obtain ⟨hl1, hl2, hl3⟩ := hl
      cases hs
      by_cases hin : lo ≤ x.toInt ∧ x.toInt ≤ hi
      · have hj : (x.toInt - lo).toNat < offs.toList.length := by omega
        obtain ⟨tgt2, g1, g2⟩ := y_sws_in hq (x.toInt - lo).toNat _ (List.getElem?_eq_getElem hj)
        have ho : offs[(x.toInt - lo).toNat]? = some (offs.toList[(x.toInt - lo).toNat]) := by
          rw [← Array.getElem?_toList]
          exact List.getElem?_eq_getElem hj
        refine lv_tableIn hx hb hd (by omega) (by omega) ho (z_tgt_ok g1) ?_
        obtain ⟨B', e1, hB'⟩ := y_eqb_ok (y := .inl (lo + ((x.toInt - lo).toNat : Int))) hB hx1 rfl (by omega)
        rw [e1] at g2
        exact kk (B', tgt2, (zl, st, kn, fl)) (List.mem_append_left _ (g2 _ (by simp [y_way]))) env (List.prefix_refl _) hB' ls sv' ws H locs ⟨h1, h4, h3⟩
      · refine lv_tableOut hx hb hd (by omega) (z_tgt_ok ht) ?_
        refine kk (B, tgt, (zl, st, kn, fl)) (List.mem_append_right _ ?_) env (List.prefix_refl _) hB ls sv' ws H locs ⟨h1, h4, h3⟩
        rw [if_neg (by omega)]
        exact List.mem_cons_self
    next => cases hs
  next => cases hs
end YQ1
