/-! ===== the run beside the machine ===== -/
/-- longs: sums and products that fit -/
def z_lfit (c : Int) : Option Int := if -9223372036854775808 ≤ c ∧ c ≤ 9223372036854775807 then some c else none
def z_ladd2 (a b : Option Int) : Option Int := match a, b with
  | some a, some b => z_lfit (a + b)
  | _, _ => none
def z_lmul2 (a b : Option Int) : Option Int := match a, b with
  | some a, some b => z_lfit (a * b)
  | _, _ => none
def z_i2lv (t : zI) : Option Int := match t with
  | .inl (some c) => some c.toInt
  | _ => none
theorem z_lfit_ok {z c : Int} {x : Int64} (hx : x.toInt = z.bmod (2 ^ 64)) (h : z_lfit z = some c) : x.toInt = c := by
  unfold z_lfit at h
  split at h
  next hc =>
    cases h
    rw [hx]
    exact Int.bmod_eq_of_le (by omega) (by omega)
  next => cases h
theorem z_ladd2_ok {a b : Option Int} {x y : Int64} (hx : z_k a x) (hy : z_k b y) : z_k (z_ladd2 a b) (x + y) := by
  intro c hc
  unfold z_ladd2 at hc
  split at hc
  next u v => exact z_lfit_ok (by rw [Int64.toInt_add, hx u rfl, hy v rfl]) hc
  next => cases hc
theorem z_lmul2_ok {a b : Option Int} {x y : Int64} (hx : z_k a x) (hy : z_k b y) : z_k (z_lmul2 a b) (x * y) := by
  intro c hc
  unfold z_lmul2 at hc
  split at hc
  next u v => exact z_lfit_ok (by rw [Int64.toInt_mul, hx u rfl, hy v rfl]) hc
  next => cases hc
theorem z_i2lv_ok {env : Nat → Int32} {t : zI} {x : Int32} (h : z_i env t x) : z_k (z_i2lv t) x.toInt64 := by
  intro c hc
  unfold z_i2lv at hc
  split at hc
  next u =>
    cases hc
    rw [show x = u from h]
    exact Int32.toInt_toInt64 u
  next => cases hc
theorem z_lc_ok (n : Fin 2) : z_k (some ((n : Nat) : Int)) (Int64.ofNat (n : Nat)) := by
  intro c hc
  cases hc
  exact (by decide : ∀ n : Fin 2, (Int64.ofNat (n : Nat)).toInt = ((n : Nat) : Int)) n
section ZG
variable {p : Program} {l : Launch} {e : Env} {R : Room} {s : State} {m : MethodId} {args : Array Value} {below : List Frame} {meth : Method} {c : Code} {Q : State → Prop} {cc : ByteArray}
variable {xb : Nat} {env : Nat → Int32} {kc : Nat → ClassId} {D : va_G} {cl : List vw_C} {A : Nat → Prop} {H0 : Heap} {ad0 : Nat → Option Nat} {nL : Nat}
/-- the machine's frame, heap and writes beside a state of the run -/
def z_S (xb : Nat) (env : Nat → Int32) (kc : Nat → ClassId) (D : va_G) (cl : List vw_C) (A : Nat → Prop) (H0 : Heap) (ad0 : Nat → Option Nat) (nL : Nat) (z : zS) (ls : Array Slot) (sv : List Value) (ws : va_W) (H : Heap) (locs : List Loc) : Prop :=
  z_l env (z_ad xb ws) nL z.1 ls ∧ z_L (z_v env (z_ad xb ws)) z.2.1 sv ∧ z_w xb env kc z.2.2.1 ws ∧ (∀ i a, ad0 i = some a → z_ad xb ws i = some a) ∧ va_P D cl ws H ∧ va_D A ws ∧ va_S A H0 H locs
def z_G (p : Program) (l : Launch) (e : Env) (R : Room) (s : State) (m : MethodId) (args : Array Value) (below : List Frame) (meth : Method) (c : Code) (Q : State → Prop) (xb : Nat) (env : Nat → Int32) (kc : Nat → ClassId) (D : va_G) (cl : List vw_C) (A : Nat → Prop) (H0 : Heap) (ad0 : Nat → Option Nat) (nL : Nat) (pc : Nat) (z : zS) : Prop :=
  ∀ (ls : Array Slot) (sv : List Value) (ws : va_W) (H : Heap) (locs : List Loc), z_S xb env kc D cl A H0 ad0 nL z ls sv ws H locs → W p l e R s m args below meth c H locs z.2.2.2.1 z.2.2.2.2 Q (F0 m pc ls sv)
theorem z_st1 {R0 : zV → Value → Prop} {a : zV} {r : List zV} {sv : List Value} (h : z_L R0 (a :: r) sv) : ∃ x sv', sv = x :: sv' ∧ R0 a x ∧ z_L R0 r sv' := by
  cases sv with
  | nil => exact h.elim
  | cons x sv' => exact ⟨x, sv', rfl, h.1, h.2⟩
variable {zl : List (Nat × zV)} {st : List zV} {w : zW} {nc ns pc : Nat}
theorem z_iconst (hx : p.tables.exec = Jvm.exec) (hb : c.code = cc) {n : Int} (hd : decode cc pc = .ok (.iconst n, 1)) (kk : z_G p l e R s m args below meth c Q xb env kc D cl A H0 ad0 nL (pc + 1) (zl, .inl (.inl (some (Int32.ofInt n))) :: st, w, nc, ns)) : z_G p l e R s m args below meth c Q xb env kc D cl A H0 ad0 nL pc (zl, st, w, nc, ns) := by
  intro ls sv ws H locs ⟨h1, h2, h3⟩
  refine lv_iconst hx hb hd rfl ?_
  exact kk ls _ ws H locs ⟨h1, ⟨⟨_, rfl, rfl⟩, h2⟩, h3⟩
theorem z_bipush (hx : p.tables.exec = Jvm.exec) (hb : c.code = cc) {n : Int} (hd : decode cc pc = .ok (.bipush n, 2)) (kk : z_G p l e R s m args below meth c Q xb env kc D cl A H0 ad0 nL (pc + 2) (zl, .inl (.inl (some (Int8.ofInt n).toInt32)) :: st, w, nc, ns)) : z_G p l e R s m args below meth c Q xb env kc D cl A H0 ad0 nL pc (zl, st, w, nc, ns) := by
  intro ls sv ws H locs ⟨h1, h2, h3⟩
  refine lv_bipush hx hb hd rfl ?_
  exact kk ls _ ws H locs ⟨h1, ⟨⟨_, rfl, rfl⟩, h2⟩, h3⟩
theorem z_sipush (hx : p.tables.exec = Jvm.exec) (hb : c.code = cc) {n : Int} (hd : decode cc pc = .ok (.sipush n, 3)) (kk : z_G p l e R s m args below meth c Q xb env kc D cl A H0 ad0 nL (pc + 3) (zl, .inl (.inl (some (Int16.ofInt n).toInt32)) :: st, w, nc, ns)) : z_G p l e R s m args below meth c Q xb env kc D cl A H0 ad0 nL pc (zl, st, w, nc, ns) := by
  intro ls sv ws H locs ⟨h1, h2, h3⟩
  refine lv_sipush hx hb hd rfl ?_
  exact kk ls _ ws H locs ⟨h1, ⟨⟨_, rfl, rfl⟩, h2⟩, h3⟩
theorem z_lconst (hx : p.tables.exec = Jvm.exec) (hb : c.code = cc) {n : Fin 2} (hd : decode cc pc = .ok (.lconst n, 1)) (kk : z_G p l e R s m args below meth c Q xb env kc D cl A H0 ad0 nL (pc + 1) (zl, .inr (.inr (some ((n : Nat) : Int))) :: st, w, nc, ns)) : z_G p l e R s m args below meth c Q xb env kc D cl A H0 ad0 nL pc (zl, st, w, nc, ns) := by
  intro ls sv ws H locs ⟨h1, h2, h3⟩
  refine lv_lconst hx hb hd rfl ?_
  exact kk ls _ ws H locs ⟨h1, ⟨⟨_, rfl, z_lc_ok n⟩, h2⟩, h3⟩
theorem z_ldc2 (hx : p.tables.exec = Jvm.exec) (hb : c.code = cc) {own : String} {index : Nat} {v : Int64} {o : Option Int} (ho : z_k o v) (hown : s.vm.findClass own = some m.cls) (hconst : (Jvm.Cond.constantLong own index v).before args s = true) (hd : decode cc pc = .ok (.ldc2_w index, 3)) (kk : z_G p l e R s m args below meth c Q xb env kc D cl A H0 ad0 nL (pc + 3) (zl, .inr (.inr o) :: st, w, nc, ns)) : z_G p l e R s m args below meth c Q xb env kc D cl A H0 ad0 nL pc (zl, st, w, nc, ns) := by
  intro ls sv ws H locs ⟨h1, h2, h3⟩
  refine lv_ldc2 hx hb hown hconst hd ?_
  exact kk ls _ ws H locs ⟨h1, ⟨⟨_, rfl, ho⟩, h2⟩, h3⟩
theorem z_ldc (hx : p.tables.exec = Jvm.exec) (hb : c.code = cc) {own : String} {index : Nat} {v : Int32} (hown : s.vm.findClass own = some m.cls) (hconst : (Jvm.Cond.constant own index v).before args s = true) (hd : decode cc pc = .ok (.ldc index, 2)) (kk : z_G p l e R s m args below meth c Q xb env kc D cl A H0 ad0 nL (pc + 2) (zl, .inl (.inl (some v)) :: st, w, nc, ns)) : z_G p l e R s m args below meth c Q xb env kc D cl A H0 ad0 nL pc (zl, st, w, nc, ns) := by
  intro ls sv ws H locs ⟨h1, h2, h3⟩
  refine lv_ldc hx hb hown hconst hd ?_
  exact kk ls _ ws H locs ⟨h1, ⟨⟨_, rfl, rfl⟩, h2⟩, h3⟩
theorem z_iload (hx : p.tables.exec = Jvm.exec) (hb : c.code = cc) {i : Nat} {t : zI} (hd : decode cc pc = .ok (.iload i, 2)) (hg : z_get zl i = some (.inl t)) (kk : z_G p l e R s m args below meth c Q xb env kc D cl A H0 ad0 nL (pc + 2) (zl, .inl t :: st, w, nc, ns)) : z_G p l e R s m args below meth c Q xb env kc D cl A H0 ad0 nL pc (zl, st, w, nc, ns) := by
  intro ls sv ws H locs ⟨h1, h2, h3⟩
  obtain ⟨x, hx1, y, rfl, hx2⟩ := z_l_at h1 hg
  refine lv_iload hx hb hd hx1 ?_
  exact kk ls _ ws H locs ⟨h1, ⟨⟨_, rfl, hx2⟩, h2⟩, h3⟩
theorem z_iload_n (hx : p.tables.exec = Jvm.exec) (hb : c.code = cc) {k : Fin 4} {t : zI} (hd : decode cc pc = .ok (.iload_n k, 1)) (hg : z_get zl (k : Nat) = some (.inl t)) (kk : z_G p l e R s m args below meth c Q xb env kc D cl A H0 ad0 nL (pc + 1) (zl, .inl t :: st, w, nc, ns)) : z_G p l e R s m args below meth c Q xb env kc D cl A H0 ad0 nL pc (zl, st, w, nc, ns) := by
  intro ls sv ws H locs ⟨h1, h2, h3⟩
  obtain ⟨x, hx1, y, rfl, hx2⟩ := z_l_at h1 hg
  refine lv_iload_n hx hb hd rfl hx1 ?_
  exact kk ls _ ws H locs ⟨h1, ⟨⟨_, rfl, hx2⟩, h2⟩, h3⟩
theorem z_aload (hx : p.tables.exec = Jvm.exec) (hb : c.code = cc) {i r : Nat} (hd : decode cc pc = .ok (.aload i, 2)) (hg : z_get zl i = some (.inr (.inl (some r)))) (kk : z_G p l e R s m args below meth c Q xb env kc D cl A H0 ad0 nL (pc + 2) (zl, .inr (.inl (some r)) :: st, w, nc, ns)) : z_G p l e R s m args below meth c Q xb env kc D cl A H0 ad0 nL pc (zl, st, w, nc, ns) := by
  intro ls sv ws H locs ⟨h1, h2, h3⟩
  obtain ⟨x, hx1, y, hx2, rfl⟩ := z_l_at h1 hg
  refine lv_aload hx hb hd hx1 ?_
  exact kk ls _ ws H locs ⟨h1, ⟨⟨_, hx2, rfl⟩, h2⟩, h3⟩
theorem z_aload_n (hx : p.tables.exec = Jvm.exec) (hb : c.code = cc) {k : Fin 4} {r : Nat} (hd : decode cc pc = .ok (.aload_n k, 1)) (hg : z_get zl (k : Nat) = some (.inr (.inl (some r)))) (kk : z_G p l e R s m args below meth c Q xb env kc D cl A H0 ad0 nL (pc + 1) (zl, .inr (.inl (some r)) :: st, w, nc, ns)) : z_G p l e R s m args below meth c Q xb env kc D cl A H0 ad0 nL pc (zl, st, w, nc, ns) := by
  intro ls sv ws H locs ⟨h1, h2, h3⟩
  obtain ⟨x, hx1, y, hx2, rfl⟩ := z_l_at h1 hg
  refine lv_aload_n hx hb hd rfl hx1 ?_
  exact kk ls _ ws H locs ⟨h1, ⟨⟨_, hx2, rfl⟩, h2⟩, h3⟩
theorem z_istore (hx : p.tables.exec = Jvm.exec) (hb : c.code = cc) {i : Nat} {t : zI} (hd : decode cc pc = .ok (.istore i, 2)) (hn : i < nL) (kk : z_G p l e R s m args below meth c Q xb env kc D cl A H0 ad0 nL (pc + 2) (z_put zl i (.inl t), st, w, nc, ns)) : z_G p l e R s m args below meth c Q xb env kc D cl A H0 ad0 nL pc (zl, .inl t :: st, w, nc, ns) := by
  intro ls sv ws H locs ⟨⟨lv, hl, hz⟩, h2, h3⟩
  obtain ⟨x, sv', rfl, ⟨y, rfl, hy⟩, h4⟩ := z_st1 h2
  refine lv_istore hx hb hd hl hn rfl (fun ls' hl' => ?_)
  exact kk ls' _ ws H locs ⟨⟨_, hl', z_put_ok hz ⟨y, rfl, hy⟩⟩, h4, h3⟩
theorem z_istore_n (hx : p.tables.exec = Jvm.exec) (hb : c.code = cc) {k : Fin 4} {t : zI} (hd : decode cc pc = .ok (.istore_n k, 1)) (hn : (k : Nat) < nL) (kk : z_G p l e R s m args below meth c Q xb env kc D cl A H0 ad0 nL (pc + 1) (z_put zl (k : Nat) (.inl t), st, w, nc, ns)) : z_G p l e R s m args below meth c Q xb env kc D cl A H0 ad0 nL pc (zl, .inl t :: st, w, nc, ns) := by
  intro ls sv ws H locs ⟨⟨lv, hl, hz⟩, h2, h3⟩
  obtain ⟨x, sv', rfl, ⟨y, rfl, hy⟩, h4⟩ := z_st1 h2
  refine lv_istore_n hx hb hd rfl hl hn rfl (fun ls' hl' => ?_)
  exact kk ls' _ ws H locs ⟨⟨_, hl', z_put_ok hz ⟨y, rfl, hy⟩⟩, h4, h3⟩
theorem z_astore (hx : p.tables.exec = Jvm.exec) (hb : c.code = cc) {i r : Nat} (hd : decode cc pc = .ok (.astore i, 2)) (hn : i < nL) (kk : z_G p l e R s m args below meth c Q xb env kc D cl A H0 ad0 nL (pc + 2) (z_put zl i (.inr (.inl (some r))), st, w, nc, ns)) : z_G p l e R s m args below meth c Q xb env kc D cl A H0 ad0 nL pc (zl, .inr (.inl (some r)) :: st, w, nc, ns) := by
  intro ls sv ws H locs ⟨⟨lv, hl, hz⟩, h2, h3⟩
  obtain ⟨x, sv', rfl, ⟨y, hy, rfl⟩, h4⟩ := z_st1 h2
  refine lv_astore hx hb hd hl hn rfl (fun ls' hl' => ?_)
  exact kk ls' _ ws H locs ⟨⟨_, hl', z_put_ok hz ⟨y, hy, rfl⟩⟩, h4, h3⟩
theorem z_astore_n (hx : p.tables.exec = Jvm.exec) (hb : c.code = cc) {k : Fin 4} {r : Nat} (hd : decode cc pc = .ok (.astore_n k, 1)) (hn : (k : Nat) < nL) (kk : z_G p l e R s m args below meth c Q xb env kc D cl A H0 ad0 nL (pc + 1) (z_put zl (k : Nat) (.inr (.inl (some r))), st, w, nc, ns)) : z_G p l e R s m args below meth c Q xb env kc D cl A H0 ad0 nL pc (zl, .inr (.inl (some r)) :: st, w, nc, ns) := by
  intro ls sv ws H locs ⟨⟨lv, hl, hz⟩, h2, h3⟩
  obtain ⟨x, sv', rfl, ⟨y, hy, rfl⟩, h4⟩ := z_st1 h2
  refine lv_astore_n hx hb hd rfl hl hn rfl (fun ls' hl' => ?_)
  exact kk ls' _ ws H locs ⟨⟨_, hl', z_put_ok hz ⟨y, hy, rfl⟩⟩, h4, h3⟩
theorem z_iinc (hx : p.tables.exec = Jvm.exec) (hb : c.code = cc) {i : Nat} {n : Int} {t : zI} (hd : decode cc pc = .ok (.iinc i n, 3)) (hg : z_get zl i = some (.inl t)) (hn : i < nL) (kk : z_G p l e R s m args below meth c Q xb env kc D cl A H0 ad0 nL (pc + 3) (z_put zl i (.inl (z_add t (.inl (some (Int32.ofInt n))))), st, w, nc, ns)) : z_G p l e R s m args below meth c Q xb env kc D cl A H0 ad0 nL pc (zl, st, w, nc, ns) := by
  intro ls sv ws H locs ⟨⟨lv, hl, hz⟩, h2, h3⟩
  obtain ⟨x, hm, y, rfl, hy⟩ := z_get_in hz hg
  obtain ⟨k, hk⟩ := List.getElem?_of_mem hm
  refine lv_iinc hx hb hd hl hk rfl hn rfl (fun ls' hl' => ?_)
  exact kk ls' _ ws H locs ⟨⟨_, hl', z_put_ok hz ⟨_, rfl, z_add_ok hy rfl⟩⟩, h2, h3⟩
theorem z_dup (hx : p.tables.exec = Jvm.exec) (hb : c.code = cc) {t : zV} (hd : decode cc pc = .ok (.dup, 1)) (ht : z_cat t = 1) (kk : z_G p l e R s m args below meth c Q xb env kc D cl A H0 ad0 nL (pc + 1) (zl, t :: t :: st, w, nc, ns)) : z_G p l e R s m args below meth c Q xb env kc D cl A H0 ad0 nL pc (zl, t :: st, w, nc, ns) := by
  intro ls sv ws H locs ⟨h1, h2, h3⟩
  obtain ⟨x, sv', rfl, hv, h4⟩ := z_st1 h2
  refine lv_dup hx hb hd (by rw [← z_v_cat hv]; exact ht) ?_
  exact kk ls _ ws H locs ⟨h1, ⟨hv, hv, h4⟩, h3⟩
theorem z_dup2 (hx : p.tables.exec = Jvm.exec) (hb : c.code = cc) {t u : zV} (hd : decode cc pc = .ok (.dup2, 1)) (ht : z_cat t = 1) (hu : z_cat u = 1) (kk : z_G p l e R s m args below meth c Q xb env kc D cl A H0 ad0 nL (pc + 1) (zl, t :: u :: t :: u :: st, w, nc, ns)) : z_G p l e R s m args below meth c Q xb env kc D cl A H0 ad0 nL pc (zl, t :: u :: st, w, nc, ns) := by
  intro ls sv ws H locs ⟨h1, h2, h3⟩
  obtain ⟨x, sv', rfl, hv, h4⟩ := z_st1 h2
  obtain ⟨y, sv'', rfl, hu', h5⟩ := z_st1 h4
  refine lv_dup2_11 hx hb hd (by rw [← z_v_cat hv]; exact ht) (by rw [← z_v_cat hu']; exact hu) ?_
  exact kk ls _ ws H locs ⟨h1, ⟨hv, hu', hv, hu', h5⟩, h3⟩
theorem z_pop (hx : p.tables.exec = Jvm.exec) (hb : c.code = cc) {t : zV} (hd : decode cc pc = .ok (.pop, 1)) (ht : z_cat t = 1) (kk : z_G p l e R s m args below meth c Q xb env kc D cl A H0 ad0 nL (pc + 1) (zl, st, w, nc, ns)) : z_G p l e R s m args below meth c Q xb env kc D cl A H0 ad0 nL pc (zl, t :: st, w, nc, ns) := by
  intro ls sv ws H locs ⟨h1, h2, h3⟩
  obtain ⟨x, sv', rfl, hv, h4⟩ := z_st1 h2
  refine lv_pop hx hb hd (by rw [← z_v_cat hv]; exact ht) ?_
  exact kk ls _ ws H locs ⟨h1, h4, h3⟩
theorem z_goto (hx : p.tables.exec = Jvm.exec) (hb : c.code = cc) {off : Int} {tgt : Nat} (hd : decode cc pc = .ok (.goto off, 3)) (ht : (pc : Int) + off = (tgt : Int)) (kk : z_G p l e R s m args below meth c Q xb env kc D cl A H0 ad0 nL tgt (zl, st, w, nc, ns)) : z_G p l e R s m args below meth c Q xb env kc D cl A H0 ad0 nL pc (zl, st, w, nc, ns) := by
  intro ls sv ws H locs h
  exact lv_goto hx hb hd ht (kk ls sv ws H locs h)
theorem z_i2l (hx : p.tables.exec = Jvm.exec) (hb : c.code = cc) {t : zI} (hd : decode cc pc = .ok (.i2l, 1)) (kk : z_G p l e R s m args below meth c Q xb env kc D cl A H0 ad0 nL (pc + 1) (zl, .inr (.inr (z_i2lv t)) :: st, w, nc, ns)) : z_G p l e R s m args below meth c Q xb env kc D cl A H0 ad0 nL pc (zl, .inl t :: st, w, nc, ns) := by
  intro ls sv ws H locs ⟨h1, h2, h3⟩
  obtain ⟨x, sv', rfl, ⟨y, rfl, hy⟩, h4⟩ := z_st1 h2
  refine lv_i2l hx hb hd rfl ?_
  exact kk ls _ ws H locs ⟨h1, ⟨⟨_, rfl, z_i2lv_ok hy⟩, h4⟩, h3⟩
theorem z_i2b (hx : p.tables.exec = Jvm.exec) (hb : c.code = cc) {t : zI} (hd : decode cc pc = .ok (.i2b, 1)) (kk : z_G p l e R s m args below meth c Q xb env kc D cl A H0 ad0 nL (pc + 1) (zl, .inl (.inl none) :: st, w, nc, ns)) : z_G p l e R s m args below meth c Q xb env kc D cl A H0 ad0 nL pc (zl, .inl t :: st, w, nc, ns) := by
  intro ls sv ws H locs ⟨h1, h2, h3⟩
  obtain ⟨x, sv', rfl, ⟨y, rfl, hy⟩, h4⟩ := z_st1 h2
  refine lv_i2b hx hb hd rfl ?_
  exact kk ls _ ws H locs ⟨h1, ⟨⟨_, rfl, trivial⟩, h4⟩, h3⟩
theorem z_lload_n (hx : p.tables.exec = Jvm.exec) (hb : c.code = cc) {k : Fin 4} {o : Option Int} (hd : decode cc pc = .ok (.lload_n k, 1)) (hg : z_get zl (k : Nat) = some (.inr (.inr o))) (kk : z_G p l e R s m args below meth c Q xb env kc D cl A H0 ad0 nL (pc + 1) (zl, .inr (.inr o) :: st, w, nc, ns)) : z_G p l e R s m args below meth c Q xb env kc D cl A H0 ad0 nL pc (zl, st, w, nc, ns) := by
  intro ls sv ws H locs ⟨h1, h2, h3⟩
  obtain ⟨x, hx1, y, rfl, ho⟩ := z_l_at h1 hg
  refine lv_lload_n hx hb hd rfl hx1 ?_
  exact kk ls _ ws H locs ⟨h1, ⟨⟨_, rfl, ho⟩, h2⟩, h3⟩
theorem z_lstore_n (hx : p.tables.exec = Jvm.exec) (hb : c.code = cc) {k : Fin 4} {o : Option Int} (hd : decode cc pc = .ok (.lstore_n k, 1)) (hn : (k : Nat) + 1 < nL) (kk : z_G p l e R s m args below meth c Q xb env kc D cl A H0 ad0 nL (pc + 1) (z_put2 zl (k : Nat) o, st, w, nc, ns)) : z_G p l e R s m args below meth c Q xb env kc D cl A H0 ad0 nL pc (zl, .inr (.inr o) :: st, w, nc, ns) := by
  intro ls sv ws H locs ⟨⟨lv, hl, hz⟩, h2, h3⟩
  obtain ⟨x, sv', rfl, ⟨y, rfl, ho⟩, h4⟩ := z_st1 h2
  refine lv_lstore_n hx hb hd rfl hl hn rfl (fun ls' hl' => ?_)
  exact kk ls' _ ws H locs ⟨⟨_, hl', z_put2_ok hz ho⟩, h4, h3⟩
theorem z_ladd (hx : p.tables.exec = Jvm.exec) (hb : c.code = cc) {o1 o2 : Option Int} (hd : decode cc pc = .ok (.ladd, 1)) (kk : z_G p l e R s m args below meth c Q xb env kc D cl A H0 ad0 nL (pc + 1) (zl, .inr (.inr (z_ladd2 o1 o2)) :: st, w, nc, ns)) : z_G p l e R s m args below meth c Q xb env kc D cl A H0 ad0 nL pc (zl, .inr (.inr o2) :: .inr (.inr o1) :: st, w, nc, ns) := by
  intro ls sv ws H locs ⟨h1, h2, h3⟩
  obtain ⟨_, sv', rfl, ⟨b, rfl, hb9⟩, h4⟩ := z_st1 h2
  obtain ⟨_, sv'', rfl, ⟨a, rfl, ha9⟩, h5⟩ := z_st1 h4
  refine lv_ladd hx hb hd ?_
  exact kk ls _ ws H locs ⟨h1, ⟨⟨_, rfl, z_ladd2_ok ha9 hb9⟩, h5⟩, h3⟩
theorem z_lmul (hx : p.tables.exec = Jvm.exec) (hb : c.code = cc) {o1 o2 : Option Int} (hd : decode cc pc = .ok (.lmul, 1)) (kk : z_G p l e R s m args below meth c Q xb env kc D cl A H0 ad0 nL (pc + 1) (zl, .inr (.inr (z_lmul2 o1 o2)) :: st, w, nc, ns)) : z_G p l e R s m args below meth c Q xb env kc D cl A H0 ad0 nL pc (zl, .inr (.inr o2) :: .inr (.inr o1) :: st, w, nc, ns) := by
  intro ls sv ws H locs ⟨h1, h2, h3⟩
  obtain ⟨_, sv', rfl, ⟨b, rfl, hb9⟩, h4⟩ := z_st1 h2
  obtain ⟨_, sv'', rfl, ⟨a, rfl, ha9⟩, h5⟩ := z_st1 h4
  refine lv_lmul hx hb hd ?_
  exact kk ls _ ws H locs ⟨h1, ⟨⟨_, rfl, z_lmul2_ok ha9 hb9⟩, h5⟩, h3⟩
/-! numbers -/
theorem z_iadd (hx : p.tables.exec = Jvm.exec) (hb : c.code = cc) {x y : zI} (hd : decode cc pc = .ok (.iadd, 1)) (kk : z_G p l e R s m args below meth c Q xb env kc D cl A H0 ad0 nL (pc + 1) (zl, .inl (z_add x y) :: st, w, nc, ns)) : z_G p l e R s m args below meth c Q xb env kc D cl A H0 ad0 nL pc (zl, .inl y :: .inl x :: st, w, nc, ns) := by
  intro ls sv ws H locs ⟨h1, h2, h3⟩
  obtain ⟨_, sv', rfl, ⟨b, rfl, hy⟩, h4⟩ := z_st1 h2
  obtain ⟨_, sv'', rfl, ⟨a, rfl, ha⟩, h5⟩ := z_st1 h4
  refine lv_iadd hx hb hd ?_
  exact kk ls _ ws H locs ⟨h1, ⟨⟨_, rfl, z_add_ok ha hy⟩, h5⟩, h3⟩
theorem z_iand (hx : p.tables.exec = Jvm.exec) (hb : c.code = cc) {x y : zI} (hd : decode cc pc = .ok (.iand, 1)) (kk : z_G p l e R s m args below meth c Q xb env kc D cl A H0 ad0 nL (pc + 1) (zl, .inl (z_and x y) :: st, w, nc, ns)) : z_G p l e R s m args below meth c Q xb env kc D cl A H0 ad0 nL pc (zl, .inl y :: .inl x :: st, w, nc, ns) := by
  intro ls sv ws H locs ⟨h1, h2, h3⟩
  obtain ⟨_, sv', rfl, ⟨b, rfl, hy⟩, h4⟩ := z_st1 h2
  obtain ⟨_, sv'', rfl, ⟨a, rfl, ha⟩, h5⟩ := z_st1 h4
  refine lv_iand hx hb hd ?_
  exact kk ls _ ws H locs ⟨h1, ⟨⟨_, rfl, z_and_ok ha hy⟩, h5⟩, h3⟩
theorem z_isub (hx : p.tables.exec = Jvm.exec) (hb : c.code = cc) {x y : zI} (hd : decode cc pc = .ok (.isub, 1)) (kk : z_G p l e R s m args below meth c Q xb env kc D cl A H0 ad0 nL (pc + 1) (zl, .inl (z_op2 (fun a b => a - b) x y) :: st, w, nc, ns)) : z_G p l e R s m args below meth c Q xb env kc D cl A H0 ad0 nL pc (zl, .inl y :: .inl x :: st, w, nc, ns) := by
  intro ls sv ws H locs ⟨h1, h2, h3⟩
  obtain ⟨_, sv', rfl, ⟨b, rfl, hy⟩, h4⟩ := z_st1 h2
  obtain ⟨_, sv'', rfl, ⟨a, rfl, ha⟩, h5⟩ := z_st1 h4
  refine lv_isub hx hb hd ?_
  exact kk ls _ ws H locs ⟨h1, ⟨⟨_, rfl, z_op2_ok (fun a b => a - b) ha hy⟩, h5⟩, h3⟩
theorem z_imul (hx : p.tables.exec = Jvm.exec) (hb : c.code = cc) {x y : zI} (hd : decode cc pc = .ok (.imul, 1)) (kk : z_G p l e R s m args below meth c Q xb env kc D cl A H0 ad0 nL (pc + 1) (zl, .inl (z_op2 (fun a b => a * b) x y) :: st, w, nc, ns)) : z_G p l e R s m args below meth c Q xb env kc D cl A H0 ad0 nL pc (zl, .inl y :: .inl x :: st, w, nc, ns) := by
  intro ls sv ws H locs ⟨h1, h2, h3⟩
  obtain ⟨_, sv', rfl, ⟨b, rfl, hy⟩, h4⟩ := z_st1 h2
  obtain ⟨_, sv'', rfl, ⟨a, rfl, ha⟩, h5⟩ := z_st1 h4
  refine lv_imul hx hb hd ?_
  exact kk ls _ ws H locs ⟨h1, ⟨⟨_, rfl, z_op2_ok (fun a b => a * b) ha hy⟩, h5⟩, h3⟩
theorem z_ior (hx : p.tables.exec = Jvm.exec) (hb : c.code = cc) {x y : zI} (hd : decode cc pc = .ok (.ior, 1)) (kk : z_G p l e R s m args below meth c Q xb env kc D cl A H0 ad0 nL (pc + 1) (zl, .inl (z_op2 (fun a b => a ||| b) x y) :: st, w, nc, ns)) : z_G p l e R s m args below meth c Q xb env kc D cl A H0 ad0 nL pc (zl, .inl y :: .inl x :: st, w, nc, ns) := by
  intro ls sv ws H locs ⟨h1, h2, h3⟩
  obtain ⟨_, sv', rfl, ⟨b, rfl, hy⟩, h4⟩ := z_st1 h2
  obtain ⟨_, sv'', rfl, ⟨a, rfl, ha⟩, h5⟩ := z_st1 h4
  refine lv_ior hx hb hd ?_
  exact kk ls _ ws H locs ⟨h1, ⟨⟨_, rfl, z_op2_ok (fun a b => a ||| b) ha hy⟩, h5⟩, h3⟩
theorem z_ixor (hx : p.tables.exec = Jvm.exec) (hb : c.code = cc) {x y : zI} (hd : decode cc pc = .ok (.ixor, 1)) (kk : z_G p l e R s m args below meth c Q xb env kc D cl A H0 ad0 nL (pc + 1) (zl, .inl (z_op2 (fun a b => a ^^^ b) x y) :: st, w, nc, ns)) : z_G p l e R s m args below meth c Q xb env kc D cl A H0 ad0 nL pc (zl, .inl y :: .inl x :: st, w, nc, ns) := by
  intro ls sv ws H locs ⟨h1, h2, h3⟩
  obtain ⟨_, sv', rfl, ⟨b, rfl, hy⟩, h4⟩ := z_st1 h2
  obtain ⟨_, sv'', rfl, ⟨a, rfl, ha⟩, h5⟩ := z_st1 h4
  refine lv_ixor hx hb hd ?_
  exact kk ls _ ws H locs ⟨h1, ⟨⟨_, rfl, z_op2_ok (fun a b => a ^^^ b) ha hy⟩, h5⟩, h3⟩
theorem z_ishl (hx : p.tables.exec = Jvm.exec) (hb : c.code = cc) {x y : zI} (hd : decode cc pc = .ok (.ishl, 1)) (kk : z_G p l e R s m args below meth c Q xb env kc D cl A H0 ad0 nL (pc + 1) (zl, .inl (z_op2 (fun a b => a <<< (b &&& 31)) x y) :: st, w, nc, ns)) : z_G p l e R s m args below meth c Q xb env kc D cl A H0 ad0 nL pc (zl, .inl y :: .inl x :: st, w, nc, ns) := by
  intro ls sv ws H locs ⟨h1, h2, h3⟩
  obtain ⟨_, sv', rfl, ⟨b, rfl, hy⟩, h4⟩ := z_st1 h2
  obtain ⟨_, sv'', rfl, ⟨a, rfl, ha⟩, h5⟩ := z_st1 h4
  refine lv_ishl hx hb hd ?_
  exact kk ls _ ws H locs ⟨h1, ⟨⟨_, rfl, z_op2_ok (fun a b => a <<< (b &&& 31)) ha hy⟩, h5⟩, h3⟩
theorem z_ishr (hx : p.tables.exec = Jvm.exec) (hb : c.code = cc) {x y : zI} (hd : decode cc pc = .ok (.ishr, 1)) (kk : z_G p l e R s m args below meth c Q xb env kc D cl A H0 ad0 nL (pc + 1) (zl, .inl (z_op2 (fun a b => a >>> (b &&& 31)) x y) :: st, w, nc, ns)) : z_G p l e R s m args below meth c Q xb env kc D cl A H0 ad0 nL pc (zl, .inl y :: .inl x :: st, w, nc, ns) := by
  intro ls sv ws H locs ⟨h1, h2, h3⟩
  obtain ⟨_, sv', rfl, ⟨b, rfl, hy⟩, h4⟩ := z_st1 h2
  obtain ⟨_, sv'', rfl, ⟨a, rfl, ha⟩, h5⟩ := z_st1 h4
  refine lv_ishr hx hb hd ?_
  exact kk ls _ ws H locs ⟨h1, ⟨⟨_, rfl, z_op2_ok (fun a b => a >>> (b &&& 31)) ha hy⟩, h5⟩, h3⟩
theorem z_iushr (hx : p.tables.exec = Jvm.exec) (hb : c.code = cc) {x y : zI} (hd : decode cc pc = .ok (.iushr, 1)) (kk : z_G p l e R s m args below meth c Q xb env kc D cl A H0 ad0 nL (pc + 1) (zl, .inl (.inl none) :: st, w, nc, ns)) : z_G p l e R s m args below meth c Q xb env kc D cl A H0 ad0 nL pc (zl, .inl y :: .inl x :: st, w, nc, ns) := by
  intro ls sv ws H locs ⟨h1, h2, h3⟩
  obtain ⟨_, sv', rfl, ⟨b, rfl, hy⟩, h4⟩ := z_st1 h2
  obtain ⟨_, sv'', rfl, ⟨a, rfl, ha⟩, h5⟩ := z_st1 h4
  refine lv_iushr hx hb hd rfl ?_
  exact kk ls _ ws H locs ⟨h1, ⟨⟨_, rfl, trivial⟩, h5⟩, h3⟩
/-! branches -/
def z_cond (B : List (Int × Int)) (k : Jvm.ClassFile.Cond) (x y : zI) : Option Bool := match k with
  | .eq => z_eq B x y
  | .ne => (z_eq B x y).map (fun b => !b)
  | .lt => z_lt B x y
  | .ge => (z_lt B x y).map (fun b => !b)
  | .gt => z_lt B y x
  | .le => (z_lt B y x).map (fun b => !b)
theorem z_le_not {a b : Int32} : a ≤ b ↔ ¬ b < a := by
  rw [Int32.le_iff_toInt_le, Int32.lt_iff_toInt_lt]
  omega
theorem z_icmp (hx : p.tables.exec = Jvm.exec) (hb : c.code = cc) {B : List (Int × Int)} (hB : z_B B env) {k : Jvm.ClassFile.Cond} {off : Int} {tgt : Nat} {x y : zI} {r : Bool} (hd : decode cc pc = .ok (.if_icmp k off, 3)) (ht : (pc : Int) + off = (tgt : Int)) (hr : z_cond B k x y = some r) (kk : z_G p l e R s m args below meth c Q xb env kc D cl A H0 ad0 nL (if r then tgt else pc + 3) (zl, st, w, nc, ns)) : z_G p l e R s m args below meth c Q xb env kc D cl A H0 ad0 nL pc (zl, .inl y :: .inl x :: st, w, nc, ns) := by
  intro ls sv ws H locs ⟨h1, h2, h3⟩
  obtain ⟨_, sv', rfl, ⟨b, rfl, hy⟩, h4⟩ := z_st1 h2
  obtain ⟨_, sv'', rfl, ⟨a, rfl, ha⟩, h5⟩ := z_st1 h4
  have kk := kk ls sv'' ws H locs ⟨h1, h5, h3⟩
  cases k with
  | eq =>
    have he := z_eq_ok hB ha hy hr
    refine lv_icmp_eq hx hb hd ht (fun h => ?_) (fun h => ?_)
    · rw [if_pos (he.mp h)] at kk; exact kk
    · rw [if_neg (fun q => h (he.mpr q))] at kk; exact kk
  | ne =>
    obtain ⟨b0, hb0, rfl⟩ := Option.map_eq_some_iff.mp hr
    have he := z_eq_ok hB ha hy hb0
    refine lv_icmp_ne hx hb hd ht (fun h => ?_) (fun h => ?_)
    · rw [if_pos (by cases b0 with | true => exact absurd (he.mpr rfl) h | false => rfl)] at kk; exact kk
    · rw [if_neg (by rw [he.mp h]; decide)] at kk; exact kk
  | lt =>
    have he := z_lt_ok hB ha hy hr
    refine lv_icmp_lt hx hb hd ht (fun h => ?_) (fun h => ?_)
    · rw [if_pos (he.mp h)] at kk; exact kk
    · rw [if_neg (fun q => h (he.mpr q))] at kk; exact kk
  | ge =>
    obtain ⟨b0, hb0, rfl⟩ := Option.map_eq_some_iff.mp hr
    have he := z_lt_ok hB ha hy hb0
    refine lv_icmp_ge hx hb hd ht (fun h => ?_) (fun h => ?_)
    · rw [if_pos (by cases b0 with | true => exact absurd (he.mpr rfl) (z_le_not.mp h) | false => rfl)] at kk; exact kk
    · rw [if_neg (by cases b0 with | true => decide | false => exact absurd (z_le_not.mpr (fun q => by have := he.mp q; cases this)) h)] at kk; exact kk
  | gt =>
    have he := z_lt_ok hB hy ha hr
    refine lv_icmp_gt hx hb hd ht (fun h => ?_) (fun h => ?_)
    · rw [if_pos (he.mp h)] at kk; exact kk
    · rw [if_neg (fun q => h (he.mpr q))] at kk; exact kk
  | le =>
    obtain ⟨b0, hb0, rfl⟩ := Option.map_eq_some_iff.mp hr
    have he := z_lt_ok hB hy ha hb0
    refine lv_icmp_le hx hb hd ht (fun h => ?_) (fun h => ?_)
    · rw [if_pos (by cases b0 with | true => exact absurd (he.mpr rfl) (z_le_not.mp h) | false => rfl)] at kk; exact kk
    · rw [if_neg (by cases b0 with | true => decide | false => exact absurd (z_le_not.mpr (fun q => by have := he.mp q; cases this)) h)] at kk; exact kk
theorem z_if (hx : p.tables.exec = Jvm.exec) (hb : c.code = cc) {B : List (Int × Int)} (hB : z_B B env) {k : Jvm.ClassFile.Cond} {off : Int} {tgt : Nat} {x : zI} {r : Bool} (hd : decode cc pc = .ok (.ifCond k off, 3)) (ht : (pc : Int) + off = (tgt : Int)) (hr : z_cond B k x (.inl (some 0)) = some r) (kk : z_G p l e R s m args below meth c Q xb env kc D cl A H0 ad0 nL (if r then tgt else pc + 3) (zl, st, w, nc, ns)) : z_G p l e R s m args below meth c Q xb env kc D cl A H0 ad0 nL pc (zl, .inl x :: st, w, nc, ns) := by
  intro ls sv ws H locs ⟨h1, h2, h3⟩
  obtain ⟨_, sv', rfl, ⟨a, rfl, ha⟩, h4⟩ := z_st1 h2
  have kk := kk ls sv' ws H locs ⟨h1, h4, h3⟩
  have hy : z_i env (.inl (some 0)) 0 := rfl
  cases k with
  | eq =>
    have he := z_eq_ok hB ha hy hr
    refine lv_if_eq hx hb hd ht (fun h => ?_) (fun h => ?_)
    · rw [if_pos (he.mp h)] at kk; exact kk
    · rw [if_neg (fun q => h (he.mpr q))] at kk; exact kk
  | ne =>
    obtain ⟨b0, hb0, rfl⟩ := Option.map_eq_some_iff.mp hr
    have he := z_eq_ok hB ha hy hb0
    refine lv_if_ne hx hb hd ht (fun h => ?_) (fun h => ?_)
    · rw [if_pos (by cases b0 with | true => exact absurd (he.mpr rfl) h | false => rfl)] at kk; exact kk
    · rw [if_neg (by rw [he.mp h]; decide)] at kk; exact kk
  | lt =>
    have he := z_lt_ok hB ha hy hr
    refine lv_if_lt hx hb hd ht (fun h => ?_) (fun h => ?_)
    · rw [if_pos (he.mp h)] at kk; exact kk
    · rw [if_neg (fun q => h (he.mpr q))] at kk; exact kk
  | ge =>
    obtain ⟨b0, hb0, rfl⟩ := Option.map_eq_some_iff.mp hr
    have he := z_lt_ok hB ha hy hb0
    refine lv_if_ge hx hb hd ht (fun h => ?_) (fun h => ?_)
    · rw [if_pos (by cases b0 with | true => exact absurd (he.mpr rfl) (z_le_not.mp h) | false => rfl)] at kk; exact kk
    · rw [if_neg (by cases b0 with | true => decide | false => exact absurd (z_le_not.mpr (fun q => by have := he.mp q; cases this)) h)] at kk; exact kk
  | gt =>
    have he := z_lt_ok hB hy ha hr
    refine lv_if_gt hx hb hd ht (fun h => ?_) (fun h => ?_)
    · rw [if_pos (he.mp h)] at kk; exact kk
    · rw [if_neg (fun q => h (he.mpr q))] at kk; exact kk
  | le =>
    obtain ⟨b0, hb0, rfl⟩ := Option.map_eq_some_iff.mp hr
    have he := z_lt_ok hB hy ha hb0
    refine lv_if_le hx hb hd ht (fun h => ?_) (fun h => ?_)
    · rw [if_pos (by cases b0 with | true => exact absurd (he.mpr rfl) (z_le_not.mp h) | false => rfl)] at kk; exact kk
    · rw [if_neg (by cases b0 with | true => decide | false => exact absurd (z_le_not.mpr (fun q => by have := he.mp q; cases this)) h)] at kk; exact kk
end ZG
