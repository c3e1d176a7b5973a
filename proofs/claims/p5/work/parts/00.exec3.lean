/-! ===== fields, arrays, new cells ===== -/
def z_TY (kc : Nat → ClassId) : List (ClassId × FieldType) := [(kc 0, .int), (kc 1, .long), (kc 2, .byte), (kc 3, .boolean), (kc 4, .object "HeldCoats$State"), (kc 5, .object "HeldCoats$Image")]
theorem z_same {D : va_G} {cl : List vw_C} {tys : List (ClassId × FieldType)} {s : State} {cA b : ClassId} {ty : FieldType} (hK : va_K D cl (tys ++ [(cA, ty)]) s) {t : Nat} (ht : tys[t]? = some (b, ty)) : cA = b := by
  have h1 := (hK.2 tys.length (cA, ty) (by simp)).2
  have hl : t < tys.length := (List.getElem?_eq_some_iff.mp ht).1
  have h2 := (hK.2 t (b, ty) (by rw [List.getElem?_append_left hl]; exact ht)).2
  cases ty with
  | object C =>
    obtain ⟨_, _, _, _, _, h3⟩ := h1
    obtain ⟨_, _, _, _, _, h4⟩ := h2
    exact Option.some.inj (h3.symm.trans h4)
  | _ => exact Option.some.inj ((show _ = some cA from h1).symm.trans (show _ = some b from h2))
/-- a field's type takes the value as it is -/
def z_fit (ty : FieldType) (v : zV) : Bool := match ty, v with
  | .int, .inl _ => true
  | .boolean, .inl (.inl (some c)) => c == 0 || c == 1
  | .object _, .inr (.inl _) => true
  | .array _, .inr (.inl _) => true
  | .long, .inr (.inr _) => true
  | _, _ => false
theorem z_fit_ok {env : Nat → Int32} {ad : Nat → Option Nat} {ty : FieldType} {v : zV} {x : Value} (h : z_fit ty v = true) (hv : z_v env ad v x) : narrow ty x = x ∧ fits ty x = true := by
  unfold z_fit at h
  split at h
  next => obtain ⟨y, rfl, _⟩ := hv; exact ⟨rfl, rfl⟩
  next c0 =>
    obtain ⟨y, rfl, hy⟩ := hv
    rw [show y = c0 from hy]
    simp only [Bool.or_eq_true, beq_iff_eq] at h
    rcases h with rfl | rfl
    · exact ⟨by decide +kernel, by decide +kernel⟩
    · exact ⟨by decide +kernel, by decide +kernel⟩
  next o =>
    cases o with
    | none => rw [show x = .null from hv]; exact ⟨rfl, rfl⟩
    | some i => obtain ⟨a, _, rfl⟩ := hv; exact ⟨rfl, rfl⟩
  next o =>
    cases o with
    | none => rw [show x = .null from hv]; exact ⟨rfl, rfl⟩
    | some i => obtain ⟨a, _, rfl⟩ := hv; exact ⟨rfl, rfl⟩
  next => obtain ⟨y, rfl, _⟩ := hv; exact ⟨rfl, rfl⟩
  next => cases h
/-- a known place in a row of n -/
def z_ix (B : List (Int × Int)) (t : zI) (n : Nat) : Option Nat := if (z_rng B t).1 = (z_rng B t).2 ∧ 0 ≤ (z_rng B t).1 ∧ (z_rng B t).1 < (n : Int) then some (z_rng B t).1.toNat else none
theorem z_ix_ok {B : List (Int × Int)} {env : Nat → Int32} (hB : z_B B env) {t : zI} {x : Int32} {n k : Nat} (h : z_i env t x) (e : z_ix B t n = some k) : vp_in x n ∧ x.toNatClampNeg = k ∧ k < n := by
  have h1 := z_rng_ok hB h
  unfold z_ix at e
  split at e
  next hc =>
    have e := Option.some.inj e
    have hx : x.toInt = (k : Int) := by omega
    have hk : k < n := by omega
    refine ⟨vp_in_iff.mpr ⟨by omega, by omega⟩, ?_, hk⟩
    have : x.toNatClampNeg = x.toInt.toNat := rfl
    rw [this, hx]
    rfl
  next => cases e
section ZH
variable {p : Program} {l : Launch} {e : Env} {R : Room} {s : State} {m : MethodId} {args : Array Value} {below : List Frame} {meth : Method} {c : Code} {Q : State → Prop} {cc : ByteArray}
variable {xb : Nat} {env : Nat → Int32} {kc : Nat → ClassId} {D : va_G} {cl : List vw_C} {A : Nat → Prop} {H0 : Heap} {ad0 : Nat → Option Nat} {nL : Nat}
variable {zl : List (Nat × zV)} {st : List zV} {w : zW} {nc ns pc : Nat} {tys : List (ClassId × FieldType)}
theorem z_getf (hx : p.tables.exec = Jvm.exec) (hb : c.code = cc) {own C : String} {T : u_T} {N ci k index r : Nat} {Ts : List Cond} {fs : List zV} {v : zV} (hts : ∀ w ∈ Ts, w.before args s = true) (hin : ∀ w ∈ u_ws C T N, w ∈ Ts) (hown : s.vm.findClass own = some m.cls) (hK : va_K D cl tys s) (hc : cl[ci]? = some (C, T, N)) (hk : k < N) (hlink : (Cond.fieldLink own index (T k).1 (T k).2.1 (T k).2.2.1) ∈ Ts) (hd : decode cc pc = .ok (.getfield index, 3))
    (hw : w[r]? = some (.inl (ci, fs))) (hv : fs[k]? = some v) (kk : z_G p l e R s m args below meth c Q xb env kc D cl A H0 ad0 nL (pc + 3) (zl, v :: st, w, nc, ns)) : z_G p l e R s m args below meth c Q xb env kc D cl A H0 ad0 nL pc (zl, .inr (.inl (some (r + 1))) :: st, w, nc, ns) := by
  intro ls sv ws H locs ⟨h1, h2, h3, h6, hP, hD, hS⟩
  obtain ⟨_, sv', rfl, ⟨a, ha, rfl⟩, h4⟩ := z_st1 h2
  obtain ⟨a', e', hws, ha', vs, rfl, hvs⟩ := z_w_get h3 hw
  obtain rfl : a = a' := Option.some.inj (ha.symm.trans ha')
  obtain ⟨b, hb1, hb2⟩ := z_L_get hvs hv
  refine va_get hx hb hts hin hown hK hP r hws hc k hk (hts _ hlink) (fun _ h => h) hb1 hd ?_
  exact kk ls _ ws H locs ⟨h1, ⟨hb2, h4⟩, h3, h6, hP, hD, hS⟩
theorem z_putf (hx : p.tables.exec = Jvm.exec) (hb : c.code = cc) {own C : String} {T : u_T} {N ci k index r : Nat} {Ts : List Cond} {fs : List zV} {v : zV} {ty0 : Nat → FieldType} (hts : ∀ w ∈ Ts, w.before args s = true) (hin : ∀ w ∈ u_ws C T N, w ∈ Ts) (hty : ∀ k, k < N → parseFieldDescriptor (T k).2.2.1 = some (ty0 k)) (hnm : ∀ a, a < N → ∀ b, b < N → a ≠ b → (T a).2.1 ≠ (T b).2.1) (hown : s.vm.findClass own = some m.cls) (hK : va_K D cl tys s) (hc : cl[ci]? = some (C, T, N)) (hk : k < N) (hlink : (Cond.fieldLink own index (T k).1 (T k).2.1 (T k).2.2.1) ∈ Ts)
    (hfin : (T k).2.2.2 = false ∨ ((T k).2.2.2 = true ∧ meth.name = "<init>" ∧ (T k).1 = own)) (hd : decode cc pc = .ok (.putfield index, 3)) (hw : w[r]? = some (.inl (ci, fs))) (hl : k < fs.length) (hfit : z_fit (ty0 k) v = true) (kk : z_G p l e R s m args below meth c Q xb env kc D cl A H0 ad0 nL (pc + 3) (zl, st, w.set r (.inl (ci, fs.set k v)), nc, ns)) : z_G p l e R s m args below meth c Q xb env kc D cl A H0 ad0 nL pc (zl, v :: .inr (.inl (some (r + 1))) :: st, w, nc, ns) := by
  intro ls sv ws H locs ⟨h1, h2, h3, h6, hP, hD, hS⟩
  obtain ⟨x, sv', rfl, hvx, h4⟩ := z_st1 h2
  obtain ⟨_, sv'', rfl, ⟨a, ha, rfl⟩, h5⟩ := z_st1 h4
  obtain ⟨a', e', hws, ha', vs, rfl, hvs⟩ := z_w_get h3 hw
  obtain rfl : a = a' := Option.some.inj (ha.symm.trans ha')
  obtain ⟨hn1, hn2⟩ := z_fit_ok hfit hvx
  have hl' : k < vs.length := by rw [← z_L_len hvs]; exact hl
  have hgo : ∀ (H1 : Heap) (locs1 : List Loc), va_P D cl (ws.set r (a, .inr (ci, vs.set k x))) H1 → va_D A (ws.set r (a, .inr (ci, vs.set k x))) → va_S A H0 H1 locs1 → W p l e R s m args below meth c H1 locs1 nc ns Q (F0 m (pc + 3) ls sv'') := by
    intro H1 locs1 hP1 hD1 hS1
    have e9 := z_ad_set (xb := xb) (e := .inr (ci, vs.set k x)) hws
    refine kk ls _ (ws.set r (a, .inr (ci, vs.set k x))) H1 locs1 ⟨by rw [e9]; exact h1, by rw [e9]; exact h5, z_w_set h3 hws ⟨_, rfl, z_L_set hvs k hvx⟩, by rw [e9]; exact h6, hP1, hD1, hS1⟩
  rcases hfin with hf | ⟨hf, hf2, hf3⟩
  · exact va_put hx hb hts hin ty0 hty hnm hown hK hP hD hS r hws hc k hk (hts _ hlink) (fun _ h => h) hf (hty k hk) hn1 hn2 hl' hd hgo
  · exact va_putF hx hb hts hin ty0 hty hnm hown hK hP hD hS r hws hc k hk (hts _ hlink) (fun _ h => h) hf hf2 hf3 (hty k hk) hn1 hn2 hl' hd hgo
theorem z_iald (hx : p.tables.exec = Jvm.exec) (hb : c.code = cc) {B : List (Int × Int)} (hB : z_B B env) {r k : Nat} {t : zI} {es : List zI} {x : zI} (hK : va_K D cl tys s) (ht : tys[0]? = some (kc 0, .int)) (hd : decode cc pc = .ok (.iaload, 1)) (hw : w[r]? = some (.inr (.inl (0, es)))) (hi : z_ix B t es.length = some k) (hv : es[k]? = some x) (kk : z_G p l e R s m args below meth c Q xb env kc D cl A H0 ad0 nL (pc + 1) (zl, .inl x :: st, w, nc, ns)) : z_G p l e R s m args below meth c Q xb env kc D cl A H0 ad0 nL pc (zl, .inl t :: .inr (.inl (some (r + 1))) :: st, w, nc, ns) := by
  intro ls sv ws H locs ⟨h1, h2, h3, h6, hP, hD, hS⟩
  obtain ⟨_, sv', rfl, ⟨y, rfl, hy⟩, h4⟩ := z_st1 h2
  obtain ⟨_, sv'', rfl, ⟨a, ha, rfl⟩, h5⟩ := z_st1 h4
  obtain ⟨a', e', hws, ha', f, rfl, hf⟩ := z_w_get h3 hw
  obtain rfl : a = a' := Option.some.inj (ha.symm.trans ha')
  obtain ⟨hi1, hi2, hi3⟩ := z_ix_ok hB hy hi
  refine va_iald hx hb hK hP r 0 hws ht hi1 hd ?_
  rw [hi2]
  exact kk ls _ ws H locs ⟨h1, ⟨⟨_, rfl, hf k x hv⟩, h5⟩, h3, h6, hP, hD, hS⟩
theorem z_zald (hx : p.tables.exec = Jvm.exec) (hb : c.code = cc) {B : List (Int × Int)} (hB : z_B B env) {r k : Nat} {t : zI} {es : List zI} {x : zI} (hK : va_K D cl tys s) (ht : tys[3]? = some (kc 3, .boolean)) (hd : decode cc pc = .ok (.baload, 1)) (hw : w[r]? = some (.inr (.inl (3, es)))) (hi : z_ix B t es.length = some k) (hv : es[k]? = some x) (kk : z_G p l e R s m args below meth c Q xb env kc D cl A H0 ad0 nL (pc + 1) (zl, .inl x :: st, w, nc, ns)) : z_G p l e R s m args below meth c Q xb env kc D cl A H0 ad0 nL pc (zl, .inl t :: .inr (.inl (some (r + 1))) :: st, w, nc, ns) := by
  intro ls sv ws H locs ⟨h1, h2, h3, h6, hP, hD, hS⟩
  obtain ⟨_, sv', rfl, ⟨y, rfl, hy⟩, h4⟩ := z_st1 h2
  obtain ⟨_, sv'', rfl, ⟨a, ha, rfl⟩, h5⟩ := z_st1 h4
  obtain ⟨a', e', hws, ha', f, rfl, hf⟩ := z_w_get h3 hw
  obtain rfl : a = a' := Option.some.inj (ha.symm.trans ha')
  obtain ⟨hi1, hi2, hi3⟩ := z_ix_ok hB hy hi
  refine va_zald hx hb hK hP r 3 hws ht hi1 hd ?_
  rw [hi2]
  exact kk ls _ ws H locs ⟨h1, ⟨⟨_, rfl, hf k x hv⟩, h5⟩, h3, h6, hP, hD, hS⟩
theorem z_es_set {env : Nat → Int32} {es : List zI} {f : Nat → Int32} {k : Nat} {v : zI} {x : Int32} (hf : ∀ (j : Nat) (y : zI), es[j]? = some y → z_i env y (f j)) (hv : z_i env v x) : ∀ (j : Nat) (y : zI), (es.set k v)[j]? = some y → z_i env y (upd f k x j) := by
  intro j y hj
  by_cases hk : k = j
  · subst hk
    rcases Nat.lt_or_ge k es.length with h1 | h1
    · rw [List.getElem?_set_self h1] at hj
      cases hj
      rw [pk_us]
      exact hv
    · rw [List.getElem?_eq_none (by rw [List.length_set]; exact h1)] at hj
      cases hj
  · rw [List.getElem?_set_ne hk] at hj
    rw [pk_un (fun q => hk q.symm)]
    exact hf j y hj
theorem z_iast (hx : p.tables.exec = Jvm.exec) (hb : c.code = cc) {B : List (Int × Int)} (hB : z_B B env) {r k : Nat} {t v : zI} {es : List zI} (hK : va_K D cl tys s) (ht : tys[0]? = some (kc 0, .int)) (hd : decode cc pc = .ok (.iastore, 1)) (hw : w[r]? = some (.inr (.inl (0, es)))) (hi : z_ix B t es.length = some k) (kk : z_G p l e R s m args below meth c Q xb env kc D cl A H0 ad0 nL (pc + 1) (zl, st, w.set r (.inr (.inl (0, es.set k v))), nc, ns)) : z_G p l e R s m args below meth c Q xb env kc D cl A H0 ad0 nL pc (zl, .inl v :: .inl t :: .inr (.inl (some (r + 1))) :: st, w, nc, ns) := by
  intro ls sv ws H locs ⟨h1, h2, h3, h6, hP, hD, hS⟩
  obtain ⟨_, sv', rfl, ⟨x, rfl, hx1⟩, h4⟩ := z_st1 h2
  obtain ⟨_, sv'', rfl, ⟨y, rfl, hy⟩, h5⟩ := z_st1 h4
  obtain ⟨_, sv3, rfl, ⟨a, ha, rfl⟩, h7⟩ := z_st1 h5
  obtain ⟨a', e', hws, ha', f, rfl, hf⟩ := z_w_get h3 hw
  obtain rfl : a = a' := Option.some.inj (ha.symm.trans ha')
  obtain ⟨hi1, hi2, hi3⟩ := z_ix_ok hB hy hi
  refine va_iast hx hb hK hP hD hS r 0 hws ht hi1 hd (fun H1 locs1 hP1 hD1 hS1 => ?_)
  rw [hi2] at hP1 hD1
  have e9 := z_ad_set (xb := xb) (e := .inl (kc 0, es.length, .inl (upd f k x))) hws
  exact kk ls _ _ H1 locs1 ⟨by rw [e9]; exact h1, by rw [e9]; exact h7, z_w_set h3 hws ⟨_, by rw [List.length_set], z_es_set hf hx1⟩, by rw [e9]; exact h6, hP1, hD1, hS1⟩
theorem z_bast (hx : p.tables.exec = Jvm.exec) (hb : c.code = cc) {B : List (Int × Int)} (hB : z_B B env) {r k : Nat} {t v : zI} {es : List zI} (hK : va_K D cl tys s) (ht : tys[2]? = some (kc 2, .byte)) (hd : decode cc pc = .ok (.bastore, 1)) (hw : w[r]? = some (.inr (.inl (2, es)))) (hi : z_ix B t es.length = some k) (kk : z_G p l e R s m args below meth c Q xb env kc D cl A H0 ad0 nL (pc + 1) (zl, st, w.set r (.inr (.inl (2, es.set k (.inl none)))), nc, ns)) : z_G p l e R s m args below meth c Q xb env kc D cl A H0 ad0 nL pc (zl, .inl v :: .inl t :: .inr (.inl (some (r + 1))) :: st, w, nc, ns) := by
  intro ls sv ws H locs ⟨h1, h2, h3, h6, hP, hD, hS⟩
  obtain ⟨_, sv', rfl, ⟨x, rfl, hx1⟩, h4⟩ := z_st1 h2
  obtain ⟨_, sv'', rfl, ⟨y, rfl, hy⟩, h5⟩ := z_st1 h4
  obtain ⟨_, sv3, rfl, ⟨a, ha, rfl⟩, h7⟩ := z_st1 h5
  obtain ⟨a', e', hws, ha', f, rfl, hf⟩ := z_w_get h3 hw
  obtain rfl : a = a' := Option.some.inj (ha.symm.trans ha')
  obtain ⟨hi1, hi2, hi3⟩ := z_ix_ok hB hy hi
  refine va_bast hx hb hK hP hD hS r 2 hws ht hi1 hd (fun H1 locs1 hP1 hD1 hS1 => ?_)
  rw [hi2] at hP1 hD1
  have e9 := z_ad_set (xb := xb) (e := .inl (kc 2, es.length, .inl (upd f k (vp_nar .byte x)))) hws
  exact kk ls _ _ H1 locs1 ⟨by rw [e9]; exact h1, by rw [e9]; exact h7, z_w_set h3 hws ⟨_, by rw [List.length_set], z_es_set hf trivial⟩, by rw [e9]; exact h6, hP1, hD1, hS1⟩
theorem z_zast (hx : p.tables.exec = Jvm.exec) (hb : c.code = cc) {B : List (Int × Int)} (hB : z_B B env) {r k : Nat} {t : zI} {v : Int32} {es : List zI} (hK : va_K D cl tys s) (ht : tys[3]? = some (kc 3, .boolean)) (hd : decode cc pc = .ok (.bastore, 1)) (hv : vp_nar .boolean v = v) (hw : w[r]? = some (.inr (.inl (3, es)))) (hi : z_ix B t es.length = some k) (kk : z_G p l e R s m args below meth c Q xb env kc D cl A H0 ad0 nL (pc + 1) (zl, st, w.set r (.inr (.inl (3, es.set k (.inl (some v))))), nc, ns)) : z_G p l e R s m args below meth c Q xb env kc D cl A H0 ad0 nL pc (zl, .inl (.inl (some v)) :: .inl t :: .inr (.inl (some (r + 1))) :: st, w, nc, ns) := by
  intro ls sv ws H locs ⟨h1, h2, h3, h6, hP, hD, hS⟩
  obtain ⟨_, sv', rfl, ⟨x, rfl, hx1⟩, h4⟩ := z_st1 h2
  obtain ⟨_, sv'', rfl, ⟨y, rfl, hy⟩, h5⟩ := z_st1 h4
  obtain ⟨_, sv3, rfl, ⟨a, ha, rfl⟩, h7⟩ := z_st1 h5
  obtain ⟨a', e', hws, ha', f, rfl, hf⟩ := z_w_get h3 hw
  obtain rfl : a = a' := Option.some.inj (ha.symm.trans ha')
  obtain ⟨hi1, hi2, hi3⟩ := z_ix_ok hB hy hi
  obtain rfl : x = v := hx1
  refine va_zast hx hb hK hP hD hS r 3 hws ht hi1 hd (fun H1 locs1 hP1 hD1 hS1 => ?_)
  rw [hi2, hv] at hP1 hD1
  have e9 := z_ad_set (xb := xb) (e := .inl (kc 3, es.length, .inl (upd f k x))) hws
  exact kk ls _ _ H1 locs1 ⟨by rw [e9]; exact h1, by rw [e9]; exact h7, z_w_set h3 hws ⟨_, by rw [List.length_set], z_es_set hf rfl⟩, by rw [e9]; exact h6, hP1, hD1, hS1⟩
theorem z_lald (hx : p.tables.exec = Jvm.exec) (hb : c.code = cc) {B : List (Int × Int)} (hB : z_B B env) {r k : Nat} {t : zI} {es : List (Option Int)} {o : Option Int} (hK : va_K D cl tys s) (ht : tys[1]? = some (kc 1, .long)) (hd : decode cc pc = .ok (.laload, 1)) (hw : w[r]? = some (.inr (.inr (.inl es)))) (hi : z_ix B t es.length = some k) (ho : es[k]? = some o) (kk : z_G p l e R s m args below meth c Q xb env kc D cl A H0 ad0 nL (pc + 1) (zl, .inr (.inr o) :: st, w, nc, ns)) : z_G p l e R s m args below meth c Q xb env kc D cl A H0 ad0 nL pc (zl, .inl t :: .inr (.inl (some (r + 1))) :: st, w, nc, ns) := by
  intro ls sv ws H locs ⟨h1, h2, h3, h6, hP, hD, hS⟩
  obtain ⟨_, sv', rfl, ⟨y, rfl, hy⟩, h4⟩ := z_st1 h2
  obtain ⟨_, sv'', rfl, ⟨a, ha, rfl⟩, h5⟩ := z_st1 h4
  obtain ⟨a', e', hws, ha', f, rfl, hf⟩ := z_w_get h3 hw
  obtain rfl : a = a' := Option.some.inj (ha.symm.trans ha')
  obtain ⟨hi1, hi2, hi3⟩ := z_ix_ok hB hy hi
  refine va_lald hx hb hK hP r 1 hws ht hi1 hd ?_
  exact kk ls _ ws H locs ⟨h1, ⟨⟨_, rfl, by rw [hi2]; exact hf k o ho⟩, h5⟩, h3, h6, hP, hD, hS⟩
theorem z_ls_set {es : List (Option Int)} {f : Nat → Int64} {k : Nat} {v : Option Int} {x : Int64} (hf : ∀ (j : Nat) (y : Option Int), es[j]? = some y → z_k y (f j)) (hv : z_k v x) : ∀ (j : Nat) (y : Option Int), (es.set k v)[j]? = some y → z_k y (vp_updL f k x j) := by
  intro j y hj
  by_cases hk : k = j
  · subst hk
    rcases Nat.lt_or_ge k es.length with h1 | h1
    · rw [List.getElem?_set_self h1] at hj
      cases hj
      unfold vp_updL
      simpa using hv
    · rw [List.getElem?_eq_none (by rw [List.length_set]; exact h1)] at hj
      cases hj
  · rw [List.getElem?_set_ne hk] at hj
    have h9 := hf j y hj
    unfold vp_updL
    rw [if_neg (fun q => hk q.symm)]
    exact h9
theorem z_last (hx : p.tables.exec = Jvm.exec) (hb : c.code = cc) {B : List (Int × Int)} (hB : z_B B env) {r k : Nat} {t : zI} {es : List (Option Int)} {o : Option Int} (hK : va_K D cl tys s) (ht : tys[1]? = some (kc 1, .long)) (hd : decode cc pc = .ok (.lastore, 1)) (hw : w[r]? = some (.inr (.inr (.inl es)))) (hi : z_ix B t es.length = some k) (kk : z_G p l e R s m args below meth c Q xb env kc D cl A H0 ad0 nL (pc + 1) (zl, st, w.set r (.inr (.inr (.inl (es.set k o)))), nc, ns)) : z_G p l e R s m args below meth c Q xb env kc D cl A H0 ad0 nL pc (zl, .inr (.inr o) :: .inl t :: .inr (.inl (some (r + 1))) :: st, w, nc, ns) := by
  intro ls sv ws H locs ⟨h1, h2, h3, h6, hP, hD, hS⟩
  obtain ⟨_, sv', rfl, ⟨x, rfl, hx9⟩, h4⟩ := z_st1 h2
  obtain ⟨_, sv'', rfl, ⟨y, rfl, hy⟩, h5⟩ := z_st1 h4
  obtain ⟨_, sv3, rfl, ⟨a, ha, rfl⟩, h7⟩ := z_st1 h5
  obtain ⟨a', e', hws, ha', f, rfl, hf⟩ := z_w_get h3 hw
  obtain rfl : a = a' := Option.some.inj (ha.symm.trans ha')
  obtain ⟨hi1, hi2, hi3⟩ := z_ix_ok hB hy hi
  refine va_last hx hb hK hP hD hS r 1 hws ht hi1 hd (fun H1 locs1 hP1 hD1 hS1 => ?_)
  rw [hi2] at hP1 hD1
  have e9 := z_ad_set (xb := xb) (e := .inl (kc 1, es.length, .inr (.inl (vp_updL f k x)))) hws
  exact kk ls _ _ H1 locs1 ⟨by rw [e9]; exact h1, by rw [e9]; exact h7, z_w_set h3 hws ⟨_, by rw [List.length_set], z_ls_set hf hx9⟩, by rw [e9]; exact h6, hP1, hD1, hS1⟩
theorem z_aald (hx : p.tables.exec = Jvm.exec) (hb : c.code = cc) {B : List (Int × Int)} (hB : z_B B env) {r k q kt : Nat} {t : zI} {es : List (Option Nat)} {C : String} (hK : va_K D cl tys s) (ht : tys[kt]? = some (kc kt, .object C)) (hd : decode cc pc = .ok (.aaload, 1)) (hw : w[r]? = some (.inr (.inr (.inr (kt, es))))) (hi : z_ix B t es.length = some k) (hv : es[k]? = some (some q)) (kk : z_G p l e R s m args below meth c Q xb env kc D cl A H0 ad0 nL (pc + 1) (zl, .inr (.inl (some q)) :: st, w, nc, ns)) : z_G p l e R s m args below meth c Q xb env kc D cl A H0 ad0 nL pc (zl, .inl t :: .inr (.inl (some (r + 1))) :: st, w, nc, ns) := by
  intro ls sv ws H locs ⟨h1, h2, h3, h6, hP, hD, hS⟩
  obtain ⟨_, sv', rfl, ⟨y, rfl, hy⟩, h4⟩ := z_st1 h2
  obtain ⟨_, sv'', rfl, ⟨a, ha, rfl⟩, h5⟩ := z_st1 h4
  obtain ⟨a', e', hws, ha', f, rfl, hf⟩ := z_w_get h3 hw
  obtain rfl : a = a' := Option.some.inj (ha.symm.trans ha')
  obtain ⟨hi1, hi2, hi3⟩ := z_ix_ok hB hy hi
  refine va_aldq hx hb hK hP r kt hws ht hi1 hd ?_
  obtain ⟨b, hb1, hb2⟩ := hf k (some q) hv
  rw [hi2, hb2]
  exact kk ls _ ws H locs ⟨h1, ⟨⟨b, hb1, rfl⟩, h5⟩, h3, h6, hP, hD, hS⟩
theorem z_aast (hx : p.tables.exec = Jvm.exec) (hb : c.code = cc) {B : List (Int × Int)} (hB : z_B B env) {r k q kt ci : Nat} {t : zI} {es : List (Option Nat)} {rr : vw_C} {fs : List zV} (hK : va_K D cl tys s) (ht : tys[kt]? = some (kc kt, .object rr.1)) (hc : cl[ci]? = some rr) (hd : decode cc pc = .ok (.aastore, 1)) (hw : w[r]? = some (.inr (.inr (.inr (kt, es))))) (hq : w[q]? = some (.inl (ci, fs))) (hi : z_ix B t es.length = some k) (kk : z_G p l e R s m args below meth c Q xb env kc D cl A H0 ad0 nL (pc + 1) (zl, st, w.set r (.inr (.inr (.inr (kt, es.set k (some (q + 1)))))), nc, ns)) : z_G p l e R s m args below meth c Q xb env kc D cl A H0 ad0 nL pc (zl, .inr (.inl (some (q + 1))) :: .inl t :: .inr (.inl (some (r + 1))) :: st, w, nc, ns) := by
  intro ls sv ws H locs ⟨h1, h2, h3, h6, hP, hD, hS⟩
  obtain ⟨_, sv', rfl, ⟨x, hx1, rfl⟩, h4⟩ := z_st1 h2
  obtain ⟨_, sv'', rfl, ⟨y, rfl, hy⟩, h5⟩ := z_st1 h4
  obtain ⟨_, sv3, rfl, ⟨a, ha, rfl⟩, h7⟩ := z_st1 h5
  obtain ⟨a', e', hws, ha', f, rfl, hf⟩ := z_w_get h3 hw
  obtain rfl : a = a' := Option.some.inj (ha.symm.trans ha')
  obtain ⟨x', e2, hwq, hx', vs, rfl, hvs⟩ := z_w_get h3 hq
  obtain rfl : x = x' := Option.some.inj (hx1.symm.trans hx')
  obtain ⟨hi1, hi2, hi3⟩ := z_ix_ok hB hy hi
  refine va_astq hx hb hK hP hD hS r kt q ci hws ht hwq hc hi1 hd (fun H1 locs1 hP1 hD1 hS1 => ?_)
  rw [hi2] at hP1 hD1
  have e9 := z_ad_set (xb := xb) (e := .inl (kc kt, es.length, .inr (.inr (.inr (.inr (va_up f k (some x))))))) hws
  have hf9 : ∀ (j : Nat) (z : Option Nat), (es.set k (some (q + 1)))[j]? = some z → z_o (z_ad xb ws) z (va_up f k (some x) j) := by
    intro j z hj
    by_cases hk : k = j
    · subst hk
      rw [List.getElem?_set_self hi3] at hj
      cases hj
      exact ⟨x, hx1, by simp [va_up]⟩
    · rw [List.getElem?_set_ne hk] at hj
      have h8 := hf j z hj
      rwa [show va_up f k (some x) j = f j by unfold va_up; rw [if_neg (fun q => hk q.symm)]]
  exact kk ls _ _ H1 locs1 ⟨by rw [e9]; exact h1, by rw [e9]; exact h7, z_w_set h3 hws ⟨_, by rw [List.length_set], hf9⟩, by rw [e9]; exact h6, hP1, hD1, hS1⟩
theorem z_alen (hx : p.tables.exec = Jvm.exec) (hb : c.code = cc) {r n : Nat} {es : List zI} (hK : va_K D cl tys s) (ht : tys[0]? = some (kc 0, .int)) (hd : decode cc pc = .ok (.arraylength, 1)) (hw : w[r]? = some (.inr (.inl (0, es)))) (kk : z_G p l e R s m args below meth c Q xb env kc D cl A H0 ad0 nL (pc + 1) (zl, .inl (.inl (some (Int32.ofNat es.length))) :: st, w, nc, ns)) : z_G p l e R s m args below meth c Q xb env kc D cl A H0 ad0 nL pc (zl, .inr (.inl (some (r + 1))) :: st, w, nc, ns) := by
  intro ls sv ws H locs ⟨h1, h2, h3, h6, hP, hD, hS⟩
  obtain ⟨_, sv', rfl, ⟨a, ha, rfl⟩, h4⟩ := z_st1 h2
  obtain ⟨a', e', hws, ha', f, rfl, hf⟩ := z_w_get h3 hw
  obtain rfl : a = a' := Option.some.inj (ha.symm.trans ha')
  refine va_alen hx hb hK hP r 0 hws ht rfl hd ?_
  exact kk ls _ ws H locs ⟨h1, ⟨⟨_, rfl, rfl⟩, h4⟩, h3, h6, hP, hD, hS⟩
end ZH
