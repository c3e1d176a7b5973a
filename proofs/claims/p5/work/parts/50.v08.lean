/-! ===== the run ===== -/
def y_o1 (q : yB × yI) (pc : Nat) (zl : List (Nat × yV)) (st : List yV) (kn : yN) (fl : yX) : List (yB × Nat × yS) := [(q.1, pc, (zl, .inl q.2 :: st, kn, fl))]
def y_l1 (q : yB × yI × yN) (pc : Nat) (zl : List (Nat × yV)) (st : List yV) (fl : yX) : List (yB × Nat × yS) := [(q.1, pc, (zl, .inl q.2.1 :: st, q.2.2, fl))]
def y_sgs : List (Nat × Int × Int) → List (Nat × Int × Int) → Bool
  | [], [] => true
  | (a, b, c) :: r, (d, e, f) :: q => decide (a = d) && (decide (b = e) && (decide (c = f) && y_sgs r q))
  | _, _ => false
theorem y_sgs_ok : ∀ {a b : List (Nat × Int × Int)}, y_sgs a b = true → a = b
  | [], [], _ => rfl
  | (a, b, c) :: r, (d, e, f) :: q, h => by
    unfold y_sgs at h
    simp only [Bool.and_eq_true, decide_eq_true_eq] at h
    obtain ⟨rfl, rfl, rfl, h⟩ := h
    rw [y_sgs_ok h]
  | [], _ :: _, h => by cases h
  | _ :: _, [], h => by cases h
theorem y_on {n : Nat} (h : n < 2147483648) : (Int32.ofNat n).toInt = Int.ofNat n := by
  rw [← Int32.ofInt_eq_ofNat, y_oi (by omega) (by omega)]
  rfl
def y_rty (ty : FieldType) : Bool := match ty with
  | .object _ => true
  | .array _ => true
  | _ => false
theorem y_rty_ok {ty : FieldType} (h : y_rty ty = true) : (∃ n, ty = .object n) ∨ ∃ t, ty = .array t := by
  unfold y_rty at h
  split at h
  · exact Or.inl ⟨_, rfl⟩
  · exact Or.inr ⟨_, rfl⟩
  · cases h
def y_lty (ty : FieldType) : Bool := match ty with
  | .long => true
  | _ => false
theorem y_lty_ok {ty : FieldType} (h : y_lty ty = true) : ty = .long := by
  unfold y_lty at h
  split at h
  · rfl
  · cases h
theorem y_some_ok {es : List (Option Nat)} (h : es.all Option.isSome = true) : ∀ k, k < es.length → ∃ i, es[k]? = some (some i) := by
  intro k hk
  have h1 := List.all_eq_true.mp h es[k] (List.getElem_mem hk)
  obtain ⟨i, hi⟩ := Option.isSome_iff_exists.mp h1
  exact ⟨i, by rw [List.getElem?_eq_getElem hk, hi]⟩
def y_x (TY : List (List yC)) (TF : Nat → Nat → FieldType) (eff RC : yR) (GR : List yGr) (nL : Nat) (I : Instr) (inf : List Nat) (B : yB) (pc : Nat) (z : yS) : Option (List (yB × Nat × yS)) :=
  match z with
  | (zl, st, kn, fl) => match I with
    | .iconst n => if -2147483648 ≤ n ∧ n ≤ 2147483647 then some [(B, pc + 1, (zl, .inl (.inl n) :: st, kn, fl))] else none
    | .bipush n => if -128 ≤ n ∧ n ≤ 127 then some [(B, pc + 2, (zl, .inl (.inl n) :: st, kn, fl))] else none
    | .sipush n => if -32768 ≤ n ∧ n ≤ 32767 then some [(B, pc + 3, (zl, .inl (.inl n) :: st, kn, fl))] else none
    | .lconst _ => some [(B, pc + 1, (zl, .inr (.inr ()) :: st, kn, fl))]
    | .ldc2_w _ => some [(B, pc + 3, (zl, .inr (.inr ()) :: st, kn, fl))]
    | .ldc _ => match inf with
      | [n] => if n < 2147483648 then some [(B, pc + 2, (zl, .inl (.inl (Int.ofNat n)) :: st, kn, fl))] else none
      | _ => none
    | .ldc_w _ => match inf with
      | [n] => if n < 2147483648 then some [(B, pc + 3, (zl, .inl (.inl (Int.ofNat n)) :: st, kn, fl))] else none
      | _ => none
    | .lload_n k => match y_get zl (k : Nat) with
      | some (.inr (.inr ())) => some [(B, pc + 1, (zl, .inr (.inr ()) :: st, kn, fl))]
      | _ => none
    | .iload i => match y_get zl i with
      | some (.inl t) => some [(B, pc + 2, (zl, .inl (y_nm B t) :: st, kn, fl))]
      | _ => none
    | .iload_n k => match y_get zl (k : Nat) with
      | some (.inl t) => some [(B, pc + 1, (zl, .inl (y_nm B t) :: st, kn, fl))]
      | _ => none
    | .aload i => match y_get zl i with
      | some (.inr (.inl (some r))) => some [(B, pc + 2, (zl, .inr (.inl (some r)) :: st, kn, fl))]
      | _ => none
    | .aload_n k => match y_get zl (k : Nat) with
      | some (.inr (.inl (some r))) => some [(B, pc + 1, (zl, .inr (.inl (some r)) :: st, kn, fl))]
      | _ => none
    | .lstore_n k => match st with
      | .inr (.inr ()) :: rest => if (k : Nat) + 1 < nL then some [(B, pc + 1, (y_put2 zl (k : Nat), rest, kn, fl))] else none
      | _ => none
    | .istore i => match st with
      | .inl t :: rest => if i < nL then some [(B, pc + 2, (y_put zl i (.inl t), rest, kn, fl))] else none
      | _ => none
    | .istore_n k => match st with
      | .inl t :: rest => if (k : Nat) < nL then some [(B, pc + 1, (y_put zl (k : Nat) (.inl t), rest, kn, fl))] else none
      | _ => none
    | .astore i => match st with
      | .inr (.inl (some r)) :: rest => if i < nL then some [(B, pc + 2, (y_put zl i (.inr (.inl (some r))), rest, kn, fl))] else none
      | _ => none
    | .astore_n k => match st with
      | .inr (.inl (some r)) :: rest => if (k : Nat) < nL then some [(B, pc + 1, (y_put zl (k : Nat) (.inr (.inl (some r))), rest, kn, fl))] else none
      | _ => none
    | .iinc i n => match y_get zl i with
      | some (.inl t) => if i < nL ∧ -2147483648 ≤ n ∧ n ≤ 2147483647 then some [((y_oadd B (y_nm B t) (.inl n)).1, pc + 3, (y_put zl i (.inl (y_oadd B (y_nm B t) (.inl n)).2), st, kn, fl))] else none
      | _ => none
    | .dup => match st with
      | t :: rest => if y_cat t = 1 then some [(B, pc + 1, (zl, t :: t :: rest, kn, fl))] else none
      | _ => none
    | .dup2 => match st with
      | t :: u :: rest => if y_cat t = 1 ∧ y_cat u = 1 then some [(B, pc + 1, (zl, t :: u :: t :: u :: rest, kn, fl))] else none
      | _ => none
    | .pop => match st with
      | t :: rest => if y_cat t = 1 then some [(B, pc + 1, (zl, rest, kn, fl))] else none
      | _ => none
    | .goto off => match z_tgt pc off with
      | some t => some [(B, t, (zl, st, kn, fl))]
      | none => none
    | .i2l => match st with
      | .inl _ :: rest => some [(B, pc + 1, (zl, .inr (.inr ()) :: rest, kn, fl))]
      | _ => none
    | .ladd => match st with
      | .inr (.inr ()) :: .inr (.inr ()) :: rest => some [(B, pc + 1, (zl, .inr (.inr ()) :: rest, kn, fl))]
      | _ => none
    | .lmul => match st with
      | .inr (.inr ()) :: .inr (.inr ()) :: rest => some [(B, pc + 1, (zl, .inr (.inr ()) :: rest, kn, fl))]
      | _ => none
    | .lshl => match st with
      | .inl _ :: .inr (.inr ()) :: rest => some [(B, pc + 1, (zl, .inr (.inr ()) :: rest, kn, fl))]
      | _ => none
    | .lor => match st with
      | .inr (.inr ()) :: .inr (.inr ()) :: rest => some [(B, pc + 1, (zl, .inr (.inr ()) :: rest, kn, fl))]
      | _ => none
    | .lcmp => match st with
      | .inr (.inr ()) :: .inr (.inr ()) :: rest => some (y_o1 (y_mk B (-1) 1) (pc + 1) zl rest kn fl)
      | _ => none
    | .i2b => match st with
      | .inl t :: rest => some (y_o1 (y_i2bv B t) (pc + 1) zl rest kn fl)
      | _ => none
    | .iadd => match st with
      | .inl y :: .inl x :: rest => some (y_o1 (y_oadd B (y_nm B x) (y_nm B y)) (pc + 1) zl rest kn fl)
      | _ => none
    | .isub => match st with
      | .inl y :: .inl x :: rest => some (y_o1 (y_osub B (y_nm B x) (y_nm B y)) (pc + 1) zl rest kn fl)
      | _ => none
    | .imul => match st with
      | .inl y :: .inl x :: rest => some (y_o1 (y_omul B (y_nm B x) (y_nm B y)) (pc + 1) zl rest kn fl)
      | _ => none
    | .ior => match st with
      | .inl y :: .inl x :: rest => some (y_o1 (y_oor B (y_nm B x) (y_nm B y)) (pc + 1) zl rest kn fl)
      | _ => none
    | .ixor => match st with
      | .inl y :: .inl x :: rest => some (y_o1 (y_oxor B (y_nm B x) (y_nm B y)) (pc + 1) zl rest kn fl)
      | _ => none
    | .ishl => match st with
      | .inl y :: .inl x :: rest => some (y_o1 (y_oshl B (y_nm B x) (y_nm B y)) (pc + 1) zl rest kn fl)
      | _ => none
    | .ishr => match st with
      | .inl y :: .inl x :: rest => some (y_o1 (y_oshr B (y_nm B x) (y_nm B y)) (pc + 1) zl rest kn fl)
      | _ => none
    | .iushr => match st with
      | .inl y :: .inl x :: rest => some (y_o1 (y_oush B (y_nm B x) (y_nm B y)) (pc + 1) zl rest kn fl)
      | _ => none
    | .iand => match st with
      | .inl y :: .inl x :: rest => match y_nm B x, y_nm B y with
        | .inr (i, d), .inl b => if b = 255 ∧ (y_rng B (.inr (i, d))).1 < 0 ∧ -128 ≤ (y_rng B (.inr (i, d))).1 ∧ (y_rng B (.inr (i, d))).2 ≤ 127 then some (y_way (y_le B (.inl 0) (.inr (i, d))) (pc + 1) (zl, .inl (.inr (i, d)) :: rest, kn, fl) ++ y_way (y_lt B (.inr (i, d)) (.inl 0)) (pc + 1) (zl, .inl (.inr (i, d + 256)) :: rest, kn, fl)) else some (y_o1 (y_oand B (.inr (i, d)) (.inl b)) (pc + 1) zl rest kn fl)
        | x', y' => some (y_o1 (y_oand B x' y') (pc + 1) zl rest kn fl)
      | _ => none
    | .irem => match st with
      | .inl y :: .inl x :: rest => if 1 ≤ (y_rng B y).1 ∧ 0 ≤ (y_rng B x).1 then some (y_o1 (y_mk B 0 ((y_rng B y).2 - 1)) (pc + 1) zl rest kn fl) else none
      | _ => none
    | .if_icmp k off => match st with
      | .inl y :: .inl x :: rest => match z_tgt pc off with
        | some t => some (y_way (y_br B k x y).1 t (zl, rest, kn, fl) ++ y_way (y_br B k x y).2 (pc + 3) (zl, rest, kn, fl))
        | none => none
      | _ => none
    | .ifCond k off => match st with
      | .inl x :: rest => match z_tgt pc off with
        | some t => some (y_way (y_br B k x (.inl 0)).1 t (zl, rest, kn, fl) ++ y_way (y_br B k x (.inl 0)).2 (pc + 3) (zl, rest, kn, fl))
        | none => none
      | _ => none
    | .tableswitch d lo hi offs => match st with
      | .inl t :: rest => y_sw B pc d lo hi offs t (zl, rest, kn, fl)
      | _ => none
    | .getfield _ => match inf, st with
      | [ci, k], .inr (.inl (some (r + 1))) :: rest => match y_T TY r with
        | some (.inl (cj, ts)) => if cj = ci then match ts[k]? with
            | some (.inl q) => some (y_l1 (y_ld B kn r (.inl (Int.ofNat k)) q) (pc + 3) zl rest fl)
            | some (.inr (.inl rs)) => some (rs.map (fun o => (B, pc + 3, (zl, .inr (.inl o) :: rest, kn, fl))))
            | some (.inr (.inr ())) => some [(B, pc + 3, (zl, .inr (.inr ()) :: rest, kn, fl))]
            | none => none
          else none
        | _ => none
      | _, _ => none
    | .putfield _ => match inf, st with
      | [ci, k], v :: .inr (.inl (some (r + 1))) :: rest => match y_T TY r with
        | some (.inl (cj, ts)) => if cj = ci then match ts[k]?, v with
            | some (.inl q), .inl t => if (q.1 ≤ (y_rng B t).1 ∧ (y_rng B t).2 ≤ q.2) ∧ y_fit (TF ci k) (y_rng B t) = true ∧ y_ina eff r k k = true ∧ ((y_grp GR 0 r).isEmpty = true ∨ fl.2.2.isEmpty = true) then some [(B, pc + 3, (zl, rest, y_kst B kn r (.inl (Int.ofNat k)) t, y_fst GR RC B (y_kst B kn r (.inl (Int.ofNat k)) t) r k k (.inl (Int.ofNat k)) fl))] else none
            | some (.inr (.inl rs)), .inr (.inl (some i)) => if rs.contains (some i) = true ∧ y_rty (TF ci k) = true then some [(B, pc + 3, (zl, rest, kn, fl))] else none
            | some (.inr (.inr ())), .inr (.inr ()) => if y_lty (TF ci k) = true then some [(B, pc + 3, (zl, rest, kn, fl))] else none
            | _, _ => none
          else none
        | _ => none
      | _, _ => none
    | .iaload => match st with
      | .inl t :: .inr (.inl (some (r + 1))) :: rest => match y_T TY r with
        | some (.inr (.inl (0, sg))) => match y_ix B t (y_len sg) with
          | some (a, b) => match y_jn sg a b with
            | some q => some (y_l1 (y_ld B kn r (y_nm B t) (y_gref B kn fl.2.1 fl.2.2 r (y_nm B t) GR 0 q)) (pc + 1) zl rest fl)
            | none => none
          | none => none
        | _ => none
      | _ => none
    | .baload => match st with
      | .inl t :: .inr (.inl (some (r + 1))) :: rest => match y_T TY r with
        | some (.inr (.inl (2, sg))) => match y_ix B t (y_len sg) with
          | some (a, b) => match y_jn sg a b with
            | some q => some (y_l1 (y_ld B kn r (y_nm B t) (y_gref B kn fl.2.1 fl.2.2 r (y_nm B t) GR 0 q)) (pc + 1) zl rest fl)
            | none => none
          | none => none
        | some (.inr (.inl (3, sg))) => match y_ix B t (y_len sg) with
          | some (a, b) => match y_jn sg a b with
            | some q => some (y_l1 (y_ld B kn r (y_nm B t) (y_gref B kn fl.2.1 fl.2.2 r (y_nm B t) GR 0 q)) (pc + 1) zl rest fl)
            | none => none
          | none => none
        | _ => none
      | _ => none
    | .iastore => match st with
      | .inl v :: .inl t :: .inr (.inl (some (r + 1))) :: rest => match y_T TY r with
        | some (.inr (.inl (0, sg))) => match y_ix B t (y_len sg) with
          | some (a, b) => match y_me sg a b with
            | some q => if (q.1 ≤ (y_rng B v).1 ∧ (y_rng B v).2 ≤ q.2) ∧ y_ina eff r a b = true ∧ ((y_grp GR 0 r).isEmpty = true ∨ fl.2.2.isEmpty = true) then some [(B, pc + 1, (zl, rest, y_kst B kn r (y_nm B t) v, y_fst GR RC B (y_kst B kn r (y_nm B t) v) r a b (y_nm B t) fl))] else none
            | none => none
          | none => none
        | _ => none
      | _ => none
    | .bastore => match st with
      | .inl v :: .inl t :: .inr (.inl (some (r + 1))) :: rest => match y_T TY r with
        | some (.inr (.inl (2, sg))) => match y_ix B t (y_len sg) with
          | some (a, b) => match y_me sg a b with
            | some q => if ((q.1 ≤ (y_rng B v).1 ∧ (y_rng B v).2 ≤ q.2) ∧ -128 ≤ (y_rng B v).1 ∧ (y_rng B v).2 ≤ 127) ∧ y_ina eff r a b = true ∧ ((y_grp GR 0 r).isEmpty = true ∨ fl.2.2.isEmpty = true) then some [(B, pc + 1, (zl, rest, y_kst B kn r (y_nm B t) v, y_fst GR RC B (y_kst B kn r (y_nm B t) v) r a b (y_nm B t) fl))] else none
            | none => none
          | none => none
        | some (.inr (.inl (3, sg))) => match y_ix B t (y_len sg) with
          | some (a, b) => match y_me sg a b with
            | some q => if ((q.1 ≤ (y_rng B v).1 ∧ (y_rng B v).2 ≤ q.2) ∧ 0 ≤ (y_rng B v).1 ∧ (y_rng B v).2 ≤ 1) ∧ y_ina eff r a b = true ∧ ((y_grp GR 0 r).isEmpty = true ∨ fl.2.2.isEmpty = true) then some [(B, pc + 1, (zl, rest, y_kst B kn r (y_nm B t) v, y_fst GR RC B (y_kst B kn r (y_nm B t) v) r a b (y_nm B t) fl))] else none
            | none => none
          | none => none
        | _ => none
      | _ => none
    | .laload => match st with
      | .inl t :: .inr (.inl (some (r + 1))) :: rest => match y_T TY r with
        | some (.inr (.inr (.inl (n, _)))) => match y_ix B t n with
          | some _ => some [(B, pc + 1, (zl, .inr (.inr ()) :: rest, kn, fl))]
          | none => none
        | _ => none
      | _ => none
    | .lastore => match st with
      | .inr (.inr ()) :: .inl t :: .inr (.inl (some (r + 1))) :: rest => match y_T TY r with
        | some (.inr (.inr (.inl (n, es)))) => match y_ix B t n with
          | some (a0, _) => if y_lw es a0 = true then some [(B, pc + 1, (zl, rest, kn, fl))] else none
          | none => none
        | _ => none
      | _ => none
    | .aaload => match st with
      | .inl t :: .inr (.inl (some (r + 1))) :: rest => match y_T TY r with
        | some (.inr (.inr (.inr (kt, es)))) => if (kt = 4 ∨ kt = 5) ∧ es.all Option.isSome = true then match y_ix B t es.length with
            | some (a, b) => some ((List.range' a (b + 1 - a)).flatMap (fun (k : Nat) => match es[k]? with | some (some i) => y_way (y_eqb B t (.inl (Int.ofNat k))) (pc + 1) (zl, .inr (.inl (some i)) :: rest, kn, fl) | _ => []))
            | none => none
          else none
        | _ => none
      | _ => none
    | .arraylength => match st with
      | .inr (.inl (some (r + 1))) :: rest => match y_T TY r with
        | some (.inr (.inl (0, sg))) => if y_len sg < 2147483648 then some [(B, pc + 1, (zl, .inl (.inl (Int.ofNat (y_len sg))) :: rest, kn, fl))] else none
        | _ => none
      | _ => none
    | .invokestatic _ => match inf, st with
      | [0], .inl (.inl n) :: .inl (.inl z1) :: .inr (.inl (some (r1 + 1))) :: .inl (.inl z0) :: .inr (.inl (some (r0 + 1))) :: rest =>
        if z1 = 0 ∧ z0 = 0 ∧ 0 ≤ n ∧ (rest.map y_cat).sum ≤ 8 then match y_T TY r0, y_T TY r1 with
          | some (.inr (.inl (0, sg0))), some (.inr (.inl (0, sg1))) => if y_sgs sg0 sg1 = true ∧ r0 ≠ r1 ∧ n.toNat = y_len sg1 ∧ y_ina eff r1 0 (y_len sg1 - 1) = true then (match y_cpo GR r0 r1 fl.2.1 fl.2.2 with
              | some (ex2, cp2) => some [(B, pc + 3, (zl, rest, y_kcp kn r0 r1, (fl.1 && y_rcn RC r1 0 (y_len sg1), ex2, cp2)))]
              | none => none) else none
          | some (.inr (.inr (.inl (n0, _)))), some (.inr (.inr (.inl (n1, [])))) => if n.toNat ≤ n0 ∧ n.toNat ≤ n1 then some [(B, pc + 3, (zl, rest, kn, fl))] else none
          | _, _ => none
        else none
      | [2], .inl y :: .inl x :: rest => if (rest.map y_cat).sum ≤ 8 then some (y_way (y_lt B y x) (pc + 3) (zl, .inl y :: rest, kn, fl) ++ y_way (y_le B x y) (pc + 3) (zl, .inl x :: rest, kn, fl)) else none
      | [3], .inl y :: .inl x :: rest => if (rest.map y_cat).sum ≤ 8 then some (y_way (y_lt B x y) (pc + 3) (zl, .inl y :: rest, kn, fl) ++ y_way (y_le B y x) (pc + 3) (zl, .inl x :: rest, kn, fl)) else none
      | _, _ => none
    | _ => none
/-- what the tables say of a row -/
def y_en (TB : List Cond) (NT : List (String × Nat × MethodName × String)) (cl : List vw_C) (TF : Nat → Nat → FieldType) (P : Nat → Option yM) (y : MethodName) (cc : ByteArray) (en : zE) : Prop :=
  decode cc en.1 = .ok (en.2.1, y_ln en.2.1 en.2.2) ∧ match en.2.1 with
  | .ldc idx => ∃ n, en.2.2 = [n] ∧ Cond.constant y.cls idx (Int32.ofNat n) ∈ TB
  | .ldc_w idx => ∃ n, en.2.2 = [n] ∧ Cond.constant y.cls idx (Int32.ofNat n) ∈ TB
  | .ldc2_w idx => ∃ v, Cond.constantLong y.cls idx v ∈ TB
  | .getfield idx => ∃ ci k C T N, en.2.2 = [ci, k] ∧ z_K TB cl TF ci C T N ∧ k < N ∧ Cond.fieldLink y.cls idx (T k).1 (T k).2.1 (T k).2.2.1 ∈ TB
  | .putfield idx => ∃ ci k C T N, en.2.2 = [ci, k] ∧ z_K TB cl TF ci C T N ∧ k < N ∧ Cond.fieldLink y.cls idx (T k).1 (T k).2.1 (T k).2.2.1 ∈ TB ∧ ((T k).2.2.2 = false ∨ ((T k).2.2.2 = true ∧ y.name = "<init>" ∧ (T k).1 = y.cls))
  | .invokestatic idx => en.2.2 = [9999] ∨ (en.2.2 = [0] ∧ Cond.methodLink y.cls idx arraycopyName ∈ TB ∧ Cond.native arraycopyName ∈ TB ∧ Cond.static arraycopyName ∈ TB ∧ Cond.initialized "java/lang/System" ∈ TB) ∨ (en.2.2 = [2] ∧ Cond.methodLink y.cls idx Lib.Math.min.name ∈ TB ∧ Cond.static Lib.Math.min.name ∈ TB ∧ Cond.initialized "java/lang/Math" ∈ TB ∧ Cond.code Lib.Math.min.name Lib.Math.min.code 2 (some .int) ∈ TB) ∨ (en.2.2 = [3] ∧ Cond.methodLink y.cls idx Lib.Math.max.name ∈ TB ∧ Cond.static Lib.Math.max.name ∈ TB ∧ Cond.initialized "java/lang/Math" ∈ TB ∧ Cond.code Lib.Math.max.name Lib.Math.max.code 2 (some .int) ∈ TB) ∨ (∃ j y2 c2 L2 r2 t2 n sp, en.2.2 = [1, j] ∧ P j = some (y2, c2, L2, r2, t2, n, sp) ∧ z_Y TB y2 c2 L2 n r2 ∧ (Cond.methodLink y.cls idx y2 ∈ TB ∨ ∃ host, (y.cls, idx, y2, host) ∈ NT) ∧ Cond.static y2 ∈ TB)
  | .invokevirtual idx => en.2.2 = [9999] ∨ ∃ j ci y2 c2 L2 r2 t2 n sp T N, en.2.2 = [1, j, ci] ∧ P j = some (y2, c2, L2, r2, t2, n, sp) ∧ z_Y TB y2 c2 L2 n r2 ∧ (Cond.methodLink y.cls idx y2 ∈ TB ∨ ∃ host, (y.cls, idx, y2, host) ∈ NT) ∧ Cond.instanceMethod y2 ∈ TB ∧ Cond.selects y2.cls y2 y2 ∈ TB ∧ cl[ci]? = some (y2.cls, T, N)
  | .invokespecial _ => en.2.2 = [9999]
  | _ => True
section YQ6
variable {p : Program} {l : Launch} {e : Env} {R : Room} {s : State} {m : MethodId} {args : Array Value} {below : List Frame} {meth : Method} {c : Code} {Q : State → Prop} {cc : ByteArray}
variable {xb : Nat} {kc : Nat → ClassId} {D : va_G} {cl : List vw_C} {A : Nat → Prop} {H0 : Heap} {nL : Nat} {TY : List (List yC)} {eff RC : yR} {GR : List yGr} {RI : va_W → Prop} {ws0 : va_W} {nc ns : Nat} {env : List Int}
variable {zl : List (Nat × yV)} {st : List yV} {kn : yN} {fl : yX} {pc : Nat} {tys : List (ClassId × FieldType)}
variable {NT : List (String × Nat × MethodName × String)} {TB : List Cond} {TF : Nat → Nat → FieldType} {P : Nat → Option yM} {B : yB}
theorem y_iinc (hx : p.tables.exec = Jvm.exec) (hb : c.code = cc) (hB : y_B B env) {i : Nat} {n : Int} {t : yI} (hd : decode cc pc = .ok (.iinc i n, 3)) (hg : y_get zl i = some (.inl t)) (hn : i < nL) (hr : -2147483648 ≤ n ∧ n ≤ 2147483647) (kk : y_K (y_G p l e R s m args below meth c Q xb kc D cl A H0 nL TY eff GR RI ws0 nc ns) env [((y_oadd B (y_nm B t) (.inl n)).1, pc + 3, (y_put zl i (.inl (y_oadd B (y_nm B t) (.inl n)).2), st, kn, fl))]) : y_G p l e R s m args below meth c Q xb kc D cl A H0 nL TY eff GR RI ws0 nc ns env pc (zl, st, kn, fl) := by
  intro ls sv ws H locs ⟨⟨lv, hl, hz⟩, h2, h3⟩
  obtain ⟨x, hm, y, rfl, hy⟩ := y_get_in hz hg
  obtain ⟨k, hk⟩ := List.getElem?_of_mem hm
  obtain ⟨env', he, hB', hi'⟩ := y_oadd_ok B env (y_nm B t) (.inl n) y (Int32.ofInt n) hB (y_nm_ok hB hy) (by rw [y_oi hr.1 hr.2]; rfl)
  refine lv_iinc hx hb hd hl hk rfl hn rfl (fun ls' hl' => ?_)
  have hz' := z_L_mono (S := fun (a : Nat × yV) (b : Nat × Value) => a.1 = b.1 ∧ y_v env' (z_ad xb ws0) a.2 b.2) (fun _ _ q => ⟨q.1, y_v_mono he _ _ q.2⟩) hz
  exact kk _ List.mem_cons_self env' he hB' ls' _ ws H locs ⟨⟨_, hl', y_put_ok hz' ⟨_, rfl, hi'⟩⟩, z_L_mono (y_v_mono he) h2, y_X_mono he h3⟩
set_option maxHeartbeats 4000000 in
set_option maxRecDepth 100000 in
theorem y_x_ok (hx : p.tables.exec = Jvm.exec) (hb : c.code = cc) (hRI : y_RI RC RI) {y : MethodName} {I : Instr} {inf : List Nat} {pc : Nat} {z : yS} {qs : List (yB × Nat × yS)} (hB : y_B B env) (hml : c.maxLocals = nL) (hown : s.vm.findClass y.cls = some m.cls) (hname : y.name = "<init>" → meth.name = "<init>") (hts : ∀ w ∈ TB, w.before args s = true) (hK : va_K D cl (z_TY kc) s) (hfr : 1 ≤ R.frames) (hlo : 100 ≤ R.locals) (hC : nc ≤ R.cells) (hS : ns ≤ R.slots) (hen : y_en TB NT cl TF P y cc (pc, I, inf)) (h : y_x TY TF eff RC GR nL I inf B pc z = some qs) (kk : y_K (y_G p l e R s m args below meth c Q xb kc D cl A H0 nL TY eff GR RI ws0 nc ns) env qs) : y_G p l e R s m args below meth c Q xb kc D cl A H0 nL TY eff GR RI ws0 nc ns env pc z := by
  obtain ⟨zl, st, kn, fl⟩ := z
  obtain ⟨hd, hen⟩ := hen
  dsimp only at hd hen
  unfold y_x at h
  dsimp only at h
  split at h
  next =>
    split at h
    next hn => cases h; exact y_iconst hx hb hn hd (kk _ List.mem_cons_self env (List.prefix_refl _) hB)
    next => cases h
  next =>
    split at h
    next hn => cases h; exact y_bipush hx hb hn hd (kk _ List.mem_cons_self env (List.prefix_refl _) hB)
    next => cases h
  next =>
    split at h
    next hn => cases h; exact y_sipush hx hb hn hd (kk _ List.mem_cons_self env (List.prefix_refl _) hB)
    next => cases h
  next => cases h; exact y_lconst hx hb hd (kk _ List.mem_cons_self env (List.prefix_refl _) hB)
  next => cases h; obtain ⟨v, hv⟩ := hen; exact y_ldc2 hx hb hown (hts _ hv) hd (kk _ List.mem_cons_self env (List.prefix_refl _) hB)
  next =>
    split at h
    next =>
      split at h
      next hn => cases h; obtain ⟨n0, hi, hv⟩ := hen; cases hi; exact y_ldc hx hb (y_on hn) hown (hts _ hv) hd (kk _ List.mem_cons_self env (List.prefix_refl _) hB)
      next => cases h
    next => cases h
  next =>
    split at h
    next =>
      split at h
      next hn => cases h; obtain ⟨n0, hi, hv⟩ := hen; cases hi; exact y_ldcw hx hb (y_on hn) hown (hts _ hv) hd (kk _ List.mem_cons_self env (List.prefix_refl _) hB)
      next => cases h
    next => cases h
  next =>
    split at h
    next hg => cases h; exact y_lload_n hx hb hd hg (kk _ List.mem_cons_self env (List.prefix_refl _) hB)
    next => cases h
  next =>
    split at h
    next hg => cases h; exact y_iload hx hb hB hd hg (kk _ List.mem_cons_self env (List.prefix_refl _) hB)
    next => cases h
  next =>
    split at h
    next hg => cases h; exact y_iload_n hx hb hB hd hg (kk _ List.mem_cons_self env (List.prefix_refl _) hB)
    next => cases h
  next =>
    split at h
    next hg => cases h; exact y_aload hx hb hd hg (kk _ List.mem_cons_self env (List.prefix_refl _) hB)
    next => cases h
  next =>
    split at h
    next hg => cases h; exact y_aload_n hx hb hd hg (kk _ List.mem_cons_self env (List.prefix_refl _) hB)
    next => cases h
  next =>
    split at h
    next =>
      split at h
      next hn => cases h; exact y_lstore_n hx hb hd hn (kk _ List.mem_cons_self env (List.prefix_refl _) hB)
      next => cases h
    next => cases h
  next =>
    split at h
    next =>
      split at h
      next hn => cases h; exact y_istore hx hb hd hn (kk _ List.mem_cons_self env (List.prefix_refl _) hB)
      next => cases h
    next => cases h
  next =>
    split at h
    next =>
      split at h
      next hn => cases h; exact y_istore_n hx hb hd hn (kk _ List.mem_cons_self env (List.prefix_refl _) hB)
      next => cases h
    next => cases h
  next =>
    split at h
    next =>
      split at h
      next hn => cases h; exact y_astore hx hb hd hn (kk _ List.mem_cons_self env (List.prefix_refl _) hB)
      next => cases h
    next => cases h
  next =>
    split at h
    next =>
      split at h
      next hn => cases h; exact y_astore_n hx hb hd hn (kk _ List.mem_cons_self env (List.prefix_refl _) hB)
      next => cases h
    next => cases h
  next =>
    split at h
    next hg =>
      split at h
      next hn => cases h; exact y_iinc hx hb hB hd hg hn.1 hn.2 kk
      next => cases h
    next => cases h
  next =>
    split at h
    next =>
      split at h
      next hn => cases h; exact y_dup hx hb hd hn (kk _ List.mem_cons_self env (List.prefix_refl _) hB)
      next => cases h
    next => cases h
  next =>
    split at h
    next =>
      split at h
      next hn => cases h; exact y_dup2 hx hb hd hn.1 hn.2 (kk _ List.mem_cons_self env (List.prefix_refl _) hB)
      next => cases h
    next => cases h
  next =>
    split at h
    next =>
      split at h
      next hn => cases h; exact y_pop hx hb hd hn (kk _ List.mem_cons_self env (List.prefix_refl _) hB)
      next => cases h
    next => cases h
  next =>
    split at h
    next ht => cases h; exact y_goto hx hb hd (z_tgt_ok ht) (kk _ List.mem_cons_self env (List.prefix_refl _) hB)
    next => cases h
  next =>
    split at h
    next => cases h; exact y_i2l hx hb hd (kk _ List.mem_cons_self env (List.prefix_refl _) hB)
    next => cases h
  next =>
    split at h
    next => cases h; exact y_ladd hx hb hd (kk _ List.mem_cons_self env (List.prefix_refl _) hB)
    next => cases h
  next =>
    split at h
    next => cases h; exact y_lmul hx hb hd (kk _ List.mem_cons_self env (List.prefix_refl _) hB)
    next => cases h
  next =>
    split at h
    next => cases h; exact y_lshl hx hb hd (kk _ List.mem_cons_self env (List.prefix_refl _) hB)
    next => cases h
  next =>
    split at h
    next => cases h; exact y_lor hx hb hd (kk _ List.mem_cons_self env (List.prefix_refl _) hB)
    next => cases h
  next =>
    split at h
    next => cases h; exact y_lcmp hx hb hB hd kk
    next => cases h
  next =>
    split at h
    next => cases h; exact y_i2b hx hb hB hd kk
    next => cases h
  next =>
    split at h
    next => cases h; exact y_bin y_oadd_ok hB (fun a b ls sv H locs k9 => lv_iadd hx hb hd k9) kk
    next => cases h
  next =>
    split at h
    next => cases h; exact y_bin y_osub_ok hB (fun a b ls sv H locs k9 => lv_isub hx hb hd k9) kk
    next => cases h
  next =>
    split at h
    next => cases h; exact y_bin y_omul_ok hB (fun a b ls sv H locs k9 => lv_imul hx hb hd k9) kk
    next => cases h
  next =>
    split at h
    next => cases h; exact y_bin y_oor_ok hB (fun a b ls sv H locs k9 => lv_ior hx hb hd k9) kk
    next => cases h
  next =>
    split at h
    next => cases h; exact y_bin y_oxor_ok hB (fun a b ls sv H locs k9 => lv_ixor hx hb hd k9) kk
    next => cases h
  next =>
    split at h
    next => cases h; exact y_bin y_oshl_ok hB (fun a b ls sv H locs k9 => lv_ishl hx hb hd k9) kk
    next => cases h
  next =>
    split at h
    next => cases h; exact y_bin y_oshr_ok hB (fun a b ls sv H locs k9 => lv_ishr hx hb hd k9) kk
    next => cases h
  next =>
    split at h
    next => cases h; exact y_bin y_oush_ok hB (fun a b ls sv H locs k9 => lv_iushr hx hb hd rfl k9) kk
    next => cases h
  next =>
    split at h
    next =>
      split at h
      next hx1 hy1 =>
        split at h
        next hn => cases h; rw [hn.1] at hy1; exact y_and255 hx hb hB hx1 hy1 hn.2.2 hd kk
        next => cases h; rw [← hx1, ← hy1] at kk; exact y_bin y_oand_ok hB (fun a b ls sv H locs k9 => lv_iand hx hb hd k9) kk
      next => cases h; exact y_bin y_oand_ok hB (fun a b ls sv H locs k9 => lv_iand hx hb hd k9) kk
    next => cases h
  next =>
    split at h
    next =>
      split at h
      next hn => cases h; exact y_irem hx hb hB hd hn.1 hn.2 kk
      next => cases h
    next => cases h
  next =>
    split at h
    next =>
      split at h
      next ht => cases h; exact y_icmp hx hb hB hd (z_tgt_ok ht) kk
      next => cases h
    next => cases h
  next =>
    split at h
    next =>
      split at h
      next ht => cases h; exact y_if hx hb hB hd (z_tgt_ok ht) kk
      next => cases h
    next => cases h
  next =>
    split at h
    next => exact y_table hx hb hB hd h kk
    next => cases h
  next =>
    split at h
    next =>
      split at h
      next hw =>
        split at h
        next hci =>
          subst hci
          obtain ⟨ci, k, C0, T, N, hi, hKc, hk, hl⟩ := hen
          cases hi
          split at h
          next hv => cases h; exact y_getf hx hb hB hts hKc.2.1 hown hK hKc.1 hk hl hd hw hv kk
          next hv => cases h; exact y_getr hx hb hB hts hKc.2.1 hown hK hKc.1 hk hl hd hw hv kk
          next hv => cases h; exact y_getl hx hb hB hts hKc.2.1 hown hK hKc.1 hk hl hd hw hv kk
          next => cases h
        next => cases h
      next => cases h
    next => cases h
  next =>
    split at h
    next =>
      split at h
      next hw =>
        split at h
        next hci =>
          subst hci
          obtain ⟨ci, k, C0, T, N, hi, hKc, hk, hl, hfin⟩ := hen
          cases hi
          have hfin := Or.imp_right (fun q => And.intro q.1 (And.intro (hname q.2.1) q.2.2)) hfin
          split at h
          next hv =>
            split at h
            next hn => cases h; exact y_puti hx hb hRI hB hts hKc.2.1 hKc.2.2.1 hKc.2.2.2 hown hK hKc.1 hk hl hfin hd hw hv hn.1 hn.2.1 hn.2.2.1 hn.2.2.2 kk
            next => cases h
          next hv =>
            split at h
            next hn => cases h; exact y_putr hx hb hRI hB hts hKc.2.1 hKc.2.2.1 hKc.2.2.2 hown hK hKc.1 hk hl hfin hd hw hv (List.contains_iff_mem.mp hn.1) (y_rty_ok hn.2) kk
            next => cases h
          next hv =>
            split at h
            next hn => cases h; exact y_putl hx hb hRI hB hts hKc.2.1 hKc.2.2.1 hKc.2.2.2 hown hK hKc.1 hk hl hfin hd hw hv (y_lty_ok hn) kk
            next => cases h
          next => cases h
        next => cases h
      next => cases h
    next => cases h
  next =>
    split at h
    next =>
      split at h
      next hw =>
        split at h
        next hi =>
          split at h
          next hq => cases h; exact y_iald hx hb hB hK rfl hd hw hi hq kk
          next => cases h
        next => cases h
      next => cases h
    next => cases h
  next =>
    split at h
    next =>
      split at h
      next hw =>
        split at h
        next hi =>
          split at h
          next hq => cases h; exact y_bald hx hb hB hK rfl hd hw hi hq kk
          next => cases h
        next => cases h
      next hw =>
        split at h
        next hi =>
          split at h
          next hq => cases h; exact y_zald hx hb hB hK rfl hd hw hi hq kk
          next => cases h
        next => cases h
      next => cases h
    next => cases h
  next =>
    split at h
    next =>
      split at h
      next hw =>
        split at h
        next hi =>
          split at h
          next hq =>
            split at h
            next hn => cases h; exact y_iast hx hb hRI hB hK rfl hd hw hi hq hn.1 hn.2.1 hn.2.2 kk
            next => cases h
          next => cases h
        next => cases h
      next => cases h
    next => cases h
  next =>
    split at h
    next =>
      split at h
      next hw =>
        split at h
        next hi =>
          split at h
          next hq =>
            split at h
            next hn => cases h; exact y_bast hx hb hRI hB hK rfl hd hw hi hq hn.1 hn.2.1 hn.2.2 kk
            next => cases h
          next => cases h
        next => cases h
      next hw =>
        split at h
        next hi =>
          split at h
          next hq =>
            split at h
            next hn => cases h; exact y_zast hx hb hRI hB hK rfl hd hw hi hq hn.1 hn.2.1 hn.2.2 kk
            next => cases h
          next => cases h
        next => cases h
      next => cases h
    next => cases h
  next =>
    split at h
    next =>
      split at h
      next hw =>
        split at h
        next hi => cases h; exact y_lald hx hb hB hK rfl hd hw hi kk
        next => cases h
      next => cases h
    next => cases h
  next =>
    split at h
    next =>
      split at h
      next hw =>
        split at h
        next hi =>
          split at h
          next hlw => cases h; exact y_last hx hb hRI hB hK rfl hd hw hi hlw kk
          next => cases h
        next => cases h
      next => cases h
    next => cases h
  next =>
    split at h
    next =>
      split at h
      next hw =>
        split at h
        next hkt =>
          split at h
          next hi =>
            cases h
            obtain ⟨hkt, hall⟩ := hkt
            rcases hkt with rfl | rfl
            · exact y_aald hx hb hB hK rfl hd hw hi (y_some_ok hall) kk
            · exact y_aald hx hb hB hK rfl hd hw hi (y_some_ok hall) kk
          next => cases h
        next => cases h
      next => cases h
    next => cases h
  next =>
    split at h
    next =>
      split at h
      next hw =>
        split at h
        next hn => cases h; exact y_alen hx hb hn hK rfl hd hw (kk _ List.mem_cons_self env (List.prefix_refl _) hB)
        next => cases h
      next => cases h
    next => cases h
  next =>
    split at h
    next =>
      split at h
      next hs =>
        obtain ⟨rfl, rfl, hn0, hs⟩ := hs
        rcases hen with hi | ⟨_, h1, h2, h3, h4⟩ | ⟨hi, _⟩ | ⟨hi, _⟩ | ⟨_, _, _, _, _, _, _, _, hi, _⟩
        · cases hi
        · split at h
          next hw0 hw1 =>
            split at h
            next hle =>
              obtain ⟨hsg, hne, hN, he⟩ := hle
              have hsg := y_sgs_ok hsg
              subst hsg
              split at h
              next hcpo => cases h; exact y_copyi hx hb hRI hB hown hml (hts _ h1) (hts _ h2) (hts _ h3) (hts _ h4) hK rfl hw0 hw1 hne hn0 hN he hcpo hfr hlo hs hd kk
              next => cases h
            next => cases h
          next hw0 hw1 =>
            split at h
            next hle => cases h; exact y_copyl hx hb hRI hB hown hml (hts _ h1) (hts _ h2) (hts _ h3) (hts _ h4) hK rfl hw0 hw1 hn0 hle.1 hle.2 hfr hlo hs hd kk
            next => cases h
          next => cases h
        · cases hi
        · cases hi
        · cases hi
      next => cases h
    next =>
      split at h
      next hs =>
        cases h
        rcases hen with hi | ⟨hi, _⟩ | ⟨_, h1, h2, h3, h4⟩ | ⟨hi, _⟩ | ⟨_, _, _, _, _, _, _, _, hi, _⟩
        · cases hi
        · cases hi
        · exact y_mmin hx hb hB hown hml (hts _ h1) (hts _ h2) (hts _ h3) (hts _ h4) hfr hlo hC hS hs hd kk
        · cases hi
        · cases hi
      next => cases h
    next =>
      split at h
      next hs =>
        cases h
        rcases hen with hi | ⟨hi, _⟩ | ⟨hi, _⟩ | ⟨_, h1, h2, h3, h4⟩ | ⟨_, _, _, _, _, _, _, _, hi, _⟩
        · cases hi
        · cases hi
        · cases hi
        · exact y_mmax hx hb hB hown hml (hts _ h1) (hts _ h2) (hts _ h3) (hts _ h4) hfr hlo hC hS hs hd kk
        · cases hi
      next => cases h
    next => cases h
  next => cases h
end YQ6
