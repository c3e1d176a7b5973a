/-! ===== the run ===== -/
abbrev zE : Type := Nat × Instr × List Nat
/-- a method: its name, code, locals, answer, rows, cells and slots that it makes at most, arguments -/
abbrev zM : Type := MethodName × ByteArray × Nat × Option FieldType × List zE × Nat × Nat × Nat
def z_find : List zE → Nat → Option (Instr × List Nat)
  | [], _ => none
  | (k, I, inf) :: r, pc => if k = pc then some (I, inf) else z_find r pc
theorem z_find_in : ∀ {t : List zE} {pc : Nat} {I : Instr} {inf : List Nat}, z_find t pc = some (I, inf) → (pc, I, inf) ∈ t
  | [], _, _, _, h => by cases h
  | (k, J, jnf) :: r, pc, I, inf, h => by
    unfold z_find at h
    by_cases hk : k = pc
    · rw [if_pos hk] at h
      cases h
      subst hk
      exact List.mem_cons_self
    · rw [if_neg hk] at h
      exact List.mem_cons_of_mem _ (z_find_in h)
def z_len (I : Instr) (inf : List Nat) : Nat := match I with
  | .bipush _ => 2
  | .sipush _ => 3
  | .ldc _ => 2
  | .ldc2_w _ => 3
  | .iload _ => 2
  | .aload _ => 2
  | .istore _ => 2
  | .astore _ => 2
  | .iinc _ _ => 3
  | .goto _ => 3
  | .if_icmp _ _ => 3
  | .ifCond _ _ => 3
  | .getfield _ => 3
  | .putfield _ => 3
  | .new _ => 3
  | .newarray _ => 2
  | .anewarray _ => 3
  | .invokespecial _ => 3
  | .invokestatic _ => 3
  | .invokevirtual _ => 3
  | .tableswitch _ _ _ _ => inf.headD 0
  | _ => 1
def z_inf (inf : List Nat) : Option Int := match inf with
  | n :: _ => some (n : Int)
  | [] => none
def z_x (B : List (Int × Int)) (TF : Nat → Nat → FieldType) (DF : Nat → List zV) (C S nL : Nat) (I : Instr) (inf : List Nat) (pc : Nat) (z : zS) : Option (Nat × zS) :=
  match z with
  | (zl, st, w, nc, ns) => match I with
    | .iconst n => some (pc + 1, (zl, .inl (.inl (some (Int32.ofInt n))) :: st, w, nc, ns))
    | .bipush n => some (pc + 2, (zl, .inl (.inl (some (Int8.ofInt n).toInt32)) :: st, w, nc, ns))
    | .sipush n => some (pc + 3, (zl, .inl (.inl (some (Int16.ofInt n).toInt32)) :: st, w, nc, ns))
    | .lconst n => some (pc + 1, (zl, .inr (.inr (some ((n : Nat) : Int))) :: st, w, nc, ns))
    | .ldc2_w _ => some (pc + 3, (zl, .inr (.inr (z_inf inf)) :: st, w, nc, ns))
    | .lload_n k => match z_get zl (k : Nat) with
      | some (.inr (.inr o)) => some (pc + 1, (zl, .inr (.inr o) :: st, w, nc, ns))
      | _ => none
    | .lstore_n k => match st with
      | .inr (.inr o) :: rest => if (k : Nat) + 1 < nL then some (pc + 1, (z_put2 zl (k : Nat) o, rest, w, nc, ns)) else none
      | _ => none
    | .ladd => match st with
      | .inr (.inr o2) :: .inr (.inr o1) :: rest => some (pc + 1, (zl, .inr (.inr (z_ladd2 o1 o2)) :: rest, w, nc, ns))
      | _ => none
    | .lmul => match st with
      | .inr (.inr o2) :: .inr (.inr o1) :: rest => some (pc + 1, (zl, .inr (.inr (z_lmul2 o1 o2)) :: rest, w, nc, ns))
      | _ => none
    | .iload i => match z_get zl i with
      | some (.inl t) => some (pc + 2, (zl, .inl t :: st, w, nc, ns))
      | _ => none
    | .iload_n k => match z_get zl (k : Nat) with
      | some (.inl t) => some (pc + 1, (zl, .inl t :: st, w, nc, ns))
      | _ => none
    | .aload i => match z_get zl i with
      | some (.inr (.inl (some r))) => some (pc + 2, (zl, .inr (.inl (some r)) :: st, w, nc, ns))
      | _ => none
    | .aload_n k => match z_get zl (k : Nat) with
      | some (.inr (.inl (some r))) => some (pc + 1, (zl, .inr (.inl (some r)) :: st, w, nc, ns))
      | _ => none
    | .istore i => match st with
      | .inl t :: rest => if i < nL then some (pc + 2, (z_put zl i (.inl t), rest, w, nc, ns)) else none
      | _ => none
    | .istore_n k => match st with
      | .inl t :: rest => if (k : Nat) < nL then some (pc + 1, (z_put zl (k : Nat) (.inl t), rest, w, nc, ns)) else none
      | _ => none
    | .astore i => match st with
      | .inr (.inl (some r)) :: rest => if i < nL then some (pc + 2, (z_put zl i (.inr (.inl (some r))), rest, w, nc, ns)) else none
      | _ => none
    | .astore_n k => match st with
      | .inr (.inl (some r)) :: rest => if (k : Nat) < nL then some (pc + 1, (z_put zl (k : Nat) (.inr (.inl (some r))), rest, w, nc, ns)) else none
      | _ => none
    | .iinc i n => match z_get zl i with
      | some (.inl t) => if i < nL then some (pc + 3, (z_put zl i (.inl (z_add t (.inl (some (Int32.ofInt n))))), st, w, nc, ns)) else none
      | _ => none
    | .dup => match st with
      | t :: rest => if z_cat t = 1 then some (pc + 1, (zl, t :: t :: rest, w, nc, ns)) else none
      | _ => none
    | .dup2 => match st with
      | t :: u :: rest => if z_cat t = 1 ∧ z_cat u = 1 then some (pc + 1, (zl, t :: u :: t :: u :: rest, w, nc, ns)) else none
      | _ => none
    | .pop => match st with
      | t :: rest => if z_cat t = 1 then some (pc + 1, (zl, rest, w, nc, ns)) else none
      | _ => none
    | .goto off => match z_tgt pc off with
      | some t => some (t, (zl, st, w, nc, ns))
      | none => none
    | .i2l => match st with
      | .inl t :: rest => some (pc + 1, (zl, .inr (.inr (z_i2lv t)) :: rest, w, nc, ns))
      | _ => none
    | .i2b => match st with
      | .inl _ :: rest => some (pc + 1, (zl, .inl (.inl none) :: rest, w, nc, ns))
      | _ => none
    | .iadd => match st with
      | .inl y :: .inl x :: rest => some (pc + 1, (zl, .inl (z_add x y) :: rest, w, nc, ns))
      | _ => none
    | .iand => match st with
      | .inl y :: .inl x :: rest => some (pc + 1, (zl, .inl (z_and x y) :: rest, w, nc, ns))
      | _ => none
    | .isub => match st with
      | .inl y :: .inl x :: rest => some (pc + 1, (zl, .inl (z_op2 (fun a b => a - b) x y) :: rest, w, nc, ns))
      | _ => none
    | .imul => match st with
      | .inl y :: .inl x :: rest => some (pc + 1, (zl, .inl (z_op2 (fun a b => a * b) x y) :: rest, w, nc, ns))
      | _ => none
    | .ior => match st with
      | .inl y :: .inl x :: rest => some (pc + 1, (zl, .inl (z_op2 (fun a b => a ||| b) x y) :: rest, w, nc, ns))
      | _ => none
    | .ixor => match st with
      | .inl y :: .inl x :: rest => some (pc + 1, (zl, .inl (z_op2 (fun a b => a ^^^ b) x y) :: rest, w, nc, ns))
      | _ => none
    | .ishl => match st with
      | .inl y :: .inl x :: rest => some (pc + 1, (zl, .inl (z_op2 (fun a b => a <<< (b &&& 31)) x y) :: rest, w, nc, ns))
      | _ => none
    | .ishr => match st with
      | .inl y :: .inl x :: rest => some (pc + 1, (zl, .inl (z_op2 (fun a b => a >>> (b &&& 31)) x y) :: rest, w, nc, ns))
      | _ => none
    | .iushr => match st with
      | .inl _ :: .inl _ :: rest => some (pc + 1, (zl, .inl (.inl none) :: rest, w, nc, ns))
      | _ => none
    | .if_icmp k off => match st with
      | .inl y :: .inl x :: rest => match z_tgt pc off with
        | some t => match z_cond B k x y with
          | some b => some (if b then t else pc + 3, (zl, rest, w, nc, ns))
          | none => none
        | none => none
      | _ => none
    | .ifCond k off => match st with
      | .inl x :: rest => match z_tgt pc off with
        | some t => match z_cond B k x (.inl (some 0)) with
          | some b => some (if b then t else pc + 3, (zl, rest, w, nc, ns))
          | none => none
        | none => none
      | _ => none
    | .tableswitch d lo hi offs => match st with
      | .inl t :: rest => match z_sw B pc d lo hi offs t with
        | some tgt => some (tgt, (zl, rest, w, nc, ns))
        | none => none
      | _ => none
    | .getfield _ => match inf, st with
      | [ci, k], .inr (.inl (some (r + 1))) :: rest => match w[r]? with
        | some (.inl (cj, fs)) => if cj = ci then match fs[k]? with
            | some v => some (pc + 3, (zl, v :: rest, w, nc, ns))
            | none => none
          else none
        | _ => none
      | _, _ => none
    | .putfield _ => match inf, st with
      | [ci, k], v :: .inr (.inl (some (r + 1))) :: rest => match w[r]? with
        | some (.inl (cj, fs)) => if cj = ci ∧ k < fs.length ∧ z_fit (TF ci k) v = true then some (pc + 3, (zl, rest, w.set r (.inl (cj, fs.set k v)), nc, ns)) else none
        | _ => none
      | _, _ => none
    | .iaload => match st with
      | .inl t :: .inr (.inl (some (r + 1))) :: rest => match w[r]? with
        | some (.inr (.inl (0, es))) => match z_ix B t es.length with
          | some k => match es[k]? with
            | some x => some (pc + 1, (zl, .inl x :: rest, w, nc, ns))
            | none => none
          | none => none
        | _ => none
      | _ => none
    | .baload => match st with
      | .inl t :: .inr (.inl (some (r + 1))) :: rest => match w[r]? with
        | some (.inr (.inl (3, es))) => match z_ix B t es.length with
          | some k => match es[k]? with
            | some x => some (pc + 1, (zl, .inl x :: rest, w, nc, ns))
            | none => none
          | none => none
        | _ => none
      | _ => none
    | .iastore => match st with
      | .inl v :: .inl t :: .inr (.inl (some (r + 1))) :: rest => match w[r]? with
        | some (.inr (.inl (0, es))) => match z_ix B t es.length with
          | some k => some (pc + 1, (zl, rest, w.set r (.inr (.inl (0, es.set k v))), nc, ns))
          | none => none
        | _ => none
      | _ => none
    | .bastore => match st with
      | .inl v :: .inl t :: .inr (.inl (some (r + 1))) :: rest => match w[r]? with
        | some (.inr (.inl (2, es))) => match z_ix B t es.length with
          | some k => some (pc + 1, (zl, rest, w.set r (.inr (.inl (2, es.set k (.inl none)))), nc, ns))
          | none => none
        | some (.inr (.inl (3, es))) => match z_ix B t es.length with
          | some k => match v with
            | .inl (some v0) => if v0 = 0 ∨ v0 = 1 then some (pc + 1, (zl, rest, w.set r (.inr (.inl (3, es.set k (.inl (some v0))))), nc, ns)) else none
            | _ => none
          | none => none
        | _ => none
      | _ => none
    | .laload => match st with
      | .inl t :: .inr (.inl (some (r + 1))) :: rest => match w[r]? with
        | some (.inr (.inr (.inl es))) => match z_ix B t es.length with
          | some k => match es[k]? with
            | some o => some (pc + 1, (zl, .inr (.inr o) :: rest, w, nc, ns))
            | none => none
          | none => none
        | _ => none
      | _ => none
    | .lastore => match st with
      | .inr (.inr o) :: .inl t :: .inr (.inl (some (r + 1))) :: rest => match w[r]? with
        | some (.inr (.inr (.inl es))) => match z_ix B t es.length with
          | some k => some (pc + 1, (zl, rest, w.set r (.inr (.inr (.inl (es.set k o)))), nc, ns))
          | none => none
        | _ => none
      | _ => none
    | .aaload => match st with
      | .inl t :: .inr (.inl (some (r + 1))) :: rest => match w[r]? with
        | some (.inr (.inr (.inr (kt, es)))) => if kt = 4 ∨ kt = 5 then match z_ix B t es.length with
            | some k => match es[k]? with
              | some (some q) => some (pc + 1, (zl, .inr (.inl (some q)) :: rest, w, nc, ns))
              | _ => none
            | none => none
          else none
        | _ => none
      | _ => none
    | .aastore => match st with
      | .inr (.inl (some (q + 1))) :: .inl t :: .inr (.inl (some (r + 1))) :: rest => match w[r]? with
        | some (.inr (.inr (.inr (kt, es)))) => match w[q]? with
          | some (.inl (ci, _)) => if (kt = 4 ∧ ci = 9) ∨ (kt = 5 ∧ ci = 2) then match z_ix B t es.length with
              | some k => some (pc + 1, (zl, rest, w.set r (.inr (.inr (.inr (kt, es.set k (some (q + 1)))))), nc, ns))
              | none => none
            else none
          | _ => none
        | _ => none
      | _ => none
    | .arraylength => match st with
      | .inr (.inl (some (r + 1))) :: rest => match w[r]? with
        | some (.inr (.inl (0, es))) => some (pc + 1, (zl, .inl (.inl (some (Int32.ofNat es.length))) :: rest, w, nc, ns))
        | _ => none
      | _ => none
    | .new _ => match inf with
      | [ci, N] => if nc + 1 ≤ C ∧ ns + N ≤ S then some (pc + 3, (zl, .inr (.inl (some (w.length + 1))) :: st, w ++ [.inl (ci, DF ci)], nc + 1, ns + N)) else none
      | _ => none
    | .newarray at0 => match st with
      | .inl (.inl (some t)) :: rest => if ¬ t < 0 ∧ t.toNatClampNeg ≤ 100000 ∧ nc + 1 ≤ C ∧ ns + t.toNatClampNeg ≤ S then match at0 with
          | .int => some (pc + 2, (zl, .inr (.inl (some (w.length + 1))) :: rest, w ++ [.inr (.inl (0, List.replicate t.toNatClampNeg (.inl (some 0))))], nc + 1, ns + t.toNatClampNeg))
          | .byte => some (pc + 2, (zl, .inr (.inl (some (w.length + 1))) :: rest, w ++ [.inr (.inl (2, List.replicate t.toNatClampNeg (.inl (some 0))))], nc + 1, ns + t.toNatClampNeg))
          | .boolean => some (pc + 2, (zl, .inr (.inl (some (w.length + 1))) :: rest, w ++ [.inr (.inl (3, List.replicate t.toNatClampNeg (.inl (some 0))))], nc + 1, ns + t.toNatClampNeg))
          | .long => some (pc + 2, (zl, .inr (.inl (some (w.length + 1))) :: rest, w ++ [.inr (.inr (.inl (List.replicate t.toNatClampNeg none)))], nc + 1, ns + t.toNatClampNeg))
          | _ => none
        else none
      | _ => none
    | .anewarray _ => match inf, st with
      | [kt], .inl (.inl (some t)) :: rest => if ¬ t < 0 ∧ t.toNatClampNeg ≤ 100000 ∧ nc + 1 ≤ C ∧ ns + t.toNatClampNeg ≤ S then some (pc + 3, (zl, .inr (.inl (some (w.length + 1))) :: rest, w ++ [.inr (.inr (.inr (kt, List.replicate t.toNatClampNeg none)))], nc + 1, ns + t.toNatClampNeg)) else none
      | _, _ => none
    | .invokespecial _ => match inf, st with
      | [0], .inr (.inl (some _)) :: rest => if (rest.map z_cat).sum ≤ 8 then some (pc + 3, (zl, rest, w, nc, ns)) else none
      | _, _ => none
    | .invokestatic _ => match inf, st with
      | [0], .inl (.inl (some n)) :: .inl (.inl (some z1)) :: .inr (.inl (some (r1 + 1))) :: .inl (.inl (some z0)) :: .inr (.inl (some (r0 + 1))) :: rest =>
        if z1 = 0 ∧ z0 = 0 ∧ ¬ n < 0 ∧ (rest.map z_cat).sum ≤ 8 then match w[r0]?, w[r1]? with
          | some (.inr (.inl (0, es0))), some (.inr (.inl (0, es1))) => if es0.length = es1.length ∧ n.toNatClampNeg = es0.length then some (pc + 3, (zl, rest, w.set r1 (.inr (.inl (0, es0))), nc, ns)) else none
          | some (.inr (.inr (.inl es0))), some (.inr (.inr (.inl es1))) => if n.toNatClampNeg ≤ es0.length ∧ n.toNatClampNeg ≤ es1.length then some (pc + 3, (zl, rest, w.set r1 (.inr (.inr (.inl (List.replicate es1.length none)))), nc, ns)) else none
          | _, _ => none
        else none
      | [2], .inl y :: .inl x :: rest => match z_lt B y x with
        | some b => if nc ≤ C ∧ ns ≤ S ∧ (rest.map z_cat).sum ≤ 8 then some (pc + 3, (zl, .inl (if b then y else x) :: rest, w, nc, ns)) else none
        | none => none
      | _, _ => none
    | _ => none
/-- what the tables say of a class of the world -/
def z_K (TB : List Cond) (cl : List vw_C) (TF : Nat → Nat → FieldType) (ci : Nat) (C : String) (T : u_T) (N : Nat) : Prop :=
  cl[ci]? = some (C, T, N) ∧ (∀ w ∈ u_ws C T N, w ∈ TB) ∧ (∀ k, k < N → parseFieldDescriptor (T k).2.2.1 = some (TF ci k)) ∧ ∀ a, a < N → ∀ b, b < N → a ≠ b → (T a).2.1 ≠ (T b).2.1
/-- what the tables say of a row -/
def z_en (TB : List Cond) (NT : List (String × Nat × MethodName × String)) (cl : List vw_C) (TF : Nat → Nat → FieldType) (DF : Nat → List zV) (P : List zM) (y : MethodName) (cc : ByteArray) (en : zE) : Prop :=
  decode cc en.1 = .ok (en.2.1, z_len en.2.1 en.2.2) ∧ match en.2.1 with
  | .ldc idx => idx = 19
  | .ldc2_w idx => ∃ v, Cond.constantLong y.cls idx v ∈ TB ∧ z_k (z_inf en.2.2) v
  | .getfield idx => ∃ ci k C T N, en.2.2 = [ci, k] ∧ z_K TB cl TF ci C T N ∧ k < N ∧ Cond.fieldLink y.cls idx (T k).1 (T k).2.1 (T k).2.2.1 ∈ TB
  | .putfield idx => ∃ ci k C T N, en.2.2 = [ci, k] ∧ z_K TB cl TF ci C T N ∧ k < N ∧ Cond.fieldLink y.cls idx (T k).1 (T k).2.1 (T k).2.2.1 ∈ TB ∧ ((T k).2.2.2 = false ∨ ((T k).2.2.2 = true ∧ y.name = "<init>" ∧ (T k).1 = y.cls))
  | .new idx => ∃ ci C T N, en.2.2 = [ci, N] ∧ z_K TB cl TF ci C T N ∧ Cond.classLink y.cls idx C ∈ TB ∧ Cond.instantiable C N ∈ TB ∧ Cond.initialized C ∈ TB ∧ (DF ci).all z_dok = true ∧ ∀ j, j < N → defaultValue (TF ci j) = vp_V ((DF ci).map z_dv) j
  | .newarray at0 => Cond.arrayClass (newarray.typeOf at0) ∈ TB
  | .anewarray idx => ∃ kt C, en.2.2 = [kt] ∧ Cond.classLink y.cls idx C ∈ TB ∧ ((kt = 4 ∧ C = "HeldCoats$State") ∨ (kt = 5 ∧ C = "HeldCoats$Image"))
  | .invokespecial idx => en.2.2 = [9999] ∨ (en.2.2 = [0] ∧ Cond.methodLink y.cls idx Lib.objectInit ∈ TB ∧ Cond.instanceMethod Lib.objectInit ∈ TB ∧ Cond.code Lib.objectInit ⟨#[0xb1]⟩ 1 none ∈ TB) ∨ (∃ j y2 c2 L2 t2 mc ms n, en.2.2 = [1, j] ∧ P[j]? = some (y2, c2, L2, none, t2, mc, ms, n) ∧ z_Y TB y2 c2 L2 n none ∧ (Cond.methodLink y.cls idx y2 ∈ TB ∨ ∃ host, (y.cls, idx, y2, host) ∈ NT) ∧ Cond.instanceMethod y2 ∈ TB ∧ y2.name = "<init>")
  | .invokestatic idx => en.2.2 = [9999] ∨ (en.2.2 = [2] ∧ Cond.methodLink y.cls idx Lib.Math.min.name ∈ TB ∧ Cond.static Lib.Math.min.name ∈ TB ∧ Cond.initialized "java/lang/Math" ∈ TB ∧ Cond.code Lib.Math.min.name Lib.Math.min.code 2 (some .int) ∈ TB) ∨ (en.2.2 = [0] ∧ Cond.methodLink y.cls idx arraycopyName ∈ TB ∧ Cond.native arraycopyName ∈ TB ∧ Cond.static arraycopyName ∈ TB ∧ Cond.initialized "java/lang/System" ∈ TB) ∨ (∃ j y2 c2 L2 r2 t2 mc ms n, en.2.2 = [1, j] ∧ P[j]? = some (y2, c2, L2, r2, t2, mc, ms, n) ∧ z_Y TB y2 c2 L2 n r2 ∧ (Cond.methodLink y.cls idx y2 ∈ TB ∨ ∃ host, (y.cls, idx, y2, host) ∈ NT) ∧ Cond.static y2 ∈ TB)
  | .invokevirtual idx => (en.2.2 = [9999] ∨ (en.2.2 = [77] ∧ idx = 21) ∨ (en.2.2 = [78] ∧ idx = 27)) ∨ ∃ j ci y2 c2 L2 r2 t2 mc ms n T N, en.2.2 = [1, j, ci] ∧ P[j]? = some (y2, c2, L2, r2, t2, mc, ms, n) ∧ z_Y TB y2 c2 L2 n r2 ∧ (Cond.methodLink y.cls idx y2 ∈ TB ∨ ∃ host, (y.cls, idx, y2, host) ∈ NT) ∧ Cond.instanceMethod y2 ∈ TB ∧ Cond.selects y2.cls y2 y2 ∈ TB ∧ cl[ci]? = some (y2.cls, T, N)
  | _ => True
