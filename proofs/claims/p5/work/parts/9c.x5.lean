/-! ===== what a run owes: computed from the rows ===== -/
abbrev xK : Type := Nat → List (Nat × xV) → List xV → xF → xF → Prop
/-- what is said of the methods that are called: depth, before, behind -/
abbrev xCT : Type := Nat → Option (Nat × xPre × xPost)
def x_s8 (n : Int) : Bool := decide (-128 ≤ n) && decide (n ≤ 127)
def x_s16 (n : Int) : Bool := decide (-32768 ≤ n) && decide (n ≤ 32767)
def x_1 (n : Nat) (A : Prop) : Prop := match n with
  | 1 => A
  | _ => False
def x_gd (b : Bool) (A : Prop) : Prop := match b with
  | true => A
  | false => False
theorem x_gd_ok {b : Bool} {A : Prop} (h : x_gd b A) : b = true ∧ A := by
  cases b with
  | true => exact ⟨rfl, h⟩
  | false => exact h.elim
def x_cv (P : Nat → Option yM) (ct : xCT) (dj j : Nat) (sv : List xV) (T : Nat → Bool) (I L : xF) (k : List xV → xF → xF → Prop) : Prop := match P j, ct j with
  | some (_, _, L2, _, _, na, _), some (d0, Pre, Post) => x_gd (Nat.ble L2 80 && (Nat.ble (d0 + 1) dj && Nat.ble na sv.length)) (match sv.drop na with
    | .inr (.inr (some (r + 1))) :: rest => x_gd (T r && Nat.ble ((rest.map x_cat).sum) 8) (Pre (.inr (.inr (some (r + 1))) :: (sv.take na).reverse) I L ∧ ∀ rv I' L', Post (.inr (.inr (some (r + 1))) :: (sv.take na).reverse) I L rv I' L' → k (rv.toList ++ rest) I' L')
    | _ => False)
  | _, _ => False
def x_cs (P : Nat → Option yM) (ct : xCT) (dj j : Nat) (sv : List xV) (I L : xF) (k : List xV → xF → xF → Prop) : Prop := match P j, ct j with
  | some (_, _, L2, _, _, na, _), some (d0, Pre, Post) => x_gd (Nat.ble L2 80 && (Nat.ble (d0 + 1) dj && Nat.ble na sv.length)) (x_gd (Nat.ble (((sv.drop na).map x_cat).sum) 8) (Pre (sv.take na).reverse I L ∧ ∀ rv I' L', Post (sv.take na).reverse I L rv I' L' → k (rv.toList ++ sv.drop na) I' L'))
  | _, _ => False
def x_tyo (TY : List (List yC)) (ci r : Nat) : Bool := match y_T TY r with
  | some (.inl (ci', _)) => Nat.beq ci' ci
  | _ => false
def x_step (TB : List Cond) (TY : List (List yC)) (TF : Nat → Nat → FieldType) (P : Nat → Option yM) (ct : xCT) (dj : Nat) (M : yM) (Po : Option xV → xF → xF → Prop) (K : xK) (Ins : Instr) (inf : List Nat) (pc : Nat) (lv : List (Nat × xV)) (sv : List xV) (I L : xF) : Prop := match Ins with
  | .iconst n => x_gd (x_s8 n) (K (pc + 1) lv (.inl n :: sv) I L)
  | .bipush n => x_gd (x_s8 n) (K (pc + 2) lv (.inl n :: sv) I L)
  | .sipush n => x_gd (x_s16 n) (K (pc + 3) lv (.inl n :: sv) I L)
  | .lconst n => match (n : Nat) with
    | 0 => K (pc + 1) lv (.inr (.inl 0) :: sv) I L
    | _ => K (pc + 1) lv (.inr (.inl 1) :: sv) I L
  | .ldc2_w idx => ∃ (v : Int64) (z : Int), Cond.constantLong M.1.cls idx v ∈ TB ∧ v.toInt = z ∧ K (pc + 3) lv (.inr (.inl z) :: sv) I L
  | .iload i => match x_get lv i with
    | some (.inl z) => K (pc + 2) lv (.inl z :: sv) I L
    | _ => False
  | .iload_n k => match x_get lv (k : Nat) with
    | some (.inl z) => K (pc + 1) lv (.inl z :: sv) I L
    | _ => False
  | .lload_n k => match x_get lv (k : Nat) with
    | some (.inr (.inl z)) => K (pc + 1) lv (.inr (.inl z) :: sv) I L
    | _ => False
  | .aload_n k => match x_get lv (k : Nat) with
    | some (.inr (.inr (some r))) => K (pc + 1) lv (.inr (.inr (some r)) :: sv) I L
    | _ => False
  | .istore i => match sv with
    | .inl z :: rest => x_gd (Nat.blt i M.2.2.1) (K (pc + 2) (x_put lv i (.inl z)) rest I L)
    | _ => False
  | .istore_n k => match sv with
    | .inl z :: rest => x_gd (Nat.blt (k : Nat) M.2.2.1) (K (pc + 1) (x_put lv (k : Nat) (.inl z)) rest I L)
    | _ => False
  | .lstore_n k => match sv with
    | .inr (.inl z) :: rest => x_gd (Nat.blt ((k : Nat) + 1) M.2.2.1) (K (pc + 1) (x_put2 lv (k : Nat) z) rest I L)
    | _ => False
  | .iinc i n => match x_get lv i with
    | some (.inl z) => x_gd (Nat.blt i M.2.2.1 && x_s16 n) (x_ex (z + n) (fun w => K (pc + 3) (x_put lv i (.inl w)) sv I L))
    | _ => False
  | .dup => match sv with
    | t :: rest => x_gd (Nat.beq (x_cat t) 1) (K (pc + 1) lv (t :: t :: rest) I L)
    | _ => False
  | .dup2 => match sv with
    | t :: u :: rest => x_gd (Nat.beq (x_cat t) 1 && Nat.beq (x_cat u) 1) (K (pc + 1) lv (t :: u :: t :: u :: rest) I L)
    | _ => False
  | .pop => match sv with
    | t :: rest => x_gd (Nat.beq (x_cat t) 1) (K (pc + 1) lv rest I L)
    | _ => False
  | .goto off => match z_tgt pc off with
    | some t => K t lv sv I L
    | none => False
  | .i2l => match sv with
    | .inl z :: rest => K (pc + 1) lv (.inr (.inl z) :: rest) I L
    | _ => False
  | .i2b => match sv with
    | .inl z :: rest => ∀ w, -128 ≤ w → w ≤ 127 → w % 256 = z % 256 → K (pc + 1) lv (.inl w :: rest) I L
    | _ => False
  | .iadd => match sv with
    | .inl y :: .inl x :: rest => x_ex (x + y) (fun w => K (pc + 1) lv (.inl w :: rest) I L)
    | _ => False
  | .isub => match sv with
    | .inl y :: .inl x :: rest => x_ex (x - y) (fun w => K (pc + 1) lv (.inl w :: rest) I L)
    | _ => False
  | .imul => match sv with
    | .inl y :: .inl x :: rest => x_ex (x * y) (fun w => K (pc + 1) lv (.inl w :: rest) I L)
    | _ => False
  | .iand => match sv with
    | .inl y :: .inl x :: rest => (y = 255 ∧ K (pc + 1) lv (.inl (x % 256) :: rest) I L) ∨ (0 ≤ x ∧ 0 ≤ y ∧ K (pc + 1) lv (.inl (x_and2 x y) :: rest) I L)
    | _ => False
  | .ior => match sv with
    | .inl y :: .inl x :: rest => (0 ≤ x ∧ 0 ≤ y) ∧ K (pc + 1) lv (.inl (x_or2 x y) :: rest) I L
    | _ => False
  | .ishl => match sv with
    | .inl y :: .inl x :: rest => (x = 1 ∧ 0 ≤ y ∧ y < 31) ∧ K (pc + 1) lv (.inl ((2 ^ y.toNat : Nat) : Int) :: rest) I L
    | _ => False
  | .ishr => match sv with
    | .inl y :: .inl x :: rest => (y = 0 ∨ y = 1 ∨ y = 2 ∨ y = 3 ∨ y = 8 ∨ y = 16 ∨ y = 24) ∧ K (pc + 1) lv (.inl (x / ((2 ^ y.toNat : Nat) : Int)) :: rest) I L
    | _ => False
  | .iushr => match sv with
    | .inl y :: .inl x :: rest => (y = 0 ∨ y = 8 ∨ y = 16 ∨ y = 24) ∧ ∀ w, -2147483648 ≤ w → w ≤ 2147483647 → w % 256 = x / ((2 ^ y.toNat : Nat) : Int) % 256 → K (pc + 1) lv (.inl w :: rest) I L
    | _ => False
  | .ladd => match sv with
    | .inr (.inl y) :: .inr (.inl x) :: rest => x_exl (x + y) (fun w => K (pc + 1) lv (.inr (.inl w) :: rest) I L)
    | _ => False
  | .lmul => match sv with
    | .inr (.inl y) :: .inr (.inl x) :: rest => x_exl (x * y) (fun w => K (pc + 1) lv (.inr (.inl w) :: rest) I L)
    | _ => False
  | .lshl => match sv with
    | .inl y :: .inr (.inl x) :: rest => (y = 8 ∧ 0 ≤ x ∧ x < 18014398509481984) ∧ K (pc + 1) lv (.inr (.inl (x * 256)) :: rest) I L
    | _ => False
  | .lor => match sv with
    | .inr (.inl y) :: .inr (.inl x) :: rest => (0 ≤ y ∧ y < 256 ∧ 0 ≤ x ∧ x % 256 = 0 ∧ x < 9223372036854775552) ∧ K (pc + 1) lv (.inr (.inl (x + y)) :: rest) I L
    | _ => False
  | .lcmp => match sv with
    | .inr (.inl y) :: .inr (.inl x) :: rest => ∀ w, (w = 0 ↔ x = y) → K (pc + 1) lv (.inl w :: rest) I L
    | _ => False
  | .if_icmp k off => match sv, z_tgt pc off with
    | .inl y :: .inl x :: rest, some t => x_br k x y (K t lv rest I L) (K (pc + 3) lv rest I L)
    | _, _ => False
  | .ifCond k off => match sv, z_tgt pc off with
    | .inl x :: rest, some t => x_br k x 0 (K t lv rest I L) (K (pc + 3) lv rest I L)
    | _, _ => False
  | .tableswitch dflt lo hi offs => match sv, z_tgt pc dflt with
    | .inl x :: rest, some t0 => x_gd (decide (-2147483648 ≤ lo ∧ hi ≤ 2147483647 ∧ offs.toList.length = (hi + 1 - lo).toNat)) (x_sws pc x (fun t => K t lv rest I L) lo offs.toList ∧ (x < lo ∨ hi < x → K t0 lv rest I L))
    | _, _ => False
  | .getfield _ => match inf, sv with
    | [ci, k], .inr (.inr (some (r + 1))) :: rest => match y_T TY r with
      | some (.inl (ci', ts)) => x_gd (Nat.beq ci' ci) (match ts[k]? with
        | some (.inl (lo, hi)) => ∀ z, z = I r k → lo ≤ z ∧ z ≤ hi → K (pc + 3) lv (.inl z :: rest) I L
        | some (.inr (.inl [some r1])) => K (pc + 3) lv (.inr (.inr (some r1)) :: rest) I L
        | some (.inr (.inr _)) => ∀ z, z = L r k → K (pc + 3) lv (.inr (.inl z) :: rest) I L
        | _ => False)
      | _ => False
    | _, _ => False
  | .putfield _ => match inf, sv with
    | [ci, k], .inl z :: .inr (.inr (some (r + 1))) :: rest => match y_T TY r with
      | some (.inl (ci', ts)) => x_gd (Nat.beq ci' ci) (match ts[k]? with
        | some (.inl (lo, hi)) => x_gd (y_fit (TF ci k) (lo, hi)) ((lo ≤ z ∧ z ≤ hi) ∧ K (pc + 3) lv rest (x_u I r k z) L)
        | _ => False)
      | _ => False
    | [ci, k], .inr (.inl z) :: .inr (.inr (some (r + 1))) :: rest => match y_T TY r with
      | some (.inl (ci', ts)) => x_gd (Nat.beq ci' ci) (match ts[k]? with
        | some (.inr (.inr _)) => x_gd (match TF ci k with
          | .long => true
          | _ => false) (K (pc + 3) lv rest I (x_u L r k z))
        | _ => False)
      | _ => False
    | _, _ => False
  | .iaload => match sv with
    | .inl i :: .inr (.inr (some (r + 1))) :: rest => match y_T TY r with
      | some (.inr (.inl (0, sg))) => (0 ≤ i ∧ i < (y_len sg : Int)) ∧ ∀ z, z = I r i.toNat → (∀ q, y_seg sg i.toNat = some q → q.1 ≤ z ∧ z ≤ q.2) → K (pc + 1) lv (.inl z :: rest) I L
      | _ => False
    | _ => False
  | .baload => match sv with
    | .inl i :: .inr (.inr (some (r + 1))) :: rest => match y_T TY r with
      | some (.inr (.inl (2, sg))) => (0 ≤ i ∧ i < (y_len sg : Int)) ∧ ∀ z, z = I r i.toNat → (∀ q, y_seg sg i.toNat = some q → q.1 ≤ z ∧ z ≤ q.2) → K (pc + 1) lv (.inl z :: rest) I L
      | _ => False
    | _ => False
  | .laload => match sv with
    | .inl i :: .inr (.inr (some (r + 1))) :: rest => match y_T TY r with
      | some (.inr (.inr (.inl (n, es)))) => x_gd (y_ok0 es) ((0 ≤ i ∧ i < (n : Int)) ∧ ∀ z, z = L r i.toNat → (∀ x, es[i.toNat]? = some x → z = x) → K (pc + 1) lv (.inr (.inl z) :: rest) I L)
      | _ => False
    | _ => False
  | .iastore => match sv with
    | .inl z :: .inl i :: .inr (.inr (some (r + 1))) :: rest => match y_T TY r with
      | some (.inr (.inl (0, sg))) => (0 ≤ i ∧ i < (y_len sg : Int)) ∧ (∀ q, y_seg sg i.toNat = some q → q.1 ≤ z ∧ z ≤ q.2) ∧ K (pc + 1) lv rest (x_u I r i.toNat z) L
      | _ => False
    | _ => False
  | .bastore => match sv with
    | .inl z :: .inl i :: .inr (.inr (some (r + 1))) :: rest => match y_T TY r with
      | some (.inr (.inl (2, sg))) => ((0 ≤ i ∧ i < (y_len sg : Int)) ∧ (-128 ≤ z ∧ z ≤ 127)) ∧ (∀ q, y_seg sg i.toNat = some q → q.1 ≤ z ∧ z ≤ q.2) ∧ K (pc + 1) lv rest (x_u I r i.toNat z) L
      | _ => False
    | _ => False
  | .lastore => match sv with
    | .inr (.inl z) :: .inl i :: .inr (.inr (some (r + 1))) :: rest => match y_T TY r with
      | some (.inr (.inr (.inl (n, [])))) => (0 ≤ i ∧ i < (n : Int)) ∧ K (pc + 1) lv rest I (x_u L r i.toNat z)
      | _ => False
    | _ => False
  | .invokevirtual _ => match inf with
    | [1, j, ci] => x_cv P ct dj j sv (x_tyo TY ci) I L (fun sv' I' L' => K (pc + 3) lv sv' I' L')
    | _ => False
  | .invokestatic _ => match inf with
    | [1, j] => x_cs P ct dj j sv I L (fun sv' I' L' => K (pc + 3) lv sv' I' L')
    | _ => False
  | .ireturn => match sv, M.2.2.2.1 with
    | [.inl z], some .int => Po (some (.inl z)) I L
    | [.inl z], some .boolean => (0 ≤ z ∧ z ≤ 1) ∧ Po (some (.inl z)) I L
    | _, _ => False
  | .return_ => match sv, M.2.2.2.1 with
    | [], none => Po none I L
    | _, _ => False
  | _ => False
def x_wp (TB : List Cond) (TY : List (List yC)) (TF : Nat → Nat → FieldType) (P : Nat → Option yM) (ct : xCT) (dj : Nat) (M : yM) (Po : Option xV → xF → xF → Prop) (cut : Nat → Bool) (Inv : xK) : Nat → Bool → xK
  | 0, _ => fun _ _ _ _ _ => False
  | f + 1, b => fun pc lv sv I L => match b && cut pc with
    | true => Inv pc lv sv I L
    | false => match y_find M.2.2.2.2.1 pc with
      | some (Ins, inf) => x_step TB TY TF P ct dj M Po (x_wp TB TY TF P ct dj M Po cut Inv f true) Ins inf pc lv sv I L
      | none => False
