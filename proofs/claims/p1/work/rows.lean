section
/-! ===== a run of bytecode over signs: ints that are known, or a number that the run names, and a bit more; cells by their places ===== -/
abbrev zI : Type := Option Int32 ⊕ (Nat × Int32)
abbrev zV : Type := zI ⊕ (Option Nat ⊕ Unit)
abbrev zC : Type := (Nat × List zV) ⊕ ((Nat × List zI) ⊕ (Nat ⊕ (Nat × List (Option Nat))))
abbrev zW : Type := List zC
/-- locals, stack, cells, how many cells and slots were made -/
abbrev zS : Type := List (Nat × zV) × List zV × zW × Nat × Nat
def z_i (env : Nat → Int32) (t : zI) (x : Int32) : Prop := match t with
  | .inl (some c) => x = c
  | .inl none => True
  | .inr (i, c) => x = env i + c
def z_v (env : Nat → Int32) (ad : Nat → Option Nat) (t : zV) (v : Value) : Prop := match t with
  | .inl t => ∃ x : Int32, v = .int x ∧ z_i env t x
  | .inr (.inl none) => v = .null
  | .inr (.inl (some i)) => ∃ a : Nat, ad i = some a ∧ v = .ref a
  | .inr (.inr _) => ∃ x : Int64, v = .long x
def z_o (ad : Nat → Option Nat) (t : Option Nat) (v : Option Nat) : Prop := match t with
  | none => v = none
  | some i => ∃ a : Nat, ad i = some a ∧ v = some a
def z_L {α β : Type} (R : α → β → Prop) : List α → List β → Prop
  | [], [] => True
  | a :: as, b :: bs => R a b ∧ z_L R as bs
  | _, _ => False
def z_c (env : Nat → Int32) (kc : Nat → ClassId) (ad : Nat → Option Nat) (t : zC) (q : va_E) : Prop := match t with
  | .inl (ci, fs) => ∃ vs : List Value, q = .inr (ci, vs) ∧ z_L (z_v env ad) fs vs
  | .inr (.inl (k, es)) => ∃ f : Nat → Int32, q = .inl (kc k, es.length, .inl f) ∧ ∀ (j : Nat) (x : zI), es[j]? = some x → z_i env x (f j)
  | .inr (.inr (.inl n)) => ∃ f : Nat → Int64, q = .inl (kc 1, n, .inr (.inl f))
  | .inr (.inr (.inr (k, es))) => ∃ f : Nat → Option Nat, q = .inl (kc k, es.length, .inr (.inr (.inr (.inr f)))) ∧ ∀ (j : Nat) (x : Option Nat), es[j]? = some x → z_o ad x (f j)
def z_ad (ws : va_W) (i : Nat) : Option Nat := (ws[i]?).map (fun q => q.1)
def z_w (env : Nat → Int32) (kc : Nat → ClassId) (w : zW) (ws : va_W) : Prop := z_L (fun c q => z_c env kc (z_ad ws) c q.2) w ws
/-! lists that go side by side -/
theorem z_L_len {α β : Type} {R : α → β → Prop} : ∀ {as : List α} {bs : List β}, z_L R as bs → as.length = bs.length
  | [], [], _ => rfl
  | _ :: _, _ :: _, h => congrArg (· + 1) (z_L_len h.2)
  | [], _ :: _, h => h.elim
  | _ :: _, [], h => h.elim
theorem z_L_get {α β : Type} {R : α → β → Prop} : ∀ {as : List α} {bs : List β}, z_L R as bs → ∀ {k : Nat} {a : α}, as[k]? = some a → ∃ b, bs[k]? = some b ∧ R a b
  | [], [], _, k, a, h => by simp at h
  | a :: as, b :: bs, h, 0, a', e => by
    simp only [List.getElem?_cons_zero, Option.some.injEq] at e ⊢
    subst e
    exact ⟨b, rfl, h.1⟩
  | a :: as, b :: bs, h, k + 1, a', e => by
    simp only [List.getElem?_cons_succ] at e ⊢
    exact z_L_get h.2 e
  | [], _ :: _, h, _, _, _ => h.elim
  | _ :: _, [], h, _, _, _ => h.elim
theorem z_L_mono {α β : Type} {R S : α → β → Prop} (hRS : ∀ a b, R a b → S a b) : ∀ {as : List α} {bs : List β}, z_L R as bs → z_L S as bs
  | [], [], _ => trivial
  | _ :: _, _ :: _, h => ⟨hRS _ _ h.1, z_L_mono hRS h.2⟩
  | [], _ :: _, h => h.elim
  | _ :: _, [], h => h.elim
theorem z_L_set {α β : Type} {R : α → β → Prop} : ∀ {as : List α} {bs : List β}, z_L R as bs → ∀ (k : Nat) {a : α} {b : β}, R a b → z_L R (as.set k a) (bs.set k b)
  | [], [], _, _, _, _, _ => trivial
  | _ :: _, _ :: _, h, 0, _, _, r => ⟨r, h.2⟩
  | _ :: _, _ :: _, h, k + 1, _, _, r => ⟨h.1, z_L_set h.2 k r⟩
  | [], _ :: _, h, _, _, _, _ => h.elim
  | _ :: _, [], h, _, _, _, _ => h.elim
theorem z_L_app {α β : Type} {R : α → β → Prop} : ∀ {as : List α} {bs : List β}, z_L R as bs → ∀ {cs : List α} {ds : List β}, z_L R cs ds → z_L R (as ++ cs) (bs ++ ds)
  | [], [], _, _, _, h => h
  | _ :: _, _ :: _, h, _, _, h2 => ⟨h.1, z_L_app h.2 h2⟩
  | [], _ :: _, h, _, _, _ => h.elim
  | _ :: _, [], h, _, _, _ => h.elim
theorem z_L_filter {α β : Type} {R : α → β → Prop} {p : α → Bool} {q : β → Bool} (hpq : ∀ a b, R a b → p a = q b) : ∀ {as : List α} {bs : List β}, z_L R as bs → z_L R (as.filter p) (bs.filter q)
  | [], [], _ => trivial
  | a :: as, b :: bs, h => by
    have e := hpq a b h.1
    have ih := z_L_filter hpq h.2
    rw [List.filter_cons, List.filter_cons, e]
    cases q b with
    | true => exact ⟨h.1, ih⟩
    | false => exact ih
  | [], _ :: _, h => h.elim
  | _ :: _, [], h => h.elim
/-! addresses that stay -/
theorem z_ad_app {ws : va_W} {q : Nat × va_E} {i a : Nat} (h : z_ad ws i = some a) : z_ad (ws ++ [q]) i = some a := by
  unfold z_ad at h ⊢
  have hi : i < ws.length := by
    rcases Nat.lt_or_ge i ws.length with h1 | h1
    · exact h1
    · rw [List.getElem?_eq_none h1] at h; cases h
  rw [List.getElem?_append_left hi]
  exact h
theorem z_ad_set {ws : va_W} {k a : Nat} {e0 e : va_E} (h : ws[k]? = some (a, e0)) : z_ad (ws.set k (a, e)) = z_ad ws := by
  funext i
  unfold z_ad
  by_cases hk : k = i
  · subst hk
    have hl : k < ws.length := (List.getElem?_eq_some_iff.mp h).1
    rw [List.getElem?_set_self hl, h]
    rfl
  · rw [List.getElem?_set_ne hk]
theorem z_v_mono {env : Nat → Int32} {ad ad' : Nat → Option Nat} (h : ∀ i a, ad i = some a → ad' i = some a) : ∀ (t : zV) (v : Value), z_v env ad t v → z_v env ad' t v
  | .inl _, _, hv => hv
  | .inr (.inl none), _, hv => hv
  | .inr (.inl (some _)), _, ⟨a, h1, h2⟩ => ⟨a, h _ _ h1, h2⟩
  | .inr (.inr _), _, hv => hv
theorem z_o_mono {ad ad' : Nat → Option Nat} (h : ∀ i a, ad i = some a → ad' i = some a) : ∀ (t v : Option Nat), z_o ad t v → z_o ad' t v
  | none, _, hv => hv
  | some _, _, ⟨a, h1, h2⟩ => ⟨a, h _ _ h1, h2⟩
theorem z_c_mono {env : Nat → Int32} {kc : Nat → ClassId} {ad ad' : Nat → Option Nat} (h : ∀ i a, ad i = some a → ad' i = some a) : ∀ (t : zC) (q : va_E), z_c env kc ad t q → z_c env kc ad' t q
  | .inl (_, _), _, ⟨vs, h1, h2⟩ => ⟨vs, h1, z_L_mono (z_v_mono h) h2⟩
  | .inr (.inl (_, _)), _, hv => hv
  | .inr (.inr (.inl _)), _, hv => hv
  | .inr (.inr (.inr (_, _))), _, ⟨f, h1, h2⟩ => ⟨f, h1, fun j x hx => z_o_mono h _ _ (h2 j x hx)⟩
theorem z_w_get {env : Nat → Int32} {kc : Nat → ClassId} {w : zW} {ws : va_W} (h : z_w env kc w ws) {i : Nat} {c : zC} (hc : w[i]? = some c) : ∃ a e, ws[i]? = some (a, e) ∧ z_ad ws i = some a ∧ z_c env kc (z_ad ws) c e := by
  obtain ⟨⟨a, e⟩, h1, h2⟩ := z_L_get h hc
  exact ⟨a, e, h1, by unfold z_ad; rw [h1]; rfl, h2⟩
theorem z_w_set {env : Nat → Int32} {kc : Nat → ClassId} {w : zW} {ws : va_W} (h : z_w env kc w ws) {i a : Nat} {e0 e : va_E} {c : zC} (hi : ws[i]? = some (a, e0)) (hc : z_c env kc (z_ad ws) c e) : z_w env kc (w.set i c) (ws.set i (a, e)) := by
  unfold z_w
  rw [z_ad_set hi]
  exact z_L_set h i hc
theorem z_w_push {env : Nat → Int32} {kc : Nat → ClassId} {w : zW} {ws : va_W} (h : z_w env kc w ws) {a : Nat} {e : va_E} {c : zC} (hc : z_c env kc (z_ad (ws ++ [(a, e)])) c e) : z_w env kc (w ++ [c]) (ws ++ [(a, e)]) := by
  unfold z_w
  exact z_L_app (z_L_mono (fun _ _ h1 => z_c_mono (fun _ _ h2 => z_ad_app h2) _ _ h1) h) ⟨hc, trivial⟩
theorem z_ad_new (ws : va_W) (a : Nat) (e : va_E) : z_ad (ws ++ [(a, e)]) ws.length = some a := by
  unfold z_ad
  rw [List.getElem?_append_right (Nat.le_refl _)]
  simp
/-! locals -/
def z_get : List (Nat × zV) → Nat → Option zV
  | [], _ => none
  | (j, v) :: r, i => if j = i then some v else z_get r i
def z_cat (v : zV) : Nat := match v with
  | .inr (.inr _) => 2
  | _ => 1
def z_put (zl : List (Nat × zV)) (i : Nat) (v : zV) : List (Nat × zV) := (i, v) :: zl.filter (fun q => !(q.1 == i) && !(q.1 + 1 == i && z_cat q.2 == 2))
def z_l (env : Nat → Int32) (ad : Nat → Option Nat) (nL : Nat) (zl : List (Nat × zV)) (ls : Array Slot) : Prop := ∃ lv : List (Nat × Value), lv_has ls nL lv ∧ z_L (fun (a : Nat × zV) (b : Nat × Value) => a.1 = b.1 ∧ z_v env ad a.2 b.2) zl lv
theorem z_get_in {env : Nat → Int32} {ad : Nat → Option Nat} : ∀ {zl : List (Nat × zV)} {lv : List (Nat × Value)}, z_L (fun (a : Nat × zV) (b : Nat × Value) => a.1 = b.1 ∧ z_v env ad a.2 b.2) zl lv → ∀ {i : Nat} {v : zV}, z_get zl i = some v → ∃ x, (i, x) ∈ lv ∧ z_v env ad v x
  | [], [], _, _, _, e => by simp [z_get] at e
  | (j, v) :: zl, (j2, x) :: lv, h, i, v', e => by
    obtain ⟨⟨h1, h2⟩, h3⟩ := h
    dsimp only at h1
    subst h1
    unfold z_get at e
    by_cases hj : j = i
    · rw [if_pos hj] at e
      cases e
      subst hj
      exact ⟨x, List.mem_cons_self, h2⟩
    · rw [if_neg hj] at e
      obtain ⟨y, h4, h5⟩ := z_get_in h3 e
      exact ⟨y, List.mem_cons_of_mem _ h4, h5⟩
  | [], _ :: _, h, _, _, _ => h.elim
  | _ :: _, [], h, _, _, _ => h.elim
theorem z_l_at {env : Nat → Int32} {ad : Nat → Option Nat} {nL : Nat} {zl : List (Nat × zV)} {ls : Array Slot} (h : z_l env ad nL zl ls) {i : Nat} {v : zV} (e : z_get zl i = some v) : ∃ x, ls[i]? = some (.val x) ∧ z_v env ad v x := by
  obtain ⟨lv, h1, h2⟩ := h
  obtain ⟨x, h3, h4⟩ := z_get_in h2 e
  exact ⟨x, h1.2.2 (i, x) h3, h4⟩
theorem z_v_cat {env : Nat → Int32} {ad : Nat → Option Nat} : ∀ {t : zV} {v : Value}, z_v env ad t v → z_cat t = v.category
  | .inl _, _, ⟨_, h, _⟩ => by rw [h]; rfl
  | .inr (.inl none), _, h => by rw [show _ = Value.null from h]; rfl
  | .inr (.inl (some _)), _, ⟨_, _, h⟩ => by rw [h]; rfl
  | .inr (.inr _), _, ⟨_, h⟩ => by rw [h]; rfl
theorem z_put_ok {env : Nat → Int32} {ad : Nat → Option Nat} {zl : List (Nat × zV)} {lv : List (Nat × Value)} (h : z_L (fun (a : Nat × zV) (b : Nat × Value) => a.1 = b.1 ∧ z_v env ad a.2 b.2) zl lv) {i : Nat} {v : zV} {x : Value} (hv : z_v env ad v x) :
    z_L (fun (a : Nat × zV) (b : Nat × Value) => a.1 = b.1 ∧ z_v env ad a.2 b.2) (z_put zl i v) ((i, x) :: lv.filter (fun q => !(q.1 == i) && !(q.1 + 1 == i && q.2.category == 2))) := by
  refine ⟨⟨rfl, hv⟩, z_L_filter ?_ h⟩
  intro a b hab
  rw [hab.1, z_v_cat hab.2]
theorem z_l_mono {env : Nat → Int32} {ad ad' : Nat → Option Nat} {nL : Nat} {zl : List (Nat × zV)} {ls : Array Slot} (hm : ∀ i a, ad i = some a → ad' i = some a) (h : z_l env ad nL zl ls) : z_l env ad' nL zl ls := by
  obtain ⟨lv, h1, h2⟩ := h
  exact ⟨lv, h1, z_L_mono (fun _ _ q => ⟨q.1, z_v_mono hm _ _ q.2⟩) h2⟩
/-! numbers -/
def z_rng (B : List (Int × Int)) (t : zI) : Int × Int := match t with
  | .inl (some c) => (c.toInt, c.toInt)
  | .inl none => (-2147483648, 2147483647)
  | .inr (i, c) => match B[i]? with
    | some (lo, hi) => if -2147483648 ≤ lo + c.toInt ∧ hi + c.toInt ≤ 2147483647 then (lo + c.toInt, hi + c.toInt) else (-2147483648, 2147483647)
    | none => (-2147483648, 2147483647)
def z_B (B : List (Int × Int)) (env : Nat → Int32) : Prop := ∀ (i : Nat) (lo hi : Int), B[i]? = some (lo, hi) → lo ≤ (env i).toInt ∧ (env i).toInt ≤ hi
theorem z_any (x : Int32) : -2147483648 ≤ x.toInt ∧ x.toInt ≤ 2147483647 := by
  have h1 := Int32.le_toInt x
  have h2 := Int32.toInt_lt x
  omega
theorem z_add_toInt {x y : Int32} (h1 : -2147483648 ≤ x.toInt + y.toInt) (h2 : x.toInt + y.toInt ≤ 2147483647) : (x + y).toInt = x.toInt + y.toInt := by
  rw [Int32.toInt_add, Int.bmod_def]
  have : (2 : Nat) ^ 32 = 4294967296 := by decide
  split <;> omega
theorem z_rng_ok {B : List (Int × Int)} {env : Nat → Int32} (hB : z_B B env) {t : zI} {x : Int32} (h : z_i env t x) : (z_rng B t).1 ≤ x.toInt ∧ x.toInt ≤ (z_rng B t).2 := by
  match t, h with
  | .inl (some c), h => rw [show x = c from h]; exact ⟨Int.le_refl _, Int.le_refl _⟩
  | .inl none, _ => exact z_any x
  | .inr (i, c), h =>
    unfold z_rng
    dsimp only
    split
    next lo hi hi' =>
      obtain ⟨h1, h2⟩ := hB i lo hi hi'
      by_cases hc : -2147483648 ≤ lo + c.toInt ∧ hi + c.toInt ≤ 2147483647
      · rw [if_pos hc, show x = env i + c from h, z_add_toInt (by omega) (by omega)]
        exact ⟨by dsimp only; omega, by dsimp only; omega⟩
      · rw [if_neg hc]; exact z_any x
    next => exact z_any x
def z_lt (B : List (Int × Int)) (x y : zI) : Option Bool := if (z_rng B x).2 < (z_rng B y).1 then some true else if (z_rng B y).2 ≤ (z_rng B x).1 then some false else none
def z_eq (B : List (Int × Int)) (x y : zI) : Option Bool := if (z_rng B x).2 < (z_rng B y).1 ∨ (z_rng B y).2 < (z_rng B x).1 then some false else if (z_rng B x).1 = (z_rng B x).2 ∧ (z_rng B y).1 = (z_rng B y).2 ∧ (z_rng B x).1 = (z_rng B y).1 then some true else none
theorem z_lt_ok {B : List (Int × Int)} {env : Nat → Int32} (hB : z_B B env) {x y : zI} {a b : Int32} (ha : z_i env x a) (hb : z_i env y b) {r : Bool} (h : z_lt B x y = some r) : (a < b) ↔ r = true := by
  have h1 := z_rng_ok hB ha
  have h2 := z_rng_ok hB hb
  unfold z_lt at h
  rw [Int32.lt_iff_toInt_lt]
  split at h
  next => cases h; simp; omega
  next =>
    split at h
    next => cases h; simp; omega
    next => cases h
theorem z_eq_ok {B : List (Int × Int)} {env : Nat → Int32} (hB : z_B B env) {x y : zI} {a b : Int32} (ha : z_i env x a) (hb : z_i env y b) {r : Bool} (h : z_eq B x y = some r) : (a = b) ↔ r = true := by
  have h1 := z_rng_ok hB ha
  have h2 := z_rng_ok hB hb
  unfold z_eq at h
  rw [← Int32.toInt_inj]
  split at h
  next => cases h; simp; omega
  next =>
    split at h
    next => cases h; simp; omega
    next => cases h
def z_op2 (f : Int32 → Int32 → Int32) (x y : zI) : zI := match x, y with
  | .inl (some a), .inl (some b) => .inl (some (f a b))
  | _, _ => .inl none
theorem z_op2_ok {env : Nat → Int32} (f : Int32 → Int32 → Int32) {x y : zI} {a b : Int32} (ha : z_i env x a) (hb : z_i env y b) : z_i env (z_op2 f x y) (f a b) := by
  match x, y, ha, hb with
  | .inl (some _), .inl (some _), ha, hb => rw [show a = _ from ha, show b = _ from hb]; exact rfl
  | .inl (some _), .inl none, _, _ => trivial
  | .inl (some _), .inr _, _, _ => trivial
  | .inl none, _, _, _ => trivial
  | .inr _, _, _, _ => trivial
/-- + keeps a named number -/
def z_add (x y : zI) : zI := match x, y with
  | .inl (some a), .inl (some b) => .inl (some (a + b))
  | .inr (i, c), .inl (some b) => .inr (i, c + b)
  | _, _ => .inl none
theorem z_add_ok {env : Nat → Int32} {x y : zI} {a b : Int32} (ha : z_i env x a) (hb : z_i env y b) : z_i env (z_add x y) (a + b) := by
  match x, y, ha, hb with
  | .inl (some _), .inl (some _), ha, hb => rw [show a = _ from ha, show b = _ from hb]; exact rfl
  | .inr (i, c), .inl (some d), ha, hb => rw [show a = _ from ha, show b = _ from hb]; exact Int32.add_assoc _ _ _
  | .inl (some _), .inl none, _, _ => trivial
  | .inl (some _), .inr _, _, _ => trivial
  | .inl none, _, _, _ => trivial
  | .inr _, .inl none, _, _ => trivial
  | .inr _, .inr _, _, _ => trivial
/-- & keeps what stands beside -1 -/
def z_and (x y : zI) : zI := match y with
  | .inl (some b) => if b = -1 then x else z_op2 (fun a b => a &&& b) x y
  | _ => z_op2 (fun a b => a &&& b) x y
theorem z_and_ok {env : Nat → Int32} {x y : zI} {a b : Int32} (ha : z_i env x a) (hb : z_i env y b) : z_i env (z_and x y) (a &&& b) := by
  unfold z_and
  split
  next d =>
    split
    next hd =>
      rw [show b = d from hb, hd, Int32.and_neg_one]
      exact ha
    next => exact z_op2_ok _ ha hb
  next => exact z_op2_ok _ ha hb
end
section
/-! ===== the run beside the machine ===== -/
section ZG
variable {p : Program} {l : Launch} {e : Env} {R : Room} {s : State} {m : MethodId} {args : Array Value} {below : List Frame} {meth : Method} {c : Code} {Q : State → Prop} {cc : ByteArray}
variable {env : Nat → Int32} {kc : Nat → ClassId} {D : va_G} {cl : List vw_C} {A : Nat → Prop} {H0 : Heap} {ad0 : Nat → Option Nat} {nL : Nat}
/-- the machine's frame, heap and writes beside a state of the run -/
def z_S (env : Nat → Int32) (kc : Nat → ClassId) (D : va_G) (cl : List vw_C) (A : Nat → Prop) (H0 : Heap) (ad0 : Nat → Option Nat) (nL : Nat) (z : zS) (ls : Array Slot) (sv : List Value) (ws : va_W) (H : Heap) (locs : List Loc) : Prop :=
  z_l env (z_ad ws) nL z.1 ls ∧ z_L (z_v env (z_ad ws)) z.2.1 sv ∧ z_w env kc z.2.2.1 ws ∧ (∀ i a, ad0 i = some a → z_ad ws i = some a) ∧ va_P D cl ws H ∧ va_D A ws ∧ va_S A H0 H locs
def z_G (p : Program) (l : Launch) (e : Env) (R : Room) (s : State) (m : MethodId) (args : Array Value) (below : List Frame) (meth : Method) (c : Code) (Q : State → Prop) (env : Nat → Int32) (kc : Nat → ClassId) (D : va_G) (cl : List vw_C) (A : Nat → Prop) (H0 : Heap) (ad0 : Nat → Option Nat) (nL : Nat) (pc : Nat) (z : zS) : Prop :=
  ∀ (ls : Array Slot) (sv : List Value) (ws : va_W) (H : Heap) (locs : List Loc), z_S env kc D cl A H0 ad0 nL z ls sv ws H locs → W p l e R s m args below meth c H locs z.2.2.2.1 z.2.2.2.2 Q (F0 m pc ls sv)
theorem z_st1 {R0 : zV → Value → Prop} {a : zV} {r : List zV} {sv : List Value} (h : z_L R0 (a :: r) sv) : ∃ x sv', sv = x :: sv' ∧ R0 a x ∧ z_L R0 r sv' := by
  cases sv with
  | nil => exact h.elim
  | cons x sv' => exact ⟨x, sv', rfl, h.1, h.2⟩
variable {zl : List (Nat × zV)} {st : List zV} {w : zW} {nc ns pc : Nat}
theorem z_iconst (hx : p.tables.exec = Jvm.exec) (hb : c.code = cc) {n : Int} (hd : decode cc pc = .ok (.iconst n, 1)) (kk : z_G p l e R s m args below meth c Q env kc D cl A H0 ad0 nL (pc + 1) (zl, .inl (.inl (some (Int32.ofInt n))) :: st, w, nc, ns)) : z_G p l e R s m args below meth c Q env kc D cl A H0 ad0 nL pc (zl, st, w, nc, ns) := by
  intro ls sv ws H locs ⟨h1, h2, h3⟩
  refine lv_iconst hx hb hd rfl ?_
  exact kk ls _ ws H locs ⟨h1, ⟨⟨_, rfl, rfl⟩, h2⟩, h3⟩
theorem z_bipush (hx : p.tables.exec = Jvm.exec) (hb : c.code = cc) {n : Int} (hd : decode cc pc = .ok (.bipush n, 2)) (kk : z_G p l e R s m args below meth c Q env kc D cl A H0 ad0 nL (pc + 2) (zl, .inl (.inl (some (Int8.ofInt n).toInt32)) :: st, w, nc, ns)) : z_G p l e R s m args below meth c Q env kc D cl A H0 ad0 nL pc (zl, st, w, nc, ns) := by
  intro ls sv ws H locs ⟨h1, h2, h3⟩
  refine lv_bipush hx hb hd rfl ?_
  exact kk ls _ ws H locs ⟨h1, ⟨⟨_, rfl, rfl⟩, h2⟩, h3⟩
theorem z_sipush (hx : p.tables.exec = Jvm.exec) (hb : c.code = cc) {n : Int} (hd : decode cc pc = .ok (.sipush n, 3)) (kk : z_G p l e R s m args below meth c Q env kc D cl A H0 ad0 nL (pc + 3) (zl, .inl (.inl (some (Int16.ofInt n).toInt32)) :: st, w, nc, ns)) : z_G p l e R s m args below meth c Q env kc D cl A H0 ad0 nL pc (zl, st, w, nc, ns) := by
  intro ls sv ws H locs ⟨h1, h2, h3⟩
  refine lv_sipush hx hb hd rfl ?_
  exact kk ls _ ws H locs ⟨h1, ⟨⟨_, rfl, rfl⟩, h2⟩, h3⟩
theorem z_lconst (hx : p.tables.exec = Jvm.exec) (hb : c.code = cc) {n : Fin 2} (hd : decode cc pc = .ok (.lconst n, 1)) (kk : z_G p l e R s m args below meth c Q env kc D cl A H0 ad0 nL (pc + 1) (zl, .inr (.inr ()) :: st, w, nc, ns)) : z_G p l e R s m args below meth c Q env kc D cl A H0 ad0 nL pc (zl, st, w, nc, ns) := by
  intro ls sv ws H locs ⟨h1, h2, h3⟩
  refine lv_lconst hx hb hd rfl ?_
  exact kk ls _ ws H locs ⟨h1, ⟨⟨_, rfl⟩, h2⟩, h3⟩
theorem z_ldc2 (hx : p.tables.exec = Jvm.exec) (hb : c.code = cc) {own : String} {index : Nat} {v : Int64} (hown : s.vm.findClass own = some m.cls) (hconst : (Jvm.Cond.constantLong own index v).before args s = true) (hd : decode cc pc = .ok (.ldc2_w index, 3)) (kk : z_G p l e R s m args below meth c Q env kc D cl A H0 ad0 nL (pc + 3) (zl, .inr (.inr ()) :: st, w, nc, ns)) : z_G p l e R s m args below meth c Q env kc D cl A H0 ad0 nL pc (zl, st, w, nc, ns) := by
  intro ls sv ws H locs ⟨h1, h2, h3⟩
  refine lv_ldc2 hx hb hown hconst hd ?_
  exact kk ls _ ws H locs ⟨h1, ⟨⟨_, rfl⟩, h2⟩, h3⟩
theorem z_ldc (hx : p.tables.exec = Jvm.exec) (hb : c.code = cc) {own : String} {index : Nat} {v : Int32} (hown : s.vm.findClass own = some m.cls) (hconst : (Jvm.Cond.constant own index v).before args s = true) (hd : decode cc pc = .ok (.ldc index, 2)) (kk : z_G p l e R s m args below meth c Q env kc D cl A H0 ad0 nL (pc + 2) (zl, .inl (.inl (some v)) :: st, w, nc, ns)) : z_G p l e R s m args below meth c Q env kc D cl A H0 ad0 nL pc (zl, st, w, nc, ns) := by
  intro ls sv ws H locs ⟨h1, h2, h3⟩
  refine lv_ldc hx hb hown hconst hd ?_
  exact kk ls _ ws H locs ⟨h1, ⟨⟨_, rfl, rfl⟩, h2⟩, h3⟩
theorem z_iload (hx : p.tables.exec = Jvm.exec) (hb : c.code = cc) {i : Nat} {t : zI} (hd : decode cc pc = .ok (.iload i, 2)) (hg : z_get zl i = some (.inl t)) (kk : z_G p l e R s m args below meth c Q env kc D cl A H0 ad0 nL (pc + 2) (zl, .inl t :: st, w, nc, ns)) : z_G p l e R s m args below meth c Q env kc D cl A H0 ad0 nL pc (zl, st, w, nc, ns) := by
  intro ls sv ws H locs ⟨h1, h2, h3⟩
  obtain ⟨x, hx1, y, rfl, hx2⟩ := z_l_at h1 hg
  refine lv_iload hx hb hd hx1 ?_
  exact kk ls _ ws H locs ⟨h1, ⟨⟨_, rfl, hx2⟩, h2⟩, h3⟩
theorem z_iload_n (hx : p.tables.exec = Jvm.exec) (hb : c.code = cc) {k : Fin 4} {t : zI} (hd : decode cc pc = .ok (.iload_n k, 1)) (hg : z_get zl (k : Nat) = some (.inl t)) (kk : z_G p l e R s m args below meth c Q env kc D cl A H0 ad0 nL (pc + 1) (zl, .inl t :: st, w, nc, ns)) : z_G p l e R s m args below meth c Q env kc D cl A H0 ad0 nL pc (zl, st, w, nc, ns) := by
  intro ls sv ws H locs ⟨h1, h2, h3⟩
  obtain ⟨x, hx1, y, rfl, hx2⟩ := z_l_at h1 hg
  refine lv_iload_n hx hb hd rfl hx1 ?_
  exact kk ls _ ws H locs ⟨h1, ⟨⟨_, rfl, hx2⟩, h2⟩, h3⟩
theorem z_aload (hx : p.tables.exec = Jvm.exec) (hb : c.code = cc) {i r : Nat} (hd : decode cc pc = .ok (.aload i, 2)) (hg : z_get zl i = some (.inr (.inl (some r)))) (kk : z_G p l e R s m args below meth c Q env kc D cl A H0 ad0 nL (pc + 2) (zl, .inr (.inl (some r)) :: st, w, nc, ns)) : z_G p l e R s m args below meth c Q env kc D cl A H0 ad0 nL pc (zl, st, w, nc, ns) := by
  intro ls sv ws H locs ⟨h1, h2, h3⟩
  obtain ⟨x, hx1, y, hx2, rfl⟩ := z_l_at h1 hg
  refine lv_aload hx hb hd hx1 ?_
  exact kk ls _ ws H locs ⟨h1, ⟨⟨_, hx2, rfl⟩, h2⟩, h3⟩
theorem z_aload_n (hx : p.tables.exec = Jvm.exec) (hb : c.code = cc) {k : Fin 4} {r : Nat} (hd : decode cc pc = .ok (.aload_n k, 1)) (hg : z_get zl (k : Nat) = some (.inr (.inl (some r)))) (kk : z_G p l e R s m args below meth c Q env kc D cl A H0 ad0 nL (pc + 1) (zl, .inr (.inl (some r)) :: st, w, nc, ns)) : z_G p l e R s m args below meth c Q env kc D cl A H0 ad0 nL pc (zl, st, w, nc, ns) := by
  intro ls sv ws H locs ⟨h1, h2, h3⟩
  obtain ⟨x, hx1, y, hx2, rfl⟩ := z_l_at h1 hg
  refine lv_aload_n hx hb hd rfl hx1 ?_
  exact kk ls _ ws H locs ⟨h1, ⟨⟨_, hx2, rfl⟩, h2⟩, h3⟩
theorem z_istore (hx : p.tables.exec = Jvm.exec) (hb : c.code = cc) {i : Nat} {t : zI} (hd : decode cc pc = .ok (.istore i, 2)) (hn : i < nL) (kk : z_G p l e R s m args below meth c Q env kc D cl A H0 ad0 nL (pc + 2) (z_put zl i (.inl t), st, w, nc, ns)) : z_G p l e R s m args below meth c Q env kc D cl A H0 ad0 nL pc (zl, .inl t :: st, w, nc, ns) := by
  intro ls sv ws H locs ⟨⟨lv, hl, hz⟩, h2, h3⟩
  obtain ⟨x, sv', rfl, ⟨y, rfl, hy⟩, h4⟩ := z_st1 h2
  refine lv_istore hx hb hd hl hn rfl (fun ls' hl' => ?_)
  exact kk ls' _ ws H locs ⟨⟨_, hl', z_put_ok hz ⟨y, rfl, hy⟩⟩, h4, h3⟩
theorem z_istore_n (hx : p.tables.exec = Jvm.exec) (hb : c.code = cc) {k : Fin 4} {t : zI} (hd : decode cc pc = .ok (.istore_n k, 1)) (hn : (k : Nat) < nL) (kk : z_G p l e R s m args below meth c Q env kc D cl A H0 ad0 nL (pc + 1) (z_put zl (k : Nat) (.inl t), st, w, nc, ns)) : z_G p l e R s m args below meth c Q env kc D cl A H0 ad0 nL pc (zl, .inl t :: st, w, nc, ns) := by
  intro ls sv ws H locs ⟨⟨lv, hl, hz⟩, h2, h3⟩
  obtain ⟨x, sv', rfl, ⟨y, rfl, hy⟩, h4⟩ := z_st1 h2
  refine lv_istore_n hx hb hd rfl hl hn rfl (fun ls' hl' => ?_)
  exact kk ls' _ ws H locs ⟨⟨_, hl', z_put_ok hz ⟨y, rfl, hy⟩⟩, h4, h3⟩
theorem z_astore (hx : p.tables.exec = Jvm.exec) (hb : c.code = cc) {i r : Nat} (hd : decode cc pc = .ok (.astore i, 2)) (hn : i < nL) (kk : z_G p l e R s m args below meth c Q env kc D cl A H0 ad0 nL (pc + 2) (z_put zl i (.inr (.inl (some r))), st, w, nc, ns)) : z_G p l e R s m args below meth c Q env kc D cl A H0 ad0 nL pc (zl, .inr (.inl (some r)) :: st, w, nc, ns) := by
  intro ls sv ws H locs ⟨⟨lv, hl, hz⟩, h2, h3⟩
  obtain ⟨x, sv', rfl, ⟨y, hy, rfl⟩, h4⟩ := z_st1 h2
  refine lv_astore hx hb hd hl hn rfl (fun ls' hl' => ?_)
  exact kk ls' _ ws H locs ⟨⟨_, hl', z_put_ok hz ⟨y, hy, rfl⟩⟩, h4, h3⟩
theorem z_astore_n (hx : p.tables.exec = Jvm.exec) (hb : c.code = cc) {k : Fin 4} {r : Nat} (hd : decode cc pc = .ok (.astore_n k, 1)) (hn : (k : Nat) < nL) (kk : z_G p l e R s m args below meth c Q env kc D cl A H0 ad0 nL (pc + 1) (z_put zl (k : Nat) (.inr (.inl (some r))), st, w, nc, ns)) : z_G p l e R s m args below meth c Q env kc D cl A H0 ad0 nL pc (zl, .inr (.inl (some r)) :: st, w, nc, ns) := by
  intro ls sv ws H locs ⟨⟨lv, hl, hz⟩, h2, h3⟩
  obtain ⟨x, sv', rfl, ⟨y, hy, rfl⟩, h4⟩ := z_st1 h2
  refine lv_astore_n hx hb hd rfl hl hn rfl (fun ls' hl' => ?_)
  exact kk ls' _ ws H locs ⟨⟨_, hl', z_put_ok hz ⟨y, hy, rfl⟩⟩, h4, h3⟩
theorem z_iinc (hx : p.tables.exec = Jvm.exec) (hb : c.code = cc) {i : Nat} {n : Int} {t : zI} (hd : decode cc pc = .ok (.iinc i n, 3)) (hg : z_get zl i = some (.inl t)) (hn : i < nL) (kk : z_G p l e R s m args below meth c Q env kc D cl A H0 ad0 nL (pc + 3) (z_put zl i (.inl (z_add t (.inl (some (Int32.ofInt n))))), st, w, nc, ns)) : z_G p l e R s m args below meth c Q env kc D cl A H0 ad0 nL pc (zl, st, w, nc, ns) := by
  intro ls sv ws H locs ⟨⟨lv, hl, hz⟩, h2, h3⟩
  obtain ⟨x, hm, y, rfl, hy⟩ := z_get_in hz hg
  obtain ⟨k, hk⟩ := List.getElem?_of_mem hm
  refine lv_iinc hx hb hd hl hk rfl hn rfl (fun ls' hl' => ?_)
  exact kk ls' _ ws H locs ⟨⟨_, hl', z_put_ok hz ⟨_, rfl, z_add_ok hy rfl⟩⟩, h2, h3⟩
theorem z_dup (hx : p.tables.exec = Jvm.exec) (hb : c.code = cc) {t : zV} (hd : decode cc pc = .ok (.dup, 1)) (ht : z_cat t = 1) (kk : z_G p l e R s m args below meth c Q env kc D cl A H0 ad0 nL (pc + 1) (zl, t :: t :: st, w, nc, ns)) : z_G p l e R s m args below meth c Q env kc D cl A H0 ad0 nL pc (zl, t :: st, w, nc, ns) := by
  intro ls sv ws H locs ⟨h1, h2, h3⟩
  obtain ⟨x, sv', rfl, hv, h4⟩ := z_st1 h2
  refine lv_dup hx hb hd (by rw [← z_v_cat hv]; exact ht) ?_
  exact kk ls _ ws H locs ⟨h1, ⟨hv, hv, h4⟩, h3⟩
theorem z_dup2 (hx : p.tables.exec = Jvm.exec) (hb : c.code = cc) {t u : zV} (hd : decode cc pc = .ok (.dup2, 1)) (ht : z_cat t = 1) (hu : z_cat u = 1) (kk : z_G p l e R s m args below meth c Q env kc D cl A H0 ad0 nL (pc + 1) (zl, t :: u :: t :: u :: st, w, nc, ns)) : z_G p l e R s m args below meth c Q env kc D cl A H0 ad0 nL pc (zl, t :: u :: st, w, nc, ns) := by
  intro ls sv ws H locs ⟨h1, h2, h3⟩
  obtain ⟨x, sv', rfl, hv, h4⟩ := z_st1 h2
  obtain ⟨y, sv'', rfl, hu', h5⟩ := z_st1 h4
  refine lv_dup2_11 hx hb hd (by rw [← z_v_cat hv]; exact ht) (by rw [← z_v_cat hu']; exact hu) ?_
  exact kk ls _ ws H locs ⟨h1, ⟨hv, hu', hv, hu', h5⟩, h3⟩
theorem z_pop (hx : p.tables.exec = Jvm.exec) (hb : c.code = cc) {t : zV} (hd : decode cc pc = .ok (.pop, 1)) (ht : z_cat t = 1) (kk : z_G p l e R s m args below meth c Q env kc D cl A H0 ad0 nL (pc + 1) (zl, st, w, nc, ns)) : z_G p l e R s m args below meth c Q env kc D cl A H0 ad0 nL pc (zl, t :: st, w, nc, ns) := by
  intro ls sv ws H locs ⟨h1, h2, h3⟩
  obtain ⟨x, sv', rfl, hv, h4⟩ := z_st1 h2
  refine lv_pop hx hb hd (by rw [← z_v_cat hv]; exact ht) ?_
  exact kk ls _ ws H locs ⟨h1, h4, h3⟩
theorem z_goto (hx : p.tables.exec = Jvm.exec) (hb : c.code = cc) {off : Int} {tgt : Nat} (hd : decode cc pc = .ok (.goto off, 3)) (ht : (pc : Int) + off = (tgt : Int)) (kk : z_G p l e R s m args below meth c Q env kc D cl A H0 ad0 nL tgt (zl, st, w, nc, ns)) : z_G p l e R s m args below meth c Q env kc D cl A H0 ad0 nL pc (zl, st, w, nc, ns) := by
  intro ls sv ws H locs h
  exact lv_goto hx hb hd ht (kk ls sv ws H locs h)
theorem z_i2l (hx : p.tables.exec = Jvm.exec) (hb : c.code = cc) {t : zI} (hd : decode cc pc = .ok (.i2l, 1)) (kk : z_G p l e R s m args below meth c Q env kc D cl A H0 ad0 nL (pc + 1) (zl, .inr (.inr ()) :: st, w, nc, ns)) : z_G p l e R s m args below meth c Q env kc D cl A H0 ad0 nL pc (zl, .inl t :: st, w, nc, ns) := by
  intro ls sv ws H locs ⟨h1, h2, h3⟩
  obtain ⟨x, sv', rfl, ⟨y, rfl, hy⟩, h4⟩ := z_st1 h2
  refine lv_i2l hx hb hd rfl ?_
  exact kk ls _ ws H locs ⟨h1, ⟨⟨_, rfl⟩, h4⟩, h3⟩
theorem z_i2b (hx : p.tables.exec = Jvm.exec) (hb : c.code = cc) {t : zI} (hd : decode cc pc = .ok (.i2b, 1)) (kk : z_G p l e R s m args below meth c Q env kc D cl A H0 ad0 nL (pc + 1) (zl, .inl (.inl none) :: st, w, nc, ns)) : z_G p l e R s m args below meth c Q env kc D cl A H0 ad0 nL pc (zl, .inl t :: st, w, nc, ns) := by
  intro ls sv ws H locs ⟨h1, h2, h3⟩
  obtain ⟨x, sv', rfl, ⟨y, rfl, hy⟩, h4⟩ := z_st1 h2
  refine lv_i2b hx hb hd rfl ?_
  exact kk ls _ ws H locs ⟨h1, ⟨⟨_, rfl, trivial⟩, h4⟩, h3⟩
/-! numbers -/
theorem z_iadd (hx : p.tables.exec = Jvm.exec) (hb : c.code = cc) {x y : zI} (hd : decode cc pc = .ok (.iadd, 1)) (kk : z_G p l e R s m args below meth c Q env kc D cl A H0 ad0 nL (pc + 1) (zl, .inl (z_add x y) :: st, w, nc, ns)) : z_G p l e R s m args below meth c Q env kc D cl A H0 ad0 nL pc (zl, .inl y :: .inl x :: st, w, nc, ns) := by
  intro ls sv ws H locs ⟨h1, h2, h3⟩
  obtain ⟨_, sv', rfl, ⟨b, rfl, hy⟩, h4⟩ := z_st1 h2
  obtain ⟨_, sv'', rfl, ⟨a, rfl, ha⟩, h5⟩ := z_st1 h4
  refine lv_iadd hx hb hd ?_
  exact kk ls _ ws H locs ⟨h1, ⟨⟨_, rfl, z_add_ok ha hy⟩, h5⟩, h3⟩
theorem z_iand (hx : p.tables.exec = Jvm.exec) (hb : c.code = cc) {x y : zI} (hd : decode cc pc = .ok (.iand, 1)) (kk : z_G p l e R s m args below meth c Q env kc D cl A H0 ad0 nL (pc + 1) (zl, .inl (z_and x y) :: st, w, nc, ns)) : z_G p l e R s m args below meth c Q env kc D cl A H0 ad0 nL pc (zl, .inl y :: .inl x :: st, w, nc, ns) := by
  intro ls sv ws H locs ⟨h1, h2, h3⟩
  obtain ⟨_, sv', rfl, ⟨b, rfl, hy⟩, h4⟩ := z_st1 h2
  obtain ⟨_, sv'', rfl, ⟨a, rfl, ha⟩, h5⟩ := z_st1 h4
  refine lv_iand hx hb hd ?_
  exact kk ls _ ws H locs ⟨h1, ⟨⟨_, rfl, z_and_ok ha hy⟩, h5⟩, h3⟩
theorem z_isub (hx : p.tables.exec = Jvm.exec) (hb : c.code = cc) {x y : zI} (hd : decode cc pc = .ok (.isub, 1)) (kk : z_G p l e R s m args below meth c Q env kc D cl A H0 ad0 nL (pc + 1) (zl, .inl (z_op2 (fun a b => a - b) x y) :: st, w, nc, ns)) : z_G p l e R s m args below meth c Q env kc D cl A H0 ad0 nL pc (zl, .inl y :: .inl x :: st, w, nc, ns) := by
  intro ls sv ws H locs ⟨h1, h2, h3⟩
  obtain ⟨_, sv', rfl, ⟨b, rfl, hy⟩, h4⟩ := z_st1 h2
  obtain ⟨_, sv'', rfl, ⟨a, rfl, ha⟩, h5⟩ := z_st1 h4
  refine lv_isub hx hb hd ?_
  exact kk ls _ ws H locs ⟨h1, ⟨⟨_, rfl, z_op2_ok (fun a b => a - b) ha hy⟩, h5⟩, h3⟩
theorem z_imul (hx : p.tables.exec = Jvm.exec) (hb : c.code = cc) {x y : zI} (hd : decode cc pc = .ok (.imul, 1)) (kk : z_G p l e R s m args below meth c Q env kc D cl A H0 ad0 nL (pc + 1) (zl, .inl (z_op2 (fun a b => a * b) x y) :: st, w, nc, ns)) : z_G p l e R s m args below meth c Q env kc D cl A H0 ad0 nL pc (zl, .inl y :: .inl x :: st, w, nc, ns) := by
  intro ls sv ws H locs ⟨h1, h2, h3⟩
  obtain ⟨_, sv', rfl, ⟨b, rfl, hy⟩, h4⟩ := z_st1 h2
  obtain ⟨_, sv'', rfl, ⟨a, rfl, ha⟩, h5⟩ := z_st1 h4
  refine lv_imul hx hb hd ?_
  exact kk ls _ ws H locs ⟨h1, ⟨⟨_, rfl, z_op2_ok (fun a b => a * b) ha hy⟩, h5⟩, h3⟩
theorem z_ior (hx : p.tables.exec = Jvm.exec) (hb : c.code = cc) {x y : zI} (hd : decode cc pc = .ok (.ior, 1)) (kk : z_G p l e R s m args below meth c Q env kc D cl A H0 ad0 nL (pc + 1) (zl, .inl (z_op2 (fun a b => a ||| b) x y) :: st, w, nc, ns)) : z_G p l e R s m args below meth c Q env kc D cl A H0 ad0 nL pc (zl, .inl y :: .inl x :: st, w, nc, ns) := by
  intro ls sv ws H locs ⟨h1, h2, h3⟩
  obtain ⟨_, sv', rfl, ⟨b, rfl, hy⟩, h4⟩ := z_st1 h2
  obtain ⟨_, sv'', rfl, ⟨a, rfl, ha⟩, h5⟩ := z_st1 h4
  refine lv_ior hx hb hd ?_
  exact kk ls _ ws H locs ⟨h1, ⟨⟨_, rfl, z_op2_ok (fun a b => a ||| b) ha hy⟩, h5⟩, h3⟩
theorem z_ixor (hx : p.tables.exec = Jvm.exec) (hb : c.code = cc) {x y : zI} (hd : decode cc pc = .ok (.ixor, 1)) (kk : z_G p l e R s m args below meth c Q env kc D cl A H0 ad0 nL (pc + 1) (zl, .inl (z_op2 (fun a b => a ^^^ b) x y) :: st, w, nc, ns)) : z_G p l e R s m args below meth c Q env kc D cl A H0 ad0 nL pc (zl, .inl y :: .inl x :: st, w, nc, ns) := by
  intro ls sv ws H locs ⟨h1, h2, h3⟩
  obtain ⟨_, sv', rfl, ⟨b, rfl, hy⟩, h4⟩ := z_st1 h2
  obtain ⟨_, sv'', rfl, ⟨a, rfl, ha⟩, h5⟩ := z_st1 h4
  refine lv_ixor hx hb hd ?_
  exact kk ls _ ws H locs ⟨h1, ⟨⟨_, rfl, z_op2_ok (fun a b => a ^^^ b) ha hy⟩, h5⟩, h3⟩
theorem z_ishl (hx : p.tables.exec = Jvm.exec) (hb : c.code = cc) {x y : zI} (hd : decode cc pc = .ok (.ishl, 1)) (kk : z_G p l e R s m args below meth c Q env kc D cl A H0 ad0 nL (pc + 1) (zl, .inl (z_op2 (fun a b => a <<< (b &&& 31)) x y) :: st, w, nc, ns)) : z_G p l e R s m args below meth c Q env kc D cl A H0 ad0 nL pc (zl, .inl y :: .inl x :: st, w, nc, ns) := by
  intro ls sv ws H locs ⟨h1, h2, h3⟩
  obtain ⟨_, sv', rfl, ⟨b, rfl, hy⟩, h4⟩ := z_st1 h2
  obtain ⟨_, sv'', rfl, ⟨a, rfl, ha⟩, h5⟩ := z_st1 h4
  refine lv_ishl hx hb hd ?_
  exact kk ls _ ws H locs ⟨h1, ⟨⟨_, rfl, z_op2_ok (fun a b => a <<< (b &&& 31)) ha hy⟩, h5⟩, h3⟩
theorem z_ishr (hx : p.tables.exec = Jvm.exec) (hb : c.code = cc) {x y : zI} (hd : decode cc pc = .ok (.ishr, 1)) (kk : z_G p l e R s m args below meth c Q env kc D cl A H0 ad0 nL (pc + 1) (zl, .inl (z_op2 (fun a b => a >>> (b &&& 31)) x y) :: st, w, nc, ns)) : z_G p l e R s m args below meth c Q env kc D cl A H0 ad0 nL pc (zl, .inl y :: .inl x :: st, w, nc, ns) := by
  intro ls sv ws H locs ⟨h1, h2, h3⟩
  obtain ⟨_, sv', rfl, ⟨b, rfl, hy⟩, h4⟩ := z_st1 h2
  obtain ⟨_, sv'', rfl, ⟨a, rfl, ha⟩, h5⟩ := z_st1 h4
  refine lv_ishr hx hb hd ?_
  exact kk ls _ ws H locs ⟨h1, ⟨⟨_, rfl, z_op2_ok (fun a b => a >>> (b &&& 31)) ha hy⟩, h5⟩, h3⟩
theorem z_iushr (hx : p.tables.exec = Jvm.exec) (hb : c.code = cc) {x y : zI} (hd : decode cc pc = .ok (.iushr, 1)) (kk : z_G p l e R s m args below meth c Q env kc D cl A H0 ad0 nL (pc + 1) (zl, .inl (.inl none) :: st, w, nc, ns)) : z_G p l e R s m args below meth c Q env kc D cl A H0 ad0 nL pc (zl, .inl y :: .inl x :: st, w, nc, ns) := by
  intro ls sv ws H locs ⟨h1, h2, h3⟩
  obtain ⟨_, sv', rfl, ⟨b, rfl, hy⟩, h4⟩ := z_st1 h2
  obtain ⟨_, sv'', rfl, ⟨a, rfl, ha⟩, h5⟩ := z_st1 h4
  refine lv_iushr hx hb hd rfl ?_
  exact kk ls _ ws H locs ⟨h1, ⟨⟨_, rfl, trivial⟩, h5⟩, h3⟩
/-! branches -/
def z_cond (B : List (Int × Int)) (k : Jvm.ClassFile.Cond) (x y : zI) : Option Bool := match k with
  | .eq => z_eq B x y
  | .ne => (z_eq B x y).map (fun b => !b)
  | .lt => z_lt B x y
  | .ge => (z_lt B x y).map (fun b => !b)
  | .gt => z_lt B y x
  | .le => (z_lt B y x).map (fun b => !b)
theorem z_le_not {a b : Int32} : a ≤ b ↔ ¬ b < a := by
  rw [Int32.le_iff_toInt_le, Int32.lt_iff_toInt_lt]
  omega
theorem z_icmp (hx : p.tables.exec = Jvm.exec) (hb : c.code = cc) {B : List (Int × Int)} (hB : z_B B env) {k : Jvm.ClassFile.Cond} {off : Int} {tgt : Nat} {x y : zI} {r : Bool} (hd : decode cc pc = .ok (.if_icmp k off, 3)) (ht : (pc : Int) + off = (tgt : Int)) (hr : z_cond B k x y = some r) (kk : z_G p l e R s m args below meth c Q env kc D cl A H0 ad0 nL (if r then tgt else pc + 3) (zl, st, w, nc, ns)) : z_G p l e R s m args below meth c Q env kc D cl A H0 ad0 nL pc (zl, .inl y :: .inl x :: st, w, nc, ns) := by
  intro ls sv ws H locs ⟨h1, h2, h3⟩
  obtain ⟨_, sv', rfl, ⟨b, rfl, hy⟩, h4⟩ := z_st1 h2
  obtain ⟨_, sv'', rfl, ⟨a, rfl, ha⟩, h5⟩ := z_st1 h4
  have kk := kk ls sv'' ws H locs ⟨h1, h5, h3⟩
  cases k with
  | eq =>
    have he := z_eq_ok hB ha hy hr
    refine lv_icmp_eq hx hb hd ht (fun h => ?_) (fun h => ?_)
    · rw [if_pos (he.mp h)] at kk; exact kk
    · rw [if_neg (fun q => h (he.mpr q))] at kk; exact kk
  | ne =>
    obtain ⟨b0, hb0, rfl⟩ := Option.map_eq_some_iff.mp hr
    have he := z_eq_ok hB ha hy hb0
    refine lv_icmp_ne hx hb hd ht (fun h => ?_) (fun h => ?_)
    · rw [if_pos (by cases b0 with | true => exact absurd (he.mpr rfl) h | false => rfl)] at kk; exact kk
    · rw [if_neg (by rw [he.mp h]; decide)] at kk; exact kk
  | lt =>
    have he := z_lt_ok hB ha hy hr
    refine lv_icmp_lt hx hb hd ht (fun h => ?_) (fun h => ?_)
    · rw [if_pos (he.mp h)] at kk; exact kk
    · rw [if_neg (fun q => h (he.mpr q))] at kk; exact kk
  | ge =>
    obtain ⟨b0, hb0, rfl⟩ := Option.map_eq_some_iff.mp hr
    have he := z_lt_ok hB ha hy hb0
    refine lv_icmp_ge hx hb hd ht (fun h => ?_) (fun h => ?_)
    · rw [if_pos (by cases b0 with | true => exact absurd (he.mpr rfl) (z_le_not.mp h) | false => rfl)] at kk; exact kk
    · rw [if_neg (by cases b0 with | true => decide | false => exact absurd (z_le_not.mpr (fun q => by have := he.mp q; cases this)) h)] at kk; exact kk
  | gt =>
    have he := z_lt_ok hB hy ha hr
    refine lv_icmp_gt hx hb hd ht (fun h => ?_) (fun h => ?_)
    · rw [if_pos (he.mp h)] at kk; exact kk
    · rw [if_neg (fun q => h (he.mpr q))] at kk; exact kk
  | le =>
    obtain ⟨b0, hb0, rfl⟩ := Option.map_eq_some_iff.mp hr
    have he := z_lt_ok hB hy ha hb0
    refine lv_icmp_le hx hb hd ht (fun h => ?_) (fun h => ?_)
    · rw [if_pos (by cases b0 with | true => exact absurd (he.mpr rfl) (z_le_not.mp h) | false => rfl)] at kk; exact kk
    · rw [if_neg (by cases b0 with | true => decide | false => exact absurd (z_le_not.mpr (fun q => by have := he.mp q; cases this)) h)] at kk; exact kk
theorem z_if (hx : p.tables.exec = Jvm.exec) (hb : c.code = cc) {B : List (Int × Int)} (hB : z_B B env) {k : Jvm.ClassFile.Cond} {off : Int} {tgt : Nat} {x : zI} {r : Bool} (hd : decode cc pc = .ok (.ifCond k off, 3)) (ht : (pc : Int) + off = (tgt : Int)) (hr : z_cond B k x (.inl (some 0)) = some r) (kk : z_G p l e R s m args below meth c Q env kc D cl A H0 ad0 nL (if r then tgt else pc + 3) (zl, st, w, nc, ns)) : z_G p l e R s m args below meth c Q env kc D cl A H0 ad0 nL pc (zl, .inl x :: st, w, nc, ns) := by
  intro ls sv ws H locs ⟨h1, h2, h3⟩
  obtain ⟨_, sv', rfl, ⟨a, rfl, ha⟩, h4⟩ := z_st1 h2
  have kk := kk ls sv' ws H locs ⟨h1, h4, h3⟩
  have hy : z_i env (.inl (some 0)) 0 := rfl
  cases k with
  | eq =>
    have he := z_eq_ok hB ha hy hr
    refine lv_if_eq hx hb hd ht (fun h => ?_) (fun h => ?_)
    · rw [if_pos (he.mp h)] at kk; exact kk
    · rw [if_neg (fun q => h (he.mpr q))] at kk; exact kk
  | ne =>
    obtain ⟨b0, hb0, rfl⟩ := Option.map_eq_some_iff.mp hr
    have he := z_eq_ok hB ha hy hb0
    refine lv_if_ne hx hb hd ht (fun h => ?_) (fun h => ?_)
    · rw [if_pos (by cases b0 with | true => exact absurd (he.mpr rfl) h | false => rfl)] at kk; exact kk
    · rw [if_neg (by rw [he.mp h]; decide)] at kk; exact kk
  | lt =>
    have he := z_lt_ok hB ha hy hr
    refine lv_if_lt hx hb hd ht (fun h => ?_) (fun h => ?_)
    · rw [if_pos (he.mp h)] at kk; exact kk
    · rw [if_neg (fun q => h (he.mpr q))] at kk; exact kk
  | ge =>
    obtain ⟨b0, hb0, rfl⟩ := Option.map_eq_some_iff.mp hr
    have he := z_lt_ok hB ha hy hb0
    refine lv_if_ge hx hb hd ht (fun h => ?_) (fun h => ?_)
    · rw [if_pos (by cases b0 with | true => exact absurd (he.mpr rfl) (z_le_not.mp h) | false => rfl)] at kk; exact kk
    · rw [if_neg (by cases b0 with | true => decide | false => exact absurd (z_le_not.mpr (fun q => by have := he.mp q; cases this)) h)] at kk; exact kk
  | gt =>
    have he := z_lt_ok hB hy ha hr
    refine lv_if_gt hx hb hd ht (fun h => ?_) (fun h => ?_)
    · rw [if_pos (he.mp h)] at kk; exact kk
    · rw [if_neg (fun q => h (he.mpr q))] at kk; exact kk
  | le =>
    obtain ⟨b0, hb0, rfl⟩ := Option.map_eq_some_iff.mp hr
    have he := z_lt_ok hB hy ha hb0
    refine lv_if_le hx hb hd ht (fun h => ?_) (fun h => ?_)
    · rw [if_pos (by cases b0 with | true => exact absurd (he.mpr rfl) (z_le_not.mp h) | false => rfl)] at kk; exact kk
    · rw [if_neg (by cases b0 with | true => decide | false => exact absurd (z_le_not.mpr (fun q => by have := he.mp q; cases this)) h)] at kk; exact kk
end ZG
end
